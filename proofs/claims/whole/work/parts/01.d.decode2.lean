theorem dX8_init_0 : decode cX8_init 0 = .ok (.aload_n 0, 1) := by decide +kernel
theorem dX8_init_1 : decode cX8_init 1 = .ok (.invokespecial 1, 3) := by decide +kernel
theorem dX8_init_4 : decode cX8_init 4 = .ok (.aload_n 0, 1) := by decide +kernel
theorem dX8_init_5 : decode cX8_init 5 = .ok (.bipush 8, 2) := by decide +kernel
theorem dX8_init_7 : decode cX8_init 7 = .ok (.newarray .int, 2) := by decide +kernel
theorem dX8_init_9 : decode cX8_init 9 = .ok (.putfield 7, 3) := by decide +kernel
theorem dX8_init_12 : decode cX8_init 12 = .ok (.aload_n 0, 1) := by decide +kernel
theorem dX8_init_13 : decode cX8_init 13 = .ok (.bipush 8, 2) := by decide +kernel
theorem dX8_init_15 : decode cX8_init 15 = .ok (.newarray .int, 2) := by decide +kernel
theorem dX8_init_17 : decode cX8_init 17 = .ok (.putfield 13, 3) := by decide +kernel
theorem dX8_init_20 : decode cX8_init 20 = .ok (.aload_n 0, 1) := by decide +kernel
theorem dX8_init_21 : decode cX8_init 21 = .ok (.sipush 320, 3) := by decide +kernel
theorem dX8_init_24 : decode cX8_init 24 = .ok (.newarray .int, 2) := by decide +kernel
theorem dX8_init_26 : decode cX8_init 26 = .ok (.putfield 16, 3) := by decide +kernel
theorem dX8_init_29 : decode cX8_init 29 = .ok (.aload_n 0, 1) := by decide +kernel
theorem dX8_init_30 : decode cX8_init 30 = .ok (.sipush 300, 3) := by decide +kernel
theorem dX8_init_33 : decode cX8_init 33 = .ok (.newarray .int, 2) := by decide +kernel
theorem dX8_init_35 : decode cX8_init 35 = .ok (.putfield 19, 3) := by decide +kernel
theorem dX8_init_38 : decode cX8_init 38 = .ok (.aload_n 0, 1) := by decide +kernel
theorem dX8_init_39 : decode cX8_init 39 = .ok (.bipush 39, 2) := by decide +kernel
theorem dX8_init_41 : decode cX8_init 41 = .ok (.newarray .int, 2) := by decide +kernel
theorem dX8_init_43 : decode cX8_init 43 = .ok (.putfield 22, 3) := by decide +kernel
theorem dX8_init_46 : decode cX8_init 46 = .ok (.aload_n 0, 1) := by decide +kernel
theorem dX8_init_47 : decode cX8_init 47 = .ok (.bipush 39, 2) := by decide +kernel
theorem dX8_init_49 : decode cX8_init 49 = .ok (.newarray .int, 2) := by decide +kernel
theorem dX8_init_51 : decode cX8_init 51 = .ok (.putfield 25, 3) := by decide +kernel
theorem dX8_init_54 : decode cX8_init 54 = .ok (.aload_n 0, 1) := by decide +kernel
theorem dX8_init_55 : decode cX8_init 55 = .ok (.sipush 936, 3) := by decide +kernel
theorem dX8_init_58 : decode cX8_init 58 = .ok (.newarray .int, 2) := by decide +kernel
theorem dX8_init_60 : decode cX8_init 60 = .ok (.putfield 28, 3) := by decide +kernel
theorem dX8_init_63 : decode cX8_init 63 = .ok (.aload_n 0, 1) := by decide +kernel
theorem dX8_init_64 : decode cX8_init 64 = .ok (.bipush 78, 2) := by decide +kernel
theorem dX8_init_66 : decode cX8_init 66 = .ok (.newarray .int, 2) := by decide +kernel
theorem dX8_init_68 : decode cX8_init 68 = .ok (.putfield 31, 3) := by decide +kernel
theorem dX8_init_71 : decode cX8_init 71 = .ok (.aload_n 0, 1) := by decide +kernel
theorem dX8_init_72 : decode cX8_init 72 = .ok (.iconst 2, 1) := by decide +kernel
theorem dX8_init_73 : decode cX8_init 73 = .ok (.newarray .boolean, 2) := by decide +kernel
theorem dX8_init_75 : decode cX8_init 75 = .ok (.putfield 34, 3) := by decide +kernel
theorem dX8_init_78 : decode cX8_init 78 = .ok (.aload_n 0, 1) := by decide +kernel
theorem dX8_init_79 : decode cX8_init 79 = .ok (.bipush 16, 2) := by decide +kernel
theorem dX8_init_81 : decode cX8_init 81 = .ok (.newarray .int, 2) := by decide +kernel
theorem dX8_init_83 : decode cX8_init 83 = .ok (.putfield 38, 3) := by decide +kernel
theorem dX8_init_86 : decode cX8_init 86 = .ok (.aload_n 0, 1) := by decide +kernel
theorem dX8_init_87 : decode cX8_init 87 = .ok (.iconst 5, 1) := by decide +kernel
theorem dX8_init_88 : decode cX8_init 88 = .ok (.newarray .int, 2) := by decide +kernel
theorem dX8_init_90 : decode cX8_init 90 = .ok (.putfield 41, 3) := by decide +kernel
theorem dX8_init_93 : decode cX8_init 93 = .ok (.aload_n 0, 1) := by decide +kernel
theorem dX8_init_94 : decode cX8_init 94 = .ok (.bipush 30, 2) := by decide +kernel
theorem dX8_init_96 : decode cX8_init 96 = .ok (.newarray .int, 2) := by decide +kernel
theorem dX8_init_98 : decode cX8_init 98 = .ok (.putfield 44, 3) := by decide +kernel
theorem dX8_init_101 : decode cX8_init 101 = .ok (.aload_n 0, 1) := by decide +kernel
theorem dX8_init_102 : decode cX8_init 102 = .ok (.bipush 19, 2) := by decide +kernel
theorem dX8_init_104 : decode cX8_init 104 = .ok (.newarray .int, 2) := by decide +kernel
theorem dX8_init_106 : decode cX8_init 106 = .ok (.putfield 47, 3) := by decide +kernel
theorem dX8_init_109 : decode cX8_init 109 = .ok (.aload_n 0, 1) := by decide +kernel
theorem dX8_init_110 : decode cX8_init 110 = .ok (.bipush 30, 2) := by decide +kernel
theorem dX8_init_112 : decode cX8_init 112 = .ok (.newarray .int, 2) := by decide +kernel
theorem dX8_init_114 : decode cX8_init 114 = .ok (.putfield 50, 3) := by decide +kernel
theorem dX8_init_117 : decode cX8_init 117 = .ok (.iconst 0, 1) := by decide +kernel
theorem dX8_init_118 : decode cX8_init 118 = .ok (.istore_n 1, 1) := by decide +kernel
theorem dX8_init_119 : decode cX8_init 119 = .ok (.iload_n 1, 1) := by decide +kernel
theorem dX8_init_120 : decode cX8_init 120 = .ok (.bipush 8, 2) := by decide +kernel
theorem dX8_init_122 : decode cX8_init 122 = .ok (.if_icmp .ge 16, 3) := by decide +kernel
theorem dX8_init_125 : decode cX8_init 125 = .ok (.aload_n 0, 1) := by decide +kernel
theorem dX8_init_126 : decode cX8_init 126 = .ok (.getfield 7, 3) := by decide +kernel
theorem dX8_init_129 : decode cX8_init 129 = .ok (.iload_n 1, 1) := by decide +kernel
theorem dX8_init_130 : decode cX8_init 130 = .ok (.iconst (-1), 1) := by decide +kernel
theorem dX8_init_131 : decode cX8_init 131 = .ok (.iastore, 1) := by decide +kernel
theorem dX8_init_132 : decode cX8_init 132 = .ok (.iinc 1 1, 3) := by decide +kernel
theorem dX8_init_135 : decode cX8_init 135 = .ok (.goto (-16), 3) := by decide +kernel
theorem dX8_init_138 : decode cX8_init 138 = .ok (.return_, 1) := by decide +kernel
theorem dX8_in_0 : decode cX8_in 0 = .ok (.lload_n 0, 1) := by decide +kernel
theorem dX8_in_1 : decode cX8_in 1 = .ok (.lload_n 2, 1) := by decide +kernel
theorem dX8_in_2 : decode cX8_in 2 = .ok (.lcmp, 1) := by decide +kernel
theorem dX8_in_3 : decode cX8_in 3 = .ok (.ifCond .lt 14, 3) := by decide +kernel
theorem dX8_in_6 : decode cX8_in 6 = .ok (.lload_n 0, 1) := by decide +kernel
theorem dX8_in_7 : decode cX8_in 7 = .ok (.lload 4, 2) := by decide +kernel
theorem dX8_in_9 : decode cX8_in 9 = .ok (.lcmp, 1) := by decide +kernel
theorem dX8_in_10 : decode cX8_in 10 = .ok (.ifCond .gt 7, 3) := by decide +kernel
theorem dX8_in_13 : decode cX8_in 13 = .ok (.iconst 1, 1) := by decide +kernel
theorem dX8_in_14 : decode cX8_in 14 = .ok (.goto 4, 3) := by decide +kernel
theorem dX8_in_17 : decode cX8_in 17 = .ok (.iconst 0, 1) := by decide +kernel
theorem dX8_in_18 : decode cX8_in 18 = .ok (.ireturn, 1) := by decide +kernel
theorem dX8_finds_0 : decode cX8_finds 0 = .ok (.aload_n 0, 1) := by decide +kernel
theorem dX8_finds_1 : decode cX8_finds 1 = .ok (.iload_n 1, 1) := by decide +kernel
theorem dX8_finds_2 : decode cX8_finds 2 = .ok (.putfield 53, 3) := by decide +kernel
theorem dX8_finds_5 : decode cX8_finds 5 = .ok (.ldc 57, 2) := by decide +kernel
theorem dX8_finds_7 : decode cX8_finds 7 = .ok (.iload_n 1, 1) := by decide +kernel
theorem dX8_finds_8 : decode cX8_finds 8 = .ok (.isub, 1) := by decide +kernel
theorem dX8_finds_9 : decode cX8_finds 9 = .ok (.ireturn, 1) := by decide +kernel
theorem dX8_well_0 : decode cX8_well 0 = .ok (.aload_n 0, 1) := by decide +kernel
theorem dX8_well_1 : decode cX8_well 1 = .ok (.iconst 0, 1) := by decide +kernel
theorem dX8_well_2 : decode cX8_well 2 = .ok (.putfield 53, 3) := by decide +kernel
theorem dX8_well_5 : decode cX8_well 5 = .ok (.iload_n 1, 1) := by decide +kernel
theorem dX8_well_6 : decode cX8_well 6 = .ok (.ireturn, 1) := by decide +kernel
theorem dX8_row_0 : decode cX8_row 0 = .ok (.iload_n 1, 1) := by decide +kernel
theorem dX8_row_1 : decode cX8_row 1 = .ok (.i2l, 1) := by decide +kernel
theorem dX8_row_2 : decode cX8_row 2 = .ok (.lconst 0, 1) := by decide +kernel
theorem dX8_row_3 : decode cX8_row 3 = .ok (.ldc2_w 58, 3) := by decide +kernel
theorem dX8_row_6 : decode cX8_row 6 = .ok (.invokestatic 60, 3) := by decide +kernel
theorem dX8_row_9 : decode cX8_row 9 = .ok (.ifCond .eq 21, 3) := by decide +kernel
theorem dX8_row_12 : decode cX8_row 12 = .ok (.iload_n 2, 1) := by decide +kernel
theorem dX8_row_13 : decode cX8_row 13 = .ok (.i2l, 1) := by decide +kernel
theorem dX8_row_14 : decode cX8_row 14 = .ok (.lconst 0, 1) := by decide +kernel
theorem dX8_row_15 : decode cX8_row 15 = .ok (.ldc2_w 64, 3) := by decide +kernel
theorem dX8_row_18 : decode cX8_row 18 = .ok (.invokestatic 60, 3) := by decide +kernel
theorem dX8_row_21 : decode cX8_row 21 = .ok (.ifCond .eq 9, 3) := by decide +kernel
theorem dX8_row_24 : decode cX8_row 24 = .ok (.iload_n 3, 1) := by decide +kernel
theorem dX8_row_25 : decode cX8_row 25 = .ok (.bipush 40, 2) := by decide +kernel
theorem dX8_row_27 : decode cX8_row 27 = .ok (.if_icmp .le 6, 3) := by decide +kernel
theorem dX8_row_30 : decode cX8_row 30 = .ok (.ldc 66, 2) := by decide +kernel
theorem dX8_row_32 : decode cX8_row 32 = .ok (.ireturn, 1) := by decide +kernel
theorem dX8_row_33 : decode cX8_row 33 = .ok (.iload_n 3, 1) := by decide +kernel
theorem dX8_row_34 : decode cX8_row 34 = .ok (.ifCond .ge 9, 3) := by decide +kernel
theorem dX8_row_37 : decode cX8_row 37 = .ok (.aload_n 0, 1) := by decide +kernel
theorem dX8_row_38 : decode cX8_row 38 = .ok (.iconst 4, 1) := by decide +kernel
theorem dX8_row_39 : decode cX8_row 39 = .ok (.invokevirtual 67, 3) := by decide +kernel
theorem dX8_row_42 : decode cX8_row 42 = .ok (.ireturn, 1) := by decide +kernel
theorem dX8_row_43 : decode cX8_row 43 = .ok (.aload_n 0, 1) := by decide +kernel
theorem dX8_row_44 : decode cX8_row 44 = .ok (.getfield 7, 3) := by decide +kernel
theorem dX8_row_47 : decode cX8_row 47 = .ok (.iload_n 1, 1) := by decide +kernel
theorem dX8_row_48 : decode cX8_row 48 = .ok (.iload_n 2, 1) := by decide +kernel
theorem dX8_row_49 : decode cX8_row 49 = .ok (.iastore, 1) := by decide +kernel
theorem dX8_row_50 : decode cX8_row 50 = .ok (.aload_n 0, 1) := by decide +kernel
theorem dX8_row_51 : decode cX8_row 51 = .ok (.getfield 13, 3) := by decide +kernel
theorem dX8_row_54 : decode cX8_row 54 = .ok (.iload_n 1, 1) := by decide +kernel
theorem dX8_row_55 : decode cX8_row 55 = .ok (.iload_n 3, 1) := by decide +kernel
theorem dX8_row_56 : decode cX8_row 56 = .ok (.iastore, 1) := by decide +kernel
theorem dX8_row_57 : decode cX8_row 57 = .ok (.iconst 0, 1) := by decide +kernel
theorem dX8_row_58 : decode cX8_row 58 = .ok (.istore 4, 2) := by decide +kernel
theorem dX8_row_60 : decode cX8_row 60 = .ok (.iload 4, 2) := by decide +kernel
theorem dX8_row_62 : decode cX8_row 62 = .ok (.bipush 40, 2) := by decide +kernel
theorem dX8_row_64 : decode cX8_row 64 = .ok (.if_icmp .ge 22, 3) := by decide +kernel
theorem dX8_row_67 : decode cX8_row 67 = .ok (.aload_n 0, 1) := by decide +kernel
theorem dX8_row_68 : decode cX8_row 68 = .ok (.getfield 16, 3) := by decide +kernel
theorem dX8_row_71 : decode cX8_row 71 = .ok (.bipush 40, 2) := by decide +kernel
theorem dX8_row_73 : decode cX8_row 73 = .ok (.iload_n 1, 1) := by decide +kernel
theorem dX8_row_74 : decode cX8_row 74 = .ok (.imul, 1) := by decide +kernel
theorem dX8_row_75 : decode cX8_row 75 = .ok (.iload 4, 2) := by decide +kernel
theorem dX8_row_77 : decode cX8_row 77 = .ok (.iadd, 1) := by decide +kernel
theorem dX8_row_78 : decode cX8_row 78 = .ok (.iconst 0, 1) := by decide +kernel
theorem dX8_row_79 : decode cX8_row 79 = .ok (.iastore, 1) := by decide +kernel
theorem dX8_row_80 : decode cX8_row 80 = .ok (.iinc 4 1, 3) := by decide +kernel
theorem dX8_row_83 : decode cX8_row 83 = .ok (.goto (-23), 3) := by decide +kernel
theorem dX8_row_86 : decode cX8_row 86 = .ok (.aload_n 0, 1) := by decide +kernel
theorem dX8_row_87 : decode cX8_row 87 = .ok (.iload_n 3, 1) := by decide +kernel
theorem dX8_row_88 : decode cX8_row 88 = .ok (.invokevirtual 71, 3) := by decide +kernel
theorem dX8_row_91 : decode cX8_row 91 = .ok (.ireturn, 1) := by decide +kernel
theorem dX8_set_0 : decode cX8_set 0 = .ok (.iload_n 1, 1) := by decide +kernel
theorem dX8_set_1 : decode cX8_set 1 = .ok (.i2l, 1) := by decide +kernel
theorem dX8_set_2 : decode cX8_set 2 = .ok (.lconst 0, 1) := by decide +kernel
theorem dX8_set_3 : decode cX8_set 3 = .ok (.ldc2_w 58, 3) := by decide +kernel
theorem dX8_set_6 : decode cX8_set 6 = .ok (.invokestatic 60, 3) := by decide +kernel
theorem dX8_set_9 : decode cX8_set 9 = .ok (.ifCond .ne 6, 3) := by decide +kernel
theorem dX8_set_12 : decode cX8_set 12 = .ok (.ldc 66, 2) := by decide +kernel
theorem dX8_set_14 : decode cX8_set 14 = .ok (.ireturn, 1) := by decide +kernel
theorem dX8_set_15 : decode cX8_set 15 = .ok (.aload_n 0, 1) := by decide +kernel
theorem dX8_set_16 : decode cX8_set 16 = .ok (.getfield 7, 3) := by decide +kernel
theorem dX8_set_19 : decode cX8_set 19 = .ok (.iload_n 1, 1) := by decide +kernel
theorem dX8_set_20 : decode cX8_set 20 = .ok (.iaload, 1) := by decide +kernel
theorem dX8_set_21 : decode cX8_set 21 = .ok (.ifCond .ge 9, 3) := by decide +kernel
theorem dX8_set_24 : decode cX8_set 24 = .ok (.aload_n 0, 1) := by decide +kernel
theorem dX8_set_25 : decode cX8_set 25 = .ok (.iconst 1, 1) := by decide +kernel
theorem dX8_set_26 : decode cX8_set 26 = .ok (.invokevirtual 67, 3) := by decide +kernel
theorem dX8_set_29 : decode cX8_set 29 = .ok (.ireturn, 1) := by decide +kernel
theorem dX8_set_30 : decode cX8_set 30 = .ok (.iload_n 2, 1) := by decide +kernel
theorem dX8_set_31 : decode cX8_set 31 = .ok (.i2l, 1) := by decide +kernel
theorem dX8_set_32 : decode cX8_set 32 = .ok (.lconst 0, 1) := by decide +kernel
theorem dX8_set_33 : decode cX8_set 33 = .ok (.aload_n 0, 1) := by decide +kernel
theorem dX8_set_34 : decode cX8_set 34 = .ok (.getfield 13, 3) := by decide +kernel
theorem dX8_set_37 : decode cX8_set 37 = .ok (.iload_n 1, 1) := by decide +kernel
theorem dX8_set_38 : decode cX8_set 38 = .ok (.iaload, 1) := by decide +kernel
theorem dX8_set_39 : decode cX8_set 39 = .ok (.iconst 1, 1) := by decide +kernel
theorem dX8_set_40 : decode cX8_set 40 = .ok (.isub, 1) := by decide +kernel
theorem dX8_set_41 : decode cX8_set 41 = .ok (.i2l, 1) := by decide +kernel
theorem dX8_set_42 : decode cX8_set 42 = .ok (.invokestatic 60, 3) := by decide +kernel
theorem dX8_set_45 : decode cX8_set 45 = .ok (.ifCond .ne 9, 3) := by decide +kernel
theorem dX8_set_48 : decode cX8_set 48 = .ok (.aload_n 0, 1) := by decide +kernel
theorem dX8_set_49 : decode cX8_set 49 = .ok (.iconst 2, 1) := by decide +kernel
theorem dX8_set_50 : decode cX8_set 50 = .ok (.invokevirtual 67, 3) := by decide +kernel
theorem dX8_set_53 : decode cX8_set 53 = .ok (.ireturn, 1) := by decide +kernel
theorem dX8_set_54 : decode cX8_set 54 = .ok (.aload_n 0, 1) := by decide +kernel
theorem dX8_set_55 : decode cX8_set 55 = .ok (.getfield 16, 3) := by decide +kernel
theorem dX8_set_58 : decode cX8_set 58 = .ok (.bipush 40, 2) := by decide +kernel
theorem dX8_set_60 : decode cX8_set 60 = .ok (.iload_n 1, 1) := by decide +kernel
theorem dX8_set_61 : decode cX8_set 61 = .ok (.imul, 1) := by decide +kernel
theorem dX8_set_62 : decode cX8_set 62 = .ok (.iload_n 2, 1) := by decide +kernel
theorem dX8_set_63 : decode cX8_set 63 = .ok (.iadd, 1) := by decide +kernel
theorem dX8_set_64 : decode cX8_set 64 = .ok (.aload_n 0, 1) := by decide +kernel
theorem dX8_set_65 : decode cX8_set 65 = .ok (.getfield 7, 3) := by decide +kernel
theorem dX8_set_68 : decode cX8_set 68 = .ok (.iload_n 1, 1) := by decide +kernel
theorem dX8_set_69 : decode cX8_set 69 = .ok (.iaload, 1) := by decide +kernel
theorem dX8_set_70 : decode cX8_set 70 = .ok (.ifCond .ne 8, 3) := by decide +kernel
theorem dX8_set_73 : decode cX8_set 73 = .ok (.iload_n 3, 1) := by decide +kernel
theorem dX8_set_74 : decode cX8_set 74 = .ok (.i2b, 1) := by decide +kernel
theorem dX8_set_75 : decode cX8_set 75 = .ok (.goto 19, 3) := by decide +kernel
theorem dX8_set_78 : decode cX8_set 78 = .ok (.aload_n 0, 1) := by decide +kernel
theorem dX8_set_79 : decode cX8_set 79 = .ok (.getfield 7, 3) := by decide +kernel
theorem dX8_set_82 : decode cX8_set 82 = .ok (.iload_n 1, 1) := by decide +kernel
theorem dX8_set_83 : decode cX8_set 83 = .ok (.iaload, 1) := by decide +kernel
theorem dX8_set_84 : decode cX8_set 84 = .ok (.iconst 1, 1) := by decide +kernel
theorem dX8_set_85 : decode cX8_set 85 = .ok (.if_icmp .ne 8, 3) := by decide +kernel
theorem dX8_set_88 : decode cX8_set 88 = .ok (.iload_n 3, 1) := by decide +kernel
theorem dX8_set_89 : decode cX8_set 89 = .ok (.i2s, 1) := by decide +kernel
theorem dX8_set_90 : decode cX8_set 90 = .ok (.goto 4, 3) := by decide +kernel
theorem dX8_set_93 : decode cX8_set 93 = .ok (.iload_n 3, 1) := by decide +kernel
theorem dX8_set_94 : decode cX8_set 94 = .ok (.iastore, 1) := by decide +kernel
theorem dX8_set_95 : decode cX8_set 95 = .ok (.aload_n 0, 1) := by decide +kernel
theorem dX8_set_96 : decode cX8_set 96 = .ok (.aload_n 0, 1) := by decide +kernel
theorem dX8_set_97 : decode cX8_set 97 = .ok (.getfield 16, 3) := by decide +kernel
theorem dX8_set_100 : decode cX8_set 100 = .ok (.bipush 40, 2) := by decide +kernel
theorem dX8_set_102 : decode cX8_set 102 = .ok (.iload_n 1, 1) := by decide +kernel
theorem dX8_set_103 : decode cX8_set 103 = .ok (.imul, 1) := by decide +kernel
theorem dX8_set_104 : decode cX8_set 104 = .ok (.iload_n 2, 1) := by decide +kernel
theorem dX8_set_105 : decode cX8_set 105 = .ok (.iadd, 1) := by decide +kernel
theorem dX8_set_106 : decode cX8_set 106 = .ok (.iaload, 1) := by decide +kernel
theorem dX8_set_107 : decode cX8_set 107 = .ok (.invokevirtual 71, 3) := by decide +kernel
theorem dX8_set_110 : decode cX8_set 110 = .ok (.ireturn, 1) := by decide +kernel
theorem dX8_copy_0 : decode cX8_copy 0 = .ok (.iload_n 1, 1) := by decide +kernel
theorem dX8_copy_1 : decode cX8_copy 1 = .ok (.i2l, 1) := by decide +kernel
theorem dX8_copy_2 : decode cX8_copy 2 = .ok (.lconst 0, 1) := by decide +kernel
theorem dX8_copy_3 : decode cX8_copy 3 = .ok (.ldc2_w 58, 3) := by decide +kernel
theorem dX8_copy_6 : decode cX8_copy 6 = .ok (.invokestatic 60, 3) := by decide +kernel
theorem dX8_copy_9 : decode cX8_copy 9 = .ok (.ifCond .eq 15, 3) := by decide +kernel
theorem dX8_copy_12 : decode cX8_copy 12 = .ok (.iload_n 3, 1) := by decide +kernel
theorem dX8_copy_13 : decode cX8_copy 13 = .ok (.i2l, 1) := by decide +kernel
theorem dX8_copy_14 : decode cX8_copy 14 = .ok (.lconst 0, 1) := by decide +kernel
theorem dX8_copy_15 : decode cX8_copy 15 = .ok (.ldc2_w 58, 3) := by decide +kernel
theorem dX8_copy_18 : decode cX8_copy 18 = .ok (.invokestatic 60, 3) := by decide +kernel
theorem dX8_copy_21 : decode cX8_copy 21 = .ok (.ifCond .ne 6, 3) := by decide +kernel
theorem dX8_copy_24 : decode cX8_copy 24 = .ok (.ldc 66, 2) := by decide +kernel
theorem dX8_copy_26 : decode cX8_copy 26 = .ok (.ireturn, 1) := by decide +kernel
theorem dX8_copy_27 : decode cX8_copy 27 = .ok (.aload_n 0, 1) := by decide +kernel
theorem dX8_copy_28 : decode cX8_copy 28 = .ok (.getfield 7, 3) := by decide +kernel
theorem dX8_copy_31 : decode cX8_copy 31 = .ok (.iload_n 1, 1) := by decide +kernel
theorem dX8_copy_32 : decode cX8_copy 32 = .ok (.iaload, 1) := by decide +kernel
theorem dX8_copy_33 : decode cX8_copy 33 = .ok (.ifCond .lt 12, 3) := by decide +kernel
theorem dX8_copy_36 : decode cX8_copy 36 = .ok (.aload_n 0, 1) := by decide +kernel
theorem dX8_copy_37 : decode cX8_copy 37 = .ok (.getfield 7, 3) := by decide +kernel
theorem dX8_copy_40 : decode cX8_copy 40 = .ok (.iload_n 3, 1) := by decide +kernel
theorem dX8_copy_41 : decode cX8_copy 41 = .ok (.iaload, 1) := by decide +kernel
theorem dX8_copy_42 : decode cX8_copy 42 = .ok (.ifCond .ge 9, 3) := by decide +kernel
theorem dX8_copy_45 : decode cX8_copy 45 = .ok (.aload_n 0, 1) := by decide +kernel
theorem dX8_copy_46 : decode cX8_copy 46 = .ok (.iconst 1, 1) := by decide +kernel
theorem dX8_copy_47 : decode cX8_copy 47 = .ok (.invokevirtual 67, 3) := by decide +kernel
theorem dX8_copy_50 : decode cX8_copy 50 = .ok (.ireturn, 1) := by decide +kernel
theorem dX8_copy_51 : decode cX8_copy 51 = .ok (.aload_n 0, 1) := by decide +kernel
theorem dX8_copy_52 : decode cX8_copy 52 = .ok (.getfield 7, 3) := by decide +kernel
theorem dX8_copy_55 : decode cX8_copy 55 = .ok (.iload_n 1, 1) := by decide +kernel
theorem dX8_copy_56 : decode cX8_copy 56 = .ok (.iaload, 1) := by decide +kernel
theorem dX8_copy_57 : decode cX8_copy 57 = .ok (.aload_n 0, 1) := by decide +kernel
theorem dX8_copy_58 : decode cX8_copy 58 = .ok (.getfield 7, 3) := by decide +kernel
theorem dX8_copy_61 : decode cX8_copy 61 = .ok (.iload_n 3, 1) := by decide +kernel
theorem dX8_copy_62 : decode cX8_copy 62 = .ok (.iaload, 1) := by decide +kernel
theorem dX8_copy_63 : decode cX8_copy 63 = .ok (.if_icmp .eq 9, 3) := by decide +kernel
theorem dX8_copy_66 : decode cX8_copy 66 = .ok (.aload_n 0, 1) := by decide +kernel
theorem dX8_copy_67 : decode cX8_copy 67 = .ok (.iconst 5, 1) := by decide +kernel
theorem dX8_copy_68 : decode cX8_copy 68 = .ok (.invokevirtual 67, 3) := by decide +kernel
theorem dX8_copy_71 : decode cX8_copy 71 = .ok (.ireturn, 1) := by decide +kernel
theorem dX8_copy_72 : decode cX8_copy 72 = .ok (.iload_n 2, 1) := by decide +kernel
theorem dX8_copy_73 : decode cX8_copy 73 = .ok (.ifCond .lt 48, 3) := by decide +kernel
theorem dX8_copy_76 : decode cX8_copy 76 = .ok (.iload 4, 2) := by decide +kernel
theorem dX8_copy_78 : decode cX8_copy 78 = .ok (.ifCond .lt 43, 3) := by decide +kernel
theorem dX8_copy_81 : decode cX8_copy 81 = .ok (.iload 5, 2) := by decide +kernel
theorem dX8_copy_83 : decode cX8_copy 83 = .ok (.ifCond .lt 38, 3) := by decide +kernel
theorem dX8_copy_86 : decode cX8_copy 86 = .ok (.iload_n 2, 1) := by decide +kernel
theorem dX8_copy_87 : decode cX8_copy 87 = .ok (.i2l, 1) := by decide +kernel
theorem dX8_copy_88 : decode cX8_copy 88 = .ok (.iload 5, 2) := by decide +kernel
theorem dX8_copy_90 : decode cX8_copy 90 = .ok (.i2l, 1) := by decide +kernel
theorem dX8_copy_91 : decode cX8_copy 91 = .ok (.ladd, 1) := by decide +kernel
theorem dX8_copy_92 : decode cX8_copy 92 = .ok (.aload_n 0, 1) := by decide +kernel
theorem dX8_copy_93 : decode cX8_copy 93 = .ok (.getfield 13, 3) := by decide +kernel
theorem dX8_copy_96 : decode cX8_copy 96 = .ok (.iload_n 1, 1) := by decide +kernel
theorem dX8_copy_97 : decode cX8_copy 97 = .ok (.iaload, 1) := by decide +kernel
theorem dX8_copy_98 : decode cX8_copy 98 = .ok (.i2l, 1) := by decide +kernel
theorem dX8_copy_99 : decode cX8_copy 99 = .ok (.lcmp, 1) := by decide +kernel
theorem dX8_copy_100 : decode cX8_copy 100 = .ok (.ifCond .gt 21, 3) := by decide +kernel
theorem dX8_copy_103 : decode cX8_copy 103 = .ok (.iload 4, 2) := by decide +kernel
theorem dX8_copy_105 : decode cX8_copy 105 = .ok (.i2l, 1) := by decide +kernel
theorem dX8_copy_106 : decode cX8_copy 106 = .ok (.iload 5, 2) := by decide +kernel
theorem dX8_copy_108 : decode cX8_copy 108 = .ok (.i2l, 1) := by decide +kernel
theorem dX8_copy_109 : decode cX8_copy 109 = .ok (.ladd, 1) := by decide +kernel
theorem dX8_copy_110 : decode cX8_copy 110 = .ok (.aload_n 0, 1) := by decide +kernel
theorem dX8_copy_111 : decode cX8_copy 111 = .ok (.getfield 13, 3) := by decide +kernel
theorem dX8_copy_114 : decode cX8_copy 114 = .ok (.iload_n 3, 1) := by decide +kernel
theorem dX8_copy_115 : decode cX8_copy 115 = .ok (.iaload, 1) := by decide +kernel
theorem dX8_copy_116 : decode cX8_copy 116 = .ok (.i2l, 1) := by decide +kernel
theorem dX8_copy_117 : decode cX8_copy 117 = .ok (.lcmp, 1) := by decide +kernel
theorem dX8_copy_118 : decode cX8_copy 118 = .ok (.ifCond .le 9, 3) := by decide +kernel
theorem dX8_copy_121 : decode cX8_copy 121 = .ok (.aload_n 0, 1) := by decide +kernel
theorem dX8_copy_122 : decode cX8_copy 122 = .ok (.iconst 2, 1) := by decide +kernel
theorem dX8_copy_123 : decode cX8_copy 123 = .ok (.invokevirtual 67, 3) := by decide +kernel
theorem dX8_copy_126 : decode cX8_copy 126 = .ok (.ireturn, 1) := by decide +kernel
theorem dX8_copy_127 : decode cX8_copy 127 = .ok (.iconst 0, 1) := by decide +kernel
theorem dX8_copy_128 : decode cX8_copy 128 = .ok (.istore 6, 2) := by decide +kernel
theorem dX8_copy_130 : decode cX8_copy 130 = .ok (.iload 6, 2) := by decide +kernel
theorem dX8_copy_132 : decode cX8_copy 132 = .ok (.iload 5, 2) := by decide +kernel
theorem dX8_copy_134 : decode cX8_copy 134 = .ok (.if_icmp .ge 58, 3) := by decide +kernel
theorem dX8_copy_137 : decode cX8_copy 137 = .ok (.iload_n 2, 1) := by decide +kernel
theorem dX8_copy_138 : decode cX8_copy 138 = .ok (.iload 4, 2) := by decide +kernel
theorem dX8_copy_140 : decode cX8_copy 140 = .ok (.if_icmp .ge 13, 3) := by decide +kernel
theorem dX8_copy_143 : decode cX8_copy 143 = .ok (.iload 5, 2) := by decide +kernel
theorem dX8_copy_145 : decode cX8_copy 145 = .ok (.iconst 1, 1) := by decide +kernel
theorem dX8_copy_146 : decode cX8_copy 146 = .ok (.isub, 1) := by decide +kernel
theorem dX8_copy_147 : decode cX8_copy 147 = .ok (.iload 6, 2) := by decide +kernel
theorem dX8_copy_149 : decode cX8_copy 149 = .ok (.isub, 1) := by decide +kernel
theorem dX8_copy_150 : decode cX8_copy 150 = .ok (.goto 5, 3) := by decide +kernel
theorem dX8_copy_153 : decode cX8_copy 153 = .ok (.iload 6, 2) := by decide +kernel
theorem dX8_copy_155 : decode cX8_copy 155 = .ok (.istore 7, 2) := by decide +kernel
theorem dX8_copy_157 : decode cX8_copy 157 = .ok (.aload_n 0, 1) := by decide +kernel
theorem dX8_copy_158 : decode cX8_copy 158 = .ok (.getfield 16, 3) := by decide +kernel
theorem dX8_copy_161 : decode cX8_copy 161 = .ok (.bipush 40, 2) := by decide +kernel
theorem dX8_copy_163 : decode cX8_copy 163 = .ok (.iload_n 3, 1) := by decide +kernel
theorem dX8_copy_164 : decode cX8_copy 164 = .ok (.imul, 1) := by decide +kernel
theorem dX8_copy_165 : decode cX8_copy 165 = .ok (.iload 4, 2) := by decide +kernel
theorem dX8_copy_167 : decode cX8_copy 167 = .ok (.iadd, 1) := by decide +kernel
theorem dX8_copy_168 : decode cX8_copy 168 = .ok (.iload 7, 2) := by decide +kernel
theorem dX8_copy_170 : decode cX8_copy 170 = .ok (.iadd, 1) := by decide +kernel
theorem dX8_copy_171 : decode cX8_copy 171 = .ok (.aload_n 0, 1) := by decide +kernel
theorem dX8_copy_172 : decode cX8_copy 172 = .ok (.getfield 16, 3) := by decide +kernel
theorem dX8_copy_175 : decode cX8_copy 175 = .ok (.bipush 40, 2) := by decide +kernel
theorem dX8_copy_177 : decode cX8_copy 177 = .ok (.iload_n 1, 1) := by decide +kernel
theorem dX8_copy_178 : decode cX8_copy 178 = .ok (.imul, 1) := by decide +kernel
theorem dX8_copy_179 : decode cX8_copy 179 = .ok (.iload_n 2, 1) := by decide +kernel
theorem dX8_copy_180 : decode cX8_copy 180 = .ok (.iadd, 1) := by decide +kernel
theorem dX8_copy_181 : decode cX8_copy 181 = .ok (.iload 7, 2) := by decide +kernel
theorem dX8_copy_183 : decode cX8_copy 183 = .ok (.iadd, 1) := by decide +kernel
theorem dX8_copy_184 : decode cX8_copy 184 = .ok (.iaload, 1) := by decide +kernel
theorem dX8_copy_185 : decode cX8_copy 185 = .ok (.iastore, 1) := by decide +kernel
theorem dX8_copy_186 : decode cX8_copy 186 = .ok (.iinc 6 1, 3) := by decide +kernel
theorem dX8_copy_189 : decode cX8_copy 189 = .ok (.goto (-59), 3) := by decide +kernel
theorem dX8_copy_192 : decode cX8_copy 192 = .ok (.aload_n 0, 1) := by decide +kernel
theorem dX8_copy_193 : decode cX8_copy 193 = .ok (.iload 5, 2) := by decide +kernel
theorem dX8_copy_195 : decode cX8_copy 195 = .ok (.invokevirtual 71, 3) := by decide +kernel
theorem dX8_copy_198 : decode cX8_copy 198 = .ok (.ireturn, 1) := by decide +kernel
theorem dX8_drop_0 : decode cX8_drop 0 = .ok (.iload_n 1, 1) := by decide +kernel
theorem dX8_drop_1 : decode cX8_drop 1 = .ok (.i2l, 1) := by decide +kernel
theorem dX8_drop_2 : decode cX8_drop 2 = .ok (.lconst 0, 1) := by decide +kernel
theorem dX8_drop_3 : decode cX8_drop 3 = .ok (.ldc2_w 58, 3) := by decide +kernel
theorem dX8_drop_6 : decode cX8_drop 6 = .ok (.invokestatic 60, 3) := by decide +kernel
theorem dX8_drop_9 : decode cX8_drop 9 = .ok (.ifCond .ne 6, 3) := by decide +kernel
theorem dX8_drop_12 : decode cX8_drop 12 = .ok (.ldc 66, 2) := by decide +kernel
theorem dX8_drop_14 : decode cX8_drop 14 = .ok (.ireturn, 1) := by decide +kernel
theorem dX8_drop_15 : decode cX8_drop 15 = .ok (.aload_n 0, 1) := by decide +kernel
theorem dX8_drop_16 : decode cX8_drop 16 = .ok (.getfield 7, 3) := by decide +kernel
theorem dX8_drop_19 : decode cX8_drop 19 = .ok (.iload_n 1, 1) := by decide +kernel
theorem dX8_drop_20 : decode cX8_drop 20 = .ok (.iaload, 1) := by decide +kernel
theorem dX8_drop_21 : decode cX8_drop 21 = .ok (.ifCond .ge 9, 3) := by decide +kernel
theorem dX8_drop_24 : decode cX8_drop 24 = .ok (.aload_n 0, 1) := by decide +kernel
theorem dX8_drop_25 : decode cX8_drop 25 = .ok (.iconst 1, 1) := by decide +kernel
theorem dX8_drop_26 : decode cX8_drop 26 = .ok (.invokevirtual 67, 3) := by decide +kernel
theorem dX8_drop_29 : decode cX8_drop 29 = .ok (.ireturn, 1) := by decide +kernel
theorem dX8_drop_30 : decode cX8_drop 30 = .ok (.aload_n 0, 1) := by decide +kernel
theorem dX8_drop_31 : decode cX8_drop 31 = .ok (.getfield 7, 3) := by decide +kernel
theorem dX8_drop_34 : decode cX8_drop 34 = .ok (.iload_n 1, 1) := by decide +kernel
theorem dX8_drop_35 : decode cX8_drop 35 = .ok (.iconst (-1), 1) := by decide +kernel
theorem dX8_drop_36 : decode cX8_drop 36 = .ok (.iastore, 1) := by decide +kernel
theorem dX8_drop_37 : decode cX8_drop 37 = .ok (.aload_n 0, 1) := by decide +kernel
theorem dX8_drop_38 : decode cX8_drop 38 = .ok (.aload_n 0, 1) := by decide +kernel
theorem dX8_drop_39 : decode cX8_drop 39 = .ok (.getfield 13, 3) := by decide +kernel
theorem dX8_drop_42 : decode cX8_drop 42 = .ok (.iload_n 1, 1) := by decide +kernel
theorem dX8_drop_43 : decode cX8_drop 43 = .ok (.iaload, 1) := by decide +kernel
theorem dX8_drop_44 : decode cX8_drop 44 = .ok (.invokevirtual 71, 3) := by decide +kernel
theorem dX8_drop_47 : decode cX8_drop 47 = .ok (.ireturn, 1) := by decide +kernel
theorem dX8_feed_0 : decode cX8_feed 0 = .ok (.iload_n 3, 1) := by decide +kernel
theorem dX8_feed_1 : decode cX8_feed 1 = .ok (.i2l, 1) := by decide +kernel
theorem dX8_feed_2 : decode cX8_feed 2 = .ok (.lconst 1, 1) := by decide +kernel
theorem dX8_feed_3 : decode cX8_feed 3 = .ok (.ldc2_w 74, 3) := by decide +kernel
theorem dX8_feed_6 : decode cX8_feed 6 = .ok (.invokestatic 60, 3) := by decide +kernel
theorem dX8_feed_9 : decode cX8_feed 9 = .ok (.ifCond .ne 6, 3) := by decide +kernel
theorem dX8_feed_12 : decode cX8_feed 12 = .ok (.ldc 66, 2) := by decide +kernel
theorem dX8_feed_14 : decode cX8_feed 14 = .ok (.ireturn, 1) := by decide +kernel
theorem dX8_feed_15 : decode cX8_feed 15 = .ok (.aload_n 0, 1) := by decide +kernel
theorem dX8_feed_16 : decode cX8_feed 16 = .ok (.getfield 76, 3) := by decide +kernel
theorem dX8_feed_19 : decode cX8_feed 19 = .ok (.iload_n 3, 1) := by decide +kernel
theorem dX8_feed_20 : decode cX8_feed 20 = .ok (.iadd, 1) := by decide +kernel
theorem dX8_feed_21 : decode cX8_feed 21 = .ok (.sipush 300, 3) := by decide +kernel
theorem dX8_feed_24 : decode cX8_feed 24 = .ok (.if_icmp .le 6, 3) := by decide +kernel
theorem dX8_feed_27 : decode cX8_feed 27 = .ok (.ldc 79, 2) := by decide +kernel
theorem dX8_feed_29 : decode cX8_feed 29 = .ok (.ireturn, 1) := by decide +kernel
theorem dX8_feed_30 : decode cX8_feed 30 = .ok (.iload_n 3, 1) := by decide +kernel
theorem dX8_feed_31 : decode cX8_feed 31 = .ok (.iconst 1, 1) := by decide +kernel
theorem dX8_feed_32 : decode cX8_feed 32 = .ok (.isub, 1) := by decide +kernel
theorem dX8_feed_33 : decode cX8_feed 33 = .ok (.istore 4, 2) := by decide +kernel
theorem dX8_feed_35 : decode cX8_feed 35 = .ok (.iload 4, 2) := by decide +kernel
theorem dX8_feed_37 : decode cX8_feed 37 = .ok (.ifCond .lt 40, 3) := by decide +kernel
theorem dX8_feed_40 : decode cX8_feed 40 = .ok (.aload_n 0, 1) := by decide +kernel
theorem dX8_feed_41 : decode cX8_feed 41 = .ok (.getfield 19, 3) := by decide +kernel
theorem dX8_feed_44 : decode cX8_feed 44 = .ok (.aload_n 0, 1) := by decide +kernel
theorem dX8_feed_45 : decode cX8_feed 45 = .ok (.getfield 76, 3) := by decide +kernel
theorem dX8_feed_48 : decode cX8_feed 48 = .ok (.lload_n 1, 1) := by decide +kernel
theorem dX8_feed_49 : decode cX8_feed 49 = .ok (.bipush 8, 2) := by decide +kernel
theorem dX8_feed_51 : decode cX8_feed 51 = .ok (.iload 4, 2) := by decide +kernel
theorem dX8_feed_53 : decode cX8_feed 53 = .ok (.imul, 1) := by decide +kernel
theorem dX8_feed_54 : decode cX8_feed 54 = .ok (.lshr, 1) := by decide +kernel
theorem dX8_feed_55 : decode cX8_feed 55 = .ok (.ldc2_w 80, 3) := by decide +kernel
theorem dX8_feed_58 : decode cX8_feed 58 = .ok (.land, 1) := by decide +kernel
theorem dX8_feed_59 : decode cX8_feed 59 = .ok (.l2i, 1) := by decide +kernel
theorem dX8_feed_60 : decode cX8_feed 60 = .ok (.iastore, 1) := by decide +kernel
theorem dX8_feed_61 : decode cX8_feed 61 = .ok (.aload_n 0, 1) := by decide +kernel
theorem dX8_feed_62 : decode cX8_feed 62 = .ok (.dup, 1) := by decide +kernel
theorem dX8_feed_63 : decode cX8_feed 63 = .ok (.getfield 76, 3) := by decide +kernel
theorem dX8_feed_66 : decode cX8_feed 66 = .ok (.iconst 1, 1) := by decide +kernel
theorem dX8_feed_67 : decode cX8_feed 67 = .ok (.iadd, 1) := by decide +kernel
theorem dX8_feed_68 : decode cX8_feed 68 = .ok (.putfield 76, 3) := by decide +kernel
theorem dX8_feed_71 : decode cX8_feed 71 = .ok (.iinc 4 (-1), 3) := by decide +kernel
theorem dX8_feed_74 : decode cX8_feed 74 = .ok (.goto (-39), 3) := by decide +kernel
theorem dX8_feed_77 : decode cX8_feed 77 = .ok (.aload_n 0, 1) := by decide +kernel
theorem dX8_feed_78 : decode cX8_feed 78 = .ok (.getfield 76, 3) := by decide +kernel
theorem dX8_feed_81 : decode cX8_feed 81 = .ok (.ireturn, 1) := by decide +kernel
theorem dX8_byteAt_0 : decode cX8_byteAt 0 = .ok (.iload_n 1, 1) := by decide +kernel
theorem dX8_byteAt_1 : decode cX8_byteAt 1 = .ok (.aload_n 0, 1) := by decide +kernel
theorem dX8_byteAt_2 : decode cX8_byteAt 2 = .ok (.getfield 76, 3) := by decide +kernel
theorem dX8_byteAt_5 : decode cX8_byteAt 5 = .ok (.if_icmp .ge 12, 3) := by decide +kernel
theorem dX8_byteAt_8 : decode cX8_byteAt 8 = .ok (.aload_n 0, 1) := by decide +kernel
theorem dX8_byteAt_9 : decode cX8_byteAt 9 = .ok (.getfield 19, 3) := by decide +kernel
theorem dX8_byteAt_12 : decode cX8_byteAt 12 = .ok (.iload_n 1, 1) := by decide +kernel
theorem dX8_byteAt_13 : decode cX8_byteAt 13 = .ok (.iaload, 1) := by decide +kernel
theorem dX8_byteAt_14 : decode cX8_byteAt 14 = .ok (.goto 4, 3) := by decide +kernel
theorem dX8_byteAt_17 : decode cX8_byteAt 17 = .ok (.iconst (-1), 1) := by decide +kernel
theorem dX8_byteAt_18 : decode cX8_byteAt 18 = .ok (.ireturn, 1) := by decide +kernel
theorem dX8_sortOf_0 : decode cX8_sortOf 0 = .ok (.iload_n 0, 1) := by decide +kernel
theorem dX8_sortOf_1 : decode cX8_sortOf 1 = .ok (.ifCond .ge 7, 3) := by decide +kernel
theorem dX8_sortOf_4 : decode cX8_sortOf 4 = .ok (.iconst 0, 1) := by decide +kernel
theorem dX8_sortOf_5 : decode cX8_sortOf 5 = .ok (.goto 50, 3) := by decide +kernel
theorem dX8_sortOf_8 : decode cX8_sortOf 8 = .ok (.iload_n 0, 1) := by decide +kernel
theorem dX8_sortOf_9 : decode cX8_sortOf 9 = .ok (.i2l, 1) := by decide +kernel
theorem dX8_sortOf_10 : decode cX8_sortOf 10 = .ok (.ldc2_w 82, 3) := by decide +kernel
theorem dX8_sortOf_13 : decode cX8_sortOf 13 = .ok (.ldc2_w 84, 3) := by decide +kernel
theorem dX8_sortOf_16 : decode cX8_sortOf 16 = .ok (.invokestatic 60, 3) := by decide +kernel
theorem dX8_sortOf_19 : decode cX8_sortOf 19 = .ok (.ifCond .eq 7, 3) := by decide +kernel
theorem dX8_sortOf_22 : decode cX8_sortOf 22 = .ok (.iconst 1, 1) := by decide +kernel
theorem dX8_sortOf_23 : decode cX8_sortOf 23 = .ok (.goto 32, 3) := by decide +kernel
theorem dX8_sortOf_26 : decode cX8_sortOf 26 = .ok (.iload_n 0, 1) := by decide +kernel
theorem dX8_sortOf_27 : decode cX8_sortOf 27 = .ok (.i2l, 1) := by decide +kernel
theorem dX8_sortOf_28 : decode cX8_sortOf 28 = .ok (.ldc2_w 86, 3) := by decide +kernel
theorem dX8_sortOf_31 : decode cX8_sortOf 31 = .ok (.ldc2_w 88, 3) := by decide +kernel
theorem dX8_sortOf_34 : decode cX8_sortOf 34 = .ok (.invokestatic 60, 3) := by decide +kernel
theorem dX8_sortOf_37 : decode cX8_sortOf 37 = .ok (.ifCond .eq 7, 3) := by decide +kernel
theorem dX8_sortOf_40 : decode cX8_sortOf 40 = .ok (.iconst 2, 1) := by decide +kernel
theorem dX8_sortOf_41 : decode cX8_sortOf 41 = .ok (.goto 14, 3) := by decide +kernel
theorem dX8_sortOf_44 : decode cX8_sortOf 44 = .ok (.iload_n 0, 1) := by decide +kernel
theorem dX8_sortOf_45 : decode cX8_sortOf 45 = .ok (.bipush 59, 2) := by decide +kernel
theorem dX8_sortOf_47 : decode cX8_sortOf 47 = .ok (.if_icmp .ne 7, 3) := by decide +kernel
theorem dX8_sortOf_50 : decode cX8_sortOf 50 = .ok (.iconst 3, 1) := by decide +kernel
theorem dX8_sortOf_51 : decode cX8_sortOf 51 = .ok (.goto 4, 3) := by decide +kernel
theorem dX8_sortOf_54 : decode cX8_sortOf 54 = .ok (.iconst 4, 1) := by decide +kernel
theorem dX8_sortOf_55 : decode cX8_sortOf 55 = .ok (.ireturn, 1) := by decide +kernel
theorem dX8_token_0 : decode cX8_token 0 = .ok (.aload_n 0, 1) := by decide +kernel
theorem dX8_token_1 : decode cX8_token 1 = .ok (.aload_n 0, 1) := by decide +kernel
theorem dX8_token_2 : decode cX8_token 2 = .ok (.getfield 90, 3) := by decide +kernel
theorem dX8_token_5 : decode cX8_token 5 = .ok (.invokevirtual 93, 3) := by decide +kernel
theorem dX8_token_8 : decode cX8_token 8 = .ok (.bipush 32, 2) := by decide +kernel
theorem dX8_token_10 : decode cX8_token 10 = .ok (.if_icmp .eq 16, 3) := by decide +kernel
theorem dX8_token_13 : decode cX8_token 13 = .ok (.aload_n 0, 1) := by decide +kernel
theorem dX8_token_14 : decode cX8_token 14 = .ok (.aload_n 0, 1) := by decide +kernel
theorem dX8_token_15 : decode cX8_token 15 = .ok (.getfield 90, 3) := by decide +kernel
theorem dX8_token_18 : decode cX8_token 18 = .ok (.invokevirtual 93, 3) := by decide +kernel
theorem dX8_token_21 : decode cX8_token 21 = .ok (.bipush 10, 2) := by decide +kernel
theorem dX8_token_23 : decode cX8_token 23 = .ok (.if_icmp .ne 16, 3) := by decide +kernel
theorem dX8_token_26 : decode cX8_token 26 = .ok (.aload_n 0, 1) := by decide +kernel
theorem dX8_token_27 : decode cX8_token 27 = .ok (.dup, 1) := by decide +kernel
theorem dX8_token_28 : decode cX8_token 28 = .ok (.getfield 90, 3) := by decide +kernel
theorem dX8_token_31 : decode cX8_token 31 = .ok (.iconst 1, 1) := by decide +kernel
theorem dX8_token_32 : decode cX8_token 32 = .ok (.iadd, 1) := by decide +kernel
theorem dX8_token_33 : decode cX8_token 33 = .ok (.putfield 90, 3) := by decide +kernel
theorem dX8_token_36 : decode cX8_token 36 = .ok (.goto (-36), 3) := by decide +kernel
theorem dX8_token_39 : decode cX8_token 39 = .ok (.aload_n 0, 1) := by decide +kernel
theorem dX8_token_40 : decode cX8_token 40 = .ok (.aload_n 0, 1) := by decide +kernel
theorem dX8_token_41 : decode cX8_token 41 = .ok (.getfield 90, 3) := by decide +kernel
theorem dX8_token_44 : decode cX8_token 44 = .ok (.putfield 96, 3) := by decide +kernel
theorem dX8_token_47 : decode cX8_token 47 = .ok (.aload_n 0, 1) := by decide +kernel
theorem dX8_token_48 : decode cX8_token 48 = .ok (.aload_n 0, 1) := by decide +kernel
theorem dX8_token_49 : decode cX8_token 49 = .ok (.aload_n 0, 1) := by decide +kernel
theorem dX8_token_50 : decode cX8_token 50 = .ok (.getfield 90, 3) := by decide +kernel
theorem dX8_token_53 : decode cX8_token 53 = .ok (.invokevirtual 93, 3) := by decide +kernel
theorem dX8_token_56 : decode cX8_token 56 = .ok (.invokestatic 99, 3) := by decide +kernel
theorem dX8_token_59 : decode cX8_token 59 = .ok (.putfield 102, 3) := by decide +kernel
theorem dX8_token_62 : decode cX8_token 62 = .ok (.aload_n 0, 1) := by decide +kernel
theorem dX8_token_63 : decode cX8_token 63 = .ok (.getfield 102, 3) := by decide +kernel
theorem dX8_token_66 : decode cX8_token 66 = .ok (.istore_n 1, 1) := by decide +kernel
theorem dX8_token_67 : decode cX8_token 67 = .ok (.aload_n 0, 1) := by decide +kernel
theorem dX8_token_68 : decode cX8_token 68 = .ok (.iconst 0, 1) := by decide +kernel
theorem dX8_token_69 : decode cX8_token 69 = .ok (.putfield 105, 3) := by decide +kernel
theorem dX8_token_72 : decode cX8_token 72 = .ok (.aload_n 0, 1) := by decide +kernel
theorem dX8_token_73 : decode cX8_token 73 = .ok (.getfield 105, 3) := by decide +kernel
theorem dX8_token_76 : decode cX8_token 76 = .ok (.ifCond .ne 7, 3) := by decide +kernel
theorem dX8_token_79 : decode cX8_token 79 = .ok (.iload_n 1, 1) := by decide +kernel
theorem dX8_token_80 : decode cX8_token 80 = .ok (.ifCond .ne 28, 3) := by decide +kernel
theorem dX8_token_83 : decode cX8_token 83 = .ok (.iload_n 1, 1) := by decide +kernel
theorem dX8_token_84 : decode cX8_token 84 = .ok (.iconst 1, 1) := by decide +kernel
theorem dX8_token_85 : decode cX8_token 85 = .ok (.if_icmp .eq 8, 3) := by decide +kernel
theorem dX8_token_88 : decode cX8_token 88 = .ok (.iload_n 1, 1) := by decide +kernel
theorem dX8_token_89 : decode cX8_token 89 = .ok (.iconst 2, 1) := by decide +kernel
theorem dX8_token_90 : decode cX8_token 90 = .ok (.if_icmp .ne 41, 3) := by decide +kernel
theorem dX8_token_93 : decode cX8_token 93 = .ok (.aload_n 0, 1) := by decide +kernel
theorem dX8_token_94 : decode cX8_token 94 = .ok (.aload_n 0, 1) := by decide +kernel
theorem dX8_token_95 : decode cX8_token 95 = .ok (.getfield 90, 3) := by decide +kernel
theorem dX8_token_98 : decode cX8_token 98 = .ok (.invokevirtual 93, 3) := by decide +kernel
theorem dX8_token_101 : decode cX8_token 101 = .ok (.invokestatic 99, 3) := by decide +kernel
theorem dX8_token_104 : decode cX8_token 104 = .ok (.iload_n 1, 1) := by decide +kernel
theorem dX8_token_105 : decode cX8_token 105 = .ok (.if_icmp .ne 26, 3) := by decide +kernel
theorem dX8_token_108 : decode cX8_token 108 = .ok (.aload_n 0, 1) := by decide +kernel
theorem dX8_token_109 : decode cX8_token 109 = .ok (.dup, 1) := by decide +kernel
theorem dX8_token_110 : decode cX8_token 110 = .ok (.getfield 90, 3) := by decide +kernel
theorem dX8_token_113 : decode cX8_token 113 = .ok (.iconst 1, 1) := by decide +kernel
theorem dX8_token_114 : decode cX8_token 114 = .ok (.iadd, 1) := by decide +kernel
theorem dX8_token_115 : decode cX8_token 115 = .ok (.putfield 90, 3) := by decide +kernel
theorem dX8_token_118 : decode cX8_token 118 = .ok (.aload_n 0, 1) := by decide +kernel
theorem dX8_token_119 : decode cX8_token 119 = .ok (.dup, 1) := by decide +kernel
theorem dX8_token_120 : decode cX8_token 120 = .ok (.getfield 105, 3) := by decide +kernel
theorem dX8_token_123 : decode cX8_token 123 = .ok (.iconst 1, 1) := by decide +kernel
theorem dX8_token_124 : decode cX8_token 124 = .ok (.iadd, 1) := by decide +kernel
theorem dX8_token_125 : decode cX8_token 125 = .ok (.putfield 105, 3) := by decide +kernel
theorem dX8_token_128 : decode cX8_token 128 = .ok (.goto (-56), 3) := by decide +kernel
theorem dX8_token_131 : decode cX8_token 131 = .ok (.aload_n 0, 1) := by decide +kernel
theorem dX8_token_132 : decode cX8_token 132 = .ok (.iload_n 1, 1) := by decide +kernel
theorem dX8_token_133 : decode cX8_token 133 = .ok (.iconst 2, 1) := by decide +kernel
theorem dX8_token_134 : decode cX8_token 134 = .ok (.if_icmp .ne 15, 3) := by decide +kernel
theorem dX8_token_137 : decode cX8_token 137 = .ok (.aload_n 0, 1) := by decide +kernel
theorem dX8_token_138 : decode cX8_token 138 = .ok (.getfield 105, 3) := by decide +kernel
theorem dX8_token_141 : decode cX8_token 141 = .ok (.iconst 3, 1) := by decide +kernel
theorem dX8_token_142 : decode cX8_token 142 = .ok (.if_icmp .le 7, 3) := by decide +kernel
theorem dX8_token_145 : decode cX8_token 145 = .ok (.iconst 4, 1) := by decide +kernel
theorem dX8_token_146 : decode cX8_token 146 = .ok (.goto 4, 3) := by decide +kernel
theorem dX8_token_149 : decode cX8_token 149 = .ok (.iload_n 1, 1) := by decide +kernel
theorem dX8_token_150 : decode cX8_token 150 = .ok (.putfield 102, 3) := by decide +kernel
theorem dX8_token_153 : decode cX8_token 153 = .ok (.return_, 1) := by decide +kernel
theorem dX8_name_0 : decode cX8_name 0 = .ok (.lconst 0, 1) := by decide +kernel
theorem dX8_name_1 : decode cX8_name 1 = .ok (.lstore_n 1, 1) := by decide +kernel
theorem dX8_name_2 : decode cX8_name 2 = .ok (.iconst 0, 1) := by decide +kernel
theorem dX8_name_3 : decode cX8_name 3 = .ok (.istore_n 3, 1) := by decide +kernel
theorem dX8_name_4 : decode cX8_name 4 = .ok (.iload_n 3, 1) := by decide +kernel
theorem dX8_name_5 : decode cX8_name 5 = .ok (.aload_n 0, 1) := by decide +kernel
theorem dX8_name_6 : decode cX8_name 6 = .ok (.getfield 105, 3) := by decide +kernel
theorem dX8_name_9 : decode cX8_name 9 = .ok (.if_icmp .ge 44, 3) := by decide +kernel
theorem dX8_name_12 : decode cX8_name 12 = .ok (.aload_n 0, 1) := by decide +kernel
theorem dX8_name_13 : decode cX8_name 13 = .ok (.getfield 105, 3) := by decide +kernel
theorem dX8_name_16 : decode cX8_name 16 = .ok (.bipush 8, 2) := by decide +kernel
theorem dX8_name_18 : decode cX8_name 18 = .ok (.if_icmp .ge 35, 3) := by decide +kernel
theorem dX8_name_21 : decode cX8_name 21 = .ok (.aload_n 0, 1) := by decide +kernel
theorem dX8_name_22 : decode cX8_name 22 = .ok (.getfield 102, 3) := by decide +kernel
theorem dX8_name_25 : decode cX8_name 25 = .ok (.iconst 1, 1) := by decide +kernel
theorem dX8_name_26 : decode cX8_name 26 = .ok (.if_icmp .ne 27, 3) := by decide +kernel
theorem dX8_name_29 : decode cX8_name 29 = .ok (.ldc2_w 108, 3) := by decide +kernel
theorem dX8_name_32 : decode cX8_name 32 = .ok (.lload_n 1, 1) := by decide +kernel
theorem dX8_name_33 : decode cX8_name 33 = .ok (.lmul, 1) := by decide +kernel
theorem dX8_name_34 : decode cX8_name 34 = .ok (.aload_n 0, 1) := by decide +kernel
theorem dX8_name_35 : decode cX8_name 35 = .ok (.aload_n 0, 1) := by decide +kernel
theorem dX8_name_36 : decode cX8_name 36 = .ok (.getfield 96, 3) := by decide +kernel
theorem dX8_name_39 : decode cX8_name 39 = .ok (.iload_n 3, 1) := by decide +kernel
theorem dX8_name_40 : decode cX8_name 40 = .ok (.iadd, 1) := by decide +kernel
theorem dX8_name_41 : decode cX8_name 41 = .ok (.invokevirtual 93, 3) := by decide +kernel
theorem dX8_name_44 : decode cX8_name 44 = .ok (.i2l, 1) := by decide +kernel
theorem dX8_name_45 : decode cX8_name 45 = .ok (.ladd, 1) := by decide +kernel
theorem dX8_name_46 : decode cX8_name 46 = .ok (.lstore_n 1, 1) := by decide +kernel
theorem dX8_name_47 : decode cX8_name 47 = .ok (.iinc 3 1, 3) := by decide +kernel
theorem dX8_name_50 : decode cX8_name 50 = .ok (.goto (-46), 3) := by decide +kernel
theorem dX8_name_53 : decode cX8_name 53 = .ok (.lload_n 1, 1) := by decide +kernel
theorem dX8_name_54 : decode cX8_name 54 = .ok (.lreturn, 1) := by decide +kernel
theorem dX8_wrong_0 : decode cX8_wrong 0 = .ok (.aload_n 0, 1) := by decide +kernel
theorem dX8_wrong_1 : decode cX8_wrong 1 = .ok (.iload_n 1, 1) := by decide +kernel
theorem dX8_wrong_2 : decode cX8_wrong 2 = .ok (.putfield 110, 3) := by decide +kernel
theorem dX8_wrong_5 : decode cX8_wrong 5 = .ok (.iconst 0, 1) := by decide +kernel
theorem dX8_wrong_6 : decode cX8_wrong 6 = .ok (.ireturn, 1) := by decide +kernel
theorem dX8_number_0 : decode cX8_number 0 = .ok (.aload_n 0, 1) := by decide +kernel
theorem dX8_number_1 : decode cX8_number 1 = .ok (.getfield 102, 3) := by decide +kernel
theorem dX8_number_4 : decode cX8_number 4 = .ok (.iconst 2, 1) := by decide +kernel
theorem dX8_number_5 : decode cX8_number 5 = .ok (.if_icmp .eq 9, 3) := by decide +kernel
theorem dX8_number_8 : decode cX8_number 8 = .ok (.aload_n 0, 1) := by decide +kernel
theorem dX8_number_9 : decode cX8_number 9 = .ok (.iconst 1, 1) := by decide +kernel
theorem dX8_number_10 : decode cX8_number 10 = .ok (.invokevirtual 113, 3) := by decide +kernel
theorem dX8_number_13 : decode cX8_number 13 = .ok (.ireturn, 1) := by decide +kernel
theorem dX8_number_14 : decode cX8_number 14 = .ok (.iconst 0, 1) := by decide +kernel
theorem dX8_number_15 : decode cX8_number 15 = .ok (.istore 4, 2) := by decide +kernel
theorem dX8_number_17 : decode cX8_number 17 = .ok (.iconst 0, 1) := by decide +kernel
theorem dX8_number_18 : decode cX8_number 18 = .ok (.istore 5, 2) := by decide +kernel
theorem dX8_number_20 : decode cX8_number 20 = .ok (.iload 5, 2) := by decide +kernel
theorem dX8_number_22 : decode cX8_number 22 = .ok (.aload_n 0, 1) := by decide +kernel
theorem dX8_number_23 : decode cX8_number 23 = .ok (.getfield 105, 3) := by decide +kernel
theorem dX8_number_26 : decode cX8_number 26 = .ok (.if_icmp .ge 31, 3) := by decide +kernel
theorem dX8_number_29 : decode cX8_number 29 = .ok (.bipush 10, 2) := by decide +kernel
theorem dX8_number_31 : decode cX8_number 31 = .ok (.iload 4, 2) := by decide +kernel
theorem dX8_number_33 : decode cX8_number 33 = .ok (.imul, 1) := by decide +kernel
theorem dX8_number_34 : decode cX8_number 34 = .ok (.aload_n 0, 1) := by decide +kernel
theorem dX8_number_35 : decode cX8_number 35 = .ok (.aload_n 0, 1) := by decide +kernel
theorem dX8_number_36 : decode cX8_number 36 = .ok (.getfield 96, 3) := by decide +kernel
theorem dX8_number_39 : decode cX8_number 39 = .ok (.iload 5, 2) := by decide +kernel
theorem dX8_number_41 : decode cX8_number 41 = .ok (.iadd, 1) := by decide +kernel
theorem dX8_number_42 : decode cX8_number 42 = .ok (.invokevirtual 93, 3) := by decide +kernel
theorem dX8_number_45 : decode cX8_number 45 = .ok (.iadd, 1) := by decide +kernel
theorem dX8_number_46 : decode cX8_number 46 = .ok (.bipush 48, 2) := by decide +kernel
theorem dX8_number_48 : decode cX8_number 48 = .ok (.isub, 1) := by decide +kernel
theorem dX8_number_49 : decode cX8_number 49 = .ok (.istore 4, 2) := by decide +kernel
theorem dX8_number_51 : decode cX8_number 51 = .ok (.iinc 5 1, 3) := by decide +kernel
theorem dX8_number_54 : decode cX8_number 54 = .ok (.goto (-34), 3) := by decide +kernel
theorem dX8_number_57 : decode cX8_number 57 = .ok (.iload 4, 2) := by decide +kernel
theorem dX8_number_59 : decode cX8_number 59 = .ok (.i2l, 1) := by decide +kernel
theorem dX8_number_60 : decode cX8_number 60 = .ok (.iload_n 2, 1) := by decide +kernel
theorem dX8_number_61 : decode cX8_number 61 = .ok (.i2l, 1) := by decide +kernel
theorem dX8_number_62 : decode cX8_number 62 = .ok (.iload_n 3, 1) := by decide +kernel
theorem dX8_number_63 : decode cX8_number 63 = .ok (.i2l, 1) := by decide +kernel
theorem dX8_number_64 : decode cX8_number 64 = .ok (.invokestatic 60, 3) := by decide +kernel
theorem dX8_number_67 : decode cX8_number 67 = .ok (.ifCond .ne 9, 3) := by decide +kernel
theorem dX8_number_70 : decode cX8_number 70 = .ok (.aload_n 0, 1) := by decide +kernel
theorem dX8_number_71 : decode cX8_number 71 = .ok (.iconst 2, 1) := by decide +kernel
theorem dX8_number_72 : decode cX8_number 72 = .ok (.invokevirtual 113, 3) := by decide +kernel
theorem dX8_number_75 : decode cX8_number 75 = .ok (.ireturn, 1) := by decide +kernel
theorem dX8_number_76 : decode cX8_number 76 = .ok (.aload_n 0, 1) := by decide +kernel
theorem dX8_number_77 : decode cX8_number 77 = .ok (.getfield 25, 3) := by decide +kernel
theorem dX8_number_80 : decode cX8_number 80 = .ok (.iload_n 1, 1) := by decide +kernel
theorem dX8_number_81 : decode cX8_number 81 = .ok (.iload 4, 2) := by decide +kernel
theorem dX8_number_83 : decode cX8_number 83 = .ok (.iastore, 1) := by decide +kernel
theorem dX8_number_84 : decode cX8_number 84 = .ok (.aload_n 0, 1) := by decide +kernel
theorem dX8_number_85 : decode cX8_number 85 = .ok (.invokevirtual 117, 3) := by decide +kernel
theorem dX8_number_88 : decode cX8_number 88 = .ok (.iconst 1, 1) := by decide +kernel
theorem dX8_number_89 : decode cX8_number 89 = .ok (.ireturn, 1) := by decide +kernel
theorem dX8_sign_0 : decode cX8_sign 0 = .ok (.aload_n 0, 1) := by decide +kernel
theorem dX8_sign_1 : decode cX8_sign 1 = .ok (.getfield 102, 3) := by decide +kernel
theorem dX8_sign_4 : decode cX8_sign 4 = .ok (.iconst 3, 1) := by decide +kernel
theorem dX8_sign_5 : decode cX8_sign 5 = .ok (.if_icmp .eq 9, 3) := by decide +kernel
theorem dX8_sign_8 : decode cX8_sign 8 = .ok (.aload_n 0, 1) := by decide +kernel
theorem dX8_sign_9 : decode cX8_sign 9 = .ok (.iconst 1, 1) := by decide +kernel
theorem dX8_sign_10 : decode cX8_sign 10 = .ok (.invokevirtual 113, 3) := by decide +kernel
theorem dX8_sign_13 : decode cX8_sign 13 = .ok (.ireturn, 1) := by decide +kernel
theorem dX8_sign_14 : decode cX8_sign 14 = .ok (.aload_n 0, 1) := by decide +kernel
theorem dX8_sign_15 : decode cX8_sign 15 = .ok (.invokevirtual 117, 3) := by decide +kernel
theorem dX8_sign_18 : decode cX8_sign 18 = .ok (.iconst 1, 1) := by decide +kernel
theorem dX8_sign_19 : decode cX8_sign 19 = .ok (.ireturn, 1) := by decide +kernel
theorem dX8_cell_0 : decode cX8_cell 0 = .ok (.aload_n 0, 1) := by decide +kernel
theorem dX8_cell_1 : decode cX8_cell 1 = .ok (.bipush 37, 2) := by decide +kernel
theorem dX8_cell_3 : decode cX8_cell 3 = .ok (.iconst 0, 1) := by decide +kernel
theorem dX8_cell_4 : decode cX8_cell 4 = .ok (.iconst 5, 1) := by decide +kernel
theorem dX8_cell_5 : decode cX8_cell 5 = .ok (.invokevirtual 120, 3) := by decide +kernel
theorem dX8_cell_8 : decode cX8_cell 8 = .ok (.ifCond .eq 18, 3) := by decide +kernel
theorem dX8_cell_11 : decode cX8_cell 11 = .ok (.aload_n 0, 1) := by decide +kernel
theorem dX8_cell_12 : decode cX8_cell 12 = .ok (.bipush 38, 2) := by decide +kernel
theorem dX8_cell_14 : decode cX8_cell 14 = .ok (.iconst 0, 1) := by decide +kernel
theorem dX8_cell_15 : decode cX8_cell 15 = .ok (.iconst 4, 1) := by decide +kernel
theorem dX8_cell_16 : decode cX8_cell 16 = .ok (.invokevirtual 120, 3) := by decide +kernel
theorem dX8_cell_19 : decode cX8_cell 19 = .ok (.ifCond .eq 7, 3) := by decide +kernel
theorem dX8_cell_22 : decode cX8_cell 22 = .ok (.iconst 1, 1) := by decide +kernel
theorem dX8_cell_23 : decode cX8_cell 23 = .ok (.goto 4, 3) := by decide +kernel
theorem dX8_cell_26 : decode cX8_cell 26 = .ok (.iconst 0, 1) := by decide +kernel
theorem dX8_cell_27 : decode cX8_cell 27 = .ok (.ireturn, 1) := by decide +kernel
theorem dX8_readsDrain_0 : decode cX8_readsDrain 0 = .ok (.aload_n 0, 1) := by decide +kernel
theorem dX8_readsDrain_1 : decode cX8_readsDrain 1 = .ok (.getfield 25, 3) := by decide +kernel
theorem dX8_readsDrain_4 : decode cX8_readsDrain 4 = .ok (.iconst 2, 1) := by decide +kernel
theorem dX8_readsDrain_5 : decode cX8_readsDrain 5 = .ok (.iaload, 1) := by decide +kernel
theorem dX8_readsDrain_6 : decode cX8_readsDrain 6 = .ok (.bipush 6, 2) := by decide +kernel
theorem dX8_readsDrain_8 : decode cX8_readsDrain 8 = .ok (.if_icmp .ne 9, 3) := by decide +kernel
theorem dX8_readsDrain_11 : decode cX8_readsDrain 11 = .ok (.aload_n 0, 1) := by decide +kernel
theorem dX8_readsDrain_12 : decode cX8_readsDrain 12 = .ok (.iconst 3, 1) := by decide +kernel
theorem dX8_readsDrain_13 : decode cX8_readsDrain 13 = .ok (.invokevirtual 113, 3) := by decide +kernel
theorem dX8_readsDrain_16 : decode cX8_readsDrain 16 = .ok (.ireturn, 1) := by decide +kernel
theorem dX8_readsDrain_17 : decode cX8_readsDrain 17 = .ok (.aload_n 0, 1) := by decide +kernel
theorem dX8_readsDrain_18 : decode cX8_readsDrain 18 = .ok (.invokevirtual 117, 3) := by decide +kernel
theorem dX8_readsDrain_21 : decode cX8_readsDrain 21 = .ok (.aload_n 0, 1) := by decide +kernel
theorem dX8_readsDrain_22 : decode cX8_readsDrain 22 = .ok (.invokevirtual 124, 3) := by decide +kernel
theorem dX8_readsDrain_25 : decode cX8_readsDrain 25 = .ok (.ifCond .eq 10, 3) := by decide +kernel
theorem dX8_readsDrain_28 : decode cX8_readsDrain 28 = .ok (.aload_n 0, 1) := by decide +kernel
theorem dX8_readsDrain_29 : decode cX8_readsDrain 29 = .ok (.invokevirtual 128, 3) := by decide +kernel
theorem dX8_readsDrain_32 : decode cX8_readsDrain 32 = .ok (.ifCond .ne 5, 3) := by decide +kernel
theorem dX8_readsDrain_35 : decode cX8_readsDrain 35 = .ok (.iconst 0, 1) := by decide +kernel
theorem dX8_readsDrain_36 : decode cX8_readsDrain 36 = .ok (.ireturn, 1) := by decide +kernel
theorem dX8_readsDrain_37 : decode cX8_readsDrain 37 = .ok (.aload_n 0, 1) := by decide +kernel
theorem dX8_readsDrain_38 : decode cX8_readsDrain 38 = .ok (.getfield 25, 3) := by decide +kernel
theorem dX8_readsDrain_41 : decode cX8_readsDrain 41 = .ok (.iconst 2, 1) := by decide +kernel
theorem dX8_readsDrain_42 : decode cX8_readsDrain 42 = .ok (.dup2, 1) := by decide +kernel
theorem dX8_readsDrain_43 : decode cX8_readsDrain 43 = .ok (.iaload, 1) := by decide +kernel
theorem dX8_readsDrain_44 : decode cX8_readsDrain 44 = .ok (.iconst 1, 1) := by decide +kernel
theorem dX8_readsDrain_45 : decode cX8_readsDrain 45 = .ok (.iadd, 1) := by decide +kernel
theorem dX8_readsDrain_46 : decode cX8_readsDrain 46 = .ok (.iastore, 1) := by decide +kernel
theorem dX8_readsDrain_47 : decode cX8_readsDrain 47 = .ok (.aload_n 0, 1) := by decide +kernel
theorem dX8_readsDrain_48 : decode cX8_readsDrain 48 = .ok (.getfield 25, 3) := by decide +kernel
theorem dX8_readsDrain_51 : decode cX8_readsDrain 51 = .ok (.iconst 4, 1) := by decide +kernel
theorem dX8_readsDrain_52 : decode cX8_readsDrain 52 = .ok (.dup2, 1) := by decide +kernel
theorem dX8_readsDrain_53 : decode cX8_readsDrain 53 = .ok (.iaload, 1) := by decide +kernel
theorem dX8_readsDrain_54 : decode cX8_readsDrain 54 = .ok (.iconst 1, 1) := by decide +kernel
theorem dX8_readsDrain_55 : decode cX8_readsDrain 55 = .ok (.bipush 6, 2) := by decide +kernel
theorem dX8_readsDrain_57 : decode cX8_readsDrain 57 = .ok (.aload_n 0, 1) := by decide +kernel
theorem dX8_readsDrain_58 : decode cX8_readsDrain 58 = .ok (.getfield 25, 3) := by decide +kernel
theorem dX8_readsDrain_61 : decode cX8_readsDrain 61 = .ok (.bipush 38, 2) := by decide +kernel
theorem dX8_readsDrain_63 : decode cX8_readsDrain 63 = .ok (.iaload, 1) := by decide +kernel
theorem dX8_readsDrain_64 : decode cX8_readsDrain 64 = .ok (.imul, 1) := by decide +kernel
theorem dX8_readsDrain_65 : decode cX8_readsDrain 65 = .ok (.aload_n 0, 1) := by decide +kernel
theorem dX8_readsDrain_66 : decode cX8_readsDrain 66 = .ok (.getfield 25, 3) := by decide +kernel
theorem dX8_readsDrain_69 : decode cX8_readsDrain 69 = .ok (.bipush 37, 2) := by decide +kernel
theorem dX8_readsDrain_71 : decode cX8_readsDrain 71 = .ok (.iaload, 1) := by decide +kernel
theorem dX8_readsDrain_72 : decode cX8_readsDrain 72 = .ok (.iadd, 1) := by decide +kernel
theorem dX8_readsDrain_73 : decode cX8_readsDrain 73 = .ok (.ishl, 1) := by decide +kernel
theorem dX8_readsDrain_74 : decode cX8_readsDrain 74 = .ok (.ior, 1) := by decide +kernel
theorem dX8_readsDrain_75 : decode cX8_readsDrain 75 = .ok (.iastore, 1) := by decide +kernel
theorem dX8_readsDrain_76 : decode cX8_readsDrain 76 = .ok (.iconst 1, 1) := by decide +kernel
theorem dX8_readsDrain_77 : decode cX8_readsDrain 77 = .ok (.ireturn, 1) := by decide +kernel
theorem dX8_readsChild_0 : decode cX8_readsChild 0 = .ok (.aload_n 0, 1) := by decide +kernel
theorem dX8_readsChild_1 : decode cX8_readsChild 1 = .ok (.getfield 25, 3) := by decide +kernel
theorem dX8_readsChild_4 : decode cX8_readsChild 4 = .ok (.iconst 3, 1) := by decide +kernel
theorem dX8_readsChild_5 : decode cX8_readsChild 5 = .ok (.iaload, 1) := by decide +kernel
theorem dX8_readsChild_6 : decode cX8_readsChild 6 = .ok (.istore_n 1, 1) := by decide +kernel
theorem dX8_readsChild_7 : decode cX8_readsChild 7 = .ok (.iload_n 1, 1) := by decide +kernel
theorem dX8_readsChild_8 : decode cX8_readsChild 8 = .ok (.iconst 5, 1) := by decide +kernel
theorem dX8_readsChild_9 : decode cX8_readsChild 9 = .ok (.if_icmp .ne 9, 3) := by decide +kernel
theorem dX8_readsChild_12 : decode cX8_readsChild 12 = .ok (.aload_n 0, 1) := by decide +kernel
theorem dX8_readsChild_13 : decode cX8_readsChild 13 = .ok (.iconst 3, 1) := by decide +kernel
theorem dX8_readsChild_14 : decode cX8_readsChild 14 = .ok (.invokevirtual 113, 3) := by decide +kernel
theorem dX8_readsChild_17 : decode cX8_readsChild 17 = .ok (.ireturn, 1) := by decide +kernel
theorem dX8_readsChild_18 : decode cX8_readsChild 18 = .ok (.aload_n 0, 1) := by decide +kernel
theorem dX8_readsChild_19 : decode cX8_readsChild 19 = .ok (.invokevirtual 117, 3) := by decide +kernel
theorem dX8_readsChild_22 : decode cX8_readsChild 22 = .ok (.aload_n 0, 1) := by decide +kernel
theorem dX8_readsChild_23 : decode cX8_readsChild 23 = .ok (.invokevirtual 131, 3) := by decide +kernel
theorem dX8_readsChild_26 : decode cX8_readsChild 26 = .ok (.lstore_n 2, 1) := by decide +kernel
theorem dX8_readsChild_27 : decode cX8_readsChild 27 = .ok (.lload_n 2, 1) := by decide +kernel
theorem dX8_readsChild_28 : decode cX8_readsChild 28 = .ok (.ldc2_w 135, 3) := by decide +kernel
theorem dX8_readsChild_31 : decode cX8_readsChild 31 = .ok (.lcmp, 1) := by decide +kernel
theorem dX8_readsChild_32 : decode cX8_readsChild 32 = .ok (.ifCond .ne 7, 3) := by decide +kernel
theorem dX8_readsChild_35 : decode cX8_readsChild 35 = .ok (.iconst 1, 1) := by decide +kernel
theorem dX8_readsChild_36 : decode cX8_readsChild 36 = .ok (.goto 52, 3) := by decide +kernel
theorem dX8_readsChild_39 : decode cX8_readsChild 39 = .ok (.lload_n 2, 1) := by decide +kernel
theorem dX8_readsChild_40 : decode cX8_readsChild 40 = .ok (.ldc2_w 137, 3) := by decide +kernel
theorem dX8_readsChild_43 : decode cX8_readsChild 43 = .ok (.lcmp, 1) := by decide +kernel
theorem dX8_readsChild_44 : decode cX8_readsChild 44 = .ok (.ifCond .ne 7, 3) := by decide +kernel
theorem dX8_readsChild_47 : decode cX8_readsChild 47 = .ok (.iconst 2, 1) := by decide +kernel
theorem dX8_readsChild_48 : decode cX8_readsChild 48 = .ok (.goto 40, 3) := by decide +kernel
theorem dX8_readsChild_51 : decode cX8_readsChild 51 = .ok (.lload_n 2, 1) := by decide +kernel
theorem dX8_readsChild_52 : decode cX8_readsChild 52 = .ok (.ldc2_w 139, 3) := by decide +kernel
theorem dX8_readsChild_55 : decode cX8_readsChild 55 = .ok (.lcmp, 1) := by decide +kernel
theorem dX8_readsChild_56 : decode cX8_readsChild 56 = .ok (.ifCond .ne 7, 3) := by decide +kernel
theorem dX8_readsChild_59 : decode cX8_readsChild 59 = .ok (.iconst 3, 1) := by decide +kernel
theorem dX8_readsChild_60 : decode cX8_readsChild 60 = .ok (.goto 28, 3) := by decide +kernel
theorem dX8_readsChild_63 : decode cX8_readsChild 63 = .ok (.lload_n 2, 1) := by decide +kernel
theorem dX8_readsChild_64 : decode cX8_readsChild 64 = .ok (.ldc2_w 141, 3) := by decide +kernel
theorem dX8_readsChild_67 : decode cX8_readsChild 67 = .ok (.lcmp, 1) := by decide +kernel
theorem dX8_readsChild_68 : decode cX8_readsChild 68 = .ok (.ifCond .ne 7, 3) := by decide +kernel
theorem dX8_readsChild_71 : decode cX8_readsChild 71 = .ok (.iconst 4, 1) := by decide +kernel
theorem dX8_readsChild_72 : decode cX8_readsChild 72 = .ok (.goto 16, 3) := by decide +kernel
theorem dX8_readsChild_75 : decode cX8_readsChild 75 = .ok (.lload_n 2, 1) := by decide +kernel
theorem dX8_readsChild_76 : decode cX8_readsChild 76 = .ok (.ldc2_w 143, 3) := by decide +kernel
theorem dX8_readsChild_79 : decode cX8_readsChild 79 = .ok (.lcmp, 1) := by decide +kernel
theorem dX8_readsChild_80 : decode cX8_readsChild 80 = .ok (.ifCond .ne 7, 3) := by decide +kernel
theorem dX8_readsChild_83 : decode cX8_readsChild 83 = .ok (.iconst 5, 1) := by decide +kernel
theorem dX8_readsChild_84 : decode cX8_readsChild 84 = .ok (.goto 4, 3) := by decide +kernel
theorem dX8_readsChild_87 : decode cX8_readsChild 87 = .ok (.iconst 0, 1) := by decide +kernel
theorem dX8_readsChild_88 : decode cX8_readsChild 88 = .ok (.istore 4, 2) := by decide +kernel
theorem dX8_readsChild_90 : decode cX8_readsChild 90 = .ok (.iload 4, 2) := by decide +kernel
theorem dX8_readsChild_92 : decode cX8_readsChild 92 = .ok (.ifCond .ne 9, 3) := by decide +kernel
theorem dX8_readsChild_95 : decode cX8_readsChild 95 = .ok (.aload_n 0, 1) := by decide +kernel
theorem dX8_readsChild_96 : decode cX8_readsChild 96 = .ok (.iconst 1, 1) := by decide +kernel
theorem dX8_readsChild_97 : decode cX8_readsChild 97 = .ok (.invokevirtual 113, 3) := by decide +kernel
theorem dX8_readsChild_100 : decode cX8_readsChild 100 = .ok (.ireturn, 1) := by decide +kernel
theorem dX8_readsChild_101 : decode cX8_readsChild 101 = .ok (.aload_n 0, 1) := by decide +kernel
theorem dX8_readsChild_102 : decode cX8_readsChild 102 = .ok (.invokevirtual 117, 3) := by decide +kernel
theorem dX8_readsChild_105 : decode cX8_readsChild 105 = .ok (.aload_n 0, 1) := by decide +kernel
theorem dX8_readsChild_106 : decode cX8_readsChild 106 = .ok (.invokevirtual 124, 3) := by decide +kernel
theorem dX8_readsChild_109 : decode cX8_readsChild 109 = .ok (.ifCond .eq 24, 3) := by decide +kernel
theorem dX8_readsChild_112 : decode cX8_readsChild 112 = .ok (.aload_n 0, 1) := by decide +kernel
theorem dX8_readsChild_113 : decode cX8_readsChild 113 = .ok (.bipush 10, 2) := by decide +kernel
theorem dX8_readsChild_115 : decode cX8_readsChild 115 = .ok (.iload_n 1, 1) := by decide +kernel
theorem dX8_readsChild_116 : decode cX8_readsChild 116 = .ok (.iadd, 1) := by decide +kernel
theorem dX8_readsChild_117 : decode cX8_readsChild 117 = .ok (.iconst 1, 1) := by decide +kernel
theorem dX8_readsChild_118 : decode cX8_readsChild 118 = .ok (.bipush 9, 2) := by decide +kernel
theorem dX8_readsChild_120 : decode cX8_readsChild 120 = .ok (.invokevirtual 120, 3) := by decide +kernel
theorem dX8_readsChild_123 : decode cX8_readsChild 123 = .ok (.ifCond .eq 10, 3) := by decide +kernel
theorem dX8_readsChild_126 : decode cX8_readsChild 126 = .ok (.aload_n 0, 1) := by decide +kernel
theorem dX8_readsChild_127 : decode cX8_readsChild 127 = .ok (.invokevirtual 128, 3) := by decide +kernel
theorem dX8_readsChild_130 : decode cX8_readsChild 130 = .ok (.ifCond .ne 5, 3) := by decide +kernel
theorem dX8_readsChild_133 : decode cX8_readsChild 133 = .ok (.iconst 0, 1) := by decide +kernel
theorem dX8_readsChild_134 : decode cX8_readsChild 134 = .ok (.ireturn, 1) := by decide +kernel
theorem dX8_readsChild_135 : decode cX8_readsChild 135 = .ok (.aload_n 0, 1) := by decide +kernel
theorem dX8_readsChild_136 : decode cX8_readsChild 136 = .ok (.getfield 25, 3) := by decide +kernel
theorem dX8_readsChild_139 : decode cX8_readsChild 139 = .ok (.iconst 5, 1) := by decide +kernel
theorem dX8_readsChild_140 : decode cX8_readsChild 140 = .ok (.iload_n 1, 1) := by decide +kernel
theorem dX8_readsChild_141 : decode cX8_readsChild 141 = .ok (.iadd, 1) := by decide +kernel
theorem dX8_readsChild_142 : decode cX8_readsChild 142 = .ok (.iload 4, 2) := by decide +kernel
theorem dX8_readsChild_144 : decode cX8_readsChild 144 = .ok (.iastore, 1) := by decide +kernel
theorem dX8_readsChild_145 : decode cX8_readsChild 145 = .ok (.aload_n 0, 1) := by decide +kernel
theorem dX8_readsChild_146 : decode cX8_readsChild 146 = .ok (.getfield 25, 3) := by decide +kernel
theorem dX8_readsChild_149 : decode cX8_readsChild 149 = .ok (.bipush 15, 2) := by decide +kernel
theorem dX8_readsChild_151 : decode cX8_readsChild 151 = .ok (.iload_n 1, 1) := by decide +kernel
theorem dX8_readsChild_152 : decode cX8_readsChild 152 = .ok (.iadd, 1) := by decide +kernel
theorem dX8_readsChild_153 : decode cX8_readsChild 153 = .ok (.bipush 6, 2) := by decide +kernel
theorem dX8_readsChild_155 : decode cX8_readsChild 155 = .ok (.aload_n 0, 1) := by decide +kernel
theorem dX8_readsChild_156 : decode cX8_readsChild 156 = .ok (.getfield 25, 3) := by decide +kernel
theorem dX8_readsChild_159 : decode cX8_readsChild 159 = .ok (.bipush 38, 2) := by decide +kernel
theorem dX8_readsChild_161 : decode cX8_readsChild 161 = .ok (.iaload, 1) := by decide +kernel
theorem dX8_readsChild_162 : decode cX8_readsChild 162 = .ok (.imul, 1) := by decide +kernel
theorem dX8_readsChild_163 : decode cX8_readsChild 163 = .ok (.aload_n 0, 1) := by decide +kernel
theorem dX8_readsChild_164 : decode cX8_readsChild 164 = .ok (.getfield 25, 3) := by decide +kernel
theorem dX8_readsChild_167 : decode cX8_readsChild 167 = .ok (.bipush 37, 2) := by decide +kernel
theorem dX8_readsChild_169 : decode cX8_readsChild 169 = .ok (.iaload, 1) := by decide +kernel
theorem dX8_readsChild_170 : decode cX8_readsChild 170 = .ok (.iadd, 1) := by decide +kernel
theorem dX8_readsChild_171 : decode cX8_readsChild 171 = .ok (.iastore, 1) := by decide +kernel
theorem dX8_readsChild_172 : decode cX8_readsChild 172 = .ok (.aload_n 0, 1) := by decide +kernel
theorem dX8_readsChild_173 : decode cX8_readsChild 173 = .ok (.getfield 25, 3) := by decide +kernel
theorem dX8_readsChild_176 : decode cX8_readsChild 176 = .ok (.iconst 3, 1) := by decide +kernel
theorem dX8_readsChild_177 : decode cX8_readsChild 177 = .ok (.dup2, 1) := by decide +kernel
theorem dX8_readsChild_178 : decode cX8_readsChild 178 = .ok (.iaload, 1) := by decide +kernel
theorem dX8_readsChild_179 : decode cX8_readsChild 179 = .ok (.iconst 1, 1) := by decide +kernel
theorem dX8_readsChild_180 : decode cX8_readsChild 180 = .ok (.iadd, 1) := by decide +kernel
theorem dX8_readsChild_181 : decode cX8_readsChild 181 = .ok (.iastore, 1) := by decide +kernel
theorem dX8_readsChild_182 : decode cX8_readsChild 182 = .ok (.iconst 1, 1) := by decide +kernel
theorem dX8_readsChild_183 : decode cX8_readsChild 183 = .ok (.ireturn, 1) := by decide +kernel
theorem dX8_reads_0 : decode cX8_reads 0 = .ok (.iconst 0, 1) := by decide +kernel
theorem dX8_reads_1 : decode cX8_reads 1 = .ok (.istore_n 1, 1) := by decide +kernel
theorem dX8_reads_2 : decode cX8_reads 2 = .ok (.iload_n 1, 1) := by decide +kernel
theorem dX8_reads_3 : decode cX8_reads 3 = .ok (.bipush 39, 2) := by decide +kernel
theorem dX8_reads_5 : decode cX8_reads 5 = .ok (.if_icmp .ge 16, 3) := by decide +kernel
theorem dX8_reads_8 : decode cX8_reads 8 = .ok (.aload_n 0, 1) := by decide +kernel
theorem dX8_reads_9 : decode cX8_reads 9 = .ok (.getfield 25, 3) := by decide +kernel
theorem dX8_reads_12 : decode cX8_reads 12 = .ok (.iload_n 1, 1) := by decide +kernel
theorem dX8_reads_13 : decode cX8_reads 13 = .ok (.iconst 0, 1) := by decide +kernel
theorem dX8_reads_14 : decode cX8_reads 14 = .ok (.iastore, 1) := by decide +kernel
theorem dX8_reads_15 : decode cX8_reads 15 = .ok (.iinc 1 1, 3) := by decide +kernel
theorem dX8_reads_18 : decode cX8_reads 18 = .ok (.goto (-16), 3) := by decide +kernel
theorem dX8_reads_21 : decode cX8_reads 21 = .ok (.aload_n 0, 1) := by decide +kernel
theorem dX8_reads_22 : decode cX8_reads 22 = .ok (.iconst 0, 1) := by decide +kernel
theorem dX8_reads_23 : decode cX8_reads 23 = .ok (.putfield 90, 3) := by decide +kernel
theorem dX8_reads_26 : decode cX8_reads 26 = .ok (.aload_n 0, 1) := by decide +kernel
theorem dX8_reads_27 : decode cX8_reads 27 = .ok (.invokevirtual 117, 3) := by decide +kernel
theorem dX8_reads_30 : decode cX8_reads 30 = .ok (.aload_n 0, 1) := by decide +kernel
theorem dX8_reads_31 : decode cX8_reads 31 = .ok (.invokevirtual 131, 3) := by decide +kernel
theorem dX8_reads_34 : decode cX8_reads 34 = .ok (.ldc2_w 145, 3) := by decide +kernel
theorem dX8_reads_37 : decode cX8_reads 37 = .ok (.lcmp, 1) := by decide +kernel
theorem dX8_reads_38 : decode cX8_reads 38 = .ok (.ifCond .eq 9, 3) := by decide +kernel
theorem dX8_reads_41 : decode cX8_reads 41 = .ok (.aload_n 0, 1) := by decide +kernel
theorem dX8_reads_42 : decode cX8_reads 42 = .ok (.iconst 1, 1) := by decide +kernel
theorem dX8_reads_43 : decode cX8_reads 43 = .ok (.invokevirtual 113, 3) := by decide +kernel
theorem dX8_reads_46 : decode cX8_reads 46 = .ok (.ireturn, 1) := by decide +kernel
theorem dX8_reads_47 : decode cX8_reads 47 = .ok (.aload_n 0, 1) := by decide +kernel
theorem dX8_reads_48 : decode cX8_reads 48 = .ok (.invokevirtual 117, 3) := by decide +kernel
theorem dX8_reads_51 : decode cX8_reads 51 = .ok (.aload_n 0, 1) := by decide +kernel
theorem dX8_reads_52 : decode cX8_reads 52 = .ok (.iconst 1, 1) := by decide +kernel
theorem dX8_reads_53 : decode cX8_reads 53 = .ok (.iconst 0, 1) := by decide +kernel
theorem dX8_reads_54 : decode cX8_reads 54 = .ok (.bipush 20, 2) := by decide +kernel
theorem dX8_reads_56 : decode cX8_reads 56 = .ok (.invokevirtual 120, 3) := by decide +kernel
theorem dX8_reads_59 : decode cX8_reads 59 = .ok (.ifCond .eq 10, 3) := by decide +kernel
theorem dX8_reads_62 : decode cX8_reads 62 = .ok (.aload_n 0, 1) := by decide +kernel
theorem dX8_reads_63 : decode cX8_reads 63 = .ok (.invokevirtual 128, 3) := by decide +kernel
theorem dX8_reads_66 : decode cX8_reads 66 = .ok (.ifCond .ne 5, 3) := by decide +kernel
theorem dX8_reads_69 : decode cX8_reads 69 = .ok (.iconst 0, 1) := by decide +kernel
theorem dX8_reads_70 : decode cX8_reads 70 = .ok (.ireturn, 1) := by decide +kernel
theorem dX8_reads_71 : decode cX8_reads 71 = .ok (.aload_n 0, 1) := by decide +kernel
theorem dX8_reads_72 : decode cX8_reads 72 = .ok (.invokevirtual 131, 3) := by decide +kernel
theorem dX8_reads_75 : decode cX8_reads 75 = .ok (.ldc2_w 147, 3) := by decide +kernel
theorem dX8_reads_78 : decode cX8_reads 78 = .ok (.lcmp, 1) := by decide +kernel
theorem dX8_reads_79 : decode cX8_reads 79 = .ok (.ifCond .ne 12, 3) := by decide +kernel
theorem dX8_reads_82 : decode cX8_reads 82 = .ok (.aload_n 0, 1) := by decide +kernel
theorem dX8_reads_83 : decode cX8_reads 83 = .ok (.invokevirtual 149, 3) := by decide +kernel
theorem dX8_reads_86 : decode cX8_reads 86 = .ok (.ifCond .ne (-15), 3) := by decide +kernel
theorem dX8_reads_89 : decode cX8_reads 89 = .ok (.iconst 0, 1) := by decide +kernel
theorem dX8_reads_90 : decode cX8_reads 90 = .ok (.ireturn, 1) := by decide +kernel
theorem dX8_reads_91 : decode cX8_reads 91 = .ok (.aload_n 0, 1) := by decide +kernel
theorem dX8_reads_92 : decode cX8_reads 92 = .ok (.invokevirtual 131, 3) := by decide +kernel
theorem dX8_reads_95 : decode cX8_reads 95 = .ok (.ldc2_w 152, 3) := by decide +kernel
theorem dX8_reads_98 : decode cX8_reads 98 = .ok (.lcmp, 1) := by decide +kernel
theorem dX8_reads_99 : decode cX8_reads 99 = .ok (.ifCond .ne 12, 3) := by decide +kernel
theorem dX8_reads_102 : decode cX8_reads 102 = .ok (.aload_n 0, 1) := by decide +kernel
theorem dX8_reads_103 : decode cX8_reads 103 = .ok (.invokevirtual 154, 3) := by decide +kernel
theorem dX8_reads_106 : decode cX8_reads 106 = .ok (.ifCond .ne (-15), 3) := by decide +kernel
theorem dX8_reads_109 : decode cX8_reads 109 = .ok (.iconst 0, 1) := by decide +kernel
theorem dX8_reads_110 : decode cX8_reads 110 = .ok (.ireturn, 1) := by decide +kernel
theorem dX8_reads_111 : decode cX8_reads 111 = .ok (.aload_n 0, 1) := by decide +kernel
theorem dX8_reads_112 : decode cX8_reads 112 = .ok (.getfield 102, 3) := by decide +kernel
theorem dX8_reads_115 : decode cX8_reads 115 = .ok (.ifCond .eq 11, 3) := by decide +kernel
theorem dX8_reads_118 : decode cX8_reads 118 = .ok (.aload_n 0, 1) := by decide +kernel
theorem dX8_reads_119 : decode cX8_reads 119 = .ok (.iconst 1, 1) := by decide +kernel
theorem dX8_reads_120 : decode cX8_reads 120 = .ok (.invokevirtual 113, 3) := by decide +kernel
theorem dX8_reads_123 : decode cX8_reads 123 = .ok (.ifCond .eq 7, 3) := by decide +kernel
theorem dX8_reads_126 : decode cX8_reads 126 = .ok (.iconst 1, 1) := by decide +kernel
theorem dX8_reads_127 : decode cX8_reads 127 = .ok (.goto 4, 3) := by decide +kernel
theorem dX8_reads_130 : decode cX8_reads 130 = .ok (.iconst 0, 1) := by decide +kernel
theorem dX8_reads_131 : decode cX8_reads 131 = .ok (.ireturn, 1) := by decide +kernel
theorem dX8_square_0 : decode cX8_square 0 = .ok (.aload_n 0, 1) := by decide +kernel
theorem dX8_square_1 : decode cX8_square 1 = .ok (.invokevirtual 157, 3) := by decide +kernel
theorem dX8_square_4 : decode cX8_square 4 = .ok (.istore_n 1, 1) := by decide +kernel
theorem dX8_square_5 : decode cX8_square 5 = .ok (.aload_n 0, 1) := by decide +kernel
theorem dX8_square_6 : decode cX8_square 6 = .ok (.iconst 0, 1) := by decide +kernel
theorem dX8_square_7 : decode cX8_square 7 = .ok (.putfield 76, 3) := by decide +kernel
theorem dX8_square_10 : decode cX8_square 10 = .ok (.iload_n 1, 1) := by decide +kernel
theorem dX8_square_11 : decode cX8_square 11 = .ok (.ifCond .ne 19, 3) := by decide +kernel
theorem dX8_square_14 : decode cX8_square 14 = .ok (.aload_n 0, 1) := by decide +kernel
theorem dX8_square_15 : decode cX8_square 15 = .ok (.aload_n 0, 1) := by decide +kernel
theorem dX8_square_16 : decode cX8_square 16 = .ok (.getfield 110, 3) := by decide +kernel
theorem dX8_square_19 : decode cX8_square 19 = .ok (.putfield 160, 3) := by decide +kernel
theorem dX8_square_22 : decode cX8_square 22 = .ok (.ldc 163, 2) := by decide +kernel
theorem dX8_square_24 : decode cX8_square 24 = .ok (.aload_n 0, 1) := by decide +kernel
theorem dX8_square_25 : decode cX8_square 25 = .ok (.getfield 96, 3) := by decide +kernel
theorem dX8_square_28 : decode cX8_square 28 = .ok (.isub, 1) := by decide +kernel
theorem dX8_square_29 : decode cX8_square 29 = .ok (.ireturn, 1) := by decide +kernel
theorem dX8_square_30 : decode cX8_square 30 = .ok (.iconst 0, 1) := by decide +kernel
theorem dX8_square_31 : decode cX8_square 31 = .ok (.istore_n 2, 1) := by decide +kernel
theorem dX8_square_32 : decode cX8_square 32 = .ok (.iload_n 2, 1) := by decide +kernel
theorem dX8_square_33 : decode cX8_square 33 = .ok (.bipush 39, 2) := by decide +kernel
theorem dX8_square_35 : decode cX8_square 35 = .ok (.if_icmp .ge 21, 3) := by decide +kernel
theorem dX8_square_38 : decode cX8_square 38 = .ok (.aload_n 0, 1) := by decide +kernel
theorem dX8_square_39 : decode cX8_square 39 = .ok (.getfield 22, 3) := by decide +kernel
theorem dX8_square_42 : decode cX8_square 42 = .ok (.iload_n 2, 1) := by decide +kernel
theorem dX8_square_43 : decode cX8_square 43 = .ok (.aload_n 0, 1) := by decide +kernel
theorem dX8_square_44 : decode cX8_square 44 = .ok (.getfield 25, 3) := by decide +kernel
theorem dX8_square_47 : decode cX8_square 47 = .ok (.iload_n 2, 1) := by decide +kernel
theorem dX8_square_48 : decode cX8_square 48 = .ok (.iaload, 1) := by decide +kernel
theorem dX8_square_49 : decode cX8_square 49 = .ok (.iastore, 1) := by decide +kernel
theorem dX8_square_50 : decode cX8_square 50 = .ok (.iinc 2 1, 3) := by decide +kernel
theorem dX8_square_53 : decode cX8_square 53 = .ok (.goto (-21), 3) := by decide +kernel
theorem dX8_square_56 : decode cX8_square 56 = .ok (.aload_n 0, 1) := by decide +kernel
theorem dX8_square_57 : decode cX8_square 57 = .ok (.getfield 22, 3) := by decide +kernel
theorem dX8_square_60 : decode cX8_square 60 = .ok (.iconst 0, 1) := by decide +kernel
theorem dX8_square_61 : decode cX8_square 61 = .ok (.iconst 1, 1) := by decide +kernel
theorem dX8_square_62 : decode cX8_square 62 = .ok (.iastore, 1) := by decide +kernel
theorem dX8_square_63 : decode cX8_square 63 = .ok (.aload_n 0, 1) := by decide +kernel
theorem dX8_square_64 : decode cX8_square 64 = .ok (.iconst 0, 1) := by decide +kernel
theorem dX8_square_65 : decode cX8_square 65 = .ok (.putfield 164, 3) := by decide +kernel
theorem dX8_square_68 : decode cX8_square 68 = .ok (.aload_n 0, 1) := by decide +kernel
theorem dX8_square_69 : decode cX8_square 69 = .ok (.getfield 22, 3) := by decide +kernel
theorem dX8_square_72 : decode cX8_square 72 = .ok (.iconst 3, 1) := by decide +kernel
theorem dX8_square_73 : decode cX8_square 73 = .ok (.iaload, 1) := by decide +kernel
theorem dX8_square_74 : decode cX8_square 74 = .ok (.ireturn, 1) := by decide +kernel
theorem dX8_fault_0 : decode cX8_fault 0 = .ok (.aload_n 0, 1) := by decide +kernel
theorem dX8_fault_1 : decode cX8_fault 1 = .ok (.getfield 160, 3) := by decide +kernel
theorem dX8_fault_4 : decode cX8_fault 4 = .ok (.ireturn, 1) := by decide +kernel
theorem dX8_isChild_0 : decode cX8_isChild 0 = .ok (.iload_n 1, 1) := by decide +kernel
theorem dX8_isChild_1 : decode cX8_isChild 1 = .ok (.i2l, 1) := by decide +kernel
theorem dX8_isChild_2 : decode cX8_isChild 2 = .ok (.lconst 0, 1) := by decide +kernel
theorem dX8_isChild_3 : decode cX8_isChild 3 = .ok (.aload_n 0, 1) := by decide +kernel
theorem dX8_isChild_4 : decode cX8_isChild 4 = .ok (.getfield 22, 3) := by decide +kernel
theorem dX8_isChild_7 : decode cX8_isChild 7 = .ok (.iconst 3, 1) := by decide +kernel
theorem dX8_isChild_8 : decode cX8_isChild 8 = .ok (.iaload, 1) := by decide +kernel
theorem dX8_isChild_9 : decode cX8_isChild 9 = .ok (.iconst 1, 1) := by decide +kernel
theorem dX8_isChild_10 : decode cX8_isChild 10 = .ok (.isub, 1) := by decide +kernel
theorem dX8_isChild_11 : decode cX8_isChild 11 = .ok (.i2l, 1) := by decide +kernel
theorem dX8_isChild_12 : decode cX8_isChild 12 = .ok (.invokestatic 60, 3) := by decide +kernel
theorem dX8_isChild_15 : decode cX8_isChild 15 = .ok (.ireturn, 1) := by decide +kernel
theorem dX8_isCell_0 : decode cX8_isCell 0 = .ok (.iload_n 0, 1) := by decide +kernel
theorem dX8_isCell_1 : decode cX8_isCell 1 = .ok (.i2l, 1) := by decide +kernel
theorem dX8_isCell_2 : decode cX8_isCell 2 = .ok (.lconst 0, 1) := by decide +kernel
theorem dX8_isCell_3 : decode cX8_isCell 3 = .ok (.ldc2_w 167, 3) := by decide +kernel
theorem dX8_isCell_6 : decode cX8_isCell 6 = .ok (.invokestatic 60, 3) := by decide +kernel
theorem dX8_isCell_9 : decode cX8_isCell 9 = .ok (.ireturn, 1) := by decide +kernel
theorem dX8_isThrow_0 : decode cX8_isThrow 0 = .ok (.iload_n 0, 1) := by decide +kernel
theorem dX8_isThrow_1 : decode cX8_isThrow 1 = .ok (.invokestatic 169, 3) := by decide +kernel
theorem dX8_isThrow_4 : decode cX8_isThrow 4 = .ok (.ifCond .eq 19, 3) := by decide +kernel
theorem dX8_isThrow_7 : decode cX8_isThrow 7 = .ok (.iload_n 1, 1) := by decide +kernel
theorem dX8_isThrow_8 : decode cX8_isThrow 8 = .ok (.i2l, 1) := by decide +kernel
theorem dX8_isThrow_9 : decode cX8_isThrow 9 = .ok (.lconst 0, 1) := by decide +kernel
theorem dX8_isThrow_10 : decode cX8_isThrow 10 = .ok (.ldc2_w 64, 3) := by decide +kernel
theorem dX8_isThrow_13 : decode cX8_isThrow 13 = .ok (.invokestatic 60, 3) := by decide +kernel
theorem dX8_isThrow_16 : decode cX8_isThrow 16 = .ok (.ifCond .eq 7, 3) := by decide +kernel
theorem dX8_isThrow_19 : decode cX8_isThrow 19 = .ok (.iconst 1, 1) := by decide +kernel
theorem dX8_isThrow_20 : decode cX8_isThrow 20 = .ok (.goto 4, 3) := by decide +kernel
theorem dX8_isThrow_23 : decode cX8_isThrow 23 = .ok (.iconst 0, 1) := by decide +kernel
theorem dX8_isThrow_24 : decode cX8_isThrow 24 = .ok (.ireturn, 1) := by decide +kernel
theorem dX8_lays_0 : decode cX8_lays 0 = .ok (.aload_n 0, 1) := by decide +kernel
theorem dX8_lays_1 : decode cX8_lays 1 = .ok (.aload_n 0, 1) := by decide +kernel
theorem dX8_lays_2 : decode cX8_lays 2 = .ok (.getfield 22, 3) := by decide +kernel
theorem dX8_lays_5 : decode cX8_lays 5 = .ok (.iconst 1, 1) := by decide +kernel
theorem dX8_lays_6 : decode cX8_lays 6 = .ok (.iaload, 1) := by decide +kernel
theorem dX8_lays_7 : decode cX8_lays 7 = .ok (.putfield 172, 3) := by decide +kernel
theorem dX8_lays_10 : decode cX8_lays 10 = .ok (.iconst 0, 1) := by decide +kernel
theorem dX8_lays_11 : decode cX8_lays 11 = .ok (.istore_n 1, 1) := by decide +kernel
theorem dX8_lays_12 : decode cX8_lays 12 = .ok (.iload_n 1, 1) := by decide +kernel
theorem dX8_lays_13 : decode cX8_lays 13 = .ok (.iconst 5, 1) := by decide +kernel
theorem dX8_lays_14 : decode cX8_lays 14 = .ok (.if_icmp .ge 24, 3) := by decide +kernel
theorem dX8_lays_17 : decode cX8_lays 17 = .ok (.aload_n 0, 1) := by decide +kernel
theorem dX8_lays_18 : decode cX8_lays 18 = .ok (.getfield 41, 3) := by decide +kernel
theorem dX8_lays_21 : decode cX8_lays 21 = .ok (.iload_n 1, 1) := by decide +kernel
theorem dX8_lays_22 : decode cX8_lays 22 = .ok (.aload_n 0, 1) := by decide +kernel
theorem dX8_lays_23 : decode cX8_lays 23 = .ok (.getfield 22, 3) := by decide +kernel
theorem dX8_lays_26 : decode cX8_lays 26 = .ok (.bipush 15, 2) := by decide +kernel
theorem dX8_lays_28 : decode cX8_lays 28 = .ok (.iload_n 1, 1) := by decide +kernel
theorem dX8_lays_29 : decode cX8_lays 29 = .ok (.iadd, 1) := by decide +kernel
theorem dX8_lays_30 : decode cX8_lays 30 = .ok (.iaload, 1) := by decide +kernel
theorem dX8_lays_31 : decode cX8_lays 31 = .ok (.iastore, 1) := by decide +kernel
theorem dX8_lays_32 : decode cX8_lays 32 = .ok (.iinc 1 1, 3) := by decide +kernel
theorem dX8_lays_35 : decode cX8_lays 35 = .ok (.goto (-23), 3) := by decide +kernel
theorem dX8_lays_38 : decode cX8_lays 38 = .ok (.return_, 1) := by decide +kernel
theorem dX8_far_0 : decode cX8_far 0 = .ok (.iload_n 0, 1) := by decide +kernel
theorem dX8_far_1 : decode cX8_far 1 = .ok (.bipush 6, 2) := by decide +kernel
theorem dX8_far_3 : decode cX8_far 3 = .ok (.irem, 1) := by decide +kernel
theorem dX8_far_4 : decode cX8_far 4 = .ok (.iload_n 1, 1) := by decide +kernel
theorem dX8_far_5 : decode cX8_far 5 = .ok (.bipush 6, 2) := by decide +kernel
theorem dX8_far_7 : decode cX8_far 7 = .ok (.irem, 1) := by decide +kernel
theorem dX8_far_8 : decode cX8_far 8 = .ok (.isub, 1) := by decide +kernel
theorem dX8_far_9 : decode cX8_far 9 = .ok (.istore_n 2, 1) := by decide +kernel
theorem dX8_far_10 : decode cX8_far 10 = .ok (.iload_n 0, 1) := by decide +kernel
theorem dX8_far_11 : decode cX8_far 11 = .ok (.bipush 6, 2) := by decide +kernel
theorem dX8_far_13 : decode cX8_far 13 = .ok (.idiv, 1) := by decide +kernel
theorem dX8_far_14 : decode cX8_far 14 = .ok (.iload_n 1, 1) := by decide +kernel
theorem dX8_far_15 : decode cX8_far 15 = .ok (.bipush 6, 2) := by decide +kernel
theorem dX8_far_17 : decode cX8_far 17 = .ok (.idiv, 1) := by decide +kernel
theorem dX8_far_18 : decode cX8_far 18 = .ok (.isub, 1) := by decide +kernel
theorem dX8_far_19 : decode cX8_far 19 = .ok (.istore_n 3, 1) := by decide +kernel
theorem dX8_far_20 : decode cX8_far 20 = .ok (.iload_n 2, 1) := by decide +kernel
theorem dX8_far_21 : decode cX8_far 21 = .ok (.ifCond .ge 8, 3) := by decide +kernel
theorem dX8_far_24 : decode cX8_far 24 = .ok (.iload_n 2, 1) := by decide +kernel
theorem dX8_far_25 : decode cX8_far 25 = .ok (.ineg, 1) := by decide +kernel
theorem dX8_far_26 : decode cX8_far 26 = .ok (.goto 4, 3) := by decide +kernel
theorem dX8_far_29 : decode cX8_far 29 = .ok (.iload_n 2, 1) := by decide +kernel
theorem dX8_far_30 : decode cX8_far 30 = .ok (.iload_n 3, 1) := by decide +kernel
theorem dX8_far_31 : decode cX8_far 31 = .ok (.ifCond .ge 8, 3) := by decide +kernel
theorem dX8_far_34 : decode cX8_far 34 = .ok (.iload_n 3, 1) := by decide +kernel
theorem dX8_far_35 : decode cX8_far 35 = .ok (.ineg, 1) := by decide +kernel
theorem dX8_far_36 : decode cX8_far 36 = .ok (.goto 4, 3) := by decide +kernel
theorem dX8_far_39 : decode cX8_far 39 = .ok (.iload_n 3, 1) := by decide +kernel
theorem dX8_far_40 : decode cX8_far 40 = .ok (.iadd, 1) := by decide +kernel
theorem dX8_far_41 : decode cX8_far 41 = .ok (.ireturn, 1) := by decide +kernel
theorem dX8_powerOf_0 : decode cX8_powerOf 0 = .ok (.aload_n 0, 1) := by decide +kernel
theorem dX8_powerOf_1 : decode cX8_powerOf 1 = .ok (.getfield 41, 3) := by decide +kernel
theorem dX8_powerOf_4 : decode cX8_powerOf 4 = .ok (.iload_n 1, 1) := by decide +kernel
theorem dX8_powerOf_5 : decode cX8_powerOf 5 = .ok (.iaload, 1) := by decide +kernel
theorem dX8_powerOf_6 : decode cX8_powerOf 6 = .ok (.iload_n 2, 1) := by decide +kernel
theorem dX8_powerOf_7 : decode cX8_powerOf 7 = .ok (.invokestatic 175, 3) := by decide +kernel
theorem dX8_powerOf_10 : decode cX8_powerOf 10 = .ok (.istore_n 3, 1) := by decide +kernel
theorem dX8_powerOf_11 : decode cX8_powerOf 11 = .ok (.aload_n 0, 1) := by decide +kernel
theorem dX8_powerOf_12 : decode cX8_powerOf 12 = .ok (.getfield 22, 3) := by decide +kernel
theorem dX8_powerOf_15 : decode cX8_powerOf 15 = .ok (.iconst 5, 1) := by decide +kernel
theorem dX8_powerOf_16 : decode cX8_powerOf 16 = .ok (.iload_n 1, 1) := by decide +kernel
theorem dX8_powerOf_17 : decode cX8_powerOf 17 = .ok (.iadd, 1) := by decide +kernel
theorem dX8_powerOf_18 : decode cX8_powerOf 18 = .ok (.iaload, 1) := by decide +kernel
theorem dX8_powerOf_19 : decode cX8_powerOf 19 = .ok (.istore 4, 2) := by decide +kernel
theorem dX8_powerOf_21 : decode cX8_powerOf 21 = .ok (.aload_n 0, 1) := by decide +kernel
theorem dX8_powerOf_22 : decode cX8_powerOf 22 = .ok (.getfield 22, 3) := by decide +kernel
theorem dX8_powerOf_25 : decode cX8_powerOf 25 = .ok (.bipush 10, 2) := by decide +kernel
theorem dX8_powerOf_27 : decode cX8_powerOf 27 = .ok (.iload_n 1, 1) := by decide +kernel
theorem dX8_powerOf_28 : decode cX8_powerOf 28 = .ok (.iadd, 1) := by decide +kernel
theorem dX8_powerOf_29 : decode cX8_powerOf 29 = .ok (.iaload, 1) := by decide +kernel
theorem dX8_powerOf_30 : decode cX8_powerOf 30 = .ok (.istore 5, 2) := by decide +kernel
theorem dX8_powerOf_32 : decode cX8_powerOf 32 = .ok (.iload 4, 2) := by decide +kernel
theorem dX8_powerOf_34 : decode cX8_powerOf 34 = .ok (.iconst 5, 1) := by decide +kernel
theorem dX8_powerOf_35 : decode cX8_powerOf 35 = .ok (.if_icmp .ne 12, 3) := by decide +kernel
theorem dX8_powerOf_38 : decode cX8_powerOf 38 = .ok (.iload 5, 2) := by decide +kernel
theorem dX8_powerOf_40 : decode cX8_powerOf 40 = .ok (.iconst 3, 1) := by decide +kernel
theorem dX8_powerOf_41 : decode cX8_powerOf 41 = .ok (.iload_n 3, 1) := by decide +kernel
theorem dX8_powerOf_42 : decode cX8_powerOf 42 = .ok (.isub, 1) := by decide +kernel
theorem dX8_powerOf_43 : decode cX8_powerOf 43 = .ok (.imul, 1) := by decide +kernel
theorem dX8_powerOf_44 : decode cX8_powerOf 44 = .ok (.goto 51, 3) := by decide +kernel
theorem dX8_powerOf_47 : decode cX8_powerOf 47 = .ok (.iload 4, 2) := by decide +kernel
theorem dX8_powerOf_49 : decode cX8_powerOf 49 = .ok (.iconst 4, 1) := by decide +kernel
theorem dX8_powerOf_50 : decode cX8_powerOf 50 = .ok (.if_icmp .ne 12, 3) := by decide +kernel
theorem dX8_powerOf_53 : decode cX8_powerOf 53 = .ok (.iload 5, 2) := by decide +kernel
theorem dX8_powerOf_55 : decode cX8_powerOf 55 = .ok (.iconst 2, 1) := by decide +kernel
theorem dX8_powerOf_56 : decode cX8_powerOf 56 = .ok (.iload_n 3, 1) := by decide +kernel
theorem dX8_powerOf_57 : decode cX8_powerOf 57 = .ok (.isub, 1) := by decide +kernel
theorem dX8_powerOf_58 : decode cX8_powerOf 58 = .ok (.imul, 1) := by decide +kernel
theorem dX8_powerOf_59 : decode cX8_powerOf 59 = .ok (.goto 36, 3) := by decide +kernel
theorem dX8_powerOf_62 : decode cX8_powerOf 62 = .ok (.iload 4, 2) := by decide +kernel
theorem dX8_powerOf_64 : decode cX8_powerOf 64 = .ok (.iconst 2, 1) := by decide +kernel
theorem dX8_powerOf_65 : decode cX8_powerOf 65 = .ok (.if_icmp .ne 19, 3) := by decide +kernel
theorem dX8_powerOf_68 : decode cX8_powerOf 68 = .ok (.iconst 2, 1) := by decide +kernel
theorem dX8_powerOf_69 : decode cX8_powerOf 69 = .ok (.iload 5, 2) := by decide +kernel
theorem dX8_powerOf_71 : decode cX8_powerOf 71 = .ok (.imul, 1) := by decide +kernel
theorem dX8_powerOf_72 : decode cX8_powerOf 72 = .ok (.iconst 2, 1) := by decide +kernel
theorem dX8_powerOf_73 : decode cX8_powerOf 73 = .ok (.iload_n 3, 1) := by decide +kernel
theorem dX8_powerOf_74 : decode cX8_powerOf 74 = .ok (.isub, 1) := by decide +kernel
theorem dX8_powerOf_75 : decode cX8_powerOf 75 = .ok (.imul, 1) := by decide +kernel
theorem dX8_powerOf_76 : decode cX8_powerOf 76 = .ok (.aload_n 0, 1) := by decide +kernel
theorem dX8_powerOf_77 : decode cX8_powerOf 77 = .ok (.getfield 172, 3) := by decide +kernel
theorem dX8_powerOf_80 : decode cX8_powerOf 80 = .ok (.isub, 1) := by decide +kernel
theorem dX8_powerOf_81 : decode cX8_powerOf 81 = .ok (.goto 14, 3) := by decide +kernel
theorem dX8_powerOf_84 : decode cX8_powerOf 84 = .ok (.iload 5, 2) := by decide +kernel
theorem dX8_powerOf_86 : decode cX8_powerOf 86 = .ok (.iconst 2, 1) := by decide +kernel
theorem dX8_powerOf_87 : decode cX8_powerOf 87 = .ok (.iload_n 3, 1) := by decide +kernel
theorem dX8_powerOf_88 : decode cX8_powerOf 88 = .ok (.isub, 1) := by decide +kernel
theorem dX8_powerOf_89 : decode cX8_powerOf 89 = .ok (.imul, 1) := by decide +kernel
theorem dX8_powerOf_90 : decode cX8_powerOf 90 = .ok (.aload_n 0, 1) := by decide +kernel
theorem dX8_powerOf_91 : decode cX8_powerOf 91 = .ok (.getfield 172, 3) := by decide +kernel
theorem dX8_powerOf_94 : decode cX8_powerOf 94 = .ok (.isub, 1) := by decide +kernel
theorem dX8_powerOf_95 : decode cX8_powerOf 95 = .ok (.istore 6, 2) := by decide +kernel
theorem dX8_powerOf_97 : decode cX8_powerOf 97 = .ok (.iload 4, 2) := by decide +kernel
theorem dX8_powerOf_99 : decode cX8_powerOf 99 = .ok (.iconst 3, 1) := by decide +kernel
theorem dX8_powerOf_100 : decode cX8_powerOf 100 = .ok (.if_icmp .ne 7, 3) := by decide +kernel
theorem dX8_powerOf_103 : decode cX8_powerOf 103 = .ok (.iload_n 3, 1) := by decide +kernel
theorem dX8_powerOf_104 : decode cX8_powerOf 104 = .ok (.ifCond .gt 8, 3) := by decide +kernel
theorem dX8_powerOf_107 : decode cX8_powerOf 107 = .ok (.iload 6, 2) := by decide +kernel
theorem dX8_powerOf_109 : decode cX8_powerOf 109 = .ok (.ifCond .ge 7, 3) := by decide +kernel
theorem dX8_powerOf_112 : decode cX8_powerOf 112 = .ok (.iconst 0, 1) := by decide +kernel
theorem dX8_powerOf_113 : decode cX8_powerOf 113 = .ok (.goto 5, 3) := by decide +kernel
theorem dX8_powerOf_116 : decode cX8_powerOf 116 = .ok (.iload 6, 2) := by decide +kernel
theorem dX8_powerOf_118 : decode cX8_powerOf 118 = .ok (.ireturn, 1) := by decide +kernel
theorem dX8_pickerOf_0 : decode cX8_pickerOf 0 = .ok (.ldc 179, 2) := by decide +kernel
theorem dX8_pickerOf_2 : decode cX8_pickerOf 2 = .ok (.istore_n 2, 1) := by decide +kernel
theorem dX8_pickerOf_3 : decode cX8_pickerOf 3 = .ok (.iconst 0, 1) := by decide +kernel
theorem dX8_pickerOf_4 : decode cX8_pickerOf 4 = .ok (.istore_n 3, 1) := by decide +kernel
theorem dX8_pickerOf_5 : decode cX8_pickerOf 5 = .ok (.iconst 0, 1) := by decide +kernel
theorem dX8_pickerOf_6 : decode cX8_pickerOf 6 = .ok (.istore 4, 2) := by decide +kernel
theorem dX8_pickerOf_8 : decode cX8_pickerOf 8 = .ok (.iload 4, 2) := by decide +kernel
theorem dX8_pickerOf_10 : decode cX8_pickerOf 10 = .ok (.aload_n 0, 1) := by decide +kernel
theorem dX8_pickerOf_11 : decode cX8_pickerOf 11 = .ok (.getfield 22, 3) := by decide +kernel
theorem dX8_pickerOf_14 : decode cX8_pickerOf 14 = .ok (.iconst 3, 1) := by decide +kernel
theorem dX8_pickerOf_15 : decode cX8_pickerOf 15 = .ok (.iaload, 1) := by decide +kernel
theorem dX8_pickerOf_16 : decode cX8_pickerOf 16 = .ok (.if_icmp .ge 57, 3) := by decide +kernel
theorem dX8_pickerOf_19 : decode cX8_pickerOf 19 = .ok (.aload_n 0, 1) := by decide +kernel
theorem dX8_pickerOf_20 : decode cX8_pickerOf 20 = .ok (.getfield 22, 3) := by decide +kernel
theorem dX8_pickerOf_23 : decode cX8_pickerOf 23 = .ok (.iconst 4, 1) := by decide +kernel
theorem dX8_pickerOf_24 : decode cX8_pickerOf 24 = .ok (.iaload, 1) := by decide +kernel
theorem dX8_pickerOf_25 : decode cX8_pickerOf 25 = .ok (.iload_n 1, 1) := by decide +kernel
theorem dX8_pickerOf_26 : decode cX8_pickerOf 26 = .ok (.ishr, 1) := by decide +kernel
theorem dX8_pickerOf_27 : decode cX8_pickerOf 27 = .ok (.iconst 1, 1) := by decide +kernel
theorem dX8_pickerOf_28 : decode cX8_pickerOf 28 = .ok (.iand, 1) := by decide +kernel
theorem dX8_pickerOf_29 : decode cX8_pickerOf 29 = .ok (.ifCond .ne 44, 3) := by decide +kernel
theorem dX8_pickerOf_32 : decode cX8_pickerOf 32 = .ok (.aload_n 0, 1) := by decide +kernel
theorem dX8_pickerOf_33 : decode cX8_pickerOf 33 = .ok (.iload 4, 2) := by decide +kernel
theorem dX8_pickerOf_35 : decode cX8_pickerOf 35 = .ok (.iload_n 1, 1) := by decide +kernel
theorem dX8_pickerOf_36 : decode cX8_pickerOf 36 = .ok (.invokevirtual 180, 3) := by decide +kernel
theorem dX8_pickerOf_39 : decode cX8_pickerOf 39 = .ok (.istore 5, 2) := by decide +kernel
theorem dX8_pickerOf_41 : decode cX8_pickerOf 41 = .ok (.iload 5, 2) := by decide +kernel
theorem dX8_pickerOf_43 : decode cX8_pickerOf 43 = .ok (.iload_n 3, 1) := by decide +kernel
theorem dX8_pickerOf_44 : decode cX8_pickerOf 44 = .ok (.if_icmp .le 8, 3) := by decide +kernel
theorem dX8_pickerOf_47 : decode cX8_pickerOf 47 = .ok (.iload 4, 2) := by decide +kernel
theorem dX8_pickerOf_49 : decode cX8_pickerOf 49 = .ok (.goto 4, 3) := by decide +kernel
theorem dX8_pickerOf_52 : decode cX8_pickerOf 52 = .ok (.iload_n 2, 1) := by decide +kernel
theorem dX8_pickerOf_53 : decode cX8_pickerOf 53 = .ok (.istore_n 2, 1) := by decide +kernel
theorem dX8_pickerOf_54 : decode cX8_pickerOf 54 = .ok (.iload 5, 2) := by decide +kernel
theorem dX8_pickerOf_56 : decode cX8_pickerOf 56 = .ok (.iload_n 3, 1) := by decide +kernel
theorem dX8_pickerOf_57 : decode cX8_pickerOf 57 = .ok (.if_icmp .le 8, 3) := by decide +kernel
theorem dX8_pickerOf_60 : decode cX8_pickerOf 60 = .ok (.iload 5, 2) := by decide +kernel
theorem dX8_pickerOf_62 : decode cX8_pickerOf 62 = .ok (.goto 4, 3) := by decide +kernel
theorem dX8_pickerOf_65 : decode cX8_pickerOf 65 = .ok (.iload_n 3, 1) := by decide +kernel
theorem dX8_pickerOf_66 : decode cX8_pickerOf 66 = .ok (.istore_n 3, 1) := by decide +kernel
theorem dX8_pickerOf_67 : decode cX8_pickerOf 67 = .ok (.iinc 4 1, 3) := by decide +kernel
theorem dX8_pickerOf_70 : decode cX8_pickerOf 70 = .ok (.goto (-62), 3) := by decide +kernel
theorem dX8_pickerOf_73 : decode cX8_pickerOf 73 = .ok (.iload_n 2, 1) := by decide +kernel
theorem dX8_pickerOf_74 : decode cX8_pickerOf 74 = .ok (.ireturn, 1) := by decide +kernel
theorem dX8_laysPicks_0 : decode cX8_laysPicks 0 = .ok (.iconst 0, 1) := by decide +kernel
theorem dX8_laysPicks_1 : decode cX8_laysPicks 1 = .ok (.istore_n 1, 1) := by decide +kernel
theorem dX8_laysPicks_2 : decode cX8_laysPicks 2 = .ok (.iload_n 1, 1) := by decide +kernel
theorem dX8_laysPicks_3 : decode cX8_laysPicks 3 = .ok (.bipush 30, 2) := by decide +kernel
theorem dX8_laysPicks_5 : decode cX8_laysPicks 5 = .ok (.if_icmp .ge 20, 3) := by decide +kernel
theorem dX8_laysPicks_8 : decode cX8_laysPicks 8 = .ok (.aload_n 0, 1) := by decide +kernel
theorem dX8_laysPicks_9 : decode cX8_laysPicks 9 = .ok (.getfield 44, 3) := by decide +kernel
theorem dX8_laysPicks_12 : decode cX8_laysPicks 12 = .ok (.iload_n 1, 1) := by decide +kernel
theorem dX8_laysPicks_13 : decode cX8_laysPicks 13 = .ok (.aload_n 0, 1) := by decide +kernel
theorem dX8_laysPicks_14 : decode cX8_laysPicks 14 = .ok (.iload_n 1, 1) := by decide +kernel
theorem dX8_laysPicks_15 : decode cX8_laysPicks 15 = .ok (.invokevirtual 183, 3) := by decide +kernel
theorem dX8_laysPicks_18 : decode cX8_laysPicks 18 = .ok (.iastore, 1) := by decide +kernel
theorem dX8_laysPicks_19 : decode cX8_laysPicks 19 = .ok (.iinc 1 1, 3) := by decide +kernel
theorem dX8_laysPicks_22 : decode cX8_laysPicks 22 = .ok (.goto (-20), 3) := by decide +kernel
theorem dX8_laysPicks_25 : decode cX8_laysPicks 25 = .ok (.return_, 1) := by decide +kernel
theorem dX8_laysWays_0 : decode cX8_laysWays 0 = .ok (.aload_n 0, 1) := by decide +kernel
theorem dX8_laysWays_1 : decode cX8_laysWays 1 = .ok (.iconst 0, 1) := by decide +kernel
theorem dX8_laysWays_2 : decode cX8_laysWays 2 = .ok (.putfield 186, 3) := by decide +kernel
theorem dX8_laysWays_5 : decode cX8_laysWays 5 = .ok (.iload_n 1, 1) := by decide +kernel
theorem dX8_laysWays_6 : decode cX8_laysWays 6 = .ok (.bipush 6, 2) := by decide +kernel
theorem dX8_laysWays_8 : decode cX8_laysWays 8 = .ok (.irem, 1) := by decide +kernel
theorem dX8_laysWays_9 : decode cX8_laysWays 9 = .ok (.istore_n 3, 1) := by decide +kernel
theorem dX8_laysWays_10 : decode cX8_laysWays 10 = .ok (.iload_n 1, 1) := by decide +kernel
theorem dX8_laysWays_11 : decode cX8_laysWays 11 = .ok (.bipush 6, 2) := by decide +kernel
theorem dX8_laysWays_13 : decode cX8_laysWays 13 = .ok (.idiv, 1) := by decide +kernel
theorem dX8_laysWays_14 : decode cX8_laysWays 14 = .ok (.istore 4, 2) := by decide +kernel
theorem dX8_laysWays_16 : decode cX8_laysWays 16 = .ok (.iload 4, 2) := by decide +kernel
theorem dX8_laysWays_18 : decode cX8_laysWays 18 = .ok (.iload_n 2, 1) := by decide +kernel
theorem dX8_laysWays_19 : decode cX8_laysWays 19 = .ok (.isub, 1) := by decide +kernel
theorem dX8_laysWays_20 : decode cX8_laysWays 20 = .ok (.istore 5, 2) := by decide +kernel
theorem dX8_laysWays_22 : decode cX8_laysWays 22 = .ok (.iload 5, 2) := by decide +kernel
theorem dX8_laysWays_24 : decode cX8_laysWays 24 = .ok (.iload 4, 2) := by decide +kernel
theorem dX8_laysWays_26 : decode cX8_laysWays 26 = .ok (.iload_n 2, 1) := by decide +kernel
theorem dX8_laysWays_27 : decode cX8_laysWays 27 = .ok (.iadd, 1) := by decide +kernel
theorem dX8_laysWays_28 : decode cX8_laysWays 28 = .ok (.if_icmp .gt 142, 3) := by decide +kernel
theorem dX8_laysWays_31 : decode cX8_laysWays 31 = .ok (.iload_n 3, 1) := by decide +kernel
theorem dX8_laysWays_32 : decode cX8_laysWays 32 = .ok (.iload_n 2, 1) := by decide +kernel
theorem dX8_laysWays_33 : decode cX8_laysWays 33 = .ok (.isub, 1) := by decide +kernel
theorem dX8_laysWays_34 : decode cX8_laysWays 34 = .ok (.istore 6, 2) := by decide +kernel
theorem dX8_laysWays_36 : decode cX8_laysWays 36 = .ok (.iload 6, 2) := by decide +kernel
theorem dX8_laysWays_38 : decode cX8_laysWays 38 = .ok (.iload_n 3, 1) := by decide +kernel
theorem dX8_laysWays_39 : decode cX8_laysWays 39 = .ok (.iload_n 2, 1) := by decide +kernel
theorem dX8_laysWays_40 : decode cX8_laysWays 40 = .ok (.iadd, 1) := by decide +kernel
theorem dX8_laysWays_41 : decode cX8_laysWays 41 = .ok (.if_icmp .gt 123, 3) := by decide +kernel
theorem dX8_laysWays_44 : decode cX8_laysWays 44 = .ok (.iload 6, 2) := by decide +kernel
theorem dX8_laysWays_46 : decode cX8_laysWays 46 = .ok (.iload_n 3, 1) := by decide +kernel
theorem dX8_laysWays_47 : decode cX8_laysWays 47 = .ok (.if_icmp .ge 10, 3) := by decide +kernel
theorem dX8_laysWays_50 : decode cX8_laysWays 50 = .ok (.iload_n 3, 1) := by decide +kernel
theorem dX8_laysWays_51 : decode cX8_laysWays 51 = .ok (.iload 6, 2) := by decide +kernel
theorem dX8_laysWays_53 : decode cX8_laysWays 53 = .ok (.isub, 1) := by decide +kernel
theorem dX8_laysWays_54 : decode cX8_laysWays 54 = .ok (.goto 7, 3) := by decide +kernel
theorem dX8_laysWays_57 : decode cX8_laysWays 57 = .ok (.iload 6, 2) := by decide +kernel
theorem dX8_laysWays_59 : decode cX8_laysWays 59 = .ok (.iload_n 3, 1) := by decide +kernel
theorem dX8_laysWays_60 : decode cX8_laysWays 60 = .ok (.isub, 1) := by decide +kernel
theorem dX8_laysWays_61 : decode cX8_laysWays 61 = .ok (.iload 5, 2) := by decide +kernel
theorem dX8_laysWays_63 : decode cX8_laysWays 63 = .ok (.iload 4, 2) := by decide +kernel
theorem dX8_laysWays_65 : decode cX8_laysWays 65 = .ok (.if_icmp .ge 11, 3) := by decide +kernel
theorem dX8_laysWays_68 : decode cX8_laysWays 68 = .ok (.iload 4, 2) := by decide +kernel
theorem dX8_laysWays_70 : decode cX8_laysWays 70 = .ok (.iload 5, 2) := by decide +kernel
theorem dX8_laysWays_72 : decode cX8_laysWays 72 = .ok (.isub, 1) := by decide +kernel
theorem dX8_laysWays_73 : decode cX8_laysWays 73 = .ok (.goto 8, 3) := by decide +kernel
theorem dX8_laysWays_76 : decode cX8_laysWays 76 = .ok (.iload 5, 2) := by decide +kernel
theorem dX8_laysWays_78 : decode cX8_laysWays 78 = .ok (.iload 4, 2) := by decide +kernel
theorem dX8_laysWays_80 : decode cX8_laysWays 80 = .ok (.isub, 1) := by decide +kernel
theorem dX8_laysWays_81 : decode cX8_laysWays 81 = .ok (.iadd, 1) := by decide +kernel
theorem dX8_laysWays_82 : decode cX8_laysWays 82 = .ok (.istore 7, 2) := by decide +kernel
theorem dX8_laysWays_84 : decode cX8_laysWays 84 = .ok (.iload 7, 2) := by decide +kernel
theorem dX8_laysWays_86 : decode cX8_laysWays 86 = .ok (.istore 8, 2) := by decide +kernel
theorem dX8_laysWays_88 : decode cX8_laysWays 88 = .ok (.iload 8, 2) := by decide +kernel
theorem dX8_laysWays_90 : decode cX8_laysWays 90 = .ok (.iload_n 2, 1) := by decide +kernel
theorem dX8_laysWays_91 : decode cX8_laysWays 91 = .ok (.if_icmp .gt 67, 3) := by decide +kernel
theorem dX8_laysWays_94 : decode cX8_laysWays 94 = .ok (.aload_n 0, 1) := by decide +kernel
theorem dX8_laysWays_95 : decode cX8_laysWays 95 = .ok (.getfield 47, 3) := by decide +kernel
theorem dX8_laysWays_98 : decode cX8_laysWays 98 = .ok (.aload_n 0, 1) := by decide +kernel
theorem dX8_laysWays_99 : decode cX8_laysWays 99 = .ok (.getfield 186, 3) := by decide +kernel
theorem dX8_laysWays_102 : decode cX8_laysWays 102 = .ok (.iload 6, 2) := by decide +kernel
theorem dX8_laysWays_104 : decode cX8_laysWays 104 = .ok (.i2l, 1) := by decide +kernel
theorem dX8_laysWays_105 : decode cX8_laysWays 105 = .ok (.lconst 0, 1) := by decide +kernel
theorem dX8_laysWays_106 : decode cX8_laysWays 106 = .ok (.ldc2_w 189, 3) := by decide +kernel
theorem dX8_laysWays_109 : decode cX8_laysWays 109 = .ok (.invokestatic 60, 3) := by decide +kernel
theorem dX8_laysWays_112 : decode cX8_laysWays 112 = .ok (.ifCond .eq 27, 3) := by decide +kernel
theorem dX8_laysWays_115 : decode cX8_laysWays 115 = .ok (.iload 5, 2) := by decide +kernel
theorem dX8_laysWays_117 : decode cX8_laysWays 117 = .ok (.i2l, 1) := by decide +kernel
theorem dX8_laysWays_118 : decode cX8_laysWays 118 = .ok (.lconst 0, 1) := by decide +kernel
theorem dX8_laysWays_119 : decode cX8_laysWays 119 = .ok (.ldc2_w 191, 3) := by decide +kernel
theorem dX8_laysWays_122 : decode cX8_laysWays 122 = .ok (.invokestatic 60, 3) := by decide +kernel
theorem dX8_laysWays_125 : decode cX8_laysWays 125 = .ok (.ifCond .eq 14, 3) := by decide +kernel
theorem dX8_laysWays_128 : decode cX8_laysWays 128 = .ok (.bipush 6, 2) := by decide +kernel
theorem dX8_laysWays_130 : decode cX8_laysWays 130 = .ok (.iload 5, 2) := by decide +kernel
theorem dX8_laysWays_132 : decode cX8_laysWays 132 = .ok (.imul, 1) := by decide +kernel
theorem dX8_laysWays_133 : decode cX8_laysWays 133 = .ok (.iload 6, 2) := by decide +kernel
theorem dX8_laysWays_135 : decode cX8_laysWays 135 = .ok (.iadd, 1) := by decide +kernel
theorem dX8_laysWays_136 : decode cX8_laysWays 136 = .ok (.goto 5, 3) := by decide +kernel
theorem dX8_laysWays_139 : decode cX8_laysWays 139 = .ok (.ldc 179, 2) := by decide +kernel
theorem dX8_laysWays_141 : decode cX8_laysWays 141 = .ok (.iastore, 1) := by decide +kernel
theorem dX8_laysWays_142 : decode cX8_laysWays 142 = .ok (.aload_n 0, 1) := by decide +kernel
theorem dX8_laysWays_143 : decode cX8_laysWays 143 = .ok (.dup, 1) := by decide +kernel
theorem dX8_laysWays_144 : decode cX8_laysWays 144 = .ok (.getfield 186, 3) := by decide +kernel
theorem dX8_laysWays_147 : decode cX8_laysWays 147 = .ok (.iconst 1, 1) := by decide +kernel
theorem dX8_laysWays_148 : decode cX8_laysWays 148 = .ok (.iadd, 1) := by decide +kernel
theorem dX8_laysWays_149 : decode cX8_laysWays 149 = .ok (.putfield 186, 3) := by decide +kernel
theorem dX8_laysWays_152 : decode cX8_laysWays 152 = .ok (.iinc 8 1, 3) := by decide +kernel
theorem dX8_laysWays_155 : decode cX8_laysWays 155 = .ok (.goto (-67), 3) := by decide +kernel
theorem dX8_laysWays_158 : decode cX8_laysWays 158 = .ok (.iinc 6 1, 3) := by decide +kernel
theorem dX8_laysWays_161 : decode cX8_laysWays 161 = .ok (.goto (-125), 3) := by decide +kernel
theorem dX8_laysWays_164 : decode cX8_laysWays 164 = .ok (.iinc 5 1, 3) := by decide +kernel
theorem dX8_laysWays_167 : decode cX8_laysWays 167 = .ok (.goto (-145), 3) := by decide +kernel
theorem dX8_laysWays_170 : decode cX8_laysWays 170 = .ok (.return_, 1) := by decide +kernel
theorem dX8_waysOf_0 : decode cX8_waysOf 0 = .ok (.iconst 0, 1) := by decide +kernel
theorem dX8_waysOf_1 : decode cX8_waysOf 1 = .ok (.istore_n 2, 1) := by decide +kernel
theorem dX8_waysOf_2 : decode cX8_waysOf 2 = .ok (.iconst 0, 1) := by decide +kernel
theorem dX8_waysOf_3 : decode cX8_waysOf 3 = .ok (.istore_n 3, 1) := by decide +kernel
theorem dX8_waysOf_4 : decode cX8_waysOf 4 = .ok (.iload_n 3, 1) := by decide +kernel
theorem dX8_waysOf_5 : decode cX8_waysOf 5 = .ok (.aload_n 0, 1) := by decide +kernel
theorem dX8_waysOf_6 : decode cX8_waysOf 6 = .ok (.getfield 186, 3) := by decide +kernel
theorem dX8_waysOf_9 : decode cX8_waysOf 9 = .ok (.if_icmp .ge 42, 3) := by decide +kernel
theorem dX8_waysOf_12 : decode cX8_waysOf 12 = .ok (.iload_n 2, 1) := by decide +kernel
theorem dX8_waysOf_13 : decode cX8_waysOf 13 = .ok (.aload_n 0, 1) := by decide +kernel
theorem dX8_waysOf_14 : decode cX8_waysOf 14 = .ok (.getfield 47, 3) := by decide +kernel
theorem dX8_waysOf_17 : decode cX8_waysOf 17 = .ok (.iload_n 3, 1) := by decide +kernel
theorem dX8_waysOf_18 : decode cX8_waysOf 18 = .ok (.iaload, 1) := by decide +kernel
theorem dX8_waysOf_19 : decode cX8_waysOf 19 = .ok (.ldc 179, 2) := by decide +kernel
theorem dX8_waysOf_21 : decode cX8_waysOf 21 = .ok (.if_icmp .eq 21, 3) := by decide +kernel
theorem dX8_waysOf_24 : decode cX8_waysOf 24 = .ok (.aload_n 0, 1) := by decide +kernel
theorem dX8_waysOf_25 : decode cX8_waysOf 25 = .ok (.aload_n 0, 1) := by decide +kernel
theorem dX8_waysOf_26 : decode cX8_waysOf 26 = .ok (.getfield 47, 3) := by decide +kernel
theorem dX8_waysOf_29 : decode cX8_waysOf 29 = .ok (.iload_n 3, 1) := by decide +kernel
theorem dX8_waysOf_30 : decode cX8_waysOf 30 = .ok (.iaload, 1) := by decide +kernel
theorem dX8_waysOf_31 : decode cX8_waysOf 31 = .ok (.invokevirtual 183, 3) := by decide +kernel
theorem dX8_waysOf_34 : decode cX8_waysOf 34 = .ok (.iload_n 1, 1) := by decide +kernel
theorem dX8_waysOf_35 : decode cX8_waysOf 35 = .ok (.if_icmp .ne 7, 3) := by decide +kernel
theorem dX8_waysOf_38 : decode cX8_waysOf 38 = .ok (.iconst 1, 1) := by decide +kernel
theorem dX8_waysOf_39 : decode cX8_waysOf 39 = .ok (.goto 4, 3) := by decide +kernel
theorem dX8_waysOf_42 : decode cX8_waysOf 42 = .ok (.iconst 0, 1) := by decide +kernel
theorem dX8_waysOf_43 : decode cX8_waysOf 43 = .ok (.iadd, 1) := by decide +kernel
theorem dX8_waysOf_44 : decode cX8_waysOf 44 = .ok (.istore_n 2, 1) := by decide +kernel
theorem dX8_waysOf_45 : decode cX8_waysOf 45 = .ok (.iinc 3 1, 3) := by decide +kernel
theorem dX8_waysOf_48 : decode cX8_waysOf 48 = .ok (.goto (-44), 3) := by decide +kernel
theorem dX8_waysOf_51 : decode cX8_waysOf 51 = .ok (.iload_n 2, 1) := by decide +kernel
theorem dX8_waysOf_52 : decode cX8_waysOf 52 = .ok (.ireturn, 1) := by decide +kernel
theorem dX8_keeps_0 : decode cX8_keeps 0 = .ok (.aload_n 0, 1) := by decide +kernel
theorem dX8_keeps_1 : decode cX8_keeps 1 = .ok (.getfield 164, 3) := by decide +kernel
theorem dX8_keeps_4 : decode cX8_keeps 4 = .ok (.bipush 24, 2) := by decide +kernel
theorem dX8_keeps_6 : decode cX8_keeps 6 = .ok (.if_icmp .ne 43, 3) := by decide +kernel
theorem dX8_keeps_9 : decode cX8_keeps 9 = .ok (.iconst 0, 1) := by decide +kernel
theorem dX8_keeps_10 : decode cX8_keeps 10 = .ok (.istore_n 1, 1) := by decide +kernel
theorem dX8_keeps_11 : decode cX8_keeps 11 = .ok (.iload_n 1, 1) := by decide +kernel
theorem dX8_keeps_12 : decode cX8_keeps 12 = .ok (.sipush 897, 3) := by decide +kernel
theorem dX8_keeps_15 : decode cX8_keeps 15 = .ok (.if_icmp .ge 24, 3) := by decide +kernel
theorem dX8_keeps_18 : decode cX8_keeps 18 = .ok (.aload_n 0, 1) := by decide +kernel
theorem dX8_keeps_19 : decode cX8_keeps 19 = .ok (.getfield 28, 3) := by decide +kernel
theorem dX8_keeps_22 : decode cX8_keeps 22 = .ok (.iload_n 1, 1) := by decide +kernel
theorem dX8_keeps_23 : decode cX8_keeps 23 = .ok (.aload_n 0, 1) := by decide +kernel
theorem dX8_keeps_24 : decode cX8_keeps 24 = .ok (.getfield 28, 3) := by decide +kernel
theorem dX8_keeps_27 : decode cX8_keeps 27 = .ok (.iload_n 1, 1) := by decide +kernel
theorem dX8_keeps_28 : decode cX8_keeps 28 = .ok (.bipush 39, 2) := by decide +kernel
theorem dX8_keeps_30 : decode cX8_keeps 30 = .ok (.iadd, 1) := by decide +kernel
theorem dX8_keeps_31 : decode cX8_keeps 31 = .ok (.iaload, 1) := by decide +kernel
theorem dX8_keeps_32 : decode cX8_keeps 32 = .ok (.iastore, 1) := by decide +kernel
theorem dX8_keeps_33 : decode cX8_keeps 33 = .ok (.iinc 1 1, 3) := by decide +kernel
theorem dX8_keeps_36 : decode cX8_keeps 36 = .ok (.goto (-25), 3) := by decide +kernel
theorem dX8_keeps_39 : decode cX8_keeps 39 = .ok (.aload_n 0, 1) := by decide +kernel
theorem dX8_keeps_40 : decode cX8_keeps 40 = .ok (.dup, 1) := by decide +kernel
theorem dX8_keeps_41 : decode cX8_keeps 41 = .ok (.getfield 164, 3) := by decide +kernel
theorem dX8_keeps_44 : decode cX8_keeps 44 = .ok (.iconst 1, 1) := by decide +kernel
theorem dX8_keeps_45 : decode cX8_keeps 45 = .ok (.isub, 1) := by decide +kernel
theorem dX8_keeps_46 : decode cX8_keeps 46 = .ok (.putfield 164, 3) := by decide +kernel
theorem dX8_keeps_49 : decode cX8_keeps 49 = .ok (.iconst 0, 1) := by decide +kernel
theorem dX8_keeps_50 : decode cX8_keeps 50 = .ok (.istore_n 1, 1) := by decide +kernel
theorem dX8_keeps_51 : decode cX8_keeps 51 = .ok (.iload_n 1, 1) := by decide +kernel
theorem dX8_keeps_52 : decode cX8_keeps 52 = .ok (.bipush 39, 2) := by decide +kernel
theorem dX8_keeps_54 : decode cX8_keeps 54 = .ok (.if_icmp .ge 29, 3) := by decide +kernel
theorem dX8_keeps_57 : decode cX8_keeps 57 = .ok (.aload_n 0, 1) := by decide +kernel
theorem dX8_keeps_58 : decode cX8_keeps 58 = .ok (.getfield 28, 3) := by decide +kernel
theorem dX8_keeps_61 : decode cX8_keeps 61 = .ok (.bipush 39, 2) := by decide +kernel
theorem dX8_keeps_63 : decode cX8_keeps 63 = .ok (.aload_n 0, 1) := by decide +kernel
theorem dX8_keeps_64 : decode cX8_keeps 64 = .ok (.getfield 164, 3) := by decide +kernel
theorem dX8_keeps_67 : decode cX8_keeps 67 = .ok (.imul, 1) := by decide +kernel
theorem dX8_keeps_68 : decode cX8_keeps 68 = .ok (.iload_n 1, 1) := by decide +kernel
theorem dX8_keeps_69 : decode cX8_keeps 69 = .ok (.iadd, 1) := by decide +kernel
theorem dX8_keeps_70 : decode cX8_keeps 70 = .ok (.aload_n 0, 1) := by decide +kernel
theorem dX8_keeps_71 : decode cX8_keeps 71 = .ok (.getfield 22, 3) := by decide +kernel
theorem dX8_keeps_74 : decode cX8_keeps 74 = .ok (.iload_n 1, 1) := by decide +kernel
theorem dX8_keeps_75 : decode cX8_keeps 75 = .ok (.iaload, 1) := by decide +kernel
theorem dX8_keeps_76 : decode cX8_keeps 76 = .ok (.iastore, 1) := by decide +kernel
theorem dX8_keeps_77 : decode cX8_keeps 77 = .ok (.iinc 1 1, 3) := by decide +kernel
theorem dX8_keeps_80 : decode cX8_keeps 80 = .ok (.goto (-29), 3) := by decide +kernel
theorem dX8_keeps_83 : decode cX8_keeps 83 = .ok (.aload_n 0, 1) := by decide +kernel
theorem dX8_keeps_84 : decode cX8_keeps 84 = .ok (.dup, 1) := by decide +kernel
theorem dX8_keeps_85 : decode cX8_keeps 85 = .ok (.getfield 164, 3) := by decide +kernel
theorem dX8_keeps_88 : decode cX8_keeps 88 = .ok (.iconst 1, 1) := by decide +kernel
theorem dX8_keeps_89 : decode cX8_keeps 89 = .ok (.iadd, 1) := by decide +kernel
theorem dX8_keeps_90 : decode cX8_keeps 90 = .ok (.putfield 164, 3) := by decide +kernel
theorem dX8_keeps_93 : decode cX8_keeps 93 = .ok (.return_, 1) := by decide +kernel
theorem dX8_toss_0 : decode cX8_toss 0 = .ok (.aload_n 0, 1) := by decide +kernel
theorem dX8_toss_1 : decode cX8_toss 1 = .ok (.getfield 22, 3) := by decide +kernel
theorem dX8_toss_4 : decode cX8_toss 4 = .ok (.iconst 0, 1) := by decide +kernel
theorem dX8_toss_5 : decode cX8_toss 5 = .ok (.iaload, 1) := by decide +kernel
theorem dX8_toss_6 : decode cX8_toss 6 = .ok (.ifCond .ne 6, 3) := by decide +kernel
theorem dX8_toss_9 : decode cX8_toss 9 = .ok (.ldc 193, 2) := by decide +kernel
theorem dX8_toss_11 : decode cX8_toss 11 = .ok (.ireturn, 1) := by decide +kernel
theorem dX8_toss_12 : decode cX8_toss 12 = .ok (.iload_n 1, 1) := by decide +kernel
theorem dX8_toss_13 : decode cX8_toss 13 = .ok (.iload_n 2, 1) := by decide +kernel
theorem dX8_toss_14 : decode cX8_toss 14 = .ok (.invokestatic 194, 3) := by decide +kernel
theorem dX8_toss_17 : decode cX8_toss 17 = .ok (.ifCond .eq 28, 3) := by decide +kernel
theorem dX8_toss_20 : decode cX8_toss 20 = .ok (.iload_n 3, 1) := by decide +kernel
theorem dX8_toss_21 : decode cX8_toss 21 = .ok (.i2l, 1) := by decide +kernel
theorem dX8_toss_22 : decode cX8_toss 22 = .ok (.lconst 1, 1) := by decide +kernel
theorem dX8_toss_23 : decode cX8_toss 23 = .ok (.ldc2_w 198, 3) := by decide +kernel
theorem dX8_toss_26 : decode cX8_toss 26 = .ok (.invokestatic 60, 3) := by decide +kernel
theorem dX8_toss_29 : decode cX8_toss 29 = .ok (.ifCond .eq 16, 3) := by decide +kernel
theorem dX8_toss_32 : decode cX8_toss 32 = .ok (.iload 4, 2) := by decide +kernel
theorem dX8_toss_34 : decode cX8_toss 34 = .ok (.i2l, 1) := by decide +kernel
theorem dX8_toss_35 : decode cX8_toss 35 = .ok (.lconst 1, 1) := by decide +kernel
theorem dX8_toss_36 : decode cX8_toss 36 = .ok (.ldc2_w 200, 3) := by decide +kernel
theorem dX8_toss_39 : decode cX8_toss 39 = .ok (.invokestatic 60, 3) := by decide +kernel
theorem dX8_toss_42 : decode cX8_toss 42 = .ok (.ifCond .ne 6, 3) := by decide +kernel
theorem dX8_toss_45 : decode cX8_toss 45 = .ok (.ldc 66, 2) := by decide +kernel
theorem dX8_toss_47 : decode cX8_toss 47 = .ok (.ireturn, 1) := by decide +kernel
theorem dX8_toss_48 : decode cX8_toss 48 = .ok (.iconst 0, 1) := by decide +kernel
theorem dX8_toss_49 : decode cX8_toss 49 = .ok (.istore 5, 2) := by decide +kernel
theorem dX8_toss_51 : decode cX8_toss 51 = .ok (.iload 5, 2) := by decide +kernel
theorem dX8_toss_53 : decode cX8_toss 53 = .ok (.aload_n 0, 1) := by decide +kernel
theorem dX8_toss_54 : decode cX8_toss 54 = .ok (.getfield 22, 3) := by decide +kernel
theorem dX8_toss_57 : decode cX8_toss 57 = .ok (.iconst 3, 1) := by decide +kernel
theorem dX8_toss_58 : decode cX8_toss 58 = .ok (.iaload, 1) := by decide +kernel
theorem dX8_toss_59 : decode cX8_toss 59 = .ok (.if_icmp .ge 30, 3) := by decide +kernel
theorem dX8_toss_62 : decode cX8_toss 62 = .ok (.aload_n 0, 1) := by decide +kernel
theorem dX8_toss_63 : decode cX8_toss 63 = .ok (.getfield 22, 3) := by decide +kernel
theorem dX8_toss_66 : decode cX8_toss 66 = .ok (.bipush 20, 2) := by decide +kernel
theorem dX8_toss_68 : decode cX8_toss 68 = .ok (.iload 5, 2) := by decide +kernel
theorem dX8_toss_70 : decode cX8_toss 70 = .ok (.iadd, 1) := by decide +kernel
theorem dX8_toss_71 : decode cX8_toss 71 = .ok (.iaload, 1) := by decide +kernel
theorem dX8_toss_72 : decode cX8_toss 72 = .ok (.iload_n 3, 1) := by decide +kernel
theorem dX8_toss_73 : decode cX8_toss 73 = .ok (.iadd, 1) := by decide +kernel
theorem dX8_toss_74 : decode cX8_toss 74 = .ok (.sipush 9999, 3) := by decide +kernel
theorem dX8_toss_77 : decode cX8_toss 77 = .ok (.if_icmp .le 6, 3) := by decide +kernel
theorem dX8_toss_80 : decode cX8_toss 80 = .ok (.ldc 79, 2) := by decide +kernel
theorem dX8_toss_82 : decode cX8_toss 82 = .ok (.ireturn, 1) := by decide +kernel
theorem dX8_toss_83 : decode cX8_toss 83 = .ok (.iinc 5 1, 3) := by decide +kernel
theorem dX8_toss_86 : decode cX8_toss 86 = .ok (.goto (-35), 3) := by decide +kernel
theorem dX8_toss_89 : decode cX8_toss 89 = .ok (.aload_n 0, 1) := by decide +kernel
theorem dX8_toss_90 : decode cX8_toss 90 = .ok (.invokevirtual 202, 3) := by decide +kernel
theorem dX8_toss_93 : decode cX8_toss 93 = .ok (.aload_n 0, 1) := by decide +kernel
theorem dX8_toss_94 : decode cX8_toss 94 = .ok (.invokevirtual 205, 3) := by decide +kernel
theorem dX8_toss_97 : decode cX8_toss 97 = .ok (.aload_n 0, 1) := by decide +kernel
theorem dX8_toss_98 : decode cX8_toss 98 = .ok (.invokevirtual 208, 3) := by decide +kernel
theorem dX8_toss_101 : decode cX8_toss 101 = .ok (.aload_n 0, 1) := by decide +kernel
theorem dX8_toss_102 : decode cX8_toss 102 = .ok (.iload_n 1, 1) := by decide +kernel
theorem dX8_toss_103 : decode cX8_toss 103 = .ok (.iload_n 2, 1) := by decide +kernel
theorem dX8_toss_104 : decode cX8_toss 104 = .ok (.invokevirtual 211, 3) := by decide +kernel
theorem dX8_toss_107 : decode cX8_toss 107 = .ok (.iload 4, 2) := by decide +kernel
theorem dX8_toss_109 : decode cX8_toss 109 = .ok (.i2l, 1) := by decide +kernel
theorem dX8_toss_110 : decode cX8_toss 110 = .ok (.lstore 5, 2) := by decide +kernel
theorem dX8_toss_112 : decode cX8_toss 112 = .ok (.iconst 0, 1) := by decide +kernel
theorem dX8_toss_113 : decode cX8_toss 113 = .ok (.istore 7, 2) := by decide +kernel
theorem dX8_toss_115 : decode cX8_toss 115 = .ok (.iconst 0, 1) := by decide +kernel
theorem dX8_toss_116 : decode cX8_toss 116 = .ok (.istore 8, 2) := by decide +kernel
theorem dX8_toss_118 : decode cX8_toss 118 = .ok (.iload 8, 2) := by decide +kernel
theorem dX8_toss_120 : decode cX8_toss 120 = .ok (.iload_n 3, 1) := by decide +kernel
theorem dX8_toss_121 : decode cX8_toss 121 = .ok (.if_icmp .ge 82, 3) := by decide +kernel
theorem dX8_toss_124 : decode cX8_toss 124 = .ok (.lload 5, 2) := by decide +kernel
theorem dX8_toss_126 : decode cX8_toss 126 = .ok (.ldc2_w 215, 3) := by decide +kernel
theorem dX8_toss_129 : decode cX8_toss 129 = .ok (.lmul, 1) := by decide +kernel
theorem dX8_toss_130 : decode cX8_toss 130 = .ok (.ldc2_w 217, 3) := by decide +kernel
theorem dX8_toss_133 : decode cX8_toss 133 = .ok (.lrem, 1) := by decide +kernel
theorem dX8_toss_134 : decode cX8_toss 134 = .ok (.lstore 5, 2) := by decide +kernel
theorem dX8_toss_136 : decode cX8_toss 136 = .ok (.aload_n 0, 1) := by decide +kernel
theorem dX8_toss_137 : decode cX8_toss 137 = .ok (.getfield 47, 3) := by decide +kernel
theorem dX8_toss_140 : decode cX8_toss 140 = .ok (.lload 5, 2) := by decide +kernel
theorem dX8_toss_142 : decode cX8_toss 142 = .ok (.aload_n 0, 1) := by decide +kernel
theorem dX8_toss_143 : decode cX8_toss 143 = .ok (.getfield 186, 3) := by decide +kernel
theorem dX8_toss_146 : decode cX8_toss 146 = .ok (.i2l, 1) := by decide +kernel
theorem dX8_toss_147 : decode cX8_toss 147 = .ok (.lrem, 1) := by decide +kernel
theorem dX8_toss_148 : decode cX8_toss 148 = .ok (.l2i, 1) := by decide +kernel
theorem dX8_toss_149 : decode cX8_toss 149 = .ok (.iaload, 1) := by decide +kernel
theorem dX8_toss_150 : decode cX8_toss 150 = .ok (.istore 9, 2) := by decide +kernel
theorem dX8_toss_152 : decode cX8_toss 152 = .ok (.iload 9, 2) := by decide +kernel
theorem dX8_toss_154 : decode cX8_toss 154 = .ok (.ldc 179, 2) := by decide +kernel
theorem dX8_toss_156 : decode cX8_toss 156 = .ok (.if_icmp .ne 8, 3) := by decide +kernel
theorem dX8_toss_159 : decode cX8_toss 159 = .ok (.ldc 179, 2) := by decide +kernel
theorem dX8_toss_161 : decode cX8_toss 161 = .ok (.goto 10, 3) := by decide +kernel
theorem dX8_toss_164 : decode cX8_toss 164 = .ok (.aload_n 0, 1) := by decide +kernel
theorem dX8_toss_165 : decode cX8_toss 165 = .ok (.getfield 44, 3) := by decide +kernel
theorem dX8_toss_168 : decode cX8_toss 168 = .ok (.iload 9, 2) := by decide +kernel
theorem dX8_toss_170 : decode cX8_toss 170 = .ok (.iaload, 1) := by decide +kernel
theorem dX8_toss_171 : decode cX8_toss 171 = .ok (.istore 10, 2) := by decide +kernel
theorem dX8_toss_173 : decode cX8_toss 173 = .ok (.iload 10, 2) := by decide +kernel
theorem dX8_toss_175 : decode cX8_toss 175 = .ok (.ldc 179, 2) := by decide +kernel
theorem dX8_toss_177 : decode cX8_toss 177 = .ok (.if_icmp .eq 20, 3) := by decide +kernel
theorem dX8_toss_180 : decode cX8_toss 180 = .ok (.aload_n 0, 1) := by decide +kernel
theorem dX8_toss_181 : decode cX8_toss 181 = .ok (.getfield 22, 3) := by decide +kernel
theorem dX8_toss_184 : decode cX8_toss 184 = .ok (.bipush 20, 2) := by decide +kernel
theorem dX8_toss_186 : decode cX8_toss 186 = .ok (.iload 10, 2) := by decide +kernel
theorem dX8_toss_188 : decode cX8_toss 188 = .ok (.iadd, 1) := by decide +kernel
theorem dX8_toss_189 : decode cX8_toss 189 = .ok (.dup2, 1) := by decide +kernel
theorem dX8_toss_190 : decode cX8_toss 190 = .ok (.iaload, 1) := by decide +kernel
theorem dX8_toss_191 : decode cX8_toss 191 = .ok (.iconst 1, 1) := by decide +kernel
theorem dX8_toss_192 : decode cX8_toss 192 = .ok (.iadd, 1) := by decide +kernel
theorem dX8_toss_193 : decode cX8_toss 193 = .ok (.iastore, 1) := by decide +kernel
theorem dX8_toss_194 : decode cX8_toss 194 = .ok (.iinc 7 1, 3) := by decide +kernel
theorem dX8_toss_197 : decode cX8_toss 197 = .ok (.iinc 8 1, 3) := by decide +kernel
theorem dX8_toss_200 : decode cX8_toss 200 = .ok (.goto (-82), 3) := by decide +kernel
theorem dX8_toss_203 : decode cX8_toss 203 = .ok (.iload 7, 2) := by decide +kernel
theorem dX8_toss_205 : decode cX8_toss 205 = .ok (.ireturn, 1) := by decide +kernel
theorem dX8_run_0 : decode cX8_run 0 = .ok (.aload_n 0, 1) := by decide +kernel
theorem dX8_run_1 : decode cX8_run 1 = .ok (.iload_n 1, 1) := by decide +kernel
theorem dX8_run_2 : decode cX8_run 2 = .ok (.invokevirtual 219, 3) := by decide +kernel
theorem dX8_run_5 : decode cX8_run 5 = .ok (.ifCond .eq 10, 3) := by decide +kernel
theorem dX8_run_8 : decode cX8_run 8 = .ok (.iload_n 2, 1) := by decide +kernel
theorem dX8_run_9 : decode cX8_run 9 = .ok (.invokestatic 169, 3) := by decide +kernel
theorem dX8_run_12 : decode cX8_run 12 = .ok (.ifCond .ne 6, 3) := by decide +kernel
theorem dX8_run_15 : decode cX8_run 15 = .ok (.ldc 66, 2) := by decide +kernel
theorem dX8_run_17 : decode cX8_run 17 = .ok (.ireturn, 1) := by decide +kernel
theorem dX8_run_18 : decode cX8_run 18 = .ok (.aload_n 0, 1) := by decide +kernel
theorem dX8_run_19 : decode cX8_run 19 = .ok (.invokevirtual 202, 3) := by decide +kernel
theorem dX8_run_22 : decode cX8_run 22 = .ok (.aload_n 0, 1) := by decide +kernel
theorem dX8_run_23 : decode cX8_run 23 = .ok (.getfield 22, 3) := by decide +kernel
theorem dX8_run_26 : decode cX8_run 26 = .ok (.bipush 15, 2) := by decide +kernel
theorem dX8_run_28 : decode cX8_run 28 = .ok (.iload_n 1, 1) := by decide +kernel
theorem dX8_run_29 : decode cX8_run 29 = .ok (.iadd, 1) := by decide +kernel
theorem dX8_run_30 : decode cX8_run 30 = .ok (.iaload, 1) := by decide +kernel
theorem dX8_run_31 : decode cX8_run 31 = .ok (.iload_n 2, 1) := by decide +kernel
theorem dX8_run_32 : decode cX8_run 32 = .ok (.invokestatic 175, 3) := by decide +kernel
theorem dX8_run_35 : decode cX8_run 35 = .ok (.istore_n 3, 1) := by decide +kernel
theorem dX8_run_36 : decode cX8_run 36 = .ok (.aload_n 0, 1) := by decide +kernel
theorem dX8_run_37 : decode cX8_run 37 = .ok (.getfield 22, 3) := by decide +kernel
theorem dX8_run_40 : decode cX8_run 40 = .ok (.bipush 15, 2) := by decide +kernel
theorem dX8_run_42 : decode cX8_run 42 = .ok (.iload_n 1, 1) := by decide +kernel
theorem dX8_run_43 : decode cX8_run 43 = .ok (.iadd, 1) := by decide +kernel
theorem dX8_run_44 : decode cX8_run 44 = .ok (.iload_n 2, 1) := by decide +kernel
theorem dX8_run_45 : decode cX8_run 45 = .ok (.iastore, 1) := by decide +kernel
theorem dX8_run_46 : decode cX8_run 46 = .ok (.iload_n 3, 1) := by decide +kernel
theorem dX8_run_47 : decode cX8_run 47 = .ok (.ireturn, 1) := by decide +kernel
theorem dX8_strengthOf_0 : decode cX8_strengthOf 0 = .ok (.aload_n 0, 1) := by decide +kernel
theorem dX8_strengthOf_1 : decode cX8_strengthOf 1 = .ok (.getfield 22, 3) := by decide +kernel
theorem dX8_strengthOf_4 : decode cX8_strengthOf 4 = .ok (.iconst 5, 1) := by decide +kernel
theorem dX8_strengthOf_5 : decode cX8_strengthOf 5 = .ok (.iload_n 1, 1) := by decide +kernel
theorem dX8_strengthOf_6 : decode cX8_strengthOf 6 = .ok (.iadd, 1) := by decide +kernel
theorem dX8_strengthOf_7 : decode cX8_strengthOf 7 = .ok (.iaload, 1) := by decide +kernel
theorem dX8_strengthOf_8 : decode cX8_strengthOf 8 = .ok (.iconst 2, 1) := by decide +kernel
theorem dX8_strengthOf_9 : decode cX8_strengthOf 9 = .ok (.if_icmp .ne 17, 3) := by decide +kernel
theorem dX8_strengthOf_12 : decode cX8_strengthOf 12 = .ok (.iconst 2, 1) := by decide +kernel
theorem dX8_strengthOf_13 : decode cX8_strengthOf 13 = .ok (.aload_n 0, 1) := by decide +kernel
theorem dX8_strengthOf_14 : decode cX8_strengthOf 14 = .ok (.getfield 22, 3) := by decide +kernel
theorem dX8_strengthOf_17 : decode cX8_strengthOf 17 = .ok (.bipush 10, 2) := by decide +kernel
theorem dX8_strengthOf_19 : decode cX8_strengthOf 19 = .ok (.iload_n 1, 1) := by decide +kernel
theorem dX8_strengthOf_20 : decode cX8_strengthOf 20 = .ok (.iadd, 1) := by decide +kernel
theorem dX8_strengthOf_21 : decode cX8_strengthOf 21 = .ok (.iaload, 1) := by decide +kernel
theorem dX8_strengthOf_22 : decode cX8_strengthOf 22 = .ok (.imul, 1) := by decide +kernel
theorem dX8_strengthOf_23 : decode cX8_strengthOf 23 = .ok (.goto 12, 3) := by decide +kernel
theorem dX8_strengthOf_26 : decode cX8_strengthOf 26 = .ok (.aload_n 0, 1) := by decide +kernel
theorem dX8_strengthOf_27 : decode cX8_strengthOf 27 = .ok (.getfield 22, 3) := by decide +kernel
theorem dX8_strengthOf_30 : decode cX8_strengthOf 30 = .ok (.bipush 10, 2) := by decide +kernel
theorem dX8_strengthOf_32 : decode cX8_strengthOf 32 = .ok (.iload_n 1, 1) := by decide +kernel
theorem dX8_strengthOf_33 : decode cX8_strengthOf 33 = .ok (.iadd, 1) := by decide +kernel
theorem dX8_strengthOf_34 : decode cX8_strengthOf 34 = .ok (.iaload, 1) := by decide +kernel
theorem dX8_strengthOf_35 : decode cX8_strengthOf 35 = .ok (.ireturn, 1) := by decide +kernel
theorem dX8_corner_0 : decode cX8_corner 0 = .ok (.aload_n 0, 1) := by decide +kernel
theorem dX8_corner_1 : decode cX8_corner 1 = .ok (.iload_n 1, 1) := by decide +kernel
theorem dX8_corner_2 : decode cX8_corner 2 = .ok (.invokevirtual 219, 3) := by decide +kernel
theorem dX8_corner_5 : decode cX8_corner 5 = .ok (.ifCond .eq 16, 3) := by decide +kernel
theorem dX8_corner_8 : decode cX8_corner 8 = .ok (.aload_n 0, 1) := by decide +kernel
theorem dX8_corner_9 : decode cX8_corner 9 = .ok (.iload_n 2, 1) := by decide +kernel
theorem dX8_corner_10 : decode cX8_corner 10 = .ok (.invokevirtual 219, 3) := by decide +kernel
theorem dX8_corner_13 : decode cX8_corner 13 = .ok (.ifCond .eq 8, 3) := by decide +kernel
theorem dX8_corner_16 : decode cX8_corner 16 = .ok (.iload_n 1, 1) := by decide +kernel
theorem dX8_corner_17 : decode cX8_corner 17 = .ok (.iload_n 2, 1) := by decide +kernel
theorem dX8_corner_18 : decode cX8_corner 18 = .ok (.if_icmp .ne 6, 3) := by decide +kernel
theorem dX8_corner_21 : decode cX8_corner 21 = .ok (.ldc 66, 2) := by decide +kernel
theorem dX8_corner_23 : decode cX8_corner 23 = .ok (.ireturn, 1) := by decide +kernel
theorem dX8_corner_24 : decode cX8_corner 24 = .ok (.aload_n 0, 1) := by decide +kernel
theorem dX8_corner_25 : decode cX8_corner 25 = .ok (.iload_n 2, 1) := by decide +kernel
theorem dX8_corner_26 : decode cX8_corner 26 = .ok (.invokevirtual 222, 3) := by decide +kernel
theorem dX8_corner_29 : decode cX8_corner 29 = .ok (.aload_n 0, 1) := by decide +kernel
theorem dX8_corner_30 : decode cX8_corner 30 = .ok (.iload_n 1, 1) := by decide +kernel
theorem dX8_corner_31 : decode cX8_corner 31 = .ok (.invokevirtual 222, 3) := by decide +kernel
theorem dX8_corner_34 : decode cX8_corner 34 = .ok (.if_icmp .lt 6, 3) := by decide +kernel
theorem dX8_corner_37 : decode cX8_corner 37 = .ok (.ldc 193, 2) := by decide +kernel
theorem dX8_corner_39 : decode cX8_corner 39 = .ok (.ireturn, 1) := by decide +kernel
theorem dX8_corner_40 : decode cX8_corner 40 = .ok (.aload_n 0, 1) := by decide +kernel
theorem dX8_corner_41 : decode cX8_corner 41 = .ok (.getfield 22, 3) := by decide +kernel
theorem dX8_corner_44 : decode cX8_corner 44 = .ok (.bipush 20, 2) := by decide +kernel
theorem dX8_corner_46 : decode cX8_corner 46 = .ok (.iload_n 2, 1) := by decide +kernel
theorem dX8_corner_47 : decode cX8_corner 47 = .ok (.iadd, 1) := by decide +kernel
theorem dX8_corner_48 : decode cX8_corner 48 = .ok (.iaload, 1) := by decide +kernel
theorem dX8_corner_49 : decode cX8_corner 49 = .ok (.iconst 2, 1) := by decide +kernel
theorem dX8_corner_50 : decode cX8_corner 50 = .ok (.idiv, 1) := by decide +kernel
theorem dX8_corner_51 : decode cX8_corner 51 = .ok (.istore_n 3, 1) := by decide +kernel
theorem dX8_corner_52 : decode cX8_corner 52 = .ok (.aload_n 0, 1) := by decide +kernel
theorem dX8_corner_53 : decode cX8_corner 53 = .ok (.getfield 22, 3) := by decide +kernel
theorem dX8_corner_56 : decode cX8_corner 56 = .ok (.bipush 20, 2) := by decide +kernel
theorem dX8_corner_58 : decode cX8_corner 58 = .ok (.iload_n 1, 1) := by decide +kernel
theorem dX8_corner_59 : decode cX8_corner 59 = .ok (.iadd, 1) := by decide +kernel
theorem dX8_corner_60 : decode cX8_corner 60 = .ok (.iaload, 1) := by decide +kernel
theorem dX8_corner_61 : decode cX8_corner 61 = .ok (.iload_n 3, 1) := by decide +kernel
theorem dX8_corner_62 : decode cX8_corner 62 = .ok (.iadd, 1) := by decide +kernel
theorem dX8_corner_63 : decode cX8_corner 63 = .ok (.sipush 9999, 3) := by decide +kernel
theorem dX8_corner_66 : decode cX8_corner 66 = .ok (.if_icmp .le 6, 3) := by decide +kernel
theorem dX8_corner_69 : decode cX8_corner 69 = .ok (.ldc 79, 2) := by decide +kernel
theorem dX8_corner_71 : decode cX8_corner 71 = .ok (.ireturn, 1) := by decide +kernel
theorem dX8_corner_72 : decode cX8_corner 72 = .ok (.aload_n 0, 1) := by decide +kernel
theorem dX8_corner_73 : decode cX8_corner 73 = .ok (.invokevirtual 202, 3) := by decide +kernel
theorem dX8_corner_76 : decode cX8_corner 76 = .ok (.aload_n 0, 1) := by decide +kernel
theorem dX8_corner_77 : decode cX8_corner 77 = .ok (.getfield 22, 3) := by decide +kernel
theorem dX8_corner_80 : decode cX8_corner 80 = .ok (.bipush 20, 2) := by decide +kernel
theorem dX8_corner_82 : decode cX8_corner 82 = .ok (.iload_n 2, 1) := by decide +kernel
theorem dX8_corner_83 : decode cX8_corner 83 = .ok (.iadd, 1) := by decide +kernel
theorem dX8_corner_84 : decode cX8_corner 84 = .ok (.dup2, 1) := by decide +kernel
theorem dX8_corner_85 : decode cX8_corner 85 = .ok (.iaload, 1) := by decide +kernel
theorem dX8_corner_86 : decode cX8_corner 86 = .ok (.iload_n 3, 1) := by decide +kernel
theorem dX8_corner_87 : decode cX8_corner 87 = .ok (.isub, 1) := by decide +kernel
theorem dX8_corner_88 : decode cX8_corner 88 = .ok (.iastore, 1) := by decide +kernel
theorem dX8_corner_89 : decode cX8_corner 89 = .ok (.aload_n 0, 1) := by decide +kernel
theorem dX8_corner_90 : decode cX8_corner 90 = .ok (.getfield 22, 3) := by decide +kernel
theorem dX8_corner_93 : decode cX8_corner 93 = .ok (.bipush 20, 2) := by decide +kernel
theorem dX8_corner_95 : decode cX8_corner 95 = .ok (.iload_n 1, 1) := by decide +kernel
theorem dX8_corner_96 : decode cX8_corner 96 = .ok (.iadd, 1) := by decide +kernel
theorem dX8_corner_97 : decode cX8_corner 97 = .ok (.dup2, 1) := by decide +kernel
theorem dX8_corner_98 : decode cX8_corner 98 = .ok (.iaload, 1) := by decide +kernel
theorem dX8_corner_99 : decode cX8_corner 99 = .ok (.iload_n 3, 1) := by decide +kernel
theorem dX8_corner_100 : decode cX8_corner 100 = .ok (.iadd, 1) := by decide +kernel
theorem dX8_corner_101 : decode cX8_corner 101 = .ok (.iastore, 1) := by decide +kernel
theorem dX8_corner_102 : decode cX8_corner 102 = .ok (.iload_n 3, 1) := by decide +kernel
theorem dX8_corner_103 : decode cX8_corner 103 = .ok (.ireturn, 1) := by decide +kernel
theorem dX8_undo_0 : decode cX8_undo 0 = .ok (.aload_n 0, 1) := by decide +kernel
theorem dX8_undo_1 : decode cX8_undo 1 = .ok (.getfield 164, 3) := by decide +kernel
theorem dX8_undo_4 : decode cX8_undo 4 = .ok (.ifCond .ne 6, 3) := by decide +kernel
theorem dX8_undo_7 : decode cX8_undo 7 = .ok (.ldc 193, 2) := by decide +kernel
theorem dX8_undo_9 : decode cX8_undo 9 = .ok (.ireturn, 1) := by decide +kernel
theorem dX8_undo_10 : decode cX8_undo 10 = .ok (.aload_n 0, 1) := by decide +kernel
theorem dX8_undo_11 : decode cX8_undo 11 = .ok (.dup, 1) := by decide +kernel
theorem dX8_undo_12 : decode cX8_undo 12 = .ok (.getfield 164, 3) := by decide +kernel
theorem dX8_undo_15 : decode cX8_undo 15 = .ok (.iconst 1, 1) := by decide +kernel
theorem dX8_undo_16 : decode cX8_undo 16 = .ok (.isub, 1) := by decide +kernel
theorem dX8_undo_17 : decode cX8_undo 17 = .ok (.putfield 164, 3) := by decide +kernel
theorem dX8_undo_20 : decode cX8_undo 20 = .ok (.iconst 0, 1) := by decide +kernel
theorem dX8_undo_21 : decode cX8_undo 21 = .ok (.istore_n 1, 1) := by decide +kernel
theorem dX8_undo_22 : decode cX8_undo 22 = .ok (.iload_n 1, 1) := by decide +kernel
theorem dX8_undo_23 : decode cX8_undo 23 = .ok (.bipush 39, 2) := by decide +kernel
theorem dX8_undo_25 : decode cX8_undo 25 = .ok (.if_icmp .ge 29, 3) := by decide +kernel
theorem dX8_undo_28 : decode cX8_undo 28 = .ok (.aload_n 0, 1) := by decide +kernel
theorem dX8_undo_29 : decode cX8_undo 29 = .ok (.getfield 22, 3) := by decide +kernel
theorem dX8_undo_32 : decode cX8_undo 32 = .ok (.iload_n 1, 1) := by decide +kernel
theorem dX8_undo_33 : decode cX8_undo 33 = .ok (.aload_n 0, 1) := by decide +kernel
theorem dX8_undo_34 : decode cX8_undo 34 = .ok (.getfield 28, 3) := by decide +kernel
theorem dX8_undo_37 : decode cX8_undo 37 = .ok (.bipush 39, 2) := by decide +kernel
theorem dX8_undo_39 : decode cX8_undo 39 = .ok (.aload_n 0, 1) := by decide +kernel
theorem dX8_undo_40 : decode cX8_undo 40 = .ok (.getfield 164, 3) := by decide +kernel
theorem dX8_undo_43 : decode cX8_undo 43 = .ok (.imul, 1) := by decide +kernel
theorem dX8_undo_44 : decode cX8_undo 44 = .ok (.iload_n 1, 1) := by decide +kernel
theorem dX8_undo_45 : decode cX8_undo 45 = .ok (.iadd, 1) := by decide +kernel
theorem dX8_undo_46 : decode cX8_undo 46 = .ok (.iaload, 1) := by decide +kernel
theorem dX8_undo_47 : decode cX8_undo 47 = .ok (.iastore, 1) := by decide +kernel
theorem dX8_undo_48 : decode cX8_undo 48 = .ok (.iinc 1 1, 3) := by decide +kernel
theorem dX8_undo_51 : decode cX8_undo 51 = .ok (.goto (-29), 3) := by decide +kernel
theorem dX8_undo_54 : decode cX8_undo 54 = .ok (.aload_n 0, 1) := by decide +kernel
theorem dX8_undo_55 : decode cX8_undo 55 = .ok (.getfield 164, 3) := by decide +kernel
theorem dX8_undo_58 : decode cX8_undo 58 = .ok (.ireturn, 1) := by decide +kernel
theorem dX8_child_0 : decode cX8_child 0 = .ok (.aload_n 0, 1) := by decide +kernel
theorem dX8_child_1 : decode cX8_child 1 = .ok (.iload_n 1, 1) := by decide +kernel
theorem dX8_child_2 : decode cX8_child 2 = .ok (.invokevirtual 219, 3) := by decide +kernel
theorem dX8_child_5 : decode cX8_child 5 = .ok (.ifCond .eq 15, 3) := by decide +kernel
theorem dX8_child_8 : decode cX8_child 8 = .ok (.iload_n 2, 1) := by decide +kernel
theorem dX8_child_9 : decode cX8_child 9 = .ok (.i2l, 1) := by decide +kernel
theorem dX8_child_10 : decode cX8_child 10 = .ok (.lconst 0, 1) := by decide +kernel
theorem dX8_child_11 : decode cX8_child 11 = .ok (.ldc2_w 64, 3) := by decide +kernel
theorem dX8_child_14 : decode cX8_child 14 = .ok (.invokestatic 60, 3) := by decide +kernel
theorem dX8_child_17 : decode cX8_child 17 = .ok (.ifCond .ne 6, 3) := by decide +kernel
theorem dX8_child_20 : decode cX8_child 20 = .ok (.ldc 66, 2) := by decide +kernel
theorem dX8_child_22 : decode cX8_child 22 = .ok (.ireturn, 1) := by decide +kernel
theorem dX8_child_23 : decode cX8_child 23 = .ok (.iload_n 2, 1) := by decide +kernel
theorem dX8_child_24 : decode cX8_child 24 = .ok (.ifCond .ne 15, 3) := by decide +kernel
theorem dX8_child_27 : decode cX8_child 27 = .ok (.aload_n 0, 1) := by decide +kernel
theorem dX8_child_28 : decode cX8_child 28 = .ok (.getfield 22, 3) := by decide +kernel
theorem dX8_child_31 : decode cX8_child 31 = .ok (.bipush 15, 2) := by decide +kernel
theorem dX8_child_33 : decode cX8_child 33 = .ok (.iload_n 1, 1) := by decide +kernel
theorem dX8_child_34 : decode cX8_child 34 = .ok (.iadd, 1) := by decide +kernel
theorem dX8_child_35 : decode cX8_child 35 = .ok (.iaload, 1) := by decide +kernel
theorem dX8_child_36 : decode cX8_child 36 = .ok (.goto 29, 3) := by decide +kernel
theorem dX8_child_39 : decode cX8_child 39 = .ok (.iload_n 2, 1) := by decide +kernel
theorem dX8_child_40 : decode cX8_child 40 = .ok (.iconst 1, 1) := by decide +kernel
theorem dX8_child_41 : decode cX8_child 41 = .ok (.if_icmp .ne 15, 3) := by decide +kernel
theorem dX8_child_44 : decode cX8_child 44 = .ok (.aload_n 0, 1) := by decide +kernel
theorem dX8_child_45 : decode cX8_child 45 = .ok (.getfield 22, 3) := by decide +kernel
theorem dX8_child_48 : decode cX8_child 48 = .ok (.bipush 10, 2) := by decide +kernel
theorem dX8_child_50 : decode cX8_child 50 = .ok (.iload_n 1, 1) := by decide +kernel
theorem dX8_child_51 : decode cX8_child 51 = .ok (.iadd, 1) := by decide +kernel
theorem dX8_child_52 : decode cX8_child 52 = .ok (.iaload, 1) := by decide +kernel
theorem dX8_child_53 : decode cX8_child 53 = .ok (.goto 12, 3) := by decide +kernel
theorem dX8_child_56 : decode cX8_child 56 = .ok (.aload_n 0, 1) := by decide +kernel
theorem dX8_child_57 : decode cX8_child 57 = .ok (.getfield 22, 3) := by decide +kernel
theorem dX8_child_60 : decode cX8_child 60 = .ok (.bipush 20, 2) := by decide +kernel
theorem dX8_child_62 : decode cX8_child 62 = .ok (.iload_n 1, 1) := by decide +kernel
theorem dX8_child_63 : decode cX8_child 63 = .ok (.iadd, 1) := by decide +kernel
theorem dX8_child_64 : decode cX8_child 64 = .ok (.iaload, 1) := by decide +kernel
theorem dX8_child_65 : decode cX8_child 65 = .ok (.ireturn, 1) := by decide +kernel
theorem dX8_cell__0 : decode cX8_cell_ 0 = .ok (.aload_n 0, 1) := by decide +kernel
theorem dX8_cell__1 : decode cX8_cell_ 1 = .ok (.getfield 22, 3) := by decide +kernel
theorem dX8_cell__4 : decode cX8_cell_ 4 = .ok (.iconst 0, 1) := by decide +kernel
theorem dX8_cell__5 : decode cX8_cell_ 5 = .ok (.iaload, 1) := by decide +kernel
theorem dX8_cell__6 : decode cX8_cell_ 6 = .ok (.ifCond .ne 6, 3) := by decide +kernel
theorem dX8_cell__9 : decode cX8_cell_ 9 = .ok (.ldc 193, 2) := by decide +kernel
theorem dX8_cell__11 : decode cX8_cell_ 11 = .ok (.ireturn, 1) := by decide +kernel
theorem dX8_cell__12 : decode cX8_cell_ 12 = .ok (.iload_n 1, 1) := by decide +kernel
theorem dX8_cell__13 : decode cX8_cell_ 13 = .ok (.invokestatic 169, 3) := by decide +kernel
theorem dX8_cell__16 : decode cX8_cell_ 16 = .ok (.ifCond .eq 13, 3) := by decide +kernel
theorem dX8_cell__19 : decode cX8_cell_ 19 = .ok (.iload_n 2, 1) := by decide +kernel
theorem dX8_cell__20 : decode cX8_cell_ 20 = .ok (.i2l, 1) := by decide +kernel
theorem dX8_cell__21 : decode cX8_cell_ 21 = .ok (.lconst 0, 1) := by decide +kernel
theorem dX8_cell__22 : decode cX8_cell_ 22 = .ok (.lconst 1, 1) := by decide +kernel
theorem dX8_cell__23 : decode cX8_cell_ 23 = .ok (.invokestatic 60, 3) := by decide +kernel
theorem dX8_cell__26 : decode cX8_cell_ 26 = .ok (.ifCond .ne 6, 3) := by decide +kernel
theorem dX8_cell__29 : decode cX8_cell_ 29 = .ok (.ldc 66, 2) := by decide +kernel
theorem dX8_cell__31 : decode cX8_cell_ 31 = .ok (.ireturn, 1) := by decide +kernel
theorem dX8_cell__32 : decode cX8_cell_ 32 = .ok (.aload_n 0, 1) := by decide +kernel
theorem dX8_cell__33 : decode cX8_cell_ 33 = .ok (.invokevirtual 205, 3) := by decide +kernel
theorem dX8_cell__36 : decode cX8_cell_ 36 = .ok (.iload_n 2, 1) := by decide +kernel
theorem dX8_cell__37 : decode cX8_cell_ 37 = .ok (.ifCond .ne 11, 3) := by decide +kernel
theorem dX8_cell__40 : decode cX8_cell_ 40 = .ok (.aload_n 0, 1) := by decide +kernel
theorem dX8_cell__41 : decode cX8_cell_ 41 = .ok (.iload_n 1, 1) := by decide +kernel
theorem dX8_cell__42 : decode cX8_cell_ 42 = .ok (.invokevirtual 183, 3) := by decide +kernel
theorem dX8_cell__45 : decode cX8_cell_ 45 = .ok (.goto 13, 3) := by decide +kernel
theorem dX8_cell__48 : decode cX8_cell_ 48 = .ok (.aload_n 0, 1) := by decide +kernel
theorem dX8_cell__49 : decode cX8_cell_ 49 = .ok (.getfield 22, 3) := by decide +kernel
theorem dX8_cell__52 : decode cX8_cell_ 52 = .ok (.iconst 4, 1) := by decide +kernel
theorem dX8_cell__53 : decode cX8_cell_ 53 = .ok (.iaload, 1) := by decide +kernel
theorem dX8_cell__54 : decode cX8_cell_ 54 = .ok (.iload_n 1, 1) := by decide +kernel
theorem dX8_cell__55 : decode cX8_cell_ 55 = .ok (.ishr, 1) := by decide +kernel
theorem dX8_cell__56 : decode cX8_cell_ 56 = .ok (.iconst 1, 1) := by decide +kernel
theorem dX8_cell__57 : decode cX8_cell_ 57 = .ok (.iand, 1) := by decide +kernel
theorem dX8_cell__58 : decode cX8_cell_ 58 = .ok (.ireturn, 1) := by decide +kernel
theorem dX8_power_0 : decode cX8_power 0 = .ok (.aload_n 0, 1) := by decide +kernel
theorem dX8_power_1 : decode cX8_power 1 = .ok (.iload_n 1, 1) := by decide +kernel
theorem dX8_power_2 : decode cX8_power 2 = .ok (.invokevirtual 219, 3) := by decide +kernel
theorem dX8_power_5 : decode cX8_power 5 = .ok (.ifCond .eq 10, 3) := by decide +kernel
theorem dX8_power_8 : decode cX8_power 8 = .ok (.iload_n 2, 1) := by decide +kernel
theorem dX8_power_9 : decode cX8_power 9 = .ok (.invokestatic 169, 3) := by decide +kernel
theorem dX8_power_12 : decode cX8_power 12 = .ok (.ifCond .ne 6, 3) := by decide +kernel
theorem dX8_power_15 : decode cX8_power 15 = .ok (.ldc 66, 2) := by decide +kernel
theorem dX8_power_17 : decode cX8_power 17 = .ok (.ireturn, 1) := by decide +kernel
theorem dX8_power_18 : decode cX8_power 18 = .ok (.aload_n 0, 1) := by decide +kernel
theorem dX8_power_19 : decode cX8_power 19 = .ok (.invokevirtual 205, 3) := by decide +kernel
theorem dX8_power_22 : decode cX8_power 22 = .ok (.aload_n 0, 1) := by decide +kernel
theorem dX8_power_23 : decode cX8_power 23 = .ok (.iload_n 1, 1) := by decide +kernel
theorem dX8_power_24 : decode cX8_power 24 = .ok (.iload_n 2, 1) := by decide +kernel
theorem dX8_power_25 : decode cX8_power 25 = .ok (.invokevirtual 180, 3) := by decide +kernel
theorem dX8_power_28 : decode cX8_power 28 = .ok (.ireturn, 1) := by decide +kernel
theorem dX8_part_0 : decode cX8_part 0 = .ok (.iload_n 0, 1) := by decide +kernel
theorem dX8_part_1 : decode cX8_part 1 = .ok (.istore_n 3, 1) := by decide +kernel
theorem dX8_part_2 : decode cX8_part 2 = .ok (.iload_n 1, 1) := by decide +kernel
theorem dX8_part_3 : decode cX8_part 3 = .ok (.istore 4, 2) := by decide +kernel
theorem dX8_part_5 : decode cX8_part 5 = .ok (.iload 4, 2) := by decide +kernel
theorem dX8_part_7 : decode cX8_part 7 = .ok (.ifCond .eq 19, 3) := by decide +kernel
theorem dX8_part_10 : decode cX8_part 10 = .ok (.iload_n 3, 1) := by decide +kernel
theorem dX8_part_11 : decode cX8_part 11 = .ok (.iload 4, 2) := by decide +kernel
theorem dX8_part_13 : decode cX8_part 13 = .ok (.irem, 1) := by decide +kernel
theorem dX8_part_14 : decode cX8_part 14 = .ok (.istore 5, 2) := by decide +kernel
theorem dX8_part_16 : decode cX8_part 16 = .ok (.iload 4, 2) := by decide +kernel
theorem dX8_part_18 : decode cX8_part 18 = .ok (.istore_n 3, 1) := by decide +kernel
theorem dX8_part_19 : decode cX8_part 19 = .ok (.iload 5, 2) := by decide +kernel
theorem dX8_part_21 : decode cX8_part 21 = .ok (.istore 4, 2) := by decide +kernel
theorem dX8_part_23 : decode cX8_part 23 = .ok (.goto (-18), 3) := by decide +kernel
theorem dX8_part_26 : decode cX8_part 26 = .ok (.iload_n 2, 1) := by decide +kernel
theorem dX8_part_27 : decode cX8_part 27 = .ok (.ifCond .ne 9, 3) := by decide +kernel
theorem dX8_part_30 : decode cX8_part 30 = .ok (.iload_n 0, 1) := by decide +kernel
theorem dX8_part_31 : decode cX8_part 31 = .ok (.iload_n 3, 1) := by decide +kernel
theorem dX8_part_32 : decode cX8_part 32 = .ok (.idiv, 1) := by decide +kernel
theorem dX8_part_33 : decode cX8_part 33 = .ok (.goto 6, 3) := by decide +kernel
theorem dX8_part_36 : decode cX8_part 36 = .ok (.iload_n 1, 1) := by decide +kernel
theorem dX8_part_37 : decode cX8_part 37 = .ok (.iload_n 3, 1) := by decide +kernel
theorem dX8_part_38 : decode cX8_part 38 = .ok (.idiv, 1) := by decide +kernel
theorem dX8_part_39 : decode cX8_part 39 = .ok (.ireturn, 1) := by decide +kernel
theorem dX8_mean_0 : decode cX8_mean 0 = .ok (.aload_n 0, 1) := by decide +kernel
theorem dX8_mean_1 : decode cX8_mean 1 = .ok (.iload_n 1, 1) := by decide +kernel
theorem dX8_mean_2 : decode cX8_mean 2 = .ok (.invokevirtual 219, 3) := by decide +kernel
theorem dX8_mean_5 : decode cX8_mean 5 = .ok (.ifCond .eq 22, 3) := by decide +kernel
theorem dX8_mean_8 : decode cX8_mean 8 = .ok (.iload_n 2, 1) := by decide +kernel
theorem dX8_mean_9 : decode cX8_mean 9 = .ok (.iload_n 3, 1) := by decide +kernel
theorem dX8_mean_10 : decode cX8_mean 10 = .ok (.invokestatic 194, 3) := by decide +kernel
theorem dX8_mean_13 : decode cX8_mean 13 = .ok (.ifCond .eq 14, 3) := by decide +kernel
theorem dX8_mean_16 : decode cX8_mean 16 = .ok (.iload 4, 2) := by decide +kernel
theorem dX8_mean_18 : decode cX8_mean 18 = .ok (.i2l, 1) := by decide +kernel
theorem dX8_mean_19 : decode cX8_mean 19 = .ok (.lconst 0, 1) := by decide +kernel
theorem dX8_mean_20 : decode cX8_mean 20 = .ok (.lconst 1, 1) := by decide +kernel
theorem dX8_mean_21 : decode cX8_mean 21 = .ok (.invokestatic 60, 3) := by decide +kernel
theorem dX8_mean_24 : decode cX8_mean 24 = .ok (.ifCond .ne 6, 3) := by decide +kernel
theorem dX8_mean_27 : decode cX8_mean 27 = .ok (.ldc 66, 2) := by decide +kernel
theorem dX8_mean_29 : decode cX8_mean 29 = .ok (.ireturn, 1) := by decide +kernel
theorem dX8_mean_30 : decode cX8_mean 30 = .ok (.aload_n 0, 1) := by decide +kernel
theorem dX8_mean_31 : decode cX8_mean 31 = .ok (.invokevirtual 205, 3) := by decide +kernel
theorem dX8_mean_34 : decode cX8_mean 34 = .ok (.aload_n 0, 1) := by decide +kernel
theorem dX8_mean_35 : decode cX8_mean 35 = .ok (.iload_n 2, 1) := by decide +kernel
theorem dX8_mean_36 : decode cX8_mean 36 = .ok (.iload_n 3, 1) := by decide +kernel
theorem dX8_mean_37 : decode cX8_mean 37 = .ok (.invokevirtual 211, 3) := by decide +kernel
theorem dX8_mean_40 : decode cX8_mean 40 = .ok (.aload_n 0, 1) := by decide +kernel
theorem dX8_mean_41 : decode cX8_mean 41 = .ok (.iload_n 1, 1) := by decide +kernel
theorem dX8_mean_42 : decode cX8_mean 42 = .ok (.invokevirtual 225, 3) := by decide +kernel
theorem dX8_mean_45 : decode cX8_mean 45 = .ok (.aload_n 0, 1) := by decide +kernel
theorem dX8_mean_46 : decode cX8_mean 46 = .ok (.getfield 186, 3) := by decide +kernel
theorem dX8_mean_49 : decode cX8_mean 49 = .ok (.iload 4, 2) := by decide +kernel
theorem dX8_mean_51 : decode cX8_mean 51 = .ok (.invokestatic 228, 3) := by decide +kernel
theorem dX8_mean_54 : decode cX8_mean 54 = .ok (.ireturn, 1) := by decide +kernel
theorem dX8_some_0 : decode cX8_some 0 = .ok (.aload_n 0, 1) := by decide +kernel
theorem dX8_some_1 : decode cX8_some 1 = .ok (.iload_n 1, 1) := by decide +kernel
theorem dX8_some_2 : decode cX8_some 2 = .ok (.invokevirtual 219, 3) := by decide +kernel
theorem dX8_some_5 : decode cX8_some 5 = .ok (.ifCond .eq 35, 3) := by decide +kernel
theorem dX8_some_8 : decode cX8_some 8 = .ok (.iload_n 2, 1) := by decide +kernel
theorem dX8_some_9 : decode cX8_some 9 = .ok (.iload_n 3, 1) := by decide +kernel
theorem dX8_some_10 : decode cX8_some 10 = .ok (.invokestatic 194, 3) := by decide +kernel
theorem dX8_some_13 : decode cX8_some 13 = .ok (.ifCond .eq 27, 3) := by decide +kernel
theorem dX8_some_16 : decode cX8_some 16 = .ok (.iload 4, 2) := by decide +kernel
theorem dX8_some_18 : decode cX8_some 18 = .ok (.i2l, 1) := by decide +kernel
theorem dX8_some_19 : decode cX8_some 19 = .ok (.lconst 0, 1) := by decide +kernel
theorem dX8_some_20 : decode cX8_some 20 = .ok (.ldc2_w 232, 3) := by decide +kernel
theorem dX8_some_23 : decode cX8_some 23 = .ok (.invokestatic 60, 3) := by decide +kernel
theorem dX8_some_26 : decode cX8_some 26 = .ok (.ifCond .eq 14, 3) := by decide +kernel
theorem dX8_some_29 : decode cX8_some 29 = .ok (.iload 5, 2) := by decide +kernel
theorem dX8_some_31 : decode cX8_some 31 = .ok (.i2l, 1) := by decide +kernel
theorem dX8_some_32 : decode cX8_some 32 = .ok (.lconst 0, 1) := by decide +kernel
theorem dX8_some_33 : decode cX8_some 33 = .ok (.lconst 1, 1) := by decide +kernel
theorem dX8_some_34 : decode cX8_some 34 = .ok (.invokestatic 60, 3) := by decide +kernel
theorem dX8_some_37 : decode cX8_some 37 = .ok (.ifCond .ne 6, 3) := by decide +kernel
theorem dX8_some_40 : decode cX8_some 40 = .ok (.ldc 66, 2) := by decide +kernel
theorem dX8_some_42 : decode cX8_some 42 = .ok (.ireturn, 1) := by decide +kernel
theorem dX8_some_43 : decode cX8_some 43 = .ok (.aload_n 0, 1) := by decide +kernel
theorem dX8_some_44 : decode cX8_some 44 = .ok (.invokevirtual 205, 3) := by decide +kernel
theorem dX8_some_47 : decode cX8_some 47 = .ok (.aload_n 0, 1) := by decide +kernel
theorem dX8_some_48 : decode cX8_some 48 = .ok (.iload_n 2, 1) := by decide +kernel
theorem dX8_some_49 : decode cX8_some 49 = .ok (.iload_n 3, 1) := by decide +kernel
theorem dX8_some_50 : decode cX8_some 50 = .ok (.invokevirtual 211, 3) := by decide +kernel
theorem dX8_some_53 : decode cX8_some 53 = .ok (.iconst 1, 1) := by decide +kernel
theorem dX8_some_54 : decode cX8_some 54 = .ok (.istore 6, 2) := by decide +kernel
theorem dX8_some_56 : decode cX8_some 56 = .ok (.iconst 1, 1) := by decide +kernel
theorem dX8_some_57 : decode cX8_some 57 = .ok (.istore 7, 2) := by decide +kernel
theorem dX8_some_59 : decode cX8_some 59 = .ok (.iconst 0, 1) := by decide +kernel
theorem dX8_some_60 : decode cX8_some 60 = .ok (.istore 8, 2) := by decide +kernel
theorem dX8_some_62 : decode cX8_some 62 = .ok (.iload 8, 2) := by decide +kernel
theorem dX8_some_64 : decode cX8_some 64 = .ok (.iload 4, 2) := by decide +kernel
theorem dX8_some_66 : decode cX8_some 66 = .ok (.if_icmp .ge 33, 3) := by decide +kernel
theorem dX8_some_69 : decode cX8_some 69 = .ok (.iload 6, 2) := by decide +kernel
theorem dX8_some_71 : decode cX8_some 71 = .ok (.aload_n 0, 1) := by decide +kernel
theorem dX8_some_72 : decode cX8_some 72 = .ok (.getfield 186, 3) := by decide +kernel
theorem dX8_some_75 : decode cX8_some 75 = .ok (.aload_n 0, 1) := by decide +kernel
theorem dX8_some_76 : decode cX8_some 76 = .ok (.iload_n 1, 1) := by decide +kernel
theorem dX8_some_77 : decode cX8_some 77 = .ok (.invokevirtual 225, 3) := by decide +kernel
theorem dX8_some_80 : decode cX8_some 80 = .ok (.isub, 1) := by decide +kernel
theorem dX8_some_81 : decode cX8_some 81 = .ok (.imul, 1) := by decide +kernel
theorem dX8_some_82 : decode cX8_some 82 = .ok (.istore 6, 2) := by decide +kernel
theorem dX8_some_84 : decode cX8_some 84 = .ok (.iload 7, 2) := by decide +kernel
theorem dX8_some_86 : decode cX8_some 86 = .ok (.aload_n 0, 1) := by decide +kernel
theorem dX8_some_87 : decode cX8_some 87 = .ok (.getfield 186, 3) := by decide +kernel
theorem dX8_some_90 : decode cX8_some 90 = .ok (.imul, 1) := by decide +kernel
theorem dX8_some_91 : decode cX8_some 91 = .ok (.istore 7, 2) := by decide +kernel
theorem dX8_some_93 : decode cX8_some 93 = .ok (.iinc 8 1, 3) := by decide +kernel
theorem dX8_some_96 : decode cX8_some 96 = .ok (.goto (-34), 3) := by decide +kernel
theorem dX8_some_99 : decode cX8_some 99 = .ok (.iload 7, 2) := by decide +kernel
theorem dX8_some_101 : decode cX8_some 101 = .ok (.iload 6, 2) := by decide +kernel
theorem dX8_some_103 : decode cX8_some 103 = .ok (.isub, 1) := by decide +kernel
theorem dX8_some_104 : decode cX8_some 104 = .ok (.iload 7, 2) := by decide +kernel
theorem dX8_some_106 : decode cX8_some 106 = .ok (.iload 5, 2) := by decide +kernel
theorem dX8_some_108 : decode cX8_some 108 = .ok (.invokestatic 228, 3) := by decide +kernel
theorem dX8_some_111 : decode cX8_some 111 = .ok (.ireturn, 1) := by decide +kernel
theorem dX8_standOf_0 : decode cX8_standOf 0 = .ok (.aload_n 0, 1) := by decide +kernel
theorem dX8_standOf_1 : decode cX8_standOf 1 = .ok (.getfield 41, 3) := by decide +kernel
theorem dX8_standOf_4 : decode cX8_standOf 4 = .ok (.iload_n 1, 1) := by decide +kernel
theorem dX8_standOf_5 : decode cX8_standOf 5 = .ok (.iaload, 1) := by decide +kernel
theorem dX8_standOf_6 : decode cX8_standOf 6 = .ok (.istore_n 2, 1) := by decide +kernel
theorem dX8_standOf_7 : decode cX8_standOf 7 = .ok (.iconst 0, 1) := by decide +kernel
theorem dX8_standOf_8 : decode cX8_standOf 8 = .ok (.istore_n 3, 1) := by decide +kernel
theorem dX8_standOf_9 : decode cX8_standOf 9 = .ok (.iconst (-1), 1) := by decide +kernel
theorem dX8_standOf_10 : decode cX8_standOf 10 = .ok (.istore 4, 2) := by decide +kernel
theorem dX8_standOf_12 : decode cX8_standOf 12 = .ok (.iconst 0, 1) := by decide +kernel
theorem dX8_standOf_13 : decode cX8_standOf 13 = .ok (.istore 5, 2) := by decide +kernel
theorem dX8_standOf_15 : decode cX8_standOf 15 = .ok (.iload 5, 2) := by decide +kernel
theorem dX8_standOf_17 : decode cX8_standOf 17 = .ok (.bipush 30, 2) := by decide +kernel
theorem dX8_standOf_19 : decode cX8_standOf 19 = .ok (.if_icmp .ge 54, 3) := by decide +kernel
theorem dX8_standOf_22 : decode cX8_standOf 22 = .ok (.aload_n 0, 1) := by decide +kernel
theorem dX8_standOf_23 : decode cX8_standOf 23 = .ok (.getfield 41, 3) := by decide +kernel
theorem dX8_standOf_26 : decode cX8_standOf 26 = .ok (.iload_n 1, 1) := by decide +kernel
theorem dX8_standOf_27 : decode cX8_standOf 27 = .ok (.iload 5, 2) := by decide +kernel
theorem dX8_standOf_29 : decode cX8_standOf 29 = .ok (.iastore, 1) := by decide +kernel
theorem dX8_standOf_30 : decode cX8_standOf 30 = .ok (.aload_n 0, 1) := by decide +kernel
theorem dX8_standOf_31 : decode cX8_standOf 31 = .ok (.iload_n 1, 1) := by decide +kernel
theorem dX8_standOf_32 : decode cX8_standOf 32 = .ok (.invokevirtual 225, 3) := by decide +kernel
theorem dX8_standOf_35 : decode cX8_standOf 35 = .ok (.istore 6, 2) := by decide +kernel
theorem dX8_standOf_37 : decode cX8_standOf 37 = .ok (.iload 6, 2) := by decide +kernel
theorem dX8_standOf_39 : decode cX8_standOf 39 = .ok (.iload 4, 2) := by decide +kernel
theorem dX8_standOf_41 : decode cX8_standOf 41 = .ok (.if_icmp .le 8, 3) := by decide +kernel
theorem dX8_standOf_44 : decode cX8_standOf 44 = .ok (.iload 5, 2) := by decide +kernel
theorem dX8_standOf_46 : decode cX8_standOf 46 = .ok (.goto 4, 3) := by decide +kernel
theorem dX8_standOf_49 : decode cX8_standOf 49 = .ok (.iload_n 3, 1) := by decide +kernel
theorem dX8_standOf_50 : decode cX8_standOf 50 = .ok (.istore_n 3, 1) := by decide +kernel
theorem dX8_standOf_51 : decode cX8_standOf 51 = .ok (.iload 6, 2) := by decide +kernel
theorem dX8_standOf_53 : decode cX8_standOf 53 = .ok (.iload 4, 2) := by decide +kernel
theorem dX8_standOf_55 : decode cX8_standOf 55 = .ok (.if_icmp .le 8, 3) := by decide +kernel
theorem dX8_standOf_58 : decode cX8_standOf 58 = .ok (.iload 6, 2) := by decide +kernel
theorem dX8_standOf_60 : decode cX8_standOf 60 = .ok (.goto 5, 3) := by decide +kernel
theorem dX8_standOf_63 : decode cX8_standOf 63 = .ok (.iload 4, 2) := by decide +kernel
theorem dX8_standOf_65 : decode cX8_standOf 65 = .ok (.istore 4, 2) := by decide +kernel
theorem dX8_standOf_67 : decode cX8_standOf 67 = .ok (.iinc 5 1, 3) := by decide +kernel
theorem dX8_standOf_70 : decode cX8_standOf 70 = .ok (.goto (-55), 3) := by decide +kernel
theorem dX8_standOf_73 : decode cX8_standOf 73 = .ok (.aload_n 0, 1) := by decide +kernel
theorem dX8_standOf_74 : decode cX8_standOf 74 = .ok (.getfield 41, 3) := by decide +kernel
theorem dX8_standOf_77 : decode cX8_standOf 77 = .ok (.iload_n 1, 1) := by decide +kernel
theorem dX8_standOf_78 : decode cX8_standOf 78 = .ok (.iload_n 2, 1) := by decide +kernel
theorem dX8_standOf_79 : decode cX8_standOf 79 = .ok (.iastore, 1) := by decide +kernel
theorem dX8_standOf_80 : decode cX8_standOf 80 = .ok (.iload_n 3, 1) := by decide +kernel
theorem dX8_standOf_81 : decode cX8_standOf 81 = .ok (.ireturn, 1) := by decide +kernel
theorem dX8_stand_0 : decode cX8_stand 0 = .ok (.aload_n 0, 1) := by decide +kernel
theorem dX8_stand_1 : decode cX8_stand 1 = .ok (.iload_n 1, 1) := by decide +kernel
theorem dX8_stand_2 : decode cX8_stand 2 = .ok (.invokevirtual 219, 3) := by decide +kernel
theorem dX8_stand_5 : decode cX8_stand 5 = .ok (.ifCond .eq 11, 3) := by decide +kernel
theorem dX8_stand_8 : decode cX8_stand 8 = .ok (.iload_n 2, 1) := by decide +kernel
theorem dX8_stand_9 : decode cX8_stand 9 = .ok (.iload_n 3, 1) := by decide +kernel
theorem dX8_stand_10 : decode cX8_stand 10 = .ok (.invokestatic 194, 3) := by decide +kernel
theorem dX8_stand_13 : decode cX8_stand 13 = .ok (.ifCond .ne 6, 3) := by decide +kernel
theorem dX8_stand_16 : decode cX8_stand 16 = .ok (.ldc 66, 2) := by decide +kernel
theorem dX8_stand_18 : decode cX8_stand 18 = .ok (.ireturn, 1) := by decide +kernel
theorem dX8_stand_19 : decode cX8_stand 19 = .ok (.aload_n 0, 1) := by decide +kernel
theorem dX8_stand_20 : decode cX8_stand 20 = .ok (.invokevirtual 205, 3) := by decide +kernel
theorem dX8_stand_23 : decode cX8_stand 23 = .ok (.aload_n 0, 1) := by decide +kernel
theorem dX8_stand_24 : decode cX8_stand 24 = .ok (.iload_n 2, 1) := by decide +kernel
theorem dX8_stand_25 : decode cX8_stand 25 = .ok (.iload_n 3, 1) := by decide +kernel
theorem dX8_stand_26 : decode cX8_stand 26 = .ok (.invokevirtual 211, 3) := by decide +kernel
theorem dX8_stand_29 : decode cX8_stand 29 = .ok (.aload_n 0, 1) := by decide +kernel
theorem dX8_stand_30 : decode cX8_stand 30 = .ok (.iload_n 1, 1) := by decide +kernel
theorem dX8_stand_31 : decode cX8_stand 31 = .ok (.invokevirtual 234, 3) := by decide +kernel
theorem dX8_stand_34 : decode cX8_stand 34 = .ok (.ireturn, 1) := by decide +kernel
theorem dX8_brothers_0 : decode cX8_brothers 0 = .ok (.aload_n 0, 1) := by decide +kernel
theorem dX8_brothers_1 : decode cX8_brothers 1 = .ok (.iload_n 1, 1) := by decide +kernel
theorem dX8_brothers_2 : decode cX8_brothers 2 = .ok (.invokevirtual 219, 3) := by decide +kernel
theorem dX8_brothers_5 : decode cX8_brothers 5 = .ok (.ifCond .eq 36, 3) := by decide +kernel
theorem dX8_brothers_8 : decode cX8_brothers 8 = .ok (.aload_n 0, 1) := by decide +kernel
theorem dX8_brothers_9 : decode cX8_brothers 9 = .ok (.iload_n 2, 1) := by decide +kernel
theorem dX8_brothers_10 : decode cX8_brothers 10 = .ok (.invokevirtual 219, 3) := by decide +kernel
theorem dX8_brothers_13 : decode cX8_brothers 13 = .ok (.ifCond .eq 28, 3) := by decide +kernel
theorem dX8_brothers_16 : decode cX8_brothers 16 = .ok (.iload_n 1, 1) := by decide +kernel
theorem dX8_brothers_17 : decode cX8_brothers 17 = .ok (.iload_n 2, 1) := by decide +kernel
theorem dX8_brothers_18 : decode cX8_brothers 18 = .ok (.if_icmp .eq 23, 3) := by decide +kernel
theorem dX8_brothers_21 : decode cX8_brothers 21 = .ok (.iload_n 3, 1) := by decide +kernel
theorem dX8_brothers_22 : decode cX8_brothers 22 = .ok (.iload 4, 2) := by decide +kernel
theorem dX8_brothers_24 : decode cX8_brothers 24 = .ok (.invokestatic 194, 3) := by decide +kernel
theorem dX8_brothers_27 : decode cX8_brothers 27 = .ok (.ifCond .eq 14, 3) := by decide +kernel
theorem dX8_brothers_30 : decode cX8_brothers 30 = .ok (.iload 5, 2) := by decide +kernel
theorem dX8_brothers_32 : decode cX8_brothers 32 = .ok (.i2l, 1) := by decide +kernel
theorem dX8_brothers_33 : decode cX8_brothers 33 = .ok (.lconst 0, 1) := by decide +kernel
theorem dX8_brothers_34 : decode cX8_brothers 34 = .ok (.lconst 1, 1) := by decide +kernel
theorem dX8_brothers_35 : decode cX8_brothers 35 = .ok (.invokestatic 60, 3) := by decide +kernel
theorem dX8_brothers_38 : decode cX8_brothers 38 = .ok (.ifCond .ne 6, 3) := by decide +kernel
theorem dX8_brothers_41 : decode cX8_brothers 41 = .ok (.ldc 66, 2) := by decide +kernel
theorem dX8_brothers_43 : decode cX8_brothers 43 = .ok (.ireturn, 1) := by decide +kernel
theorem dX8_brothers_44 : decode cX8_brothers 44 = .ok (.aload_n 0, 1) := by decide +kernel
theorem dX8_brothers_45 : decode cX8_brothers 45 = .ok (.invokevirtual 205, 3) := by decide +kernel
theorem dX8_brothers_48 : decode cX8_brothers 48 = .ok (.aload_n 0, 1) := by decide +kernel
theorem dX8_brothers_49 : decode cX8_brothers 49 = .ok (.iload_n 3, 1) := by decide +kernel
theorem dX8_brothers_50 : decode cX8_brothers 50 = .ok (.iload 4, 2) := by decide +kernel
theorem dX8_brothers_52 : decode cX8_brothers 52 = .ok (.invokevirtual 211, 3) := by decide +kernel
theorem dX8_brothers_55 : decode cX8_brothers 55 = .ok (.iconst 0, 1) := by decide +kernel
theorem dX8_brothers_56 : decode cX8_brothers 56 = .ok (.istore 6, 2) := by decide +kernel
theorem dX8_brothers_58 : decode cX8_brothers 58 = .ok (.iconst (-1), 1) := by decide +kernel
theorem dX8_brothers_59 : decode cX8_brothers 59 = .ok (.istore 7, 2) := by decide +kernel
theorem dX8_brothers_61 : decode cX8_brothers 61 = .ok (.iconst 0, 1) := by decide +kernel
theorem dX8_brothers_62 : decode cX8_brothers 62 = .ok (.istore 8, 2) := by decide +kernel
theorem dX8_brothers_64 : decode cX8_brothers 64 = .ok (.iload 8, 2) := by decide +kernel
theorem dX8_brothers_66 : decode cX8_brothers 66 = .ok (.sipush 900, 3) := by decide +kernel
theorem dX8_brothers_69 : decode cX8_brothers 69 = .ok (.if_icmp .ge 76, 3) := by decide +kernel
theorem dX8_brothers_72 : decode cX8_brothers 72 = .ok (.aload_n 0, 1) := by decide +kernel
theorem dX8_brothers_73 : decode cX8_brothers 73 = .ok (.getfield 41, 3) := by decide +kernel
theorem dX8_brothers_76 : decode cX8_brothers 76 = .ok (.iload_n 1, 1) := by decide +kernel
theorem dX8_brothers_77 : decode cX8_brothers 77 = .ok (.iload 8, 2) := by decide +kernel
theorem dX8_brothers_79 : decode cX8_brothers 79 = .ok (.bipush 30, 2) := by decide +kernel
theorem dX8_brothers_81 : decode cX8_brothers 81 = .ok (.idiv, 1) := by decide +kernel
theorem dX8_brothers_82 : decode cX8_brothers 82 = .ok (.iastore, 1) := by decide +kernel
theorem dX8_brothers_83 : decode cX8_brothers 83 = .ok (.aload_n 0, 1) := by decide +kernel
theorem dX8_brothers_84 : decode cX8_brothers 84 = .ok (.getfield 41, 3) := by decide +kernel
theorem dX8_brothers_87 : decode cX8_brothers 87 = .ok (.iload_n 2, 1) := by decide +kernel
theorem dX8_brothers_88 : decode cX8_brothers 88 = .ok (.iload 8, 2) := by decide +kernel
theorem dX8_brothers_90 : decode cX8_brothers 90 = .ok (.bipush 30, 2) := by decide +kernel
theorem dX8_brothers_92 : decode cX8_brothers 92 = .ok (.irem, 1) := by decide +kernel
theorem dX8_brothers_93 : decode cX8_brothers 93 = .ok (.iastore, 1) := by decide +kernel
theorem dX8_brothers_94 : decode cX8_brothers 94 = .ok (.aload_n 0, 1) := by decide +kernel
theorem dX8_brothers_95 : decode cX8_brothers 95 = .ok (.iload_n 1, 1) := by decide +kernel
theorem dX8_brothers_96 : decode cX8_brothers 96 = .ok (.invokevirtual 225, 3) := by decide +kernel
theorem dX8_brothers_99 : decode cX8_brothers 99 = .ok (.aload_n 0, 1) := by decide +kernel
theorem dX8_brothers_100 : decode cX8_brothers 100 = .ok (.iload_n 2, 1) := by decide +kernel
theorem dX8_brothers_101 : decode cX8_brothers 101 = .ok (.invokevirtual 225, 3) := by decide +kernel
theorem dX8_brothers_104 : decode cX8_brothers 104 = .ok (.iadd, 1) := by decide +kernel
theorem dX8_brothers_105 : decode cX8_brothers 105 = .ok (.istore 9, 2) := by decide +kernel
theorem dX8_brothers_107 : decode cX8_brothers 107 = .ok (.iload 9, 2) := by decide +kernel
theorem dX8_brothers_109 : decode cX8_brothers 109 = .ok (.iload 7, 2) := by decide +kernel
theorem dX8_brothers_111 : decode cX8_brothers 111 = .ok (.if_icmp .le 8, 3) := by decide +kernel
theorem dX8_brothers_114 : decode cX8_brothers 114 = .ok (.iload 8, 2) := by decide +kernel
theorem dX8_brothers_116 : decode cX8_brothers 116 = .ok (.goto 5, 3) := by decide +kernel
theorem dX8_brothers_119 : decode cX8_brothers 119 = .ok (.iload 6, 2) := by decide +kernel
theorem dX8_brothers_121 : decode cX8_brothers 121 = .ok (.istore 6, 2) := by decide +kernel
theorem dX8_brothers_123 : decode cX8_brothers 123 = .ok (.iload 9, 2) := by decide +kernel
theorem dX8_brothers_125 : decode cX8_brothers 125 = .ok (.iload 7, 2) := by decide +kernel
theorem dX8_brothers_127 : decode cX8_brothers 127 = .ok (.if_icmp .le 8, 3) := by decide +kernel
theorem dX8_brothers_130 : decode cX8_brothers 130 = .ok (.iload 9, 2) := by decide +kernel
theorem dX8_brothers_132 : decode cX8_brothers 132 = .ok (.goto 5, 3) := by decide +kernel
theorem dX8_brothers_135 : decode cX8_brothers 135 = .ok (.iload 7, 2) := by decide +kernel
theorem dX8_brothers_137 : decode cX8_brothers 137 = .ok (.istore 7, 2) := by decide +kernel
theorem dX8_brothers_139 : decode cX8_brothers 139 = .ok (.iinc 8 1, 3) := by decide +kernel
theorem dX8_brothers_142 : decode cX8_brothers 142 = .ok (.goto (-78), 3) := by decide +kernel
theorem dX8_brothers_145 : decode cX8_brothers 145 = .ok (.iload 5, 2) := by decide +kernel
theorem dX8_brothers_147 : decode cX8_brothers 147 = .ok (.ifCond .ne 11, 3) := by decide +kernel
theorem dX8_brothers_150 : decode cX8_brothers 150 = .ok (.iload 6, 2) := by decide +kernel
theorem dX8_brothers_152 : decode cX8_brothers 152 = .ok (.bipush 30, 2) := by decide +kernel
theorem dX8_brothers_154 : decode cX8_brothers 154 = .ok (.idiv, 1) := by decide +kernel
theorem dX8_brothers_155 : decode cX8_brothers 155 = .ok (.goto 8, 3) := by decide +kernel
theorem dX8_brothers_158 : decode cX8_brothers 158 = .ok (.iload 6, 2) := by decide +kernel
theorem dX8_brothers_160 : decode cX8_brothers 160 = .ok (.bipush 30, 2) := by decide +kernel
theorem dX8_brothers_162 : decode cX8_brothers 162 = .ok (.irem, 1) := by decide +kernel
theorem dX8_brothers_163 : decode cX8_brothers 163 = .ok (.ireturn, 1) := by decide +kernel
theorem dX8_settles_0 : decode cX8_settles 0 = .ok (.iconst 1, 1) := by decide +kernel
theorem dX8_settles_1 : decode cX8_settles 1 = .ok (.istore_n 1, 1) := by decide +kernel
theorem dX8_settles_2 : decode cX8_settles 2 = .ok (.iload_n 1, 1) := by decide +kernel
theorem dX8_settles_3 : decode cX8_settles 3 = .ok (.bipush 20, 2) := by decide +kernel
theorem dX8_settles_5 : decode cX8_settles 5 = .ok (.if_icmp .gt 71, 3) := by decide +kernel
theorem dX8_settles_8 : decode cX8_settles 8 = .ok (.iconst 0, 1) := by decide +kernel
theorem dX8_settles_9 : decode cX8_settles 9 = .ok (.istore_n 2, 1) := by decide +kernel
theorem dX8_settles_10 : decode cX8_settles 10 = .ok (.iconst 0, 1) := by decide +kernel
theorem dX8_settles_11 : decode cX8_settles 11 = .ok (.istore_n 3, 1) := by decide +kernel
theorem dX8_settles_12 : decode cX8_settles 12 = .ok (.iload_n 3, 1) := by decide +kernel
theorem dX8_settles_13 : decode cX8_settles 13 = .ok (.aload_n 0, 1) := by decide +kernel
theorem dX8_settles_14 : decode cX8_settles 14 = .ok (.getfield 22, 3) := by decide +kernel
theorem dX8_settles_17 : decode cX8_settles 17 = .ok (.iconst 3, 1) := by decide +kernel
theorem dX8_settles_18 : decode cX8_settles 18 = .ok (.iaload, 1) := by decide +kernel
theorem dX8_settles_19 : decode cX8_settles 19 = .ok (.if_icmp .ge 45, 3) := by decide +kernel
theorem dX8_settles_22 : decode cX8_settles 22 = .ok (.aload_n 0, 1) := by decide +kernel
theorem dX8_settles_23 : decode cX8_settles 23 = .ok (.iload_n 3, 1) := by decide +kernel
theorem dX8_settles_24 : decode cX8_settles 24 = .ok (.invokevirtual 234, 3) := by decide +kernel
theorem dX8_settles_27 : decode cX8_settles 27 = .ok (.istore 4, 2) := by decide +kernel
theorem dX8_settles_29 : decode cX8_settles 29 = .ok (.iload_n 2, 1) := by decide +kernel
theorem dX8_settles_30 : decode cX8_settles 30 = .ok (.ifCond .ne 14, 3) := by decide +kernel
theorem dX8_settles_33 : decode cX8_settles 33 = .ok (.iload 4, 2) := by decide +kernel
theorem dX8_settles_35 : decode cX8_settles 35 = .ok (.aload_n 0, 1) := by decide +kernel
theorem dX8_settles_36 : decode cX8_settles 36 = .ok (.getfield 41, 3) := by decide +kernel
theorem dX8_settles_39 : decode cX8_settles 39 = .ok (.iload_n 3, 1) := by decide +kernel
theorem dX8_settles_40 : decode cX8_settles 40 = .ok (.iaload, 1) := by decide +kernel
theorem dX8_settles_41 : decode cX8_settles 41 = .ok (.if_icmp .eq 7, 3) := by decide +kernel
theorem dX8_settles_44 : decode cX8_settles 44 = .ok (.iconst 1, 1) := by decide +kernel
theorem dX8_settles_45 : decode cX8_settles 45 = .ok (.goto 4, 3) := by decide +kernel
theorem dX8_settles_48 : decode cX8_settles 48 = .ok (.iconst 0, 1) := by decide +kernel
theorem dX8_settles_49 : decode cX8_settles 49 = .ok (.istore_n 2, 1) := by decide +kernel
theorem dX8_settles_50 : decode cX8_settles 50 = .ok (.aload_n 0, 1) := by decide +kernel
theorem dX8_settles_51 : decode cX8_settles 51 = .ok (.getfield 41, 3) := by decide +kernel
theorem dX8_settles_54 : decode cX8_settles 54 = .ok (.iload_n 3, 1) := by decide +kernel
theorem dX8_settles_55 : decode cX8_settles 55 = .ok (.iload 4, 2) := by decide +kernel
theorem dX8_settles_57 : decode cX8_settles 57 = .ok (.iastore, 1) := by decide +kernel
theorem dX8_settles_58 : decode cX8_settles 58 = .ok (.iinc 3 1, 3) := by decide +kernel
theorem dX8_settles_61 : decode cX8_settles 61 = .ok (.goto (-49), 3) := by decide +kernel
theorem dX8_settles_64 : decode cX8_settles 64 = .ok (.iload_n 2, 1) := by decide +kernel
theorem dX8_settles_65 : decode cX8_settles 65 = .ok (.ifCond .ne 5, 3) := by decide +kernel
theorem dX8_settles_68 : decode cX8_settles 68 = .ok (.iload_n 1, 1) := by decide +kernel
theorem dX8_settles_69 : decode cX8_settles 69 = .ok (.ireturn, 1) := by decide +kernel
theorem dX8_settles_70 : decode cX8_settles 70 = .ok (.iinc 1 1, 3) := by decide +kernel
theorem dX8_settles_73 : decode cX8_settles 73 = .ok (.goto (-71), 3) := by decide +kernel
theorem dX8_settles_76 : decode cX8_settles 76 = .ok (.ldc 179, 2) := by decide +kernel
theorem dX8_settles_78 : decode cX8_settles 78 = .ok (.ireturn, 1) := by decide +kernel
theorem dX8_rounds_0 : decode cX8_rounds 0 = .ok (.aload_n 0, 1) := by decide +kernel
theorem dX8_rounds_1 : decode cX8_rounds 1 = .ok (.getfield 22, 3) := by decide +kernel
theorem dX8_rounds_4 : decode cX8_rounds 4 = .ok (.iconst 0, 1) := by decide +kernel
theorem dX8_rounds_5 : decode cX8_rounds 5 = .ok (.iaload, 1) := by decide +kernel
theorem dX8_rounds_6 : decode cX8_rounds 6 = .ok (.ifCond .ne 6, 3) := by decide +kernel
theorem dX8_rounds_9 : decode cX8_rounds 9 = .ok (.ldc 193, 2) := by decide +kernel
theorem dX8_rounds_11 : decode cX8_rounds 11 = .ok (.ireturn, 1) := by decide +kernel
theorem dX8_rounds_12 : decode cX8_rounds 12 = .ok (.iload_n 1, 1) := by decide +kernel
theorem dX8_rounds_13 : decode cX8_rounds 13 = .ok (.iload_n 2, 1) := by decide +kernel
theorem dX8_rounds_14 : decode cX8_rounds 14 = .ok (.invokestatic 194, 3) := by decide +kernel
theorem dX8_rounds_17 : decode cX8_rounds 17 = .ok (.ifCond .eq 23, 3) := by decide +kernel
theorem dX8_rounds_20 : decode cX8_rounds 20 = .ok (.iload_n 3, 1) := by decide +kernel
theorem dX8_rounds_21 : decode cX8_rounds 21 = .ok (.i2l, 1) := by decide +kernel
theorem dX8_rounds_22 : decode cX8_rounds 22 = .ok (.ldc2_w 237, 3) := by decide +kernel
theorem dX8_rounds_25 : decode cX8_rounds 25 = .ok (.aload_n 0, 1) := by decide +kernel
theorem dX8_rounds_26 : decode cX8_rounds 26 = .ok (.getfield 22, 3) := by decide +kernel
theorem dX8_rounds_29 : decode cX8_rounds 29 = .ok (.iconst 3, 1) := by decide +kernel
theorem dX8_rounds_30 : decode cX8_rounds 30 = .ok (.iaload, 1) := by decide +kernel
theorem dX8_rounds_31 : decode cX8_rounds 31 = .ok (.iconst 1, 1) := by decide +kernel
theorem dX8_rounds_32 : decode cX8_rounds 32 = .ok (.isub, 1) := by decide +kernel
theorem dX8_rounds_33 : decode cX8_rounds 33 = .ok (.i2l, 1) := by decide +kernel
theorem dX8_rounds_34 : decode cX8_rounds 34 = .ok (.invokestatic 60, 3) := by decide +kernel
theorem dX8_rounds_37 : decode cX8_rounds 37 = .ok (.ifCond .ne 6, 3) := by decide +kernel
theorem dX8_rounds_40 : decode cX8_rounds 40 = .ok (.ldc 66, 2) := by decide +kernel
theorem dX8_rounds_42 : decode cX8_rounds 42 = .ok (.ireturn, 1) := by decide +kernel
theorem dX8_rounds_43 : decode cX8_rounds 43 = .ok (.aload_n 0, 1) := by decide +kernel
theorem dX8_rounds_44 : decode cX8_rounds 44 = .ok (.invokevirtual 205, 3) := by decide +kernel
theorem dX8_rounds_47 : decode cX8_rounds 47 = .ok (.aload_n 0, 1) := by decide +kernel
theorem dX8_rounds_48 : decode cX8_rounds 48 = .ok (.iload_n 1, 1) := by decide +kernel
theorem dX8_rounds_49 : decode cX8_rounds 49 = .ok (.iload_n 2, 1) := by decide +kernel
theorem dX8_rounds_50 : decode cX8_rounds 50 = .ok (.invokevirtual 211, 3) := by decide +kernel
theorem dX8_rounds_53 : decode cX8_rounds 53 = .ok (.aload_n 0, 1) := by decide +kernel
theorem dX8_rounds_54 : decode cX8_rounds 54 = .ok (.invokevirtual 239, 3) := by decide +kernel
theorem dX8_rounds_57 : decode cX8_rounds 57 = .ok (.istore 4, 2) := by decide +kernel
theorem dX8_rounds_59 : decode cX8_rounds 59 = .ok (.iload_n 3, 1) := by decide +kernel
theorem dX8_rounds_60 : decode cX8_rounds 60 = .ok (.iconst (-1), 1) := by decide +kernel
theorem dX8_rounds_61 : decode cX8_rounds 61 = .ok (.if_icmp .eq 10, 3) := by decide +kernel
theorem dX8_rounds_64 : decode cX8_rounds 64 = .ok (.iload 4, 2) := by decide +kernel
theorem dX8_rounds_66 : decode cX8_rounds 66 = .ok (.ldc 179, 2) := by decide +kernel
theorem dX8_rounds_68 : decode cX8_rounds 68 = .ok (.if_icmp .ne 8, 3) := by decide +kernel
theorem dX8_rounds_71 : decode cX8_rounds 71 = .ok (.iload 4, 2) := by decide +kernel
theorem dX8_rounds_73 : decode cX8_rounds 73 = .ok (.goto 9, 3) := by decide +kernel
theorem dX8_rounds_76 : decode cX8_rounds 76 = .ok (.aload_n 0, 1) := by decide +kernel
theorem dX8_rounds_77 : decode cX8_rounds 77 = .ok (.getfield 41, 3) := by decide +kernel
theorem dX8_rounds_80 : decode cX8_rounds 80 = .ok (.iload_n 3, 1) := by decide +kernel
theorem dX8_rounds_81 : decode cX8_rounds 81 = .ok (.iaload, 1) := by decide +kernel
theorem dX8_rounds_82 : decode cX8_rounds 82 = .ok (.ireturn, 1) := by decide +kernel
theorem dX8_served_0 : decode cX8_served 0 = .ok (.aload_n 0, 1) := by decide +kernel
theorem dX8_served_1 : decode cX8_served 1 = .ok (.iload_n 1, 1) := by decide +kernel
theorem dX8_served_2 : decode cX8_served 2 = .ok (.iload_n 2, 1) := by decide +kernel
theorem dX8_served_3 : decode cX8_served 3 = .ok (.invokevirtual 211, 3) := by decide +kernel
theorem dX8_served_6 : decode cX8_served 6 = .ok (.iconst 0, 1) := by decide +kernel
theorem dX8_served_7 : decode cX8_served 7 = .ok (.istore_n 3, 1) := by decide +kernel
theorem dX8_served_8 : decode cX8_served 8 = .ok (.iconst 0, 1) := by decide +kernel
theorem dX8_served_9 : decode cX8_served 9 = .ok (.istore 4, 2) := by decide +kernel
theorem dX8_served_11 : decode cX8_served 11 = .ok (.iload 4, 2) := by decide +kernel
theorem dX8_served_13 : decode cX8_served 13 = .ok (.aload_n 0, 1) := by decide +kernel
theorem dX8_served_14 : decode cX8_served 14 = .ok (.getfield 186, 3) := by decide +kernel
theorem dX8_served_17 : decode cX8_served 17 = .ok (.if_icmp .ge 58, 3) := by decide +kernel
theorem dX8_served_20 : decode cX8_served 20 = .ok (.aload_n 0, 1) := by decide +kernel
theorem dX8_served_21 : decode cX8_served 21 = .ok (.getfield 47, 3) := by decide +kernel
theorem dX8_served_24 : decode cX8_served 24 = .ok (.iload 4, 2) := by decide +kernel
theorem dX8_served_26 : decode cX8_served 26 = .ok (.iaload, 1) := by decide +kernel
theorem dX8_served_27 : decode cX8_served 27 = .ok (.ldc 179, 2) := by decide +kernel
theorem dX8_served_29 : decode cX8_served 29 = .ok (.if_icmp .ne 8, 3) := by decide +kernel
theorem dX8_served_32 : decode cX8_served 32 = .ok (.ldc 179, 2) := by decide +kernel
theorem dX8_served_34 : decode cX8_served 34 = .ok (.goto 15, 3) := by decide +kernel
theorem dX8_served_37 : decode cX8_served 37 = .ok (.aload_n 0, 1) := by decide +kernel
theorem dX8_served_38 : decode cX8_served 38 = .ok (.getfield 44, 3) := by decide +kernel
theorem dX8_served_41 : decode cX8_served 41 = .ok (.aload_n 0, 1) := by decide +kernel
theorem dX8_served_42 : decode cX8_served 42 = .ok (.getfield 47, 3) := by decide +kernel
theorem dX8_served_45 : decode cX8_served 45 = .ok (.iload 4, 2) := by decide +kernel
theorem dX8_served_47 : decode cX8_served 47 = .ok (.iaload, 1) := by decide +kernel
theorem dX8_served_48 : decode cX8_served 48 = .ok (.iaload, 1) := by decide +kernel
theorem dX8_served_49 : decode cX8_served 49 = .ok (.istore 5, 2) := by decide +kernel
theorem dX8_served_51 : decode cX8_served 51 = .ok (.iload_n 3, 1) := by decide +kernel
theorem dX8_served_52 : decode cX8_served 52 = .ok (.iload 5, 2) := by decide +kernel
theorem dX8_served_54 : decode cX8_served 54 = .ok (.ldc 179, 2) := by decide +kernel
theorem dX8_served_56 : decode cX8_served 56 = .ok (.if_icmp .ne 7, 3) := by decide +kernel
theorem dX8_served_59 : decode cX8_served 59 = .ok (.iconst 0, 1) := by decide +kernel
theorem dX8_served_60 : decode cX8_served 60 = .ok (.goto 7, 3) := by decide +kernel
theorem dX8_served_63 : decode cX8_served 63 = .ok (.iconst 1, 1) := by decide +kernel
theorem dX8_served_64 : decode cX8_served 64 = .ok (.iload 5, 2) := by decide +kernel
theorem dX8_served_66 : decode cX8_served 66 = .ok (.ishl, 1) := by decide +kernel
theorem dX8_served_67 : decode cX8_served 67 = .ok (.ior, 1) := by decide +kernel
theorem dX8_served_68 : decode cX8_served 68 = .ok (.istore_n 3, 1) := by decide +kernel
theorem dX8_served_69 : decode cX8_served 69 = .ok (.iinc 4 1, 3) := by decide +kernel
theorem dX8_served_72 : decode cX8_served 72 = .ok (.goto (-61), 3) := by decide +kernel
theorem dX8_served_75 : decode cX8_served 75 = .ok (.iload_n 3, 1) := by decide +kernel
theorem dX8_served_76 : decode cX8_served 76 = .ok (.ireturn, 1) := by decide +kernel
theorem dX8_ones_0 : decode cX8_ones 0 = .ok (.iconst 0, 1) := by decide +kernel
theorem dX8_ones_1 : decode cX8_ones 1 = .ok (.istore_n 1, 1) := by decide +kernel
theorem dX8_ones_2 : decode cX8_ones 2 = .ok (.iconst 0, 1) := by decide +kernel
theorem dX8_ones_3 : decode cX8_ones 3 = .ok (.istore_n 2, 1) := by decide +kernel
theorem dX8_ones_4 : decode cX8_ones 4 = .ok (.iload_n 2, 1) := by decide +kernel
theorem dX8_ones_5 : decode cX8_ones 5 = .ok (.iconst 5, 1) := by decide +kernel
theorem dX8_ones_6 : decode cX8_ones 6 = .ok (.if_icmp .ge 17, 3) := by decide +kernel
theorem dX8_ones_9 : decode cX8_ones 9 = .ok (.iload_n 1, 1) := by decide +kernel
theorem dX8_ones_10 : decode cX8_ones 10 = .ok (.iload_n 0, 1) := by decide +kernel
theorem dX8_ones_11 : decode cX8_ones 11 = .ok (.iload_n 2, 1) := by decide +kernel
theorem dX8_ones_12 : decode cX8_ones 12 = .ok (.ishr, 1) := by decide +kernel
theorem dX8_ones_13 : decode cX8_ones 13 = .ok (.iconst 1, 1) := by decide +kernel
theorem dX8_ones_14 : decode cX8_ones 14 = .ok (.iand, 1) := by decide +kernel
theorem dX8_ones_15 : decode cX8_ones 15 = .ok (.iadd, 1) := by decide +kernel
theorem dX8_ones_16 : decode cX8_ones 16 = .ok (.istore_n 1, 1) := by decide +kernel
theorem dX8_ones_17 : decode cX8_ones 17 = .ok (.iinc 2 1, 3) := by decide +kernel
theorem dX8_ones_20 : decode cX8_ones 20 = .ok (.goto (-16), 3) := by decide +kernel
theorem dX8_ones_23 : decode cX8_ones 23 = .ok (.iload_n 1, 1) := by decide +kernel
theorem dX8_ones_24 : decode cX8_ones 24 = .ok (.ireturn, 1) := by decide +kernel
theorem dX8_aim_0 : decode cX8_aim 0 = .ok (.aload_n 0, 1) := by decide +kernel
theorem dX8_aim_1 : decode cX8_aim 1 = .ok (.getfield 22, 3) := by decide +kernel
theorem dX8_aim_4 : decode cX8_aim 4 = .ok (.iconst 0, 1) := by decide +kernel
theorem dX8_aim_5 : decode cX8_aim 5 = .ok (.iaload, 1) := by decide +kernel
theorem dX8_aim_6 : decode cX8_aim 6 = .ok (.ifCond .ne 6, 3) := by decide +kernel
theorem dX8_aim_9 : decode cX8_aim 9 = .ok (.ldc 193, 2) := by decide +kernel
theorem dX8_aim_11 : decode cX8_aim 11 = .ok (.ireturn, 1) := by decide +kernel
theorem dX8_aim_12 : decode cX8_aim 12 = .ok (.iload_n 1, 1) := by decide +kernel
theorem dX8_aim_13 : decode cX8_aim 13 = .ok (.i2l, 1) := by decide +kernel
theorem dX8_aim_14 : decode cX8_aim 14 = .ok (.lconst 0, 1) := by decide +kernel
theorem dX8_aim_15 : decode cX8_aim 15 = .ok (.ldc2_w 64, 3) := by decide +kernel
theorem dX8_aim_18 : decode cX8_aim 18 = .ok (.invokestatic 60, 3) := by decide +kernel
theorem dX8_aim_21 : decode cX8_aim 21 = .ok (.ifCond .eq 13, 3) := by decide +kernel
theorem dX8_aim_24 : decode cX8_aim 24 = .ok (.iload_n 2, 1) := by decide +kernel
theorem dX8_aim_25 : decode cX8_aim 25 = .ok (.i2l, 1) := by decide +kernel
theorem dX8_aim_26 : decode cX8_aim 26 = .ok (.lconst 0, 1) := by decide +kernel
theorem dX8_aim_27 : decode cX8_aim 27 = .ok (.lconst 1, 1) := by decide +kernel
theorem dX8_aim_28 : decode cX8_aim 28 = .ok (.invokestatic 60, 3) := by decide +kernel
theorem dX8_aim_31 : decode cX8_aim 31 = .ok (.ifCond .ne 6, 3) := by decide +kernel
theorem dX8_aim_34 : decode cX8_aim 34 = .ok (.ldc 66, 2) := by decide +kernel
theorem dX8_aim_36 : decode cX8_aim 36 = .ok (.ireturn, 1) := by decide +kernel
theorem dX8_aim_37 : decode cX8_aim 37 = .ok (.aload_n 0, 1) := by decide +kernel
theorem dX8_aim_38 : decode cX8_aim 38 = .ok (.invokevirtual 205, 3) := by decide +kernel
theorem dX8_aim_41 : decode cX8_aim 41 = .ok (.aload_n 0, 1) := by decide +kernel
theorem dX8_aim_42 : decode cX8_aim 42 = .ok (.invokevirtual 208, 3) := by decide +kernel
theorem dX8_aim_45 : decode cX8_aim 45 = .ok (.iconst 0, 1) := by decide +kernel
theorem dX8_aim_46 : decode cX8_aim 46 = .ok (.istore_n 3, 1) := by decide +kernel
theorem dX8_aim_47 : decode cX8_aim 47 = .ok (.iconst (-1), 1) := by decide +kernel
theorem dX8_aim_48 : decode cX8_aim 48 = .ok (.istore 4, 2) := by decide +kernel
theorem dX8_aim_50 : decode cX8_aim 50 = .ok (.iconst 0, 1) := by decide +kernel
theorem dX8_aim_51 : decode cX8_aim 51 = .ok (.istore 5, 2) := by decide +kernel
theorem dX8_aim_53 : decode cX8_aim 53 = .ok (.iload 5, 2) := by decide +kernel
theorem dX8_aim_55 : decode cX8_aim 55 = .ok (.bipush 30, 2) := by decide +kernel
theorem dX8_aim_57 : decode cX8_aim 57 = .ok (.if_icmp .ge 51, 3) := by decide +kernel
theorem dX8_aim_60 : decode cX8_aim 60 = .ok (.aload_n 0, 1) := by decide +kernel
theorem dX8_aim_61 : decode cX8_aim 61 = .ok (.iload 5, 2) := by decide +kernel
theorem dX8_aim_63 : decode cX8_aim 63 = .ok (.iload_n 1, 1) := by decide +kernel
theorem dX8_aim_64 : decode cX8_aim 64 = .ok (.invokevirtual 243, 3) := by decide +kernel
theorem dX8_aim_67 : decode cX8_aim 67 = .ok (.invokestatic 246, 3) := by decide +kernel
theorem dX8_aim_70 : decode cX8_aim 70 = .ok (.istore 6, 2) := by decide +kernel
theorem dX8_aim_72 : decode cX8_aim 72 = .ok (.iload 6, 2) := by decide +kernel
theorem dX8_aim_74 : decode cX8_aim 74 = .ok (.iload 4, 2) := by decide +kernel
theorem dX8_aim_76 : decode cX8_aim 76 = .ok (.if_icmp .le 8, 3) := by decide +kernel
theorem dX8_aim_79 : decode cX8_aim 79 = .ok (.iload 5, 2) := by decide +kernel
theorem dX8_aim_81 : decode cX8_aim 81 = .ok (.goto 4, 3) := by decide +kernel
theorem dX8_aim_84 : decode cX8_aim 84 = .ok (.iload_n 3, 1) := by decide +kernel
theorem dX8_aim_85 : decode cX8_aim 85 = .ok (.istore_n 3, 1) := by decide +kernel
theorem dX8_aim_86 : decode cX8_aim 86 = .ok (.iload 6, 2) := by decide +kernel
theorem dX8_aim_88 : decode cX8_aim 88 = .ok (.iload 4, 2) := by decide +kernel
theorem dX8_aim_90 : decode cX8_aim 90 = .ok (.if_icmp .le 8, 3) := by decide +kernel
theorem dX8_aim_93 : decode cX8_aim 93 = .ok (.iload 6, 2) := by decide +kernel
theorem dX8_aim_95 : decode cX8_aim 95 = .ok (.goto 5, 3) := by decide +kernel
theorem dX8_aim_98 : decode cX8_aim 98 = .ok (.iload 4, 2) := by decide +kernel
theorem dX8_aim_100 : decode cX8_aim 100 = .ok (.istore 4, 2) := by decide +kernel
theorem dX8_aim_102 : decode cX8_aim 102 = .ok (.iinc 5 1, 3) := by decide +kernel
theorem dX8_aim_105 : decode cX8_aim 105 = .ok (.goto (-52), 3) := by decide +kernel
theorem dX8_aim_108 : decode cX8_aim 108 = .ok (.iload_n 2, 1) := by decide +kernel
theorem dX8_aim_109 : decode cX8_aim 109 = .ok (.ifCond .ne 7, 3) := by decide +kernel
theorem dX8_aim_112 : decode cX8_aim 112 = .ok (.iload_n 3, 1) := by decide +kernel
theorem dX8_aim_113 : decode cX8_aim 113 = .ok (.goto 5, 3) := by decide +kernel
theorem dX8_aim_116 : decode cX8_aim 116 = .ok (.iload 4, 2) := by decide +kernel
theorem dX8_aim_118 : decode cX8_aim 118 = .ok (.ireturn, 1) := by decide +kernel
theorem dX8_rowOf_0 : decode cX8_rowOf 0 = .ok (.iconst 1, 1) := by decide +kernel
theorem dX8_rowOf_1 : decode cX8_rowOf 1 = .ok (.aload_n 0, 1) := by decide +kernel
theorem dX8_rowOf_2 : decode cX8_rowOf 2 = .ok (.getfield 22, 3) := by decide +kernel
theorem dX8_rowOf_5 : decode cX8_rowOf 5 = .ok (.iconst 3, 1) := by decide +kernel
theorem dX8_rowOf_6 : decode cX8_rowOf 6 = .ok (.iaload, 1) := by decide +kernel
theorem dX8_rowOf_7 : decode cX8_rowOf 7 = .ok (.ishl, 1) := by decide +kernel
theorem dX8_rowOf_8 : decode cX8_rowOf 8 = .ok (.iconst 1, 1) := by decide +kernel
theorem dX8_rowOf_9 : decode cX8_rowOf 9 = .ok (.isub, 1) := by decide +kernel
theorem dX8_rowOf_10 : decode cX8_rowOf 10 = .ok (.istore_n 2, 1) := by decide +kernel
theorem dX8_rowOf_11 : decode cX8_rowOf 11 = .ok (.iload_n 1, 1) := by decide +kernel
theorem dX8_rowOf_12 : decode cX8_rowOf 12 = .ok (.ifCond .ne 7, 3) := by decide +kernel
theorem dX8_rowOf_15 : decode cX8_rowOf 15 = .ok (.iconst 1, 1) := by decide +kernel
theorem dX8_rowOf_16 : decode cX8_rowOf 16 = .ok (.goto 27, 3) := by decide +kernel
theorem dX8_rowOf_19 : decode cX8_rowOf 19 = .ok (.iload_n 1, 1) := by decide +kernel
theorem dX8_rowOf_20 : decode cX8_rowOf 20 = .ok (.iconst 1, 1) := by decide +kernel
theorem dX8_rowOf_21 : decode cX8_rowOf 21 = .ok (.if_icmp .ne 8, 3) := by decide +kernel
theorem dX8_rowOf_24 : decode cX8_rowOf 24 = .ok (.bipush 30, 2) := by decide +kernel
theorem dX8_rowOf_26 : decode cX8_rowOf 26 = .ok (.goto 17, 3) := by decide +kernel
theorem dX8_rowOf_29 : decode cX8_rowOf 29 = .ok (.iload_n 1, 1) := by decide +kernel
theorem dX8_rowOf_30 : decode cX8_rowOf 30 = .ok (.iconst 2, 1) := by decide +kernel
theorem dX8_rowOf_31 : decode cX8_rowOf 31 = .ok (.if_icmp .ne 9, 3) := by decide +kernel
theorem dX8_rowOf_34 : decode cX8_rowOf 34 = .ok (.sipush 900, 3) := by decide +kernel
theorem dX8_rowOf_37 : decode cX8_rowOf 37 = .ok (.goto 6, 3) := by decide +kernel
theorem dX8_rowOf_40 : decode cX8_rowOf 40 = .ok (.sipush 27000, 3) := by decide +kernel
theorem dX8_rowOf_43 : decode cX8_rowOf 43 = .ok (.istore_n 3, 1) := by decide +kernel
theorem dX8_rowOf_44 : decode cX8_rowOf 44 = .ok (.iconst 0, 1) := by decide +kernel
theorem dX8_rowOf_45 : decode cX8_rowOf 45 = .ok (.istore 4, 2) := by decide +kernel
theorem dX8_rowOf_47 : decode cX8_rowOf 47 = .ok (.iload 4, 2) := by decide +kernel
theorem dX8_rowOf_49 : decode cX8_rowOf 49 = .ok (.iload_n 3, 1) := by decide +kernel
theorem dX8_rowOf_50 : decode cX8_rowOf 50 = .ok (.if_icmp .ge 90, 3) := by decide +kernel
theorem dX8_rowOf_53 : decode cX8_rowOf 53 = .ok (.iload_n 1, 1) := by decide +kernel
theorem dX8_rowOf_54 : decode cX8_rowOf 54 = .ok (.ifCond .le 16, 3) := by decide +kernel
theorem dX8_rowOf_57 : decode cX8_rowOf 57 = .ok (.aload_n 0, 1) := by decide +kernel
theorem dX8_rowOf_58 : decode cX8_rowOf 58 = .ok (.getfield 50, 3) := by decide +kernel
theorem dX8_rowOf_61 : decode cX8_rowOf 61 = .ok (.iload 4, 2) := by decide +kernel
theorem dX8_rowOf_63 : decode cX8_rowOf 63 = .ok (.bipush 30, 2) := by decide +kernel
theorem dX8_rowOf_65 : decode cX8_rowOf 65 = .ok (.irem, 1) := by decide +kernel
theorem dX8_rowOf_66 : decode cX8_rowOf 66 = .ok (.iaload, 1) := by decide +kernel
theorem dX8_rowOf_67 : decode cX8_rowOf 67 = .ok (.goto 4, 3) := by decide +kernel
theorem dX8_rowOf_70 : decode cX8_rowOf 70 = .ok (.iconst 0, 1) := by decide +kernel
theorem dX8_rowOf_71 : decode cX8_rowOf 71 = .ok (.istore 5, 2) := by decide +kernel
theorem dX8_rowOf_73 : decode cX8_rowOf 73 = .ok (.iload 5, 2) := by decide +kernel
theorem dX8_rowOf_75 : decode cX8_rowOf 75 = .ok (.iload_n 1, 1) := by decide +kernel
theorem dX8_rowOf_76 : decode cX8_rowOf 76 = .ok (.iconst 1, 1) := by decide +kernel
theorem dX8_rowOf_77 : decode cX8_rowOf 77 = .ok (.if_icmp .le 19, 3) := by decide +kernel
theorem dX8_rowOf_80 : decode cX8_rowOf 80 = .ok (.aload_n 0, 1) := by decide +kernel
theorem dX8_rowOf_81 : decode cX8_rowOf 81 = .ok (.getfield 50, 3) := by decide +kernel
theorem dX8_rowOf_84 : decode cX8_rowOf 84 = .ok (.iload 4, 2) := by decide +kernel
theorem dX8_rowOf_86 : decode cX8_rowOf 86 = .ok (.bipush 30, 2) := by decide +kernel
theorem dX8_rowOf_88 : decode cX8_rowOf 88 = .ok (.idiv, 1) := by decide +kernel
theorem dX8_rowOf_89 : decode cX8_rowOf 89 = .ok (.bipush 30, 2) := by decide +kernel
theorem dX8_rowOf_91 : decode cX8_rowOf 91 = .ok (.irem, 1) := by decide +kernel
theorem dX8_rowOf_92 : decode cX8_rowOf 92 = .ok (.iaload, 1) := by decide +kernel
theorem dX8_rowOf_93 : decode cX8_rowOf 93 = .ok (.goto 4, 3) := by decide +kernel
theorem dX8_rowOf_96 : decode cX8_rowOf 96 = .ok (.iconst 0, 1) := by decide +kernel
theorem dX8_rowOf_97 : decode cX8_rowOf 97 = .ok (.ior, 1) := by decide +kernel
theorem dX8_rowOf_98 : decode cX8_rowOf 98 = .ok (.istore 5, 2) := by decide +kernel
theorem dX8_rowOf_100 : decode cX8_rowOf 100 = .ok (.iload 5, 2) := by decide +kernel
theorem dX8_rowOf_102 : decode cX8_rowOf 102 = .ok (.iload_n 1, 1) := by decide +kernel
theorem dX8_rowOf_103 : decode cX8_rowOf 103 = .ok (.iconst 2, 1) := by decide +kernel
theorem dX8_rowOf_104 : decode cX8_rowOf 104 = .ok (.if_icmp .le 17, 3) := by decide +kernel
theorem dX8_rowOf_107 : decode cX8_rowOf 107 = .ok (.aload_n 0, 1) := by decide +kernel
theorem dX8_rowOf_108 : decode cX8_rowOf 108 = .ok (.getfield 50, 3) := by decide +kernel
theorem dX8_rowOf_111 : decode cX8_rowOf 111 = .ok (.iload 4, 2) := by decide +kernel
theorem dX8_rowOf_113 : decode cX8_rowOf 113 = .ok (.sipush 900, 3) := by decide +kernel
theorem dX8_rowOf_116 : decode cX8_rowOf 116 = .ok (.idiv, 1) := by decide +kernel
theorem dX8_rowOf_117 : decode cX8_rowOf 117 = .ok (.iaload, 1) := by decide +kernel
theorem dX8_rowOf_118 : decode cX8_rowOf 118 = .ok (.goto 4, 3) := by decide +kernel
theorem dX8_rowOf_121 : decode cX8_rowOf 121 = .ok (.iconst 0, 1) := by decide +kernel
theorem dX8_rowOf_122 : decode cX8_rowOf 122 = .ok (.ior, 1) := by decide +kernel
theorem dX8_rowOf_123 : decode cX8_rowOf 123 = .ok (.istore 5, 2) := by decide +kernel
theorem dX8_rowOf_125 : decode cX8_rowOf 125 = .ok (.iload 5, 2) := by decide +kernel
theorem dX8_rowOf_127 : decode cX8_rowOf 127 = .ok (.iload_n 2, 1) := by decide +kernel
theorem dX8_rowOf_128 : decode cX8_rowOf 128 = .ok (.if_icmp .ne 6, 3) := by decide +kernel
theorem dX8_rowOf_131 : decode cX8_rowOf 131 = .ok (.iload 4, 2) := by decide +kernel
theorem dX8_rowOf_133 : decode cX8_rowOf 133 = .ok (.ireturn, 1) := by decide +kernel
theorem dX8_rowOf_134 : decode cX8_rowOf 134 = .ok (.iinc 4 1, 3) := by decide +kernel
theorem dX8_rowOf_137 : decode cX8_rowOf 137 = .ok (.goto (-90), 3) := by decide +kernel
theorem dX8_rowOf_140 : decode cX8_rowOf 140 = .ok (.ldc 179, 2) := by decide +kernel
theorem dX8_rowOf_142 : decode cX8_rowOf 142 = .ok (.ireturn, 1) := by decide +kernel
theorem dX8_throwsFor_0 : decode cX8_throwsFor 0 = .ok (.aload_n 0, 1) := by decide +kernel
theorem dX8_throwsFor_1 : decode cX8_throwsFor 1 = .ok (.getfield 22, 3) := by decide +kernel
theorem dX8_throwsFor_4 : decode cX8_throwsFor 4 = .ok (.iconst 0, 1) := by decide +kernel
theorem dX8_throwsFor_5 : decode cX8_throwsFor 5 = .ok (.iaload, 1) := by decide +kernel
theorem dX8_throwsFor_6 : decode cX8_throwsFor 6 = .ok (.ifCond .ne 6, 3) := by decide +kernel
theorem dX8_throwsFor_9 : decode cX8_throwsFor 9 = .ok (.ldc 193, 2) := by decide +kernel
theorem dX8_throwsFor_11 : decode cX8_throwsFor 11 = .ok (.ireturn, 1) := by decide +kernel
theorem dX8_throwsFor_12 : decode cX8_throwsFor 12 = .ok (.iload_n 1, 1) := by decide +kernel
theorem dX8_throwsFor_13 : decode cX8_throwsFor 13 = .ok (.i2l, 1) := by decide +kernel
theorem dX8_throwsFor_14 : decode cX8_throwsFor 14 = .ok (.lconst 0, 1) := by decide +kernel
theorem dX8_throwsFor_15 : decode cX8_throwsFor 15 = .ok (.ldc2_w 64, 3) := by decide +kernel
theorem dX8_throwsFor_18 : decode cX8_throwsFor 18 = .ok (.invokestatic 60, 3) := by decide +kernel
theorem dX8_throwsFor_21 : decode cX8_throwsFor 21 = .ok (.ifCond .eq 8, 3) := by decide +kernel
theorem dX8_throwsFor_24 : decode cX8_throwsFor 24 = .ok (.iload_n 2, 1) := by decide +kernel
theorem dX8_throwsFor_25 : decode cX8_throwsFor 25 = .ok (.iconst (-1), 1) := by decide +kernel
theorem dX8_throwsFor_26 : decode cX8_throwsFor 26 = .ok (.if_icmp .ge 6, 3) := by decide +kernel
theorem dX8_throwsFor_29 : decode cX8_throwsFor 29 = .ok (.ldc 66, 2) := by decide +kernel
theorem dX8_throwsFor_31 : decode cX8_throwsFor 31 = .ok (.ireturn, 1) := by decide +kernel
theorem dX8_throwsFor_32 : decode cX8_throwsFor 32 = .ok (.aload_n 0, 1) := by decide +kernel
theorem dX8_throwsFor_33 : decode cX8_throwsFor 33 = .ok (.invokevirtual 205, 3) := by decide +kernel
theorem dX8_throwsFor_36 : decode cX8_throwsFor 36 = .ok (.aload_n 0, 1) := by decide +kernel
theorem dX8_throwsFor_37 : decode cX8_throwsFor 37 = .ok (.invokevirtual 208, 3) := by decide +kernel
theorem dX8_throwsFor_40 : decode cX8_throwsFor 40 = .ok (.iconst 0, 1) := by decide +kernel
theorem dX8_throwsFor_41 : decode cX8_throwsFor 41 = .ok (.istore_n 3, 1) := by decide +kernel
theorem dX8_throwsFor_42 : decode cX8_throwsFor 42 = .ok (.iload_n 3, 1) := by decide +kernel
theorem dX8_throwsFor_43 : decode cX8_throwsFor 43 = .ok (.bipush 30, 2) := by decide +kernel
theorem dX8_throwsFor_45 : decode cX8_throwsFor 45 = .ok (.if_icmp .ge 21, 3) := by decide +kernel
theorem dX8_throwsFor_48 : decode cX8_throwsFor 48 = .ok (.aload_n 0, 1) := by decide +kernel
theorem dX8_throwsFor_49 : decode cX8_throwsFor 49 = .ok (.getfield 50, 3) := by decide +kernel
theorem dX8_throwsFor_52 : decode cX8_throwsFor 52 = .ok (.iload_n 3, 1) := by decide +kernel
theorem dX8_throwsFor_53 : decode cX8_throwsFor 53 = .ok (.aload_n 0, 1) := by decide +kernel
theorem dX8_throwsFor_54 : decode cX8_throwsFor 54 = .ok (.iload_n 3, 1) := by decide +kernel
theorem dX8_throwsFor_55 : decode cX8_throwsFor 55 = .ok (.iload_n 1, 1) := by decide +kernel
theorem dX8_throwsFor_56 : decode cX8_throwsFor 56 = .ok (.invokevirtual 243, 3) := by decide +kernel
theorem dX8_throwsFor_59 : decode cX8_throwsFor 59 = .ok (.iastore, 1) := by decide +kernel
theorem dX8_throwsFor_60 : decode cX8_throwsFor 60 = .ok (.iinc 3 1, 3) := by decide +kernel
theorem dX8_throwsFor_63 : decode cX8_throwsFor 63 = .ok (.goto (-21), 3) := by decide +kernel
theorem dX8_throwsFor_66 : decode cX8_throwsFor 66 = .ok (.iconst 0, 1) := by decide +kernel
theorem dX8_throwsFor_67 : decode cX8_throwsFor 67 = .ok (.istore_n 3, 1) := by decide +kernel
theorem dX8_throwsFor_68 : decode cX8_throwsFor 68 = .ok (.iload_n 3, 1) := by decide +kernel
theorem dX8_throwsFor_69 : decode cX8_throwsFor 69 = .ok (.iconst 4, 1) := by decide +kernel
theorem dX8_throwsFor_70 : decode cX8_throwsFor 70 = .ok (.if_icmp .ge 86, 3) := by decide +kernel
theorem dX8_throwsFor_73 : decode cX8_throwsFor 73 = .ok (.aload_n 0, 1) := by decide +kernel
theorem dX8_throwsFor_74 : decode cX8_throwsFor 74 = .ok (.iload_n 3, 1) := by decide +kernel
theorem dX8_throwsFor_75 : decode cX8_throwsFor 75 = .ok (.invokevirtual 249, 3) := by decide +kernel
theorem dX8_throwsFor_78 : decode cX8_throwsFor 78 = .ok (.istore 4, 2) := by decide +kernel
theorem dX8_throwsFor_80 : decode cX8_throwsFor 80 = .ok (.iload 4, 2) := by decide +kernel
theorem dX8_throwsFor_82 : decode cX8_throwsFor 82 = .ok (.ldc 179, 2) := by decide +kernel
theorem dX8_throwsFor_84 : decode cX8_throwsFor 84 = .ok (.if_icmp .eq 66, 3) := by decide +kernel
theorem dX8_throwsFor_87 : decode cX8_throwsFor 87 = .ok (.iload_n 3, 1) := by decide +kernel
theorem dX8_throwsFor_88 : decode cX8_throwsFor 88 = .ok (.iconst 1, 1) := by decide +kernel
theorem dX8_throwsFor_89 : decode cX8_throwsFor 89 = .ok (.isub, 1) := by decide +kernel
theorem dX8_throwsFor_90 : decode cX8_throwsFor 90 = .ok (.iload_n 2, 1) := by decide +kernel
theorem dX8_throwsFor_91 : decode cX8_throwsFor 91 = .ok (.isub, 1) := by decide +kernel
theorem dX8_throwsFor_92 : decode cX8_throwsFor 92 = .ok (.istore 5, 2) := by decide +kernel
theorem dX8_throwsFor_94 : decode cX8_throwsFor 94 = .ok (.iload_n 2, 1) := by decide +kernel
theorem dX8_throwsFor_95 : decode cX8_throwsFor 95 = .ok (.iconst (-1), 1) := by decide +kernel
theorem dX8_throwsFor_96 : decode cX8_throwsFor 96 = .ok (.if_icmp .ne 7, 3) := by decide +kernel
theorem dX8_throwsFor_99 : decode cX8_throwsFor 99 = .ok (.iload_n 3, 1) := by decide +kernel
theorem dX8_throwsFor_100 : decode cX8_throwsFor 100 = .ok (.goto 49, 3) := by decide +kernel
theorem dX8_throwsFor_103 : decode cX8_throwsFor 103 = .ok (.iload_n 2, 1) := by decide +kernel
theorem dX8_throwsFor_104 : decode cX8_throwsFor 104 = .ok (.iload_n 3, 1) := by decide +kernel
theorem dX8_throwsFor_105 : decode cX8_throwsFor 105 = .ok (.if_icmp .lt 8, 3) := by decide +kernel
theorem dX8_throwsFor_108 : decode cX8_throwsFor 108 = .ok (.ldc 179, 2) := by decide +kernel
theorem dX8_throwsFor_110 : decode cX8_throwsFor 110 = .ok (.goto 39, 3) := by decide +kernel
theorem dX8_throwsFor_113 : decode cX8_throwsFor 113 = .ok (.iload 5, 2) := by decide +kernel
theorem dX8_throwsFor_115 : decode cX8_throwsFor 115 = .ok (.ifCond .ne 11, 3) := by decide +kernel
theorem dX8_throwsFor_118 : decode cX8_throwsFor 118 = .ok (.iload 4, 2) := by decide +kernel
theorem dX8_throwsFor_120 : decode cX8_throwsFor 120 = .ok (.bipush 30, 2) := by decide +kernel
theorem dX8_throwsFor_122 : decode cX8_throwsFor 122 = .ok (.irem, 1) := by decide +kernel
theorem dX8_throwsFor_123 : decode cX8_throwsFor 123 = .ok (.goto 26, 3) := by decide +kernel
theorem dX8_throwsFor_126 : decode cX8_throwsFor 126 = .ok (.iload 5, 2) := by decide +kernel
theorem dX8_throwsFor_128 : decode cX8_throwsFor 128 = .ok (.iconst 1, 1) := by decide +kernel
theorem dX8_throwsFor_129 : decode cX8_throwsFor 129 = .ok (.if_icmp .ne 14, 3) := by decide +kernel
theorem dX8_throwsFor_132 : decode cX8_throwsFor 132 = .ok (.iload 4, 2) := by decide +kernel
theorem dX8_throwsFor_134 : decode cX8_throwsFor 134 = .ok (.bipush 30, 2) := by decide +kernel
theorem dX8_throwsFor_136 : decode cX8_throwsFor 136 = .ok (.idiv, 1) := by decide +kernel
theorem dX8_throwsFor_137 : decode cX8_throwsFor 137 = .ok (.bipush 30, 2) := by decide +kernel
theorem dX8_throwsFor_139 : decode cX8_throwsFor 139 = .ok (.irem, 1) := by decide +kernel
theorem dX8_throwsFor_140 : decode cX8_throwsFor 140 = .ok (.goto 9, 3) := by decide +kernel
theorem dX8_throwsFor_143 : decode cX8_throwsFor 143 = .ok (.iload 4, 2) := by decide +kernel
theorem dX8_throwsFor_145 : decode cX8_throwsFor 145 = .ok (.sipush 900, 3) := by decide +kernel
theorem dX8_throwsFor_148 : decode cX8_throwsFor 148 = .ok (.idiv, 1) := by decide +kernel
theorem dX8_throwsFor_149 : decode cX8_throwsFor 149 = .ok (.ireturn, 1) := by decide +kernel
theorem dX8_throwsFor_150 : decode cX8_throwsFor 150 = .ok (.iinc 3 1, 3) := by decide +kernel
theorem dX8_throwsFor_153 : decode cX8_throwsFor 153 = .ok (.goto (-85), 3) := by decide +kernel
theorem dX8_throwsFor_156 : decode cX8_throwsFor 156 = .ok (.ldc 179, 2) := by decide +kernel
theorem dX8_throwsFor_158 : decode cX8_throwsFor 158 = .ok (.ireturn, 1) := by decide +kernel
theorem dX8_cool_0 : decode cX8_cool 0 = .ok (.aload_n 0, 1) := by decide +kernel
theorem dX8_cool_1 : decode cX8_cool 1 = .ok (.iload_n 1, 1) := by decide +kernel
theorem dX8_cool_2 : decode cX8_cool 2 = .ok (.invokevirtual 219, 3) := by decide +kernel
theorem dX8_cool_5 : decode cX8_cool 5 = .ok (.ifCond .eq 11, 3) := by decide +kernel
theorem dX8_cool_8 : decode cX8_cool 8 = .ok (.iload_n 2, 1) := by decide +kernel
theorem dX8_cool_9 : decode cX8_cool 9 = .ok (.iload_n 3, 1) := by decide +kernel
theorem dX8_cool_10 : decode cX8_cool 10 = .ok (.invokestatic 194, 3) := by decide +kernel
theorem dX8_cool_13 : decode cX8_cool 13 = .ok (.ifCond .ne 6, 3) := by decide +kernel
theorem dX8_cool_16 : decode cX8_cool 16 = .ok (.ldc 66, 2) := by decide +kernel
theorem dX8_cool_18 : decode cX8_cool 18 = .ok (.ireturn, 1) := by decide +kernel
theorem dX8_cool_19 : decode cX8_cool 19 = .ok (.aload_n 0, 1) := by decide +kernel
theorem dX8_cool_20 : decode cX8_cool 20 = .ok (.invokevirtual 205, 3) := by decide +kernel
theorem dX8_cool_23 : decode cX8_cool 23 = .ok (.aload_n 0, 1) := by decide +kernel
theorem dX8_cool_24 : decode cX8_cool 24 = .ok (.iload_n 2, 1) := by decide +kernel
theorem dX8_cool_25 : decode cX8_cool 25 = .ok (.iload_n 3, 1) := by decide +kernel
theorem dX8_cool_26 : decode cX8_cool 26 = .ok (.invokevirtual 211, 3) := by decide +kernel
theorem dX8_cool_29 : decode cX8_cool 29 = .ok (.iconst 0, 1) := by decide +kernel
theorem dX8_cool_30 : decode cX8_cool 30 = .ok (.istore 4, 2) := by decide +kernel
theorem dX8_cool_32 : decode cX8_cool 32 = .ok (.iload 4, 2) := by decide +kernel
theorem dX8_cool_34 : decode cX8_cool 34 = .ok (.bipush 20, 2) := by decide +kernel
theorem dX8_cool_36 : decode cX8_cool 36 = .ok (.if_icmp .gt 26, 3) := by decide +kernel
theorem dX8_cool_39 : decode cX8_cool 39 = .ok (.aload_n 0, 1) := by decide +kernel
theorem dX8_cool_40 : decode cX8_cool 40 = .ok (.iload 4, 2) := by decide +kernel
theorem dX8_cool_42 : decode cX8_cool 42 = .ok (.putfield 172, 3) := by decide +kernel
theorem dX8_cool_45 : decode cX8_cool 45 = .ok (.aload_n 0, 1) := by decide +kernel
theorem dX8_cool_46 : decode cX8_cool 46 = .ok (.iload_n 1, 1) := by decide +kernel
theorem dX8_cool_47 : decode cX8_cool 47 = .ok (.invokevirtual 225, 3) := by decide +kernel
theorem dX8_cool_50 : decode cX8_cool 50 = .ok (.ifCond .ne 6, 3) := by decide +kernel
theorem dX8_cool_53 : decode cX8_cool 53 = .ok (.iload 4, 2) := by decide +kernel
theorem dX8_cool_55 : decode cX8_cool 55 = .ok (.ireturn, 1) := by decide +kernel
theorem dX8_cool_56 : decode cX8_cool 56 = .ok (.iinc 4 1, 3) := by decide +kernel
theorem dX8_cool_59 : decode cX8_cool 59 = .ok (.goto (-27), 3) := by decide +kernel
theorem dX8_cool_62 : decode cX8_cool 62 = .ok (.ldc 179, 2) := by decide +kernel
theorem dX8_cool_64 : decode cX8_cool 64 = .ok (.ireturn, 1) := by decide +kernel
theorem dX8_stood_0 : decode cX8_stood 0 = .ok (.iload_n 1, 1) := by decide +kernel
theorem dX8_stood_1 : decode cX8_stood 1 = .ok (.i2l, 1) := by decide +kernel
theorem dX8_stood_2 : decode cX8_stood 2 = .ok (.lconst 0, 1) := by decide +kernel
theorem dX8_stood_3 : decode cX8_stood 3 = .ok (.ldc2_w 58, 3) := by decide +kernel
theorem dX8_stood_6 : decode cX8_stood 6 = .ok (.invokestatic 60, 3) := by decide +kernel
theorem dX8_stood_9 : decode cX8_stood 9 = .ok (.ifCond .eq 37, 3) := by decide +kernel
theorem dX8_stood_12 : decode cX8_stood 12 = .ok (.iload_n 3, 1) := by decide +kernel
theorem dX8_stood_13 : decode cX8_stood 13 = .ok (.i2l, 1) := by decide +kernel
theorem dX8_stood_14 : decode cX8_stood 14 = .ok (.lconst 0, 1) := by decide +kernel
theorem dX8_stood_15 : decode cX8_stood 15 = .ok (.ldc2_w 198, 3) := by decide +kernel
theorem dX8_stood_18 : decode cX8_stood 18 = .ok (.invokestatic 60, 3) := by decide +kernel
theorem dX8_stood_21 : decode cX8_stood 21 = .ok (.ifCond .eq 25, 3) := by decide +kernel
theorem dX8_stood_24 : decode cX8_stood 24 = .ok (.aload_n 0, 1) := by decide +kernel
theorem dX8_stood_25 : decode cX8_stood 25 = .ok (.iload 4, 2) := by decide +kernel
theorem dX8_stood_27 : decode cX8_stood 27 = .ok (.invokevirtual 219, 3) := by decide +kernel
theorem dX8_stood_30 : decode cX8_stood 30 = .ok (.ifCond .eq 16, 3) := by decide +kernel
theorem dX8_stood_33 : decode cX8_stood 33 = .ok (.iload 5, 2) := by decide +kernel
theorem dX8_stood_35 : decode cX8_stood 35 = .ok (.i2l, 1) := by decide +kernel
theorem dX8_stood_36 : decode cX8_stood 36 = .ok (.lconst 0, 1) := by decide +kernel
theorem dX8_stood_37 : decode cX8_stood 37 = .ok (.ldc2_w 198, 3) := by decide +kernel
theorem dX8_stood_40 : decode cX8_stood 40 = .ok (.invokestatic 60, 3) := by decide +kernel
theorem dX8_stood_43 : decode cX8_stood 43 = .ok (.ifCond .ne 6, 3) := by decide +kernel
theorem dX8_stood_46 : decode cX8_stood 46 = .ok (.ldc 66, 2) := by decide +kernel
theorem dX8_stood_48 : decode cX8_stood 48 = .ok (.ireturn, 1) := by decide +kernel
theorem dX8_stood_49 : decode cX8_stood 49 = .ok (.aload_n 0, 1) := by decide +kernel
theorem dX8_stood_50 : decode cX8_stood 50 = .ok (.getfield 7, 3) := by decide +kernel
theorem dX8_stood_53 : decode cX8_stood 53 = .ok (.iload_n 1, 1) := by decide +kernel
theorem dX8_stood_54 : decode cX8_stood 54 = .ok (.iaload, 1) := by decide +kernel
theorem dX8_stood_55 : decode cX8_stood 55 = .ok (.ifCond .ge 9, 3) := by decide +kernel
theorem dX8_stood_58 : decode cX8_stood 58 = .ok (.aload_n 0, 1) := by decide +kernel
theorem dX8_stood_59 : decode cX8_stood 59 = .ok (.iconst 1, 1) := by decide +kernel
theorem dX8_stood_60 : decode cX8_stood 60 = .ok (.invokevirtual 67, 3) := by decide +kernel
theorem dX8_stood_63 : decode cX8_stood 63 = .ok (.ireturn, 1) := by decide +kernel
theorem dX8_stood_64 : decode cX8_stood 64 = .ok (.iload_n 2, 1) := by decide +kernel
theorem dX8_stood_65 : decode cX8_stood 65 = .ok (.ifCond .lt 19, 3) := by decide +kernel
theorem dX8_stood_68 : decode cX8_stood 68 = .ok (.iload_n 2, 1) := by decide +kernel
theorem dX8_stood_69 : decode cX8_stood 69 = .ok (.i2l, 1) := by decide +kernel
theorem dX8_stood_70 : decode cX8_stood 70 = .ok (.iload_n 3, 1) := by decide +kernel
theorem dX8_stood_71 : decode cX8_stood 71 = .ok (.i2l, 1) := by decide +kernel
theorem dX8_stood_72 : decode cX8_stood 72 = .ok (.ladd, 1) := by decide +kernel
theorem dX8_stood_73 : decode cX8_stood 73 = .ok (.aload_n 0, 1) := by decide +kernel
theorem dX8_stood_74 : decode cX8_stood 74 = .ok (.getfield 13, 3) := by decide +kernel
theorem dX8_stood_77 : decode cX8_stood 77 = .ok (.iload_n 1, 1) := by decide +kernel
theorem dX8_stood_78 : decode cX8_stood 78 = .ok (.iaload, 1) := by decide +kernel
theorem dX8_stood_79 : decode cX8_stood 79 = .ok (.i2l, 1) := by decide +kernel
theorem dX8_stood_80 : decode cX8_stood 80 = .ok (.lcmp, 1) := by decide +kernel
theorem dX8_stood_81 : decode cX8_stood 81 = .ok (.ifCond .le 9, 3) := by decide +kernel
theorem dX8_stood_84 : decode cX8_stood 84 = .ok (.aload_n 0, 1) := by decide +kernel
theorem dX8_stood_85 : decode cX8_stood 85 = .ok (.iconst 2, 1) := by decide +kernel
theorem dX8_stood_86 : decode cX8_stood 86 = .ok (.invokevirtual 67, 3) := by decide +kernel
theorem dX8_stood_89 : decode cX8_stood 89 = .ok (.ireturn, 1) := by decide +kernel
theorem dX8_stood_90 : decode cX8_stood 90 = .ok (.bipush 40, 2) := by decide +kernel
theorem dX8_stood_92 : decode cX8_stood 92 = .ok (.iload_n 1, 1) := by decide +kernel
theorem dX8_stood_93 : decode cX8_stood 93 = .ok (.imul, 1) := by decide +kernel
theorem dX8_stood_94 : decode cX8_stood 94 = .ok (.iload_n 2, 1) := by decide +kernel
theorem dX8_stood_95 : decode cX8_stood 95 = .ok (.iadd, 1) := by decide +kernel
theorem dX8_stood_96 : decode cX8_stood 96 = .ok (.istore 6, 2) := by decide +kernel
theorem dX8_stood_98 : decode cX8_stood 98 = .ok (.iconst 0, 1) := by decide +kernel
theorem dX8_stood_99 : decode cX8_stood 99 = .ok (.istore 7, 2) := by decide +kernel
theorem dX8_stood_101 : decode cX8_stood 101 = .ok (.iload 7, 2) := by decide +kernel
theorem dX8_stood_103 : decode cX8_stood 103 = .ok (.iload_n 3, 1) := by decide +kernel
theorem dX8_stood_104 : decode cX8_stood 104 = .ok (.if_icmp .ge 28, 3) := by decide +kernel
theorem dX8_stood_107 : decode cX8_stood 107 = .ok (.aload_n 0, 1) := by decide +kernel
theorem dX8_stood_108 : decode cX8_stood 108 = .ok (.getfield 16, 3) := by decide +kernel
theorem dX8_stood_111 : decode cX8_stood 111 = .ok (.iload 6, 2) := by decide +kernel
theorem dX8_stood_113 : decode cX8_stood 113 = .ok (.iload 7, 2) := by decide +kernel
theorem dX8_stood_115 : decode cX8_stood 115 = .ok (.iadd, 1) := by decide +kernel
theorem dX8_stood_116 : decode cX8_stood 116 = .ok (.iaload, 1) := by decide +kernel
theorem dX8_stood_117 : decode cX8_stood 117 = .ok (.invokestatic 169, 3) := by decide +kernel
theorem dX8_stood_120 : decode cX8_stood 120 = .ok (.ifCond .ne 6, 3) := by decide +kernel
theorem dX8_stood_123 : decode cX8_stood 123 = .ok (.ldc 66, 2) := by decide +kernel
theorem dX8_stood_125 : decode cX8_stood 125 = .ok (.ireturn, 1) := by decide +kernel
theorem dX8_stood_126 : decode cX8_stood 126 = .ok (.iinc 7 1, 3) := by decide +kernel
theorem dX8_stood_129 : decode cX8_stood 129 = .ok (.goto (-28), 3) := by decide +kernel
theorem dX8_stood_132 : decode cX8_stood 132 = .ok (.aload_n 0, 1) := by decide +kernel
theorem dX8_stood_133 : decode cX8_stood 133 = .ok (.invokevirtual 205, 3) := by decide +kernel
theorem dX8_stood_136 : decode cX8_stood 136 = .ok (.iconst 0, 1) := by decide +kernel
theorem dX8_stood_137 : decode cX8_stood 137 = .ok (.istore 7, 2) := by decide +kernel
theorem dX8_stood_139 : decode cX8_stood 139 = .ok (.iconst 0, 1) := by decide +kernel
theorem dX8_stood_140 : decode cX8_stood 140 = .ok (.istore 8, 2) := by decide +kernel
theorem dX8_stood_142 : decode cX8_stood 142 = .ok (.iload 8, 2) := by decide +kernel
theorem dX8_stood_144 : decode cX8_stood 144 = .ok (.bipush 30, 2) := by decide +kernel
theorem dX8_stood_146 : decode cX8_stood 146 = .ok (.if_icmp .ge 85, 3) := by decide +kernel
theorem dX8_stood_149 : decode cX8_stood 149 = .ok (.aload_n 0, 1) := by decide +kernel
theorem dX8_stood_150 : decode cX8_stood 150 = .ok (.getfield 41, 3) := by decide +kernel
theorem dX8_stood_153 : decode cX8_stood 153 = .ok (.iload 4, 2) := by decide +kernel
theorem dX8_stood_155 : decode cX8_stood 155 = .ok (.iload 8, 2) := by decide +kernel
theorem dX8_stood_157 : decode cX8_stood 157 = .ok (.iastore, 1) := by decide +kernel
theorem dX8_stood_158 : decode cX8_stood 158 = .ok (.iconst 0, 1) := by decide +kernel
theorem dX8_stood_159 : decode cX8_stood 159 = .ok (.istore 9, 2) := by decide +kernel
theorem dX8_stood_161 : decode cX8_stood 161 = .ok (.iconst 0, 1) := by decide +kernel
theorem dX8_stood_162 : decode cX8_stood 162 = .ok (.istore 10, 2) := by decide +kernel
theorem dX8_stood_164 : decode cX8_stood 164 = .ok (.iload 10, 2) := by decide +kernel
theorem dX8_stood_166 : decode cX8_stood 166 = .ok (.iload_n 3, 1) := by decide +kernel
theorem dX8_stood_167 : decode cX8_stood 167 = .ok (.if_icmp .ge 38, 3) := by decide +kernel
theorem dX8_stood_170 : decode cX8_stood 170 = .ok (.iload 9, 2) := by decide +kernel
theorem dX8_stood_172 : decode cX8_stood 172 = .ok (.aload_n 0, 1) := by decide +kernel
theorem dX8_stood_173 : decode cX8_stood 173 = .ok (.aload_n 0, 1) := by decide +kernel
theorem dX8_stood_174 : decode cX8_stood 174 = .ok (.getfield 16, 3) := by decide +kernel
theorem dX8_stood_177 : decode cX8_stood 177 = .ok (.iload 6, 2) := by decide +kernel
theorem dX8_stood_179 : decode cX8_stood 179 = .ok (.iload 10, 2) := by decide +kernel
theorem dX8_stood_181 : decode cX8_stood 181 = .ok (.iadd, 1) := by decide +kernel
theorem dX8_stood_182 : decode cX8_stood 182 = .ok (.iaload, 1) := by decide +kernel
theorem dX8_stood_183 : decode cX8_stood 183 = .ok (.invokevirtual 183, 3) := by decide +kernel
theorem dX8_stood_186 : decode cX8_stood 186 = .ok (.iload 4, 2) := by decide +kernel
theorem dX8_stood_188 : decode cX8_stood 188 = .ok (.if_icmp .ne 7, 3) := by decide +kernel
theorem dX8_stood_191 : decode cX8_stood 191 = .ok (.iconst 1, 1) := by decide +kernel
theorem dX8_stood_192 : decode cX8_stood 192 = .ok (.goto 4, 3) := by decide +kernel
theorem dX8_stood_195 : decode cX8_stood 195 = .ok (.iconst 0, 1) := by decide +kernel
theorem dX8_stood_196 : decode cX8_stood 196 = .ok (.iadd, 1) := by decide +kernel
theorem dX8_stood_197 : decode cX8_stood 197 = .ok (.istore 9, 2) := by decide +kernel
theorem dX8_stood_199 : decode cX8_stood 199 = .ok (.iinc 10 1, 3) := by decide +kernel
theorem dX8_stood_202 : decode cX8_stood 202 = .ok (.goto (-38), 3) := by decide +kernel
theorem dX8_stood_205 : decode cX8_stood 205 = .ok (.iload 7, 2) := by decide +kernel
theorem dX8_stood_207 : decode cX8_stood 207 = .ok (.iload 9, 2) := by decide +kernel
theorem dX8_stood_209 : decode cX8_stood 209 = .ok (.iload 5, 2) := by decide +kernel
theorem dX8_stood_211 : decode cX8_stood 211 = .ok (.if_icmp .ne 10, 3) := by decide +kernel
theorem dX8_stood_214 : decode cX8_stood 214 = .ok (.iconst 1, 1) := by decide +kernel
theorem dX8_stood_215 : decode cX8_stood 215 = .ok (.iload 8, 2) := by decide +kernel
theorem dX8_stood_217 : decode cX8_stood 217 = .ok (.ishl, 1) := by decide +kernel
theorem dX8_stood_218 : decode cX8_stood 218 = .ok (.goto 4, 3) := by decide +kernel
theorem dX8_stood_221 : decode cX8_stood 221 = .ok (.iconst 0, 1) := by decide +kernel
theorem dX8_stood_222 : decode cX8_stood 222 = .ok (.ior, 1) := by decide +kernel
theorem dX8_stood_223 : decode cX8_stood 223 = .ok (.istore 7, 2) := by decide +kernel
theorem dX8_stood_225 : decode cX8_stood 225 = .ok (.iinc 8 1, 3) := by decide +kernel
theorem dX8_stood_228 : decode cX8_stood 228 = .ok (.goto (-86), 3) := by decide +kernel
theorem dX8_stood_231 : decode cX8_stood 231 = .ok (.aload_n 0, 1) := by decide +kernel
theorem dX8_stood_232 : decode cX8_stood 232 = .ok (.iload 7, 2) := by decide +kernel
theorem dX8_stood_234 : decode cX8_stood 234 = .ok (.invokevirtual 71, 3) := by decide +kernel
theorem dX8_stood_237 : decode cX8_stood 237 = .ok (.ireturn, 1) := by decide +kernel
theorem dX8_image_0 : decode cX8_image 0 = .ok (.iload_n 1, 1) := by decide +kernel
theorem dX8_image_1 : decode cX8_image 1 = .ok (.i2l, 1) := by decide +kernel
theorem dX8_image_2 : decode cX8_image 2 = .ok (.lconst 0, 1) := by decide +kernel
theorem dX8_image_3 : decode cX8_image 3 = .ok (.lconst 1, 1) := by decide +kernel
theorem dX8_image_4 : decode cX8_image 4 = .ok (.invokestatic 60, 3) := by decide +kernel
theorem dX8_image_7 : decode cX8_image 7 = .ok (.ifCond .ne 6, 3) := by decide +kernel
theorem dX8_image_10 : decode cX8_image 10 = .ok (.ldc 66, 2) := by decide +kernel
theorem dX8_image_12 : decode cX8_image 12 = .ok (.ireturn, 1) := by decide +kernel
theorem dX8_image_13 : decode cX8_image 13 = .ok (.aload_n 0, 1) := by decide +kernel
theorem dX8_image_14 : decode cX8_image 14 = .ok (.getfield 22, 3) := by decide +kernel
theorem dX8_image_17 : decode cX8_image 17 = .ok (.iconst 0, 1) := by decide +kernel
theorem dX8_image_18 : decode cX8_image 18 = .ok (.iaload, 1) := by decide +kernel
theorem dX8_image_19 : decode cX8_image 19 = .ok (.ifCond .ne 6, 3) := by decide +kernel
theorem dX8_image_22 : decode cX8_image 22 = .ok (.ldc 193, 2) := by decide +kernel
theorem dX8_image_24 : decode cX8_image 24 = .ok (.ireturn, 1) := by decide +kernel
theorem dX8_image_25 : decode cX8_image 25 = .ok (.iconst 0, 1) := by decide +kernel
theorem dX8_image_26 : decode cX8_image 26 = .ok (.istore_n 2, 1) := by decide +kernel
theorem dX8_image_27 : decode cX8_image 27 = .ok (.iload_n 2, 1) := by decide +kernel
theorem dX8_image_28 : decode cX8_image 28 = .ok (.bipush 39, 2) := by decide +kernel
theorem dX8_image_30 : decode cX8_image 30 = .ok (.if_icmp .ge 26, 3) := by decide +kernel
theorem dX8_image_33 : decode cX8_image 33 = .ok (.aload_n 0, 1) := by decide +kernel
theorem dX8_image_34 : decode cX8_image 34 = .ok (.getfield 31, 3) := by decide +kernel
theorem dX8_image_37 : decode cX8_image 37 = .ok (.bipush 39, 2) := by decide +kernel
theorem dX8_image_39 : decode cX8_image 39 = .ok (.iload_n 1, 1) := by decide +kernel
theorem dX8_image_40 : decode cX8_image 40 = .ok (.imul, 1) := by decide +kernel
theorem dX8_image_41 : decode cX8_image 41 = .ok (.iload_n 2, 1) := by decide +kernel
theorem dX8_image_42 : decode cX8_image 42 = .ok (.iadd, 1) := by decide +kernel
theorem dX8_image_43 : decode cX8_image 43 = .ok (.aload_n 0, 1) := by decide +kernel
theorem dX8_image_44 : decode cX8_image 44 = .ok (.getfield 22, 3) := by decide +kernel
theorem dX8_image_47 : decode cX8_image 47 = .ok (.iload_n 2, 1) := by decide +kernel
theorem dX8_image_48 : decode cX8_image 48 = .ok (.iaload, 1) := by decide +kernel
theorem dX8_image_49 : decode cX8_image 49 = .ok (.iastore, 1) := by decide +kernel
theorem dX8_image_50 : decode cX8_image 50 = .ok (.iinc 2 1, 3) := by decide +kernel
theorem dX8_image_53 : decode cX8_image 53 = .ok (.goto (-26), 3) := by decide +kernel
theorem dX8_image_56 : decode cX8_image 56 = .ok (.aload_n 0, 1) := by decide +kernel
theorem dX8_image_57 : decode cX8_image 57 = .ok (.getfield 34, 3) := by decide +kernel
theorem dX8_image_60 : decode cX8_image 60 = .ok (.iload_n 1, 1) := by decide +kernel
theorem dX8_image_61 : decode cX8_image 61 = .ok (.iconst 1, 1) := by decide +kernel
theorem dX8_image_62 : decode cX8_image 62 = .ok (.bastore, 1) := by decide +kernel
theorem dX8_image_63 : decode cX8_image 63 = .ok (.iconst 1, 1) := by decide +kernel
theorem dX8_image_64 : decode cX8_image 64 = .ok (.ireturn, 1) := by decide +kernel
theorem dX8_restore_0 : decode cX8_restore 0 = .ok (.iload_n 1, 1) := by decide +kernel
theorem dX8_restore_1 : decode cX8_restore 1 = .ok (.i2l, 1) := by decide +kernel
theorem dX8_restore_2 : decode cX8_restore 2 = .ok (.lconst 0, 1) := by decide +kernel
theorem dX8_restore_3 : decode cX8_restore 3 = .ok (.lconst 1, 1) := by decide +kernel
theorem dX8_restore_4 : decode cX8_restore 4 = .ok (.invokestatic 60, 3) := by decide +kernel
theorem dX8_restore_7 : decode cX8_restore 7 = .ok (.ifCond .ne 6, 3) := by decide +kernel
theorem dX8_restore_10 : decode cX8_restore 10 = .ok (.ldc 66, 2) := by decide +kernel
theorem dX8_restore_12 : decode cX8_restore 12 = .ok (.ireturn, 1) := by decide +kernel
theorem dX8_restore_13 : decode cX8_restore 13 = .ok (.aload_n 0, 1) := by decide +kernel
theorem dX8_restore_14 : decode cX8_restore 14 = .ok (.getfield 34, 3) := by decide +kernel
theorem dX8_restore_17 : decode cX8_restore 17 = .ok (.iload_n 1, 1) := by decide +kernel
theorem dX8_restore_18 : decode cX8_restore 18 = .ok (.baload, 1) := by decide +kernel
theorem dX8_restore_19 : decode cX8_restore 19 = .ok (.ifCond .ne 6, 3) := by decide +kernel
theorem dX8_restore_22 : decode cX8_restore 22 = .ok (.ldc 193, 2) := by decide +kernel
theorem dX8_restore_24 : decode cX8_restore 24 = .ok (.ireturn, 1) := by decide +kernel
theorem dX8_restore_25 : decode cX8_restore 25 = .ok (.iconst 0, 1) := by decide +kernel
theorem dX8_restore_26 : decode cX8_restore 26 = .ok (.istore_n 2, 1) := by decide +kernel
theorem dX8_restore_27 : decode cX8_restore 27 = .ok (.iload_n 2, 1) := by decide +kernel
theorem dX8_restore_28 : decode cX8_restore 28 = .ok (.bipush 39, 2) := by decide +kernel
theorem dX8_restore_30 : decode cX8_restore 30 = .ok (.if_icmp .ge 26, 3) := by decide +kernel
theorem dX8_restore_33 : decode cX8_restore 33 = .ok (.aload_n 0, 1) := by decide +kernel
theorem dX8_restore_34 : decode cX8_restore 34 = .ok (.getfield 22, 3) := by decide +kernel
theorem dX8_restore_37 : decode cX8_restore 37 = .ok (.iload_n 2, 1) := by decide +kernel
theorem dX8_restore_38 : decode cX8_restore 38 = .ok (.aload_n 0, 1) := by decide +kernel
theorem dX8_restore_39 : decode cX8_restore 39 = .ok (.getfield 31, 3) := by decide +kernel
theorem dX8_restore_42 : decode cX8_restore 42 = .ok (.bipush 39, 2) := by decide +kernel
theorem dX8_restore_44 : decode cX8_restore 44 = .ok (.iload_n 1, 1) := by decide +kernel
theorem dX8_restore_45 : decode cX8_restore 45 = .ok (.imul, 1) := by decide +kernel
theorem dX8_restore_46 : decode cX8_restore 46 = .ok (.iload_n 2, 1) := by decide +kernel
theorem dX8_restore_47 : decode cX8_restore 47 = .ok (.iadd, 1) := by decide +kernel
theorem dX8_restore_48 : decode cX8_restore 48 = .ok (.iaload, 1) := by decide +kernel
theorem dX8_restore_49 : decode cX8_restore 49 = .ok (.iastore, 1) := by decide +kernel
theorem dX8_restore_50 : decode cX8_restore 50 = .ok (.iinc 2 1, 3) := by decide +kernel
theorem dX8_restore_53 : decode cX8_restore 53 = .ok (.goto (-26), 3) := by decide +kernel
theorem dX8_restore_56 : decode cX8_restore 56 = .ok (.aload_n 0, 1) := by decide +kernel
theorem dX8_restore_57 : decode cX8_restore 57 = .ok (.iconst 0, 1) := by decide +kernel
theorem dX8_restore_58 : decode cX8_restore 58 = .ok (.putfield 164, 3) := by decide +kernel
theorem dX8_restore_61 : decode cX8_restore 61 = .ok (.iconst 1, 1) := by decide +kernel
theorem dX8_restore_62 : decode cX8_restore 62 = .ok (.ireturn, 1) := by decide +kernel
theorem dX8_kind_0 : decode cX8_kind 0 = .ok (.aload_n 0, 1) := by decide +kernel
theorem dX8_kind_1 : decode cX8_kind 1 = .ok (.iload_n 1, 1) := by decide +kernel
theorem dX8_kind_2 : decode cX8_kind 2 = .ok (.invokevirtual 219, 3) := by decide +kernel
theorem dX8_kind_5 : decode cX8_kind 5 = .ok (.ifCond .eq 14, 3) := by decide +kernel
theorem dX8_kind_8 : decode cX8_kind 8 = .ok (.aload_n 0, 1) := by decide +kernel
theorem dX8_kind_9 : decode cX8_kind 9 = .ok (.getfield 22, 3) := by decide +kernel
theorem dX8_kind_12 : decode cX8_kind 12 = .ok (.iconst 5, 1) := by decide +kernel
theorem dX8_kind_13 : decode cX8_kind 13 = .ok (.iload_n 1, 1) := by decide +kernel
theorem dX8_kind_14 : decode cX8_kind 14 = .ok (.iadd, 1) := by decide +kernel
theorem dX8_kind_15 : decode cX8_kind 15 = .ok (.iaload, 1) := by decide +kernel
theorem dX8_kind_16 : decode cX8_kind 16 = .ok (.goto 5, 3) := by decide +kernel
theorem dX8_kind_19 : decode cX8_kind 19 = .ok (.ldc 66, 2) := by decide +kernel
theorem dX8_kind_21 : decode cX8_kind 21 = .ok (.ireturn, 1) := by decide +kernel
theorem dX8_isOf_0 : decode cX8_isOf 0 = .ok (.iload_n 1, 1) := by decide +kernel
theorem dX8_isOf_1 : decode cX8_isOf 1 = .ok (.ifCond .eq 28, 3) := by decide +kernel
theorem dX8_isOf_4 : decode cX8_isOf 4 = .ok (.iload_n 0, 1) := by decide +kernel
theorem dX8_isOf_5 : decode cX8_isOf 5 = .ok (.iload_n 1, 1) := by decide +kernel
theorem dX8_isOf_6 : decode cX8_isOf 6 = .ok (.if_icmp .eq 23, 3) := by decide +kernel
theorem dX8_isOf_9 : decode cX8_isOf 9 = .ok (.iload_n 1, 1) := by decide +kernel
theorem dX8_isOf_10 : decode cX8_isOf 10 = .ok (.iconst 1, 1) := by decide +kernel
theorem dX8_isOf_11 : decode cX8_isOf 11 = .ok (.if_icmp .ne 8, 3) := by decide +kernel
theorem dX8_isOf_14 : decode cX8_isOf 14 = .ok (.iload_n 0, 1) := by decide +kernel
theorem dX8_isOf_15 : decode cX8_isOf 15 = .ok (.iconst 4, 1) := by decide +kernel
theorem dX8_isOf_16 : decode cX8_isOf 16 = .ok (.if_icmp .lt 13, 3) := by decide +kernel
theorem dX8_isOf_19 : decode cX8_isOf 19 = .ok (.iload_n 1, 1) := by decide +kernel
theorem dX8_isOf_20 : decode cX8_isOf 20 = .ok (.iconst 4, 1) := by decide +kernel
theorem dX8_isOf_21 : decode cX8_isOf 21 = .ok (.if_icmp .ne 12, 3) := by decide +kernel
theorem dX8_isOf_24 : decode cX8_isOf 24 = .ok (.iload_n 0, 1) := by decide +kernel
theorem dX8_isOf_25 : decode cX8_isOf 25 = .ok (.iconst 5, 1) := by decide +kernel
theorem dX8_isOf_26 : decode cX8_isOf 26 = .ok (.if_icmp .ne 7, 3) := by decide +kernel
theorem dX8_isOf_29 : decode cX8_isOf 29 = .ok (.iconst 1, 1) := by decide +kernel
theorem dX8_isOf_30 : decode cX8_isOf 30 = .ok (.goto 4, 3) := by decide +kernel
theorem dX8_isOf_33 : decode cX8_isOf 33 = .ok (.iconst 0, 1) := by decide +kernel
theorem dX8_isOf_34 : decode cX8_isOf 34 = .ok (.ireturn, 1) := by decide +kernel
theorem dX8_as_0 : decode cX8_as 0 = .ok (.aload_n 0, 1) := by decide +kernel
theorem dX8_as_1 : decode cX8_as 1 = .ok (.iload_n 1, 1) := by decide +kernel
theorem dX8_as_2 : decode cX8_as 2 = .ok (.invokevirtual 219, 3) := by decide +kernel
theorem dX8_as_5 : decode cX8_as 5 = .ok (.ifCond .eq 15, 3) := by decide +kernel
theorem dX8_as_8 : decode cX8_as 8 = .ok (.iload_n 2, 1) := by decide +kernel
theorem dX8_as_9 : decode cX8_as 9 = .ok (.i2l, 1) := by decide +kernel
theorem dX8_as_10 : decode cX8_as 10 = .ok (.lconst 0, 1) := by decide +kernel
theorem dX8_as_11 : decode cX8_as 11 = .ok (.ldc2_w 189, 3) := by decide +kernel
theorem dX8_as_14 : decode cX8_as 14 = .ok (.invokestatic 60, 3) := by decide +kernel
theorem dX8_as_17 : decode cX8_as 17 = .ok (.ifCond .ne 6, 3) := by decide +kernel
theorem dX8_as_20 : decode cX8_as 20 = .ok (.ldc 66, 2) := by decide +kernel
theorem dX8_as_22 : decode cX8_as 22 = .ok (.ireturn, 1) := by decide +kernel
theorem dX8_as_23 : decode cX8_as 23 = .ok (.aload_n 0, 1) := by decide +kernel
theorem dX8_as_24 : decode cX8_as 24 = .ok (.getfield 22, 3) := by decide +kernel
theorem dX8_as_27 : decode cX8_as 27 = .ok (.iconst 5, 1) := by decide +kernel
theorem dX8_as_28 : decode cX8_as 28 = .ok (.iload_n 1, 1) := by decide +kernel
theorem dX8_as_29 : decode cX8_as 29 = .ok (.iadd, 1) := by decide +kernel
theorem dX8_as_30 : decode cX8_as 30 = .ok (.iaload, 1) := by decide +kernel
theorem dX8_as_31 : decode cX8_as 31 = .ok (.iload_n 2, 1) := by decide +kernel
theorem dX8_as_32 : decode cX8_as 32 = .ok (.invokestatic 252, 3) := by decide +kernel
theorem dX8_as_35 : decode cX8_as 35 = .ok (.ifCond .eq 11, 3) := by decide +kernel
theorem dX8_as_38 : decode cX8_as 38 = .ok (.aload_n 0, 1) := by decide +kernel
theorem dX8_as_39 : decode cX8_as 39 = .ok (.iload_n 1, 1) := by decide +kernel
theorem dX8_as_40 : decode cX8_as 40 = .ok (.invokevirtual 71, 3) := by decide +kernel
theorem dX8_as_43 : decode cX8_as 43 = .ok (.goto 8, 3) := by decide +kernel
theorem dX8_as_46 : decode cX8_as 46 = .ok (.aload_n 0, 1) := by decide +kernel
theorem dX8_as_47 : decode cX8_as 47 = .ok (.iconst 3, 1) := by decide +kernel
theorem dX8_as_48 : decode cX8_as 48 = .ok (.invokevirtual 67, 3) := by decide +kernel
theorem dX8_as_51 : decode cX8_as 51 = .ok (.ireturn, 1) := by decide +kernel
theorem dX8_begins_0 : decode cX8_begins 0 = .ok (.aload_n 0, 1) := by decide +kernel
theorem dX8_begins_1 : decode cX8_begins 1 = .ok (.getfield 255, 3) := by decide +kernel
theorem dX8_begins_4 : decode cX8_begins 4 = .ok (.bipush 16, 2) := by decide +kernel
theorem dX8_begins_6 : decode cX8_begins 6 = .ok (.if_icmp .ge 23, 3) := by decide +kernel
theorem dX8_begins_9 : decode cX8_begins 9 = .ok (.aload_n 0, 1) := by decide +kernel
theorem dX8_begins_10 : decode cX8_begins 10 = .ok (.getfield 38, 3) := by decide +kernel
theorem dX8_begins_13 : decode cX8_begins 13 = .ok (.aload_n 0, 1) := by decide +kernel
theorem dX8_begins_14 : decode cX8_begins 14 = .ok (.getfield 255, 3) := by decide +kernel
theorem dX8_begins_17 : decode cX8_begins 17 = .ok (.iload_n 1, 1) := by decide +kernel
theorem dX8_begins_18 : decode cX8_begins 18 = .ok (.iastore, 1) := by decide +kernel
theorem dX8_begins_19 : decode cX8_begins 19 = .ok (.aload_n 0, 1) := by decide +kernel
theorem dX8_begins_20 : decode cX8_begins 20 = .ok (.dup, 1) := by decide +kernel
theorem dX8_begins_21 : decode cX8_begins 21 = .ok (.getfield 255, 3) := by decide +kernel
theorem dX8_begins_24 : decode cX8_begins 24 = .ok (.iconst 1, 1) := by decide +kernel
theorem dX8_begins_25 : decode cX8_begins 25 = .ok (.iadd, 1) := by decide +kernel
theorem dX8_begins_26 : decode cX8_begins 26 = .ok (.putfield 255, 3) := by decide +kernel
theorem dX8_begins_29 : decode cX8_begins 29 = .ok (.return_, 1) := by decide +kernel
theorem dX8_beginsAll_0 : decode cX8_beginsAll 0 = .ok (.iconst 1, 1) := by decide +kernel
theorem dX8_beginsAll_1 : decode cX8_beginsAll 1 = .ok (.istore_n 2, 1) := by decide +kernel
theorem dX8_beginsAll_2 : decode cX8_beginsAll 2 = .ok (.iload_n 2, 1) := by decide +kernel
theorem dX8_beginsAll_3 : decode cX8_beginsAll 3 = .ok (.iload_n 1, 1) := by decide +kernel
theorem dX8_beginsAll_4 : decode cX8_beginsAll 4 = .ok (.bipush 100, 2) := by decide +kernel
theorem dX8_beginsAll_6 : decode cX8_beginsAll 6 = .ok (.idiv, 1) := by decide +kernel
theorem dX8_beginsAll_7 : decode cX8_beginsAll 7 = .ok (.if_icmp .gt 11, 3) := by decide +kernel
theorem dX8_beginsAll_10 : decode cX8_beginsAll 10 = .ok (.iload_n 2, 1) := by decide +kernel
theorem dX8_beginsAll_11 : decode cX8_beginsAll 11 = .ok (.bipush 100, 2) := by decide +kernel
theorem dX8_beginsAll_13 : decode cX8_beginsAll 13 = .ok (.imul, 1) := by decide +kernel
theorem dX8_beginsAll_14 : decode cX8_beginsAll 14 = .ok (.istore_n 2, 1) := by decide +kernel
theorem dX8_beginsAll_15 : decode cX8_beginsAll 15 = .ok (.goto (-13), 3) := by decide +kernel
theorem dX8_beginsAll_18 : decode cX8_beginsAll 18 = .ok (.iload_n 2, 1) := by decide +kernel
theorem dX8_beginsAll_19 : decode cX8_beginsAll 19 = .ok (.ifCond .le 21, 3) := by decide +kernel
theorem dX8_beginsAll_22 : decode cX8_beginsAll 22 = .ok (.aload_n 0, 1) := by decide +kernel
theorem dX8_beginsAll_23 : decode cX8_beginsAll 23 = .ok (.iload_n 1, 1) := by decide +kernel
theorem dX8_beginsAll_24 : decode cX8_beginsAll 24 = .ok (.iload_n 2, 1) := by decide +kernel
theorem dX8_beginsAll_25 : decode cX8_beginsAll 25 = .ok (.idiv, 1) := by decide +kernel
theorem dX8_beginsAll_26 : decode cX8_beginsAll 26 = .ok (.bipush 100, 2) := by decide +kernel
theorem dX8_beginsAll_28 : decode cX8_beginsAll 28 = .ok (.irem, 1) := by decide +kernel
theorem dX8_beginsAll_29 : decode cX8_beginsAll 29 = .ok (.invokevirtual 258, 3) := by decide +kernel
theorem dX8_beginsAll_32 : decode cX8_beginsAll 32 = .ok (.iload_n 2, 1) := by decide +kernel
theorem dX8_beginsAll_33 : decode cX8_beginsAll 33 = .ok (.bipush 100, 2) := by decide +kernel
theorem dX8_beginsAll_35 : decode cX8_beginsAll 35 = .ok (.idiv, 1) := by decide +kernel
theorem dX8_beginsAll_36 : decode cX8_beginsAll 36 = .ok (.istore_n 2, 1) := by decide +kernel
theorem dX8_beginsAll_37 : decode cX8_beginsAll 37 = .ok (.goto (-19), 3) := by decide +kernel
theorem dX8_beginsAll_40 : decode cX8_beginsAll 40 = .ok (.return_, 1) := by decide +kernel
theorem dX8_sizeOf_0 : decode cX8_sizeOf 0 = .ok (.aload_n 0, 1) := by decide +kernel
theorem dX8_sizeOf_1 : decode cX8_sizeOf 1 = .ok (.getfield 22, 3) := by decide +kernel
theorem dX8_sizeOf_4 : decode cX8_sizeOf 4 = .ok (.iconst 5, 1) := by decide +kernel
theorem dX8_sizeOf_5 : decode cX8_sizeOf 5 = .ok (.iload_n 1, 1) := by decide +kernel
theorem dX8_sizeOf_6 : decode cX8_sizeOf 6 = .ok (.iadd, 1) := by decide +kernel
theorem dX8_sizeOf_7 : decode cX8_sizeOf 7 = .ok (.iaload, 1) := by decide +kernel
theorem dX8_sizeOf_8 : decode cX8_sizeOf 8 = .ok (.istore_n 2, 1) := by decide +kernel
theorem dX8_sizeOf_9 : decode cX8_sizeOf 9 = .ok (.aload_n 0, 1) := by decide +kernel
theorem dX8_sizeOf_10 : decode cX8_sizeOf 10 = .ok (.getfield 22, 3) := by decide +kernel
theorem dX8_sizeOf_13 : decode cX8_sizeOf 13 = .ok (.bipush 10, 2) := by decide +kernel
theorem dX8_sizeOf_15 : decode cX8_sizeOf 15 = .ok (.iload_n 1, 1) := by decide +kernel
theorem dX8_sizeOf_16 : decode cX8_sizeOf 16 = .ok (.iadd, 1) := by decide +kernel
theorem dX8_sizeOf_17 : decode cX8_sizeOf 17 = .ok (.iaload, 1) := by decide +kernel
theorem dX8_sizeOf_18 : decode cX8_sizeOf 18 = .ok (.istore_n 3, 1) := by decide +kernel
theorem dX8_sizeOf_19 : decode cX8_sizeOf 19 = .ok (.aload_n 0, 1) := by decide +kernel
theorem dX8_sizeOf_20 : decode cX8_sizeOf 20 = .ok (.iload_n 2, 1) := by decide +kernel
theorem dX8_sizeOf_21 : decode cX8_sizeOf 21 = .ok (.iconst 2, 1) := by decide +kernel
theorem dX8_sizeOf_22 : decode cX8_sizeOf 22 = .ok (.if_icmp .ne 9, 3) := by decide +kernel
theorem dX8_sizeOf_25 : decode cX8_sizeOf 25 = .ok (.ldc_w 262, 3) := by decide +kernel
theorem dX8_sizeOf_28 : decode cX8_sizeOf 28 = .ok (.goto 28, 3) := by decide +kernel
theorem dX8_sizeOf_31 : decode cX8_sizeOf 31 = .ok (.iload_n 2, 1) := by decide +kernel
theorem dX8_sizeOf_32 : decode cX8_sizeOf 32 = .ok (.iconst 4, 1) := by decide +kernel
theorem dX8_sizeOf_33 : decode cX8_sizeOf 33 = .ok (.if_icmp .ge 9, 3) := by decide +kernel
theorem dX8_sizeOf_36 : decode cX8_sizeOf 36 = .ok (.sipush 1110, 3) := by decide +kernel
theorem dX8_sizeOf_39 : decode cX8_sizeOf 39 = .ok (.goto 17, 3) := by decide +kernel
theorem dX8_sizeOf_42 : decode cX8_sizeOf 42 = .ok (.iload_n 2, 1) := by decide +kernel
theorem dX8_sizeOf_43 : decode cX8_sizeOf 43 = .ok (.iconst 4, 1) := by decide +kernel
theorem dX8_sizeOf_44 : decode cX8_sizeOf 44 = .ok (.if_icmp .ne 9, 3) := by decide +kernel
theorem dX8_sizeOf_47 : decode cX8_sizeOf 47 = .ok (.sipush 1310, 3) := by decide +kernel
theorem dX8_sizeOf_50 : decode cX8_sizeOf 50 = .ok (.goto 6, 3) := by decide +kernel
theorem dX8_sizeOf_53 : decode cX8_sizeOf 53 = .ok (.ldc_w 263, 3) := by decide +kernel
theorem dX8_sizeOf_56 : decode cX8_sizeOf 56 = .ok (.invokevirtual 264, 3) := by decide +kernel
theorem dX8_sizeOf_59 : decode cX8_sizeOf 59 = .ok (.iload_n 2, 1) := by decide +kernel
theorem dX8_sizeOf_60 : decode cX8_sizeOf 60 = .ok (.iconst 4, 1) := by decide +kernel
theorem dX8_sizeOf_61 : decode cX8_sizeOf 61 = .ok (.if_icmp .lt 22, 3) := by decide +kernel
theorem dX8_sizeOf_64 : decode cX8_sizeOf 64 = .ok (.iload_n 2, 1) := by decide +kernel
theorem dX8_sizeOf_65 : decode cX8_sizeOf 65 = .ok (.iconst 4, 1) := by decide +kernel
theorem dX8_sizeOf_66 : decode cX8_sizeOf 66 = .ok (.if_icmp .ne 10, 3) := by decide +kernel
theorem dX8_sizeOf_69 : decode cX8_sizeOf 69 = .ok (.iload_n 3, 1) := by decide +kernel
theorem dX8_sizeOf_70 : decode cX8_sizeOf 70 = .ok (.bipush 100, 2) := by decide +kernel
theorem dX8_sizeOf_72 : decode cX8_sizeOf 72 = .ok (.isub, 1) := by decide +kernel
theorem dX8_sizeOf_73 : decode cX8_sizeOf 73 = .ok (.goto 9, 3) := by decide +kernel
theorem dX8_sizeOf_76 : decode cX8_sizeOf 76 = .ok (.iconst 2, 1) := by decide +kernel
theorem dX8_sizeOf_77 : decode cX8_sizeOf 77 = .ok (.iload_n 3, 1) := by decide +kernel
theorem dX8_sizeOf_78 : decode cX8_sizeOf 78 = .ok (.bipush 100, 2) := by decide +kernel
theorem dX8_sizeOf_80 : decode cX8_sizeOf 80 = .ok (.isub, 1) := by decide +kernel
theorem dX8_sizeOf_81 : decode cX8_sizeOf 81 = .ok (.imul, 1) := by decide +kernel
theorem dX8_sizeOf_82 : decode cX8_sizeOf 82 = .ok (.ireturn, 1) := by decide +kernel
theorem dX8_sizeOf_83 : decode cX8_sizeOf 83 = .ok (.iload_n 3, 1) := by decide +kernel
theorem dX8_sizeOf_84 : decode cX8_sizeOf 84 = .ok (.aload_n 0, 1) := by decide +kernel
theorem dX8_sizeOf_85 : decode cX8_sizeOf 85 = .ok (.iload_n 1, 1) := by decide +kernel
theorem dX8_sizeOf_86 : decode cX8_sizeOf 86 = .ok (.invokevirtual 267, 3) := by decide +kernel
theorem dX8_sizeOf_89 : decode cX8_sizeOf 89 = .ok (.iadd, 1) := by decide +kernel
theorem dX8_sizeOf_90 : decode cX8_sizeOf 90 = .ok (.istore 4, 2) := by decide +kernel
theorem dX8_sizeOf_92 : decode cX8_sizeOf 92 = .ok (.iload_n 2, 1) := by decide +kernel
theorem dX8_sizeOf_93 : decode cX8_sizeOf 93 = .ok (.iconst 2, 1) := by decide +kernel
theorem dX8_sizeOf_94 : decode cX8_sizeOf 94 = .ok (.if_icmp .ne 9, 3) := by decide +kernel
theorem dX8_sizeOf_97 : decode cX8_sizeOf 97 = .ok (.iload 4, 2) := by decide +kernel
theorem dX8_sizeOf_99 : decode cX8_sizeOf 99 = .ok (.ineg, 1) := by decide +kernel
theorem dX8_sizeOf_100 : decode cX8_sizeOf 100 = .ok (.goto 5, 3) := by decide +kernel
theorem dX8_sizeOf_103 : decode cX8_sizeOf 103 = .ok (.iload 4, 2) := by decide +kernel
theorem dX8_sizeOf_105 : decode cX8_sizeOf 105 = .ok (.ireturn, 1) := by decide +kernel
theorem dX8_markOf_0 : decode cX8_markOf 0 = .ok (.aload_n 0, 1) := by decide +kernel
theorem dX8_markOf_1 : decode cX8_markOf 1 = .ok (.getfield 22, 3) := by decide +kernel
theorem dX8_markOf_4 : decode cX8_markOf 4 = .ok (.iconst 5, 1) := by decide +kernel
theorem dX8_markOf_5 : decode cX8_markOf 5 = .ok (.iload_n 1, 1) := by decide +kernel
theorem dX8_markOf_6 : decode cX8_markOf 6 = .ok (.iadd, 1) := by decide +kernel
theorem dX8_markOf_7 : decode cX8_markOf 7 = .ok (.iaload, 1) := by decide +kernel
theorem dX8_markOf_8 : decode cX8_markOf 8 = .ok (.istore_n 2, 1) := by decide +kernel
theorem dX8_markOf_9 : decode cX8_markOf 9 = .ok (.aload_n 0, 1) := by decide +kernel
theorem dX8_markOf_10 : decode cX8_markOf 10 = .ok (.getfield 22, 3) := by decide +kernel
theorem dX8_markOf_13 : decode cX8_markOf 13 = .ok (.bipush 10, 2) := by decide +kernel
theorem dX8_markOf_15 : decode cX8_markOf 15 = .ok (.iload_n 1, 1) := by decide +kernel
theorem dX8_markOf_16 : decode cX8_markOf 16 = .ok (.iadd, 1) := by decide +kernel
theorem dX8_markOf_17 : decode cX8_markOf 17 = .ok (.iaload, 1) := by decide +kernel
theorem dX8_markOf_18 : decode cX8_markOf 18 = .ok (.istore_n 3, 1) := by decide +kernel
theorem dX8_markOf_19 : decode cX8_markOf 19 = .ok (.iload_n 1, 1) := by decide +kernel
theorem dX8_markOf_20 : decode cX8_markOf 20 = .ok (.aload_n 0, 1) := by decide +kernel
theorem dX8_markOf_21 : decode cX8_markOf 21 = .ok (.getfield 22, 3) := by decide +kernel
theorem dX8_markOf_24 : decode cX8_markOf 24 = .ok (.bipush 15, 2) := by decide +kernel
theorem dX8_markOf_26 : decode cX8_markOf 26 = .ok (.iload_n 1, 1) := by decide +kernel
theorem dX8_markOf_27 : decode cX8_markOf 27 = .ok (.iadd, 1) := by decide +kernel
theorem dX8_markOf_28 : decode cX8_markOf 28 = .ok (.iaload, 1) := by decide +kernel
theorem dX8_markOf_29 : decode cX8_markOf 29 = .ok (.iadd, 1) := by decide +kernel
theorem dX8_markOf_30 : decode cX8_markOf 30 = .ok (.istore 4, 2) := by decide +kernel
theorem dX8_markOf_32 : decode cX8_markOf 32 = .ok (.iload_n 2, 1) := by decide +kernel
theorem dX8_markOf_33 : decode cX8_markOf 33 = .ok (.iconst 4, 1) := by decide +kernel
theorem dX8_markOf_34 : decode cX8_markOf 34 = .ok (.if_icmp .eq 8, 3) := by decide +kernel
theorem dX8_markOf_37 : decode cX8_markOf 37 = .ok (.iload_n 2, 1) := by decide +kernel
theorem dX8_markOf_38 : decode cX8_markOf 38 = .ok (.iconst 5, 1) := by decide +kernel
theorem dX8_markOf_39 : decode cX8_markOf 39 = .ok (.if_icmp .ne 51, 3) := by decide +kernel
theorem dX8_markOf_42 : decode cX8_markOf 42 = .ok (.aload_n 0, 1) := by decide +kernel
theorem dX8_markOf_43 : decode cX8_markOf 43 = .ok (.sipush 2320, 3) := by decide +kernel
theorem dX8_markOf_46 : decode cX8_markOf 46 = .ok (.invokevirtual 264, 3) := by decide +kernel
theorem dX8_markOf_49 : decode cX8_markOf 49 = .ok (.aload_n 0, 1) := by decide +kernel
theorem dX8_markOf_50 : decode cX8_markOf 50 = .ok (.iload_n 2, 1) := by decide +kernel
theorem dX8_markOf_51 : decode cX8_markOf 51 = .ok (.iconst 4, 1) := by decide +kernel
theorem dX8_markOf_52 : decode cX8_markOf 52 = .ok (.if_icmp .ne 9, 3) := by decide +kernel
theorem dX8_markOf_55 : decode cX8_markOf 55 = .ok (.sipush 1310, 3) := by decide +kernel
theorem dX8_markOf_58 : decode cX8_markOf 58 = .ok (.goto 6, 3) := by decide +kernel
theorem dX8_markOf_61 : decode cX8_markOf 61 = .ok (.ldc_w 263, 3) := by decide +kernel
theorem dX8_markOf_64 : decode cX8_markOf 64 = .ok (.invokevirtual 264, 3) := by decide +kernel
theorem dX8_markOf_67 : decode cX8_markOf 67 = .ok (.iload_n 2, 1) := by decide +kernel
theorem dX8_markOf_68 : decode cX8_markOf 68 = .ok (.iconst 4, 1) := by decide +kernel
theorem dX8_markOf_69 : decode cX8_markOf 69 = .ok (.if_icmp .ne 12, 3) := by decide +kernel
theorem dX8_markOf_72 : decode cX8_markOf 72 = .ok (.iload_n 1, 1) := by decide +kernel
theorem dX8_markOf_73 : decode cX8_markOf 73 = .ok (.iload_n 3, 1) := by decide +kernel
theorem dX8_markOf_74 : decode cX8_markOf 74 = .ok (.bipush 100, 2) := by decide +kernel
theorem dX8_markOf_76 : decode cX8_markOf 76 = .ok (.isub, 1) := by decide +kernel
theorem dX8_markOf_77 : decode cX8_markOf 77 = .ok (.isub, 1) := by decide +kernel
theorem dX8_markOf_78 : decode cX8_markOf 78 = .ok (.goto 11, 3) := by decide +kernel
theorem dX8_markOf_81 : decode cX8_markOf 81 = .ok (.iload_n 1, 1) := by decide +kernel
theorem dX8_markOf_82 : decode cX8_markOf 82 = .ok (.iconst 2, 1) := by decide +kernel
theorem dX8_markOf_83 : decode cX8_markOf 83 = .ok (.iload_n 3, 1) := by decide +kernel
theorem dX8_markOf_84 : decode cX8_markOf 84 = .ok (.bipush 100, 2) := by decide +kernel
theorem dX8_markOf_86 : decode cX8_markOf 86 = .ok (.isub, 1) := by decide +kernel
theorem dX8_markOf_87 : decode cX8_markOf 87 = .ok (.imul, 1) := by decide +kernel
theorem dX8_markOf_88 : decode cX8_markOf 88 = .ok (.isub, 1) := by decide +kernel
theorem dX8_markOf_89 : decode cX8_markOf 89 = .ok (.ireturn, 1) := by decide +kernel
theorem dX8_markOf_90 : decode cX8_markOf 90 = .ok (.aload_n 0, 1) := by decide +kernel
theorem dX8_markOf_91 : decode cX8_markOf 91 = .ok (.iload_n 2, 1) := by decide +kernel
theorem dX8_markOf_92 : decode cX8_markOf 92 = .ok (.iconst 2, 1) := by decide +kernel
theorem dX8_markOf_93 : decode cX8_markOf 93 = .ok (.if_icmp .ne 9, 3) := by decide +kernel
theorem dX8_markOf_96 : decode cX8_markOf 96 = .ok (.ldc_w 270, 3) := by decide +kernel
theorem dX8_markOf_99 : decode cX8_markOf 99 = .ok (.goto 17, 3) := by decide +kernel
theorem dX8_markOf_102 : decode cX8_markOf 102 = .ok (.iload_n 2, 1) := by decide +kernel
theorem dX8_markOf_103 : decode cX8_markOf 103 = .ok (.iconst 3, 1) := by decide +kernel
theorem dX8_markOf_104 : decode cX8_markOf 104 = .ok (.if_icmp .ne 9, 3) := by decide +kernel
theorem dX8_markOf_107 : decode cX8_markOf 107 = .ok (.ldc_w 271, 3) := by decide +kernel
theorem dX8_markOf_110 : decode cX8_markOf 110 = .ok (.goto 6, 3) := by decide +kernel
theorem dX8_markOf_113 : decode cX8_markOf 113 = .ok (.sipush 2120, 3) := by decide +kernel
theorem dX8_markOf_116 : decode cX8_markOf 116 = .ok (.invokevirtual 264, 3) := by decide +kernel
theorem dX8_markOf_119 : decode cX8_markOf 119 = .ok (.iload_n 2, 1) := by decide +kernel
theorem dX8_markOf_120 : decode cX8_markOf 120 = .ok (.iconst 2, 1) := by decide +kernel
theorem dX8_markOf_121 : decode cX8_markOf 121 = .ok (.if_icmp .ne 10, 3) := by decide +kernel
theorem dX8_markOf_124 : decode cX8_markOf 124 = .ok (.iconst 2, 1) := by decide +kernel
theorem dX8_markOf_125 : decode cX8_markOf 125 = .ok (.iload 4, 2) := by decide +kernel
theorem dX8_markOf_127 : decode cX8_markOf 127 = .ok (.imul, 1) := by decide +kernel
theorem dX8_markOf_128 : decode cX8_markOf 128 = .ok (.goto 19, 3) := by decide +kernel
theorem dX8_markOf_131 : decode cX8_markOf 131 = .ok (.iload_n 2, 1) := by decide +kernel
theorem dX8_markOf_132 : decode cX8_markOf 132 = .ok (.iconst 3, 1) := by decide +kernel
theorem dX8_markOf_133 : decode cX8_markOf 133 = .ok (.if_icmp .ne 12, 3) := by decide +kernel
theorem dX8_markOf_136 : decode cX8_markOf 136 = .ok (.iload 4, 2) := by decide +kernel
theorem dX8_markOf_138 : decode cX8_markOf 138 = .ok (.sipush 1000, 3) := by decide +kernel
theorem dX8_markOf_141 : decode cX8_markOf 141 = .ok (.isub, 1) := by decide +kernel
theorem dX8_markOf_142 : decode cX8_markOf 142 = .ok (.goto 5, 3) := by decide +kernel
theorem dX8_markOf_145 : decode cX8_markOf 145 = .ok (.iload 4, 2) := by decide +kernel
theorem dX8_markOf_147 : decode cX8_markOf 147 = .ok (.ireturn, 1) := by decide +kernel
theorem dX8_ask_0 : decode cX8_ask 0 = .ok (.aload_n 0, 1) := by decide +kernel
theorem dX8_ask_1 : decode cX8_ask 1 = .ok (.iload_n 1, 1) := by decide +kernel
theorem dX8_ask_2 : decode cX8_ask 2 = .ok (.invokevirtual 219, 3) := by decide +kernel
theorem dX8_ask_5 : decode cX8_ask 5 = .ok (.ifCond .eq 13, 3) := by decide +kernel
theorem dX8_ask_8 : decode cX8_ask 8 = .ok (.iload_n 2, 1) := by decide +kernel
theorem dX8_ask_9 : decode cX8_ask 9 = .ok (.i2l, 1) := by decide +kernel
theorem dX8_ask_10 : decode cX8_ask 10 = .ok (.lconst 0, 1) := by decide +kernel
theorem dX8_ask_11 : decode cX8_ask 11 = .ok (.lconst 1, 1) := by decide +kernel
theorem dX8_ask_12 : decode cX8_ask 12 = .ok (.invokestatic 60, 3) := by decide +kernel
theorem dX8_ask_15 : decode cX8_ask 15 = .ok (.ifCond .ne 6, 3) := by decide +kernel
theorem dX8_ask_18 : decode cX8_ask 18 = .ok (.ldc 66, 2) := by decide +kernel
theorem dX8_ask_20 : decode cX8_ask 20 = .ok (.ireturn, 1) := by decide +kernel
theorem dX8_ask_21 : decode cX8_ask 21 = .ok (.aload_n 0, 1) := by decide +kernel
theorem dX8_ask_22 : decode cX8_ask 22 = .ok (.iconst 0, 1) := by decide +kernel
theorem dX8_ask_23 : decode cX8_ask 23 = .ok (.putfield 255, 3) := by decide +kernel
theorem dX8_ask_26 : decode cX8_ask 26 = .ok (.iload_n 2, 1) := by decide +kernel
theorem dX8_ask_27 : decode cX8_ask 27 = .ok (.ifCond .ne 11, 3) := by decide +kernel
theorem dX8_ask_30 : decode cX8_ask 30 = .ok (.aload_n 0, 1) := by decide +kernel
theorem dX8_ask_31 : decode cX8_ask 31 = .ok (.iload_n 1, 1) := by decide +kernel
theorem dX8_ask_32 : decode cX8_ask 32 = .ok (.invokevirtual 272, 3) := by decide +kernel
theorem dX8_ask_35 : decode cX8_ask 35 = .ok (.goto 8, 3) := by decide +kernel
theorem dX8_ask_38 : decode cX8_ask 38 = .ok (.aload_n 0, 1) := by decide +kernel
theorem dX8_ask_39 : decode cX8_ask 39 = .ok (.iload_n 1, 1) := by decide +kernel
theorem dX8_ask_40 : decode cX8_ask 40 = .ok (.invokevirtual 267, 3) := by decide +kernel
theorem dX8_ask_43 : decode cX8_ask 43 = .ok (.ireturn, 1) := by decide +kernel
theorem dX8_trace_0 : decode cX8_trace 0 = .ok (.iload_n 1, 1) := by decide +kernel
theorem dX8_trace_1 : decode cX8_trace 1 = .ok (.i2l, 1) := by decide +kernel
theorem dX8_trace_2 : decode cX8_trace 2 = .ok (.lconst 0, 1) := by decide +kernel
theorem dX8_trace_3 : decode cX8_trace 3 = .ok (.aload_n 0, 1) := by decide +kernel
theorem dX8_trace_4 : decode cX8_trace 4 = .ok (.getfield 255, 3) := by decide +kernel
theorem dX8_trace_7 : decode cX8_trace 7 = .ok (.iconst 1, 1) := by decide +kernel
theorem dX8_trace_8 : decode cX8_trace 8 = .ok (.isub, 1) := by decide +kernel
theorem dX8_trace_9 : decode cX8_trace 9 = .ok (.i2l, 1) := by decide +kernel
theorem dX8_trace_10 : decode cX8_trace 10 = .ok (.invokestatic 60, 3) := by decide +kernel
theorem dX8_trace_13 : decode cX8_trace 13 = .ok (.ifCond .eq 12, 3) := by decide +kernel
theorem dX8_trace_16 : decode cX8_trace 16 = .ok (.aload_n 0, 1) := by decide +kernel
theorem dX8_trace_17 : decode cX8_trace 17 = .ok (.getfield 38, 3) := by decide +kernel
theorem dX8_trace_20 : decode cX8_trace 20 = .ok (.iload_n 1, 1) := by decide +kernel
theorem dX8_trace_21 : decode cX8_trace 21 = .ok (.iaload, 1) := by decide +kernel
theorem dX8_trace_22 : decode cX8_trace 22 = .ok (.goto 5, 3) := by decide +kernel
theorem dX8_trace_25 : decode cX8_trace 25 = .ok (.ldc 179, 2) := by decide +kernel
theorem dX8_trace_27 : decode cX8_trace 27 = .ok (.ireturn, 1) := by decide +kernel
theorem dX8_count_0 : decode cX8_count 0 = .ok (.iload_n 1, 1) := by decide +kernel
theorem dX8_count_1 : decode cX8_count 1 = .ok (.i2l, 1) := by decide +kernel
theorem dX8_count_2 : decode cX8_count 2 = .ok (.lconst 0, 1) := by decide +kernel
theorem dX8_count_3 : decode cX8_count 3 = .ok (.ldc2_w 232, 3) := by decide +kernel
theorem dX8_count_6 : decode cX8_count 6 = .ok (.invokestatic 60, 3) := by decide +kernel
theorem dX8_count_9 : decode cX8_count 9 = .ok (.ifCond .ne 6, 3) := by decide +kernel
theorem dX8_count_12 : decode cX8_count 12 = .ok (.ldc 66, 2) := by decide +kernel
theorem dX8_count_14 : decode cX8_count 14 = .ok (.ireturn, 1) := by decide +kernel
theorem dX8_count_15 : decode cX8_count 15 = .ok (.iconst 0, 1) := by decide +kernel
theorem dX8_count_16 : decode cX8_count 16 = .ok (.istore_n 2, 1) := by decide +kernel
theorem dX8_count_17 : decode cX8_count 17 = .ok (.iconst 0, 1) := by decide +kernel
theorem dX8_count_18 : decode cX8_count 18 = .ok (.istore_n 3, 1) := by decide +kernel
theorem dX8_count_19 : decode cX8_count 19 = .ok (.iload_n 3, 1) := by decide +kernel
theorem dX8_count_20 : decode cX8_count 20 = .ok (.bipush 8, 2) := by decide +kernel
theorem dX8_count_22 : decode cX8_count 22 = .ok (.if_icmp .ge 30, 3) := by decide +kernel
theorem dX8_count_25 : decode cX8_count 25 = .ok (.iload_n 1, 1) := by decide +kernel
theorem dX8_count_26 : decode cX8_count 26 = .ok (.ifCond .ne 26, 3) := by decide +kernel
theorem dX8_count_29 : decode cX8_count 29 = .ok (.iload_n 2, 1) := by decide +kernel
theorem dX8_count_30 : decode cX8_count 30 = .ok (.aload_n 0, 1) := by decide +kernel
theorem dX8_count_31 : decode cX8_count 31 = .ok (.getfield 7, 3) := by decide +kernel
theorem dX8_count_34 : decode cX8_count 34 = .ok (.iload_n 3, 1) := by decide +kernel
theorem dX8_count_35 : decode cX8_count 35 = .ok (.iaload, 1) := by decide +kernel
theorem dX8_count_36 : decode cX8_count 36 = .ok (.ifCond .lt 7, 3) := by decide +kernel
theorem dX8_count_39 : decode cX8_count 39 = .ok (.iconst 1, 1) := by decide +kernel
theorem dX8_count_40 : decode cX8_count 40 = .ok (.goto 4, 3) := by decide +kernel
theorem dX8_count_43 : decode cX8_count 43 = .ok (.iconst 0, 1) := by decide +kernel
theorem dX8_count_44 : decode cX8_count 44 = .ok (.iadd, 1) := by decide +kernel
theorem dX8_count_45 : decode cX8_count 45 = .ok (.istore_n 2, 1) := by decide +kernel
theorem dX8_count_46 : decode cX8_count 46 = .ok (.iinc 3 1, 3) := by decide +kernel
theorem dX8_count_49 : decode cX8_count 49 = .ok (.goto (-30), 3) := by decide +kernel
theorem dX8_count_52 : decode cX8_count 52 = .ok (.iconst 0, 1) := by decide +kernel
theorem dX8_count_53 : decode cX8_count 53 = .ok (.istore_n 3, 1) := by decide +kernel
theorem dX8_count_54 : decode cX8_count 54 = .ok (.iload_n 3, 1) := by decide +kernel
theorem dX8_count_55 : decode cX8_count 55 = .ok (.bipush 30, 2) := by decide +kernel
theorem dX8_count_57 : decode cX8_count 57 = .ok (.if_icmp .ge 27, 3) := by decide +kernel
theorem dX8_count_60 : decode cX8_count 60 = .ok (.iload_n 1, 1) := by decide +kernel
theorem dX8_count_61 : decode cX8_count 61 = .ok (.iconst 2, 1) := by decide +kernel
theorem dX8_count_62 : decode cX8_count 62 = .ok (.if_icmp .ne 22, 3) := by decide +kernel
theorem dX8_count_65 : decode cX8_count 65 = .ok (.iload_n 2, 1) := by decide +kernel
theorem dX8_count_66 : decode cX8_count 66 = .ok (.aload_n 0, 1) := by decide +kernel
theorem dX8_count_67 : decode cX8_count 67 = .ok (.getfield 22, 3) := by decide +kernel
theorem dX8_count_70 : decode cX8_count 70 = .ok (.iconst 4, 1) := by decide +kernel
theorem dX8_count_71 : decode cX8_count 71 = .ok (.iaload, 1) := by decide +kernel
theorem dX8_count_72 : decode cX8_count 72 = .ok (.iload_n 3, 1) := by decide +kernel
theorem dX8_count_73 : decode cX8_count 73 = .ok (.ishr, 1) := by decide +kernel
theorem dX8_count_74 : decode cX8_count 74 = .ok (.iconst 1, 1) := by decide +kernel
theorem dX8_count_75 : decode cX8_count 75 = .ok (.iand, 1) := by decide +kernel
theorem dX8_count_76 : decode cX8_count 76 = .ok (.iadd, 1) := by decide +kernel
theorem dX8_count_77 : decode cX8_count 77 = .ok (.istore_n 2, 1) := by decide +kernel
theorem dX8_count_78 : decode cX8_count 78 = .ok (.iinc 3 1, 3) := by decide +kernel
theorem dX8_count_81 : decode cX8_count 81 = .ok (.goto (-27), 3) := by decide +kernel
theorem dX8_count_84 : decode cX8_count 84 = .ok (.iconst 0, 1) := by decide +kernel
theorem dX8_count_85 : decode cX8_count 85 = .ok (.istore_n 3, 1) := by decide +kernel
theorem dX8_count_86 : decode cX8_count 86 = .ok (.iload_n 3, 1) := by decide +kernel
theorem dX8_count_87 : decode cX8_count 87 = .ok (.iconst 5, 1) := by decide +kernel
theorem dX8_count_88 : decode cX8_count 88 = .ok (.if_icmp .ge 26, 3) := by decide +kernel
theorem dX8_count_91 : decode cX8_count 91 = .ok (.iload_n 1, 1) := by decide +kernel
theorem dX8_count_92 : decode cX8_count 92 = .ok (.iconst 5, 1) := by decide +kernel
theorem dX8_count_93 : decode cX8_count 93 = .ok (.if_icmp .ne 21, 3) := by decide +kernel
theorem dX8_count_96 : decode cX8_count 96 = .ok (.iload_n 2, 1) := by decide +kernel
theorem dX8_count_97 : decode cX8_count 97 = .ok (.aload_n 0, 1) := by decide +kernel
theorem dX8_count_98 : decode cX8_count 98 = .ok (.getfield 22, 3) := by decide +kernel
theorem dX8_count_101 : decode cX8_count 101 = .ok (.bipush 20, 2) := by decide +kernel
theorem dX8_count_103 : decode cX8_count 103 = .ok (.iload_n 3, 1) := by decide +kernel
theorem dX8_count_104 : decode cX8_count 104 = .ok (.iadd, 1) := by decide +kernel
theorem dX8_count_105 : decode cX8_count 105 = .ok (.iaload, 1) := by decide +kernel
theorem dX8_count_106 : decode cX8_count 106 = .ok (.iadd, 1) := by decide +kernel
theorem dX8_count_107 : decode cX8_count 107 = .ok (.istore_n 2, 1) := by decide +kernel
theorem dX8_count_108 : decode cX8_count 108 = .ok (.iinc 3 1, 3) := by decide +kernel
theorem dX8_count_111 : decode cX8_count 111 = .ok (.goto (-25), 3) := by decide +kernel
theorem dX8_count_114 : decode cX8_count 114 = .ok (.iload_n 1, 1) := by decide +kernel
theorem dX8_count_115 : decode cX8_count 115 = .ok (.iconst 1, 1) := by decide +kernel
theorem dX8_count_116 : decode cX8_count 116 = .ok (.if_icmp .ne 12, 3) := by decide +kernel
theorem dX8_count_119 : decode cX8_count 119 = .ok (.aload_n 0, 1) := by decide +kernel
theorem dX8_count_120 : decode cX8_count 120 = .ok (.getfield 22, 3) := by decide +kernel
theorem dX8_count_123 : decode cX8_count 123 = .ok (.iconst 3, 1) := by decide +kernel
theorem dX8_count_124 : decode cX8_count 124 = .ok (.iaload, 1) := by decide +kernel
theorem dX8_count_125 : decode cX8_count 125 = .ok (.goto 43, 3) := by decide +kernel
theorem dX8_count_128 : decode cX8_count 128 = .ok (.iload_n 1, 1) := by decide +kernel
theorem dX8_count_129 : decode cX8_count 129 = .ok (.iconst 3, 1) := by decide +kernel
theorem dX8_count_130 : decode cX8_count 130 = .ok (.if_icmp .ne 12, 3) := by decide +kernel
theorem dX8_count_133 : decode cX8_count 133 = .ok (.aload_n 0, 1) := by decide +kernel
theorem dX8_count_134 : decode cX8_count 134 = .ok (.getfield 22, 3) := by decide +kernel
theorem dX8_count_137 : decode cX8_count 137 = .ok (.iconst 1, 1) := by decide +kernel
theorem dX8_count_138 : decode cX8_count 138 = .ok (.iaload, 1) := by decide +kernel
theorem dX8_count_139 : decode cX8_count 139 = .ok (.goto 29, 3) := by decide +kernel
theorem dX8_count_142 : decode cX8_count 142 = .ok (.iload_n 1, 1) := by decide +kernel
theorem dX8_count_143 : decode cX8_count 143 = .ok (.iconst 4, 1) := by decide +kernel
theorem dX8_count_144 : decode cX8_count 144 = .ok (.if_icmp .ne 10, 3) := by decide +kernel
theorem dX8_count_147 : decode cX8_count 147 = .ok (.aload_n 0, 1) := by decide +kernel
theorem dX8_count_148 : decode cX8_count 148 = .ok (.getfield 164, 3) := by decide +kernel
theorem dX8_count_151 : decode cX8_count 151 = .ok (.goto 17, 3) := by decide +kernel
theorem dX8_count_154 : decode cX8_count 154 = .ok (.iload_n 1, 1) := by decide +kernel
theorem dX8_count_155 : decode cX8_count 155 = .ok (.bipush 6, 2) := by decide +kernel
theorem dX8_count_157 : decode cX8_count 157 = .ok (.if_icmp .ne 10, 3) := by decide +kernel
theorem dX8_count_160 : decode cX8_count 160 = .ok (.aload_n 0, 1) := by decide +kernel
theorem dX8_count_161 : decode cX8_count 161 = .ok (.getfield 76, 3) := by decide +kernel
theorem dX8_count_164 : decode cX8_count 164 = .ok (.goto 4, 3) := by decide +kernel
theorem dX8_count_167 : decode cX8_count 167 = .ok (.iload_n 2, 1) := by decide +kernel
theorem dX8_count_168 : decode cX8_count 168 = .ok (.ireturn, 1) := by decide +kernel
theorem dX8_status_0 : decode cX8_status 0 = .ok (.aload_n 0, 1) := by decide +kernel
theorem dX8_status_1 : decode cX8_status 1 = .ok (.getfield 53, 3) := by decide +kernel
theorem dX8_status_4 : decode cX8_status 4 = .ok (.ireturn, 1) := by decide +kernel
theorem dL_law_0 : decode cL_law 0 = .ok (.new 7, 3) := by decide +kernel
theorem dL_law_3 : decode cL_law 3 = .ok (.dup, 1) := by decide +kernel
theorem dL_law_4 : decode cL_law 4 = .ok (.invokespecial 9, 3) := by decide +kernel
theorem dL_law_7 : decode cL_law 7 = .ok (.astore_n 1, 1) := by decide +kernel
theorem dL_law_8 : decode cL_law 8 = .ok (.new 10, 3) := by decide +kernel
theorem dL_law_11 : decode cL_law 11 = .ok (.dup, 1) := by decide +kernel
theorem dL_law_12 : decode cL_law 12 = .ok (.invokespecial 12, 3) := by decide +kernel
theorem dL_law_15 : decode cL_law 15 = .ok (.astore_n 2, 1) := by decide +kernel
theorem dL_law_16 : decode cL_law 16 = .ok (.iconst 0, 1) := by decide +kernel
theorem dL_law_17 : decode cL_law 17 = .ok (.istore_n 3, 1) := by decide +kernel
theorem dL_law_18 : decode cL_law 18 = .ok (.iload_n 3, 1) := by decide +kernel
theorem dL_law_19 : decode cL_law 19 = .ok (.aload_n 0, 1) := by decide +kernel
theorem dL_law_20 : decode cL_law 20 = .ok (.arraylength, 1) := by decide +kernel
theorem dL_law_21 : decode cL_law 21 = .ok (.bipush 6, 2) := by decide +kernel
theorem dL_law_23 : decode cL_law 23 = .ok (.isub, 1) := by decide +kernel
theorem dL_law_24 : decode cL_law 24 = .ok (.if_icmp .gt 1277, 3) := by decide +kernel
theorem dL_law_27 : decode cL_law 27 = .ok (.aload_n 0, 1) := by decide +kernel
theorem dL_law_28 : decode cL_law 28 = .ok (.iload_n 3, 1) := by decide +kernel
theorem dL_law_29 : decode cL_law 29 = .ok (.iaload, 1) := by decide +kernel
theorem dL_law_30 : decode cL_law 30 = .ok (.bipush 31, 2) := by decide +kernel
theorem dL_law_32 : decode cL_law 32 = .ok (.iand, 1) := by decide +kernel
theorem dL_law_33 : decode cL_law 33 = .ok (.tableswitch 1262 0 30 #[139, 182, 225, 288, 311, 374, 387, 400, 453, 486, 519, 532, 565, 598, 631, 684, 747, 790, 853, 896, 929, 962, 1005, 1068, 1091, 1114, 1137, 1170, 1203, 1226, 1249], 139) := by decide +kernel
theorem dL_law_172 : decode cL_law 172 = .ok (.aload_n 1, 1) := by decide +kernel
theorem dL_law_173 : decode cL_law 173 = .ok (.aload_n 0, 1) := by decide +kernel
theorem dL_law_174 : decode cL_law 174 = .ok (.iload_n 3, 1) := by decide +kernel
theorem dL_law_175 : decode cL_law 175 = .ok (.iconst 1, 1) := by decide +kernel
theorem dL_law_176 : decode cL_law 176 = .ok (.iadd, 1) := by decide +kernel
theorem dL_law_177 : decode cL_law 177 = .ok (.iaload, 1) := by decide +kernel
theorem dL_law_178 : decode cL_law 178 = .ok (.aload_n 0, 1) := by decide +kernel
theorem dL_law_179 : decode cL_law 179 = .ok (.iload_n 3, 1) := by decide +kernel
theorem dL_law_180 : decode cL_law 180 = .ok (.iconst 2, 1) := by decide +kernel
theorem dL_law_181 : decode cL_law 181 = .ok (.iadd, 1) := by decide +kernel
theorem dL_law_182 : decode cL_law 182 = .ok (.iaload, 1) := by decide +kernel
theorem dL_law_183 : decode cL_law 183 = .ok (.aload_n 0, 1) := by decide +kernel
theorem dL_law_184 : decode cL_law 184 = .ok (.iload_n 3, 1) := by decide +kernel
theorem dL_law_185 : decode cL_law 185 = .ok (.iconst 3, 1) := by decide +kernel
theorem dL_law_186 : decode cL_law 186 = .ok (.iadd, 1) := by decide +kernel
theorem dL_law_187 : decode cL_law 187 = .ok (.iaload, 1) := by decide +kernel
theorem dL_law_188 : decode cL_law 188 = .ok (.invokevirtual 13, 3) := by decide +kernel
theorem dL_law_191 : decode cL_law 191 = .ok (.aload_n 2, 1) := by decide +kernel
theorem dL_law_192 : decode cL_law 192 = .ok (.aload_n 0, 1) := by decide +kernel
theorem dL_law_193 : decode cL_law 193 = .ok (.iload_n 3, 1) := by decide +kernel
theorem dL_law_194 : decode cL_law 194 = .ok (.iconst 1, 1) := by decide +kernel
theorem dL_law_195 : decode cL_law 195 = .ok (.iadd, 1) := by decide +kernel
theorem dL_law_196 : decode cL_law 196 = .ok (.iaload, 1) := by decide +kernel
theorem dL_law_197 : decode cL_law 197 = .ok (.aload_n 0, 1) := by decide +kernel
theorem dL_law_198 : decode cL_law 198 = .ok (.iload_n 3, 1) := by decide +kernel
theorem dL_law_199 : decode cL_law 199 = .ok (.iconst 2, 1) := by decide +kernel
theorem dL_law_200 : decode cL_law 200 = .ok (.iadd, 1) := by decide +kernel
theorem dL_law_201 : decode cL_law 201 = .ok (.iaload, 1) := by decide +kernel
theorem dL_law_202 : decode cL_law 202 = .ok (.aload_n 0, 1) := by decide +kernel
theorem dL_law_203 : decode cL_law 203 = .ok (.iload_n 3, 1) := by decide +kernel
theorem dL_law_204 : decode cL_law 204 = .ok (.iconst 3, 1) := by decide +kernel
theorem dL_law_205 : decode cL_law 205 = .ok (.iadd, 1) := by decide +kernel
theorem dL_law_206 : decode cL_law 206 = .ok (.iaload, 1) := by decide +kernel
theorem dL_law_207 : decode cL_law 207 = .ok (.invokevirtual 17, 3) := by decide +kernel
theorem dL_law_210 : decode cL_law 210 = .ok (.if_icmp .eq 1085, 3) := by decide +kernel
theorem dL_law_213 : decode cL_law 213 = .ok (.iconst 0, 1) := by decide +kernel
theorem dL_law_214 : decode cL_law 214 = .ok (.ireturn, 1) := by decide +kernel
theorem dL_law_215 : decode cL_law 215 = .ok (.aload_n 1, 1) := by decide +kernel
theorem dL_law_216 : decode cL_law 216 = .ok (.aload_n 0, 1) := by decide +kernel
theorem dL_law_217 : decode cL_law 217 = .ok (.iload_n 3, 1) := by decide +kernel
theorem dL_law_218 : decode cL_law 218 = .ok (.iconst 1, 1) := by decide +kernel
theorem dL_law_219 : decode cL_law 219 = .ok (.iadd, 1) := by decide +kernel
theorem dL_law_220 : decode cL_law 220 = .ok (.iaload, 1) := by decide +kernel
theorem dL_law_221 : decode cL_law 221 = .ok (.aload_n 0, 1) := by decide +kernel
theorem dL_law_222 : decode cL_law 222 = .ok (.iload_n 3, 1) := by decide +kernel
theorem dL_law_223 : decode cL_law 223 = .ok (.iconst 2, 1) := by decide +kernel
theorem dL_law_224 : decode cL_law 224 = .ok (.iadd, 1) := by decide +kernel
theorem dL_law_225 : decode cL_law 225 = .ok (.iaload, 1) := by decide +kernel
theorem dL_law_226 : decode cL_law 226 = .ok (.aload_n 0, 1) := by decide +kernel
theorem dL_law_227 : decode cL_law 227 = .ok (.iload_n 3, 1) := by decide +kernel
theorem dL_law_228 : decode cL_law 228 = .ok (.iconst 3, 1) := by decide +kernel
theorem dL_law_229 : decode cL_law 229 = .ok (.iadd, 1) := by decide +kernel
theorem dL_law_230 : decode cL_law 230 = .ok (.iaload, 1) := by decide +kernel
theorem dL_law_231 : decode cL_law 231 = .ok (.invokevirtual 18, 3) := by decide +kernel
theorem dL_law_234 : decode cL_law 234 = .ok (.aload_n 2, 1) := by decide +kernel
theorem dL_law_235 : decode cL_law 235 = .ok (.aload_n 0, 1) := by decide +kernel
theorem dL_law_236 : decode cL_law 236 = .ok (.iload_n 3, 1) := by decide +kernel
theorem dL_law_237 : decode cL_law 237 = .ok (.iconst 1, 1) := by decide +kernel
theorem dL_law_238 : decode cL_law 238 = .ok (.iadd, 1) := by decide +kernel
theorem dL_law_239 : decode cL_law 239 = .ok (.iaload, 1) := by decide +kernel
theorem dL_law_240 : decode cL_law 240 = .ok (.aload_n 0, 1) := by decide +kernel
theorem dL_law_241 : decode cL_law 241 = .ok (.iload_n 3, 1) := by decide +kernel
theorem dL_law_242 : decode cL_law 242 = .ok (.iconst 2, 1) := by decide +kernel
theorem dL_law_243 : decode cL_law 243 = .ok (.iadd, 1) := by decide +kernel
theorem dL_law_244 : decode cL_law 244 = .ok (.iaload, 1) := by decide +kernel
theorem dL_law_245 : decode cL_law 245 = .ok (.aload_n 0, 1) := by decide +kernel
theorem dL_law_246 : decode cL_law 246 = .ok (.iload_n 3, 1) := by decide +kernel
theorem dL_law_247 : decode cL_law 247 = .ok (.iconst 3, 1) := by decide +kernel
theorem dL_law_248 : decode cL_law 248 = .ok (.iadd, 1) := by decide +kernel
theorem dL_law_249 : decode cL_law 249 = .ok (.iaload, 1) := by decide +kernel
theorem dL_law_250 : decode cL_law 250 = .ok (.invokevirtual 21, 3) := by decide +kernel
theorem dL_law_253 : decode cL_law 253 = .ok (.if_icmp .eq 1042, 3) := by decide +kernel
theorem dL_law_256 : decode cL_law 256 = .ok (.iconst 0, 1) := by decide +kernel
theorem dL_law_257 : decode cL_law 257 = .ok (.ireturn, 1) := by decide +kernel
theorem dL_law_258 : decode cL_law 258 = .ok (.aload_n 1, 1) := by decide +kernel
theorem dL_law_259 : decode cL_law 259 = .ok (.aload_n 0, 1) := by decide +kernel
theorem dL_law_260 : decode cL_law 260 = .ok (.iload_n 3, 1) := by decide +kernel
theorem dL_law_261 : decode cL_law 261 = .ok (.iconst 1, 1) := by decide +kernel
theorem dL_law_262 : decode cL_law 262 = .ok (.iadd, 1) := by decide +kernel
theorem dL_law_263 : decode cL_law 263 = .ok (.iaload, 1) := by decide +kernel
theorem dL_law_264 : decode cL_law 264 = .ok (.aload_n 0, 1) := by decide +kernel
theorem dL_law_265 : decode cL_law 265 = .ok (.iload_n 3, 1) := by decide +kernel
theorem dL_law_266 : decode cL_law 266 = .ok (.iconst 2, 1) := by decide +kernel
theorem dL_law_267 : decode cL_law 267 = .ok (.iadd, 1) := by decide +kernel
theorem dL_law_268 : decode cL_law 268 = .ok (.iaload, 1) := by decide +kernel
theorem dL_law_269 : decode cL_law 269 = .ok (.aload_n 0, 1) := by decide +kernel
theorem dL_law_270 : decode cL_law 270 = .ok (.iload_n 3, 1) := by decide +kernel
theorem dL_law_271 : decode cL_law 271 = .ok (.iconst 3, 1) := by decide +kernel
theorem dL_law_272 : decode cL_law 272 = .ok (.iadd, 1) := by decide +kernel
theorem dL_law_273 : decode cL_law 273 = .ok (.iaload, 1) := by decide +kernel
theorem dL_law_274 : decode cL_law 274 = .ok (.aload_n 0, 1) := by decide +kernel
theorem dL_law_275 : decode cL_law 275 = .ok (.iload_n 3, 1) := by decide +kernel
theorem dL_law_276 : decode cL_law 276 = .ok (.iconst 4, 1) := by decide +kernel
theorem dL_law_277 : decode cL_law 277 = .ok (.iadd, 1) := by decide +kernel
theorem dL_law_278 : decode cL_law 278 = .ok (.iaload, 1) := by decide +kernel
theorem dL_law_279 : decode cL_law 279 = .ok (.aload_n 0, 1) := by decide +kernel
theorem dL_law_280 : decode cL_law 280 = .ok (.iload_n 3, 1) := by decide +kernel
theorem dL_law_281 : decode cL_law 281 = .ok (.iconst 5, 1) := by decide +kernel
theorem dL_law_282 : decode cL_law 282 = .ok (.iadd, 1) := by decide +kernel
theorem dL_law_283 : decode cL_law 283 = .ok (.iaload, 1) := by decide +kernel
theorem dL_law_284 : decode cL_law 284 = .ok (.invokevirtual 22, 3) := by decide +kernel
theorem dL_law_287 : decode cL_law 287 = .ok (.aload_n 2, 1) := by decide +kernel
theorem dL_law_288 : decode cL_law 288 = .ok (.aload_n 0, 1) := by decide +kernel
theorem dL_law_289 : decode cL_law 289 = .ok (.iload_n 3, 1) := by decide +kernel
theorem dL_law_290 : decode cL_law 290 = .ok (.iconst 1, 1) := by decide +kernel
theorem dL_law_291 : decode cL_law 291 = .ok (.iadd, 1) := by decide +kernel
theorem dL_law_292 : decode cL_law 292 = .ok (.iaload, 1) := by decide +kernel
theorem dL_law_293 : decode cL_law 293 = .ok (.aload_n 0, 1) := by decide +kernel
theorem dL_law_294 : decode cL_law 294 = .ok (.iload_n 3, 1) := by decide +kernel
theorem dL_law_295 : decode cL_law 295 = .ok (.iconst 2, 1) := by decide +kernel
theorem dL_law_296 : decode cL_law 296 = .ok (.iadd, 1) := by decide +kernel
theorem dL_law_297 : decode cL_law 297 = .ok (.iaload, 1) := by decide +kernel
theorem dL_law_298 : decode cL_law 298 = .ok (.aload_n 0, 1) := by decide +kernel
theorem dL_law_299 : decode cL_law 299 = .ok (.iload_n 3, 1) := by decide +kernel
theorem dL_law_300 : decode cL_law 300 = .ok (.iconst 3, 1) := by decide +kernel
theorem dL_law_301 : decode cL_law 301 = .ok (.iadd, 1) := by decide +kernel
theorem dL_law_302 : decode cL_law 302 = .ok (.iaload, 1) := by decide +kernel
theorem dL_law_303 : decode cL_law 303 = .ok (.aload_n 0, 1) := by decide +kernel
theorem dL_law_304 : decode cL_law 304 = .ok (.iload_n 3, 1) := by decide +kernel
theorem dL_law_305 : decode cL_law 305 = .ok (.iconst 4, 1) := by decide +kernel
theorem dL_law_306 : decode cL_law 306 = .ok (.iadd, 1) := by decide +kernel
theorem dL_law_307 : decode cL_law 307 = .ok (.iaload, 1) := by decide +kernel
theorem dL_law_308 : decode cL_law 308 = .ok (.aload_n 0, 1) := by decide +kernel
theorem dL_law_309 : decode cL_law 309 = .ok (.iload_n 3, 1) := by decide +kernel
theorem dL_law_310 : decode cL_law 310 = .ok (.iconst 5, 1) := by decide +kernel
theorem dL_law_311 : decode cL_law 311 = .ok (.iadd, 1) := by decide +kernel
theorem dL_law_312 : decode cL_law 312 = .ok (.iaload, 1) := by decide +kernel
theorem dL_law_313 : decode cL_law 313 = .ok (.invokevirtual 26, 3) := by decide +kernel
theorem dL_law_316 : decode cL_law 316 = .ok (.if_icmp .eq 979, 3) := by decide +kernel
theorem dL_law_319 : decode cL_law 319 = .ok (.iconst 0, 1) := by decide +kernel
theorem dL_law_320 : decode cL_law 320 = .ok (.ireturn, 1) := by decide +kernel
theorem dL_law_321 : decode cL_law 321 = .ok (.aload_n 1, 1) := by decide +kernel
theorem dL_law_322 : decode cL_law 322 = .ok (.aload_n 0, 1) := by decide +kernel
theorem dL_law_323 : decode cL_law 323 = .ok (.iload_n 3, 1) := by decide +kernel
theorem dL_law_324 : decode cL_law 324 = .ok (.iconst 1, 1) := by decide +kernel
theorem dL_law_325 : decode cL_law 325 = .ok (.iadd, 1) := by decide +kernel
theorem dL_law_326 : decode cL_law 326 = .ok (.iaload, 1) := by decide +kernel
theorem dL_law_327 : decode cL_law 327 = .ok (.invokevirtual 27, 3) := by decide +kernel
theorem dL_law_330 : decode cL_law 330 = .ok (.aload_n 2, 1) := by decide +kernel
theorem dL_law_331 : decode cL_law 331 = .ok (.aload_n 0, 1) := by decide +kernel
theorem dL_law_332 : decode cL_law 332 = .ok (.iload_n 3, 1) := by decide +kernel
theorem dL_law_333 : decode cL_law 333 = .ok (.iconst 1, 1) := by decide +kernel
theorem dL_law_334 : decode cL_law 334 = .ok (.iadd, 1) := by decide +kernel
theorem dL_law_335 : decode cL_law 335 = .ok (.iaload, 1) := by decide +kernel
theorem dL_law_336 : decode cL_law 336 = .ok (.invokevirtual 31, 3) := by decide +kernel
theorem dL_law_339 : decode cL_law 339 = .ok (.if_icmp .eq 956, 3) := by decide +kernel
theorem dL_law_342 : decode cL_law 342 = .ok (.iconst 0, 1) := by decide +kernel
theorem dL_law_343 : decode cL_law 343 = .ok (.ireturn, 1) := by decide +kernel
theorem dL_law_344 : decode cL_law 344 = .ok (.aload_n 1, 1) := by decide +kernel
theorem dL_law_345 : decode cL_law 345 = .ok (.aload_n 0, 1) := by decide +kernel
theorem dL_law_346 : decode cL_law 346 = .ok (.iload_n 3, 1) := by decide +kernel
theorem dL_law_347 : decode cL_law 347 = .ok (.iconst 1, 1) := by decide +kernel
theorem dL_law_348 : decode cL_law 348 = .ok (.iadd, 1) := by decide +kernel
theorem dL_law_349 : decode cL_law 349 = .ok (.iaload, 1) := by decide +kernel
theorem dL_law_350 : decode cL_law 350 = .ok (.i2l, 1) := by decide +kernel
theorem dL_law_351 : decode cL_law 351 = .ok (.bipush 32, 2) := by decide +kernel
theorem dL_law_353 : decode cL_law 353 = .ok (.lshl, 1) := by decide +kernel
theorem dL_law_354 : decode cL_law 354 = .ok (.aload_n 0, 1) := by decide +kernel
theorem dL_law_355 : decode cL_law 355 = .ok (.iload_n 3, 1) := by decide +kernel
theorem dL_law_356 : decode cL_law 356 = .ok (.iconst 2, 1) := by decide +kernel
theorem dL_law_357 : decode cL_law 357 = .ok (.iadd, 1) := by decide +kernel
theorem dL_law_358 : decode cL_law 358 = .ok (.iaload, 1) := by decide +kernel
theorem dL_law_359 : decode cL_law 359 = .ok (.i2l, 1) := by decide +kernel
theorem dL_law_360 : decode cL_law 360 = .ok (.ldc2_w 32, 3) := by decide +kernel
theorem dL_law_363 : decode cL_law 363 = .ok (.land, 1) := by decide +kernel
theorem dL_law_364 : decode cL_law 364 = .ok (.lor, 1) := by decide +kernel
theorem dL_law_365 : decode cL_law 365 = .ok (.aload_n 0, 1) := by decide +kernel
theorem dL_law_366 : decode cL_law 366 = .ok (.iload_n 3, 1) := by decide +kernel
theorem dL_law_367 : decode cL_law 367 = .ok (.iconst 3, 1) := by decide +kernel
theorem dL_law_368 : decode cL_law 368 = .ok (.iadd, 1) := by decide +kernel
theorem dL_law_369 : decode cL_law 369 = .ok (.iaload, 1) := by decide +kernel
theorem dL_law_370 : decode cL_law 370 = .ok (.invokevirtual 34, 3) := by decide +kernel
theorem dL_law_373 : decode cL_law 373 = .ok (.aload_n 2, 1) := by decide +kernel
theorem dL_law_374 : decode cL_law 374 = .ok (.aload_n 0, 1) := by decide +kernel
theorem dL_law_375 : decode cL_law 375 = .ok (.iload_n 3, 1) := by decide +kernel
theorem dL_law_376 : decode cL_law 376 = .ok (.iconst 1, 1) := by decide +kernel
theorem dL_law_377 : decode cL_law 377 = .ok (.iadd, 1) := by decide +kernel
theorem dL_law_378 : decode cL_law 378 = .ok (.iaload, 1) := by decide +kernel
theorem dL_law_379 : decode cL_law 379 = .ok (.i2l, 1) := by decide +kernel
theorem dL_law_380 : decode cL_law 380 = .ok (.bipush 32, 2) := by decide +kernel
theorem dL_law_382 : decode cL_law 382 = .ok (.lshl, 1) := by decide +kernel
theorem dL_law_383 : decode cL_law 383 = .ok (.aload_n 0, 1) := by decide +kernel
theorem dL_law_384 : decode cL_law 384 = .ok (.iload_n 3, 1) := by decide +kernel
theorem dL_law_385 : decode cL_law 385 = .ok (.iconst 2, 1) := by decide +kernel
theorem dL_law_386 : decode cL_law 386 = .ok (.iadd, 1) := by decide +kernel
theorem dL_law_387 : decode cL_law 387 = .ok (.iaload, 1) := by decide +kernel
theorem dL_law_388 : decode cL_law 388 = .ok (.i2l, 1) := by decide +kernel
theorem dL_law_389 : decode cL_law 389 = .ok (.ldc2_w 32, 3) := by decide +kernel
theorem dL_law_392 : decode cL_law 392 = .ok (.land, 1) := by decide +kernel
theorem dL_law_393 : decode cL_law 393 = .ok (.lor, 1) := by decide +kernel
theorem dL_law_394 : decode cL_law 394 = .ok (.aload_n 0, 1) := by decide +kernel
theorem dL_law_395 : decode cL_law 395 = .ok (.iload_n 3, 1) := by decide +kernel
theorem dL_law_396 : decode cL_law 396 = .ok (.iconst 3, 1) := by decide +kernel
theorem dL_law_397 : decode cL_law 397 = .ok (.iadd, 1) := by decide +kernel
theorem dL_law_398 : decode cL_law 398 = .ok (.iaload, 1) := by decide +kernel
theorem dL_law_399 : decode cL_law 399 = .ok (.invokevirtual 38, 3) := by decide +kernel
theorem dL_law_402 : decode cL_law 402 = .ok (.if_icmp .eq 893, 3) := by decide +kernel
theorem dL_law_405 : decode cL_law 405 = .ok (.iconst 0, 1) := by decide +kernel
theorem dL_law_406 : decode cL_law 406 = .ok (.ireturn, 1) := by decide +kernel
theorem dL_law_407 : decode cL_law 407 = .ok (.aload_n 1, 1) := by decide +kernel
theorem dL_law_408 : decode cL_law 408 = .ok (.invokevirtual 39, 3) := by decide +kernel
theorem dL_law_411 : decode cL_law 411 = .ok (.aload_n 2, 1) := by decide +kernel
theorem dL_law_412 : decode cL_law 412 = .ok (.invokevirtual 43, 3) := by decide +kernel
theorem dL_law_415 : decode cL_law 415 = .ok (.if_icmp .eq 880, 3) := by decide +kernel
theorem dL_law_418 : decode cL_law 418 = .ok (.iconst 0, 1) := by decide +kernel
theorem dL_law_419 : decode cL_law 419 = .ok (.ireturn, 1) := by decide +kernel
theorem dL_law_420 : decode cL_law 420 = .ok (.aload_n 1, 1) := by decide +kernel
theorem dL_law_421 : decode cL_law 421 = .ok (.invokevirtual 44, 3) := by decide +kernel
theorem dL_law_424 : decode cL_law 424 = .ok (.aload_n 2, 1) := by decide +kernel
theorem dL_law_425 : decode cL_law 425 = .ok (.invokevirtual 47, 3) := by decide +kernel
theorem dL_law_428 : decode cL_law 428 = .ok (.if_icmp .eq 867, 3) := by decide +kernel
theorem dL_law_431 : decode cL_law 431 = .ok (.iconst 0, 1) := by decide +kernel
theorem dL_law_432 : decode cL_law 432 = .ok (.ireturn, 1) := by decide +kernel
theorem dL_law_433 : decode cL_law 433 = .ok (.aload_n 1, 1) := by decide +kernel
theorem dL_law_434 : decode cL_law 434 = .ok (.aload_n 0, 1) := by decide +kernel
theorem dL_law_435 : decode cL_law 435 = .ok (.iload_n 3, 1) := by decide +kernel
theorem dL_law_436 : decode cL_law 436 = .ok (.iconst 1, 1) := by decide +kernel
theorem dL_law_437 : decode cL_law 437 = .ok (.iadd, 1) := by decide +kernel
theorem dL_law_438 : decode cL_law 438 = .ok (.iaload, 1) := by decide +kernel
theorem dL_law_439 : decode cL_law 439 = .ok (.aload_n 0, 1) := by decide +kernel
theorem dL_law_440 : decode cL_law 440 = .ok (.iload_n 3, 1) := by decide +kernel
theorem dL_law_441 : decode cL_law 441 = .ok (.iconst 2, 1) := by decide +kernel
theorem dL_law_442 : decode cL_law 442 = .ok (.iadd, 1) := by decide +kernel
theorem dL_law_443 : decode cL_law 443 = .ok (.iaload, 1) := by decide +kernel
theorem dL_law_444 : decode cL_law 444 = .ok (.aload_n 0, 1) := by decide +kernel
theorem dL_law_445 : decode cL_law 445 = .ok (.iload_n 3, 1) := by decide +kernel
theorem dL_law_446 : decode cL_law 446 = .ok (.iconst 3, 1) := by decide +kernel
theorem dL_law_447 : decode cL_law 447 = .ok (.iadd, 1) := by decide +kernel
theorem dL_law_448 : decode cL_law 448 = .ok (.iaload, 1) := by decide +kernel
theorem dL_law_449 : decode cL_law 449 = .ok (.aload_n 0, 1) := by decide +kernel
theorem dL_law_450 : decode cL_law 450 = .ok (.iload_n 3, 1) := by decide +kernel
theorem dL_law_451 : decode cL_law 451 = .ok (.iconst 4, 1) := by decide +kernel
theorem dL_law_452 : decode cL_law 452 = .ok (.iadd, 1) := by decide +kernel
theorem dL_law_453 : decode cL_law 453 = .ok (.iaload, 1) := by decide +kernel
theorem dL_law_454 : decode cL_law 454 = .ok (.invokevirtual 48, 3) := by decide +kernel
theorem dL_law_457 : decode cL_law 457 = .ok (.aload_n 2, 1) := by decide +kernel
theorem dL_law_458 : decode cL_law 458 = .ok (.aload_n 0, 1) := by decide +kernel
theorem dL_law_459 : decode cL_law 459 = .ok (.iload_n 3, 1) := by decide +kernel
theorem dL_law_460 : decode cL_law 460 = .ok (.iconst 1, 1) := by decide +kernel
theorem dL_law_461 : decode cL_law 461 = .ok (.iadd, 1) := by decide +kernel
theorem dL_law_462 : decode cL_law 462 = .ok (.iaload, 1) := by decide +kernel
theorem dL_law_463 : decode cL_law 463 = .ok (.aload_n 0, 1) := by decide +kernel
theorem dL_law_464 : decode cL_law 464 = .ok (.iload_n 3, 1) := by decide +kernel
theorem dL_law_465 : decode cL_law 465 = .ok (.iconst 2, 1) := by decide +kernel
theorem dL_law_466 : decode cL_law 466 = .ok (.iadd, 1) := by decide +kernel
theorem dL_law_467 : decode cL_law 467 = .ok (.iaload, 1) := by decide +kernel
theorem dL_law_468 : decode cL_law 468 = .ok (.aload_n 0, 1) := by decide +kernel
theorem dL_law_469 : decode cL_law 469 = .ok (.iload_n 3, 1) := by decide +kernel
theorem dL_law_470 : decode cL_law 470 = .ok (.iconst 3, 1) := by decide +kernel
theorem dL_law_471 : decode cL_law 471 = .ok (.iadd, 1) := by decide +kernel
theorem dL_law_472 : decode cL_law 472 = .ok (.iaload, 1) := by decide +kernel
theorem dL_law_473 : decode cL_law 473 = .ok (.aload_n 0, 1) := by decide +kernel
theorem dL_law_474 : decode cL_law 474 = .ok (.iload_n 3, 1) := by decide +kernel
theorem dL_law_475 : decode cL_law 475 = .ok (.iconst 4, 1) := by decide +kernel
theorem dL_law_476 : decode cL_law 476 = .ok (.iadd, 1) := by decide +kernel
theorem dL_law_477 : decode cL_law 477 = .ok (.iaload, 1) := by decide +kernel
theorem dL_law_478 : decode cL_law 478 = .ok (.invokevirtual 52, 3) := by decide +kernel
theorem dL_law_481 : decode cL_law 481 = .ok (.if_icmp .eq 814, 3) := by decide +kernel
theorem dL_law_484 : decode cL_law 484 = .ok (.iconst 0, 1) := by decide +kernel
theorem dL_law_485 : decode cL_law 485 = .ok (.ireturn, 1) := by decide +kernel
theorem dL_law_486 : decode cL_law 486 = .ok (.aload_n 1, 1) := by decide +kernel
theorem dL_law_487 : decode cL_law 487 = .ok (.aload_n 0, 1) := by decide +kernel
theorem dL_law_488 : decode cL_law 488 = .ok (.iload_n 3, 1) := by decide +kernel
theorem dL_law_489 : decode cL_law 489 = .ok (.iconst 1, 1) := by decide +kernel
theorem dL_law_490 : decode cL_law 490 = .ok (.iadd, 1) := by decide +kernel
theorem dL_law_491 : decode cL_law 491 = .ok (.iaload, 1) := by decide +kernel
theorem dL_law_492 : decode cL_law 492 = .ok (.aload_n 0, 1) := by decide +kernel
theorem dL_law_493 : decode cL_law 493 = .ok (.iload_n 3, 1) := by decide +kernel
theorem dL_law_494 : decode cL_law 494 = .ok (.iconst 2, 1) := by decide +kernel
theorem dL_law_495 : decode cL_law 495 = .ok (.iadd, 1) := by decide +kernel
theorem dL_law_496 : decode cL_law 496 = .ok (.iaload, 1) := by decide +kernel
theorem dL_law_497 : decode cL_law 497 = .ok (.invokevirtual 53, 3) := by decide +kernel
theorem dL_law_500 : decode cL_law 500 = .ok (.aload_n 2, 1) := by decide +kernel
theorem dL_law_501 : decode cL_law 501 = .ok (.aload_n 0, 1) := by decide +kernel
theorem dL_law_502 : decode cL_law 502 = .ok (.iload_n 3, 1) := by decide +kernel
theorem dL_law_503 : decode cL_law 503 = .ok (.iconst 1, 1) := by decide +kernel
theorem dL_law_504 : decode cL_law 504 = .ok (.iadd, 1) := by decide +kernel
theorem dL_law_505 : decode cL_law 505 = .ok (.iaload, 1) := by decide +kernel
theorem dL_law_506 : decode cL_law 506 = .ok (.aload_n 0, 1) := by decide +kernel
theorem dL_law_507 : decode cL_law 507 = .ok (.iload_n 3, 1) := by decide +kernel
theorem dL_law_508 : decode cL_law 508 = .ok (.iconst 2, 1) := by decide +kernel
theorem dL_law_509 : decode cL_law 509 = .ok (.iadd, 1) := by decide +kernel
theorem dL_law_510 : decode cL_law 510 = .ok (.iaload, 1) := by decide +kernel
theorem dL_law_511 : decode cL_law 511 = .ok (.invokevirtual 57, 3) := by decide +kernel
theorem dL_law_514 : decode cL_law 514 = .ok (.if_icmp .eq 781, 3) := by decide +kernel
theorem dL_law_517 : decode cL_law 517 = .ok (.iconst 0, 1) := by decide +kernel
theorem dL_law_518 : decode cL_law 518 = .ok (.ireturn, 1) := by decide +kernel
theorem dL_law_519 : decode cL_law 519 = .ok (.aload_n 1, 1) := by decide +kernel
theorem dL_law_520 : decode cL_law 520 = .ok (.aload_n 0, 1) := by decide +kernel
theorem dL_law_521 : decode cL_law 521 = .ok (.iload_n 3, 1) := by decide +kernel
theorem dL_law_522 : decode cL_law 522 = .ok (.iconst 1, 1) := by decide +kernel
theorem dL_law_523 : decode cL_law 523 = .ok (.iadd, 1) := by decide +kernel
theorem dL_law_524 : decode cL_law 524 = .ok (.iaload, 1) := by decide +kernel
theorem dL_law_525 : decode cL_law 525 = .ok (.aload_n 0, 1) := by decide +kernel
theorem dL_law_526 : decode cL_law 526 = .ok (.iload_n 3, 1) := by decide +kernel
theorem dL_law_527 : decode cL_law 527 = .ok (.iconst 2, 1) := by decide +kernel
theorem dL_law_528 : decode cL_law 528 = .ok (.iadd, 1) := by decide +kernel
theorem dL_law_529 : decode cL_law 529 = .ok (.iaload, 1) := by decide +kernel
theorem dL_law_530 : decode cL_law 530 = .ok (.invokevirtual 58, 3) := by decide +kernel
theorem dL_law_533 : decode cL_law 533 = .ok (.aload_n 2, 1) := by decide +kernel
theorem dL_law_534 : decode cL_law 534 = .ok (.aload_n 0, 1) := by decide +kernel
theorem dL_law_535 : decode cL_law 535 = .ok (.iload_n 3, 1) := by decide +kernel
theorem dL_law_536 : decode cL_law 536 = .ok (.iconst 1, 1) := by decide +kernel
theorem dL_law_537 : decode cL_law 537 = .ok (.iadd, 1) := by decide +kernel
theorem dL_law_538 : decode cL_law 538 = .ok (.iaload, 1) := by decide +kernel
theorem dL_law_539 : decode cL_law 539 = .ok (.aload_n 0, 1) := by decide +kernel
theorem dL_law_540 : decode cL_law 540 = .ok (.iload_n 3, 1) := by decide +kernel
theorem dL_law_541 : decode cL_law 541 = .ok (.iconst 2, 1) := by decide +kernel
theorem dL_law_542 : decode cL_law 542 = .ok (.iadd, 1) := by decide +kernel
theorem dL_law_543 : decode cL_law 543 = .ok (.iaload, 1) := by decide +kernel
theorem dL_law_544 : decode cL_law 544 = .ok (.invokevirtual 61, 3) := by decide +kernel
theorem dL_law_547 : decode cL_law 547 = .ok (.if_icmp .eq 748, 3) := by decide +kernel
theorem dL_law_550 : decode cL_law 550 = .ok (.iconst 0, 1) := by decide +kernel
theorem dL_law_551 : decode cL_law 551 = .ok (.ireturn, 1) := by decide +kernel
theorem dL_law_552 : decode cL_law 552 = .ok (.aload_n 1, 1) := by decide +kernel
theorem dL_law_553 : decode cL_law 553 = .ok (.invokevirtual 62, 3) := by decide +kernel
theorem dL_law_556 : decode cL_law 556 = .ok (.aload_n 2, 1) := by decide +kernel
theorem dL_law_557 : decode cL_law 557 = .ok (.invokevirtual 65, 3) := by decide +kernel
theorem dL_law_560 : decode cL_law 560 = .ok (.if_icmp .eq 735, 3) := by decide +kernel
theorem dL_law_563 : decode cL_law 563 = .ok (.iconst 0, 1) := by decide +kernel
theorem dL_law_564 : decode cL_law 564 = .ok (.ireturn, 1) := by decide +kernel
theorem dL_law_565 : decode cL_law 565 = .ok (.aload_n 1, 1) := by decide +kernel
theorem dL_law_566 : decode cL_law 566 = .ok (.aload_n 0, 1) := by decide +kernel
theorem dL_law_567 : decode cL_law 567 = .ok (.iload_n 3, 1) := by decide +kernel
theorem dL_law_568 : decode cL_law 568 = .ok (.iconst 1, 1) := by decide +kernel
theorem dL_law_569 : decode cL_law 569 = .ok (.iadd, 1) := by decide +kernel
theorem dL_law_570 : decode cL_law 570 = .ok (.iaload, 1) := by decide +kernel
theorem dL_law_571 : decode cL_law 571 = .ok (.aload_n 0, 1) := by decide +kernel
theorem dL_law_572 : decode cL_law 572 = .ok (.iload_n 3, 1) := by decide +kernel
theorem dL_law_573 : decode cL_law 573 = .ok (.iconst 2, 1) := by decide +kernel
theorem dL_law_574 : decode cL_law 574 = .ok (.iadd, 1) := by decide +kernel
theorem dL_law_575 : decode cL_law 575 = .ok (.iaload, 1) := by decide +kernel
theorem dL_law_576 : decode cL_law 576 = .ok (.invokevirtual 66, 3) := by decide +kernel
theorem dL_law_579 : decode cL_law 579 = .ok (.aload_n 2, 1) := by decide +kernel
theorem dL_law_580 : decode cL_law 580 = .ok (.aload_n 0, 1) := by decide +kernel
theorem dL_law_581 : decode cL_law 581 = .ok (.iload_n 3, 1) := by decide +kernel
theorem dL_law_582 : decode cL_law 582 = .ok (.iconst 1, 1) := by decide +kernel
theorem dL_law_583 : decode cL_law 583 = .ok (.iadd, 1) := by decide +kernel
theorem dL_law_584 : decode cL_law 584 = .ok (.iaload, 1) := by decide +kernel
theorem dL_law_585 : decode cL_law 585 = .ok (.aload_n 0, 1) := by decide +kernel
theorem dL_law_586 : decode cL_law 586 = .ok (.iload_n 3, 1) := by decide +kernel
theorem dL_law_587 : decode cL_law 587 = .ok (.iconst 2, 1) := by decide +kernel
theorem dL_law_588 : decode cL_law 588 = .ok (.iadd, 1) := by decide +kernel
theorem dL_law_589 : decode cL_law 589 = .ok (.iaload, 1) := by decide +kernel
theorem dL_law_590 : decode cL_law 590 = .ok (.invokevirtual 69, 3) := by decide +kernel
theorem dL_law_593 : decode cL_law 593 = .ok (.if_icmp .eq 702, 3) := by decide +kernel
theorem dL_law_596 : decode cL_law 596 = .ok (.iconst 0, 1) := by decide +kernel
theorem dL_law_597 : decode cL_law 597 = .ok (.ireturn, 1) := by decide +kernel
theorem dL_law_598 : decode cL_law 598 = .ok (.aload_n 1, 1) := by decide +kernel
theorem dL_law_599 : decode cL_law 599 = .ok (.aload_n 0, 1) := by decide +kernel
theorem dL_law_600 : decode cL_law 600 = .ok (.iload_n 3, 1) := by decide +kernel
theorem dL_law_601 : decode cL_law 601 = .ok (.iconst 1, 1) := by decide +kernel
theorem dL_law_602 : decode cL_law 602 = .ok (.iadd, 1) := by decide +kernel
theorem dL_law_603 : decode cL_law 603 = .ok (.iaload, 1) := by decide +kernel
theorem dL_law_604 : decode cL_law 604 = .ok (.aload_n 0, 1) := by decide +kernel
theorem dL_law_605 : decode cL_law 605 = .ok (.iload_n 3, 1) := by decide +kernel
theorem dL_law_606 : decode cL_law 606 = .ok (.iconst 2, 1) := by decide +kernel
theorem dL_law_607 : decode cL_law 607 = .ok (.iadd, 1) := by decide +kernel
theorem dL_law_608 : decode cL_law 608 = .ok (.iaload, 1) := by decide +kernel
theorem dL_law_609 : decode cL_law 609 = .ok (.invokevirtual 70, 3) := by decide +kernel
theorem dL_law_612 : decode cL_law 612 = .ok (.aload_n 2, 1) := by decide +kernel
theorem dL_law_613 : decode cL_law 613 = .ok (.aload_n 0, 1) := by decide +kernel
theorem dL_law_614 : decode cL_law 614 = .ok (.iload_n 3, 1) := by decide +kernel
theorem dL_law_615 : decode cL_law 615 = .ok (.iconst 1, 1) := by decide +kernel
theorem dL_law_616 : decode cL_law 616 = .ok (.iadd, 1) := by decide +kernel
theorem dL_law_617 : decode cL_law 617 = .ok (.iaload, 1) := by decide +kernel
theorem dL_law_618 : decode cL_law 618 = .ok (.aload_n 0, 1) := by decide +kernel
theorem dL_law_619 : decode cL_law 619 = .ok (.iload_n 3, 1) := by decide +kernel
theorem dL_law_620 : decode cL_law 620 = .ok (.iconst 2, 1) := by decide +kernel
theorem dL_law_621 : decode cL_law 621 = .ok (.iadd, 1) := by decide +kernel
theorem dL_law_622 : decode cL_law 622 = .ok (.iaload, 1) := by decide +kernel
theorem dL_law_623 : decode cL_law 623 = .ok (.invokevirtual 73, 3) := by decide +kernel
theorem dL_law_626 : decode cL_law 626 = .ok (.if_icmp .eq 669, 3) := by decide +kernel
theorem dL_law_629 : decode cL_law 629 = .ok (.iconst 0, 1) := by decide +kernel
theorem dL_law_630 : decode cL_law 630 = .ok (.ireturn, 1) := by decide +kernel
theorem dL_law_631 : decode cL_law 631 = .ok (.aload_n 1, 1) := by decide +kernel
theorem dL_law_632 : decode cL_law 632 = .ok (.aload_n 0, 1) := by decide +kernel
theorem dL_law_633 : decode cL_law 633 = .ok (.iload_n 3, 1) := by decide +kernel
theorem dL_law_634 : decode cL_law 634 = .ok (.iconst 1, 1) := by decide +kernel
theorem dL_law_635 : decode cL_law 635 = .ok (.iadd, 1) := by decide +kernel
theorem dL_law_636 : decode cL_law 636 = .ok (.iaload, 1) := by decide +kernel
theorem dL_law_637 : decode cL_law 637 = .ok (.aload_n 0, 1) := by decide +kernel
theorem dL_law_638 : decode cL_law 638 = .ok (.iload_n 3, 1) := by decide +kernel
theorem dL_law_639 : decode cL_law 639 = .ok (.iconst 2, 1) := by decide +kernel
theorem dL_law_640 : decode cL_law 640 = .ok (.iadd, 1) := by decide +kernel
theorem dL_law_641 : decode cL_law 641 = .ok (.iaload, 1) := by decide +kernel
theorem dL_law_642 : decode cL_law 642 = .ok (.invokevirtual 74, 3) := by decide +kernel
theorem dL_law_645 : decode cL_law 645 = .ok (.aload_n 2, 1) := by decide +kernel
theorem dL_law_646 : decode cL_law 646 = .ok (.aload_n 0, 1) := by decide +kernel
theorem dL_law_647 : decode cL_law 647 = .ok (.iload_n 3, 1) := by decide +kernel
theorem dL_law_648 : decode cL_law 648 = .ok (.iconst 1, 1) := by decide +kernel
theorem dL_law_649 : decode cL_law 649 = .ok (.iadd, 1) := by decide +kernel
theorem dL_law_650 : decode cL_law 650 = .ok (.iaload, 1) := by decide +kernel
theorem dL_law_651 : decode cL_law 651 = .ok (.aload_n 0, 1) := by decide +kernel
theorem dL_law_652 : decode cL_law 652 = .ok (.iload_n 3, 1) := by decide +kernel
theorem dL_law_653 : decode cL_law 653 = .ok (.iconst 2, 1) := by decide +kernel
theorem dL_law_654 : decode cL_law 654 = .ok (.iadd, 1) := by decide +kernel
theorem dL_law_655 : decode cL_law 655 = .ok (.iaload, 1) := by decide +kernel
theorem dL_law_656 : decode cL_law 656 = .ok (.invokevirtual 77, 3) := by decide +kernel
theorem dL_law_659 : decode cL_law 659 = .ok (.if_icmp .eq 636, 3) := by decide +kernel
theorem dL_law_662 : decode cL_law 662 = .ok (.iconst 0, 1) := by decide +kernel
theorem dL_law_663 : decode cL_law 663 = .ok (.ireturn, 1) := by decide +kernel
theorem dL_law_664 : decode cL_law 664 = .ok (.aload_n 1, 1) := by decide +kernel
theorem dL_law_665 : decode cL_law 665 = .ok (.aload_n 0, 1) := by decide +kernel
theorem dL_law_666 : decode cL_law 666 = .ok (.iload_n 3, 1) := by decide +kernel
theorem dL_law_667 : decode cL_law 667 = .ok (.iconst 1, 1) := by decide +kernel
theorem dL_law_668 : decode cL_law 668 = .ok (.iadd, 1) := by decide +kernel
theorem dL_law_669 : decode cL_law 669 = .ok (.iaload, 1) := by decide +kernel
theorem dL_law_670 : decode cL_law 670 = .ok (.aload_n 0, 1) := by decide +kernel
theorem dL_law_671 : decode cL_law 671 = .ok (.iload_n 3, 1) := by decide +kernel
theorem dL_law_672 : decode cL_law 672 = .ok (.iconst 2, 1) := by decide +kernel
theorem dL_law_673 : decode cL_law 673 = .ok (.iadd, 1) := by decide +kernel
theorem dL_law_674 : decode cL_law 674 = .ok (.iaload, 1) := by decide +kernel
theorem dL_law_675 : decode cL_law 675 = .ok (.aload_n 0, 1) := by decide +kernel
theorem dL_law_676 : decode cL_law 676 = .ok (.iload_n 3, 1) := by decide +kernel
theorem dL_law_677 : decode cL_law 677 = .ok (.iconst 3, 1) := by decide +kernel
theorem dL_law_678 : decode cL_law 678 = .ok (.iadd, 1) := by decide +kernel
theorem dL_law_679 : decode cL_law 679 = .ok (.iaload, 1) := by decide +kernel
theorem dL_law_680 : decode cL_law 680 = .ok (.aload_n 0, 1) := by decide +kernel
theorem dL_law_681 : decode cL_law 681 = .ok (.iload_n 3, 1) := by decide +kernel
theorem dL_law_682 : decode cL_law 682 = .ok (.iconst 4, 1) := by decide +kernel
theorem dL_law_683 : decode cL_law 683 = .ok (.iadd, 1) := by decide +kernel
theorem dL_law_684 : decode cL_law 684 = .ok (.iaload, 1) := by decide +kernel
theorem dL_law_685 : decode cL_law 685 = .ok (.invokevirtual 78, 3) := by decide +kernel
theorem dL_law_688 : decode cL_law 688 = .ok (.aload_n 2, 1) := by decide +kernel
theorem dL_law_689 : decode cL_law 689 = .ok (.aload_n 0, 1) := by decide +kernel
theorem dL_law_690 : decode cL_law 690 = .ok (.iload_n 3, 1) := by decide +kernel
theorem dL_law_691 : decode cL_law 691 = .ok (.iconst 1, 1) := by decide +kernel
theorem dL_law_692 : decode cL_law 692 = .ok (.iadd, 1) := by decide +kernel
theorem dL_law_693 : decode cL_law 693 = .ok (.iaload, 1) := by decide +kernel
theorem dL_law_694 : decode cL_law 694 = .ok (.aload_n 0, 1) := by decide +kernel
theorem dL_law_695 : decode cL_law 695 = .ok (.iload_n 3, 1) := by decide +kernel
theorem dL_law_696 : decode cL_law 696 = .ok (.iconst 2, 1) := by decide +kernel
theorem dL_law_697 : decode cL_law 697 = .ok (.iadd, 1) := by decide +kernel
theorem dL_law_698 : decode cL_law 698 = .ok (.iaload, 1) := by decide +kernel
theorem dL_law_699 : decode cL_law 699 = .ok (.aload_n 0, 1) := by decide +kernel
theorem dL_law_700 : decode cL_law 700 = .ok (.iload_n 3, 1) := by decide +kernel
theorem dL_law_701 : decode cL_law 701 = .ok (.iconst 3, 1) := by decide +kernel
theorem dL_law_702 : decode cL_law 702 = .ok (.iadd, 1) := by decide +kernel
theorem dL_law_703 : decode cL_law 703 = .ok (.iaload, 1) := by decide +kernel
theorem dL_law_704 : decode cL_law 704 = .ok (.aload_n 0, 1) := by decide +kernel
theorem dL_law_705 : decode cL_law 705 = .ok (.iload_n 3, 1) := by decide +kernel
theorem dL_law_706 : decode cL_law 706 = .ok (.iconst 4, 1) := by decide +kernel
theorem dL_law_707 : decode cL_law 707 = .ok (.iadd, 1) := by decide +kernel
theorem dL_law_708 : decode cL_law 708 = .ok (.iaload, 1) := by decide +kernel
theorem dL_law_709 : decode cL_law 709 = .ok (.invokevirtual 81, 3) := by decide +kernel
theorem dL_law_712 : decode cL_law 712 = .ok (.if_icmp .eq 583, 3) := by decide +kernel
theorem dL_law_715 : decode cL_law 715 = .ok (.iconst 0, 1) := by decide +kernel
theorem dL_law_716 : decode cL_law 716 = .ok (.ireturn, 1) := by decide +kernel
theorem dL_law_717 : decode cL_law 717 = .ok (.aload_n 1, 1) := by decide +kernel
theorem dL_law_718 : decode cL_law 718 = .ok (.aload_n 0, 1) := by decide +kernel
theorem dL_law_719 : decode cL_law 719 = .ok (.iload_n 3, 1) := by decide +kernel
theorem dL_law_720 : decode cL_law 720 = .ok (.iconst 1, 1) := by decide +kernel
theorem dL_law_721 : decode cL_law 721 = .ok (.iadd, 1) := by decide +kernel
theorem dL_law_722 : decode cL_law 722 = .ok (.iaload, 1) := by decide +kernel
theorem dL_law_723 : decode cL_law 723 = .ok (.aload_n 0, 1) := by decide +kernel
theorem dL_law_724 : decode cL_law 724 = .ok (.iload_n 3, 1) := by decide +kernel
theorem dL_law_725 : decode cL_law 725 = .ok (.iconst 2, 1) := by decide +kernel
theorem dL_law_726 : decode cL_law 726 = .ok (.iadd, 1) := by decide +kernel
theorem dL_law_727 : decode cL_law 727 = .ok (.iaload, 1) := by decide +kernel
theorem dL_law_728 : decode cL_law 728 = .ok (.aload_n 0, 1) := by decide +kernel
theorem dL_law_729 : decode cL_law 729 = .ok (.iload_n 3, 1) := by decide +kernel
theorem dL_law_730 : decode cL_law 730 = .ok (.iconst 3, 1) := by decide +kernel
theorem dL_law_731 : decode cL_law 731 = .ok (.iadd, 1) := by decide +kernel
theorem dL_law_732 : decode cL_law 732 = .ok (.iaload, 1) := by decide +kernel
theorem dL_law_733 : decode cL_law 733 = .ok (.aload_n 0, 1) := by decide +kernel
theorem dL_law_734 : decode cL_law 734 = .ok (.iload_n 3, 1) := by decide +kernel
theorem dL_law_735 : decode cL_law 735 = .ok (.iconst 4, 1) := by decide +kernel
theorem dL_law_736 : decode cL_law 736 = .ok (.iadd, 1) := by decide +kernel
theorem dL_law_737 : decode cL_law 737 = .ok (.iaload, 1) := by decide +kernel
theorem dL_law_738 : decode cL_law 738 = .ok (.aload_n 0, 1) := by decide +kernel
theorem dL_law_739 : decode cL_law 739 = .ok (.iload_n 3, 1) := by decide +kernel
theorem dL_law_740 : decode cL_law 740 = .ok (.iconst 5, 1) := by decide +kernel
theorem dL_law_741 : decode cL_law 741 = .ok (.iadd, 1) := by decide +kernel
theorem dL_law_742 : decode cL_law 742 = .ok (.iaload, 1) := by decide +kernel
theorem dL_law_743 : decode cL_law 743 = .ok (.invokevirtual 82, 3) := by decide +kernel
theorem dL_law_746 : decode cL_law 746 = .ok (.aload_n 2, 1) := by decide +kernel
theorem dL_law_747 : decode cL_law 747 = .ok (.aload_n 0, 1) := by decide +kernel
theorem dL_law_748 : decode cL_law 748 = .ok (.iload_n 3, 1) := by decide +kernel
theorem dL_law_749 : decode cL_law 749 = .ok (.iconst 1, 1) := by decide +kernel
theorem dL_law_750 : decode cL_law 750 = .ok (.iadd, 1) := by decide +kernel
theorem dL_law_751 : decode cL_law 751 = .ok (.iaload, 1) := by decide +kernel
theorem dL_law_752 : decode cL_law 752 = .ok (.aload_n 0, 1) := by decide +kernel
theorem dL_law_753 : decode cL_law 753 = .ok (.iload_n 3, 1) := by decide +kernel
theorem dL_law_754 : decode cL_law 754 = .ok (.iconst 2, 1) := by decide +kernel
theorem dL_law_755 : decode cL_law 755 = .ok (.iadd, 1) := by decide +kernel
theorem dL_law_756 : decode cL_law 756 = .ok (.iaload, 1) := by decide +kernel
theorem dL_law_757 : decode cL_law 757 = .ok (.aload_n 0, 1) := by decide +kernel
theorem dL_law_758 : decode cL_law 758 = .ok (.iload_n 3, 1) := by decide +kernel
theorem dL_law_759 : decode cL_law 759 = .ok (.iconst 3, 1) := by decide +kernel
theorem dL_law_760 : decode cL_law 760 = .ok (.iadd, 1) := by decide +kernel
theorem dL_law_761 : decode cL_law 761 = .ok (.iaload, 1) := by decide +kernel
theorem dL_law_762 : decode cL_law 762 = .ok (.aload_n 0, 1) := by decide +kernel
theorem dL_law_763 : decode cL_law 763 = .ok (.iload_n 3, 1) := by decide +kernel
theorem dL_law_764 : decode cL_law 764 = .ok (.iconst 4, 1) := by decide +kernel
theorem dL_law_765 : decode cL_law 765 = .ok (.iadd, 1) := by decide +kernel
theorem dL_law_766 : decode cL_law 766 = .ok (.iaload, 1) := by decide +kernel
theorem dL_law_767 : decode cL_law 767 = .ok (.aload_n 0, 1) := by decide +kernel
theorem dL_law_768 : decode cL_law 768 = .ok (.iload_n 3, 1) := by decide +kernel
theorem dL_law_769 : decode cL_law 769 = .ok (.iconst 5, 1) := by decide +kernel
theorem dL_law_770 : decode cL_law 770 = .ok (.iadd, 1) := by decide +kernel
theorem dL_law_771 : decode cL_law 771 = .ok (.iaload, 1) := by decide +kernel
theorem dL_law_772 : decode cL_law 772 = .ok (.invokevirtual 85, 3) := by decide +kernel
theorem dL_law_775 : decode cL_law 775 = .ok (.if_icmp .eq 520, 3) := by decide +kernel
theorem dL_law_778 : decode cL_law 778 = .ok (.iconst 0, 1) := by decide +kernel
theorem dL_law_779 : decode cL_law 779 = .ok (.ireturn, 1) := by decide +kernel
theorem dL_law_780 : decode cL_law 780 = .ok (.aload_n 1, 1) := by decide +kernel
theorem dL_law_781 : decode cL_law 781 = .ok (.aload_n 0, 1) := by decide +kernel
theorem dL_law_782 : decode cL_law 782 = .ok (.iload_n 3, 1) := by decide +kernel
theorem dL_law_783 : decode cL_law 783 = .ok (.iconst 1, 1) := by decide +kernel
theorem dL_law_784 : decode cL_law 784 = .ok (.iadd, 1) := by decide +kernel
theorem dL_law_785 : decode cL_law 785 = .ok (.iaload, 1) := by decide +kernel
theorem dL_law_786 : decode cL_law 786 = .ok (.aload_n 0, 1) := by decide +kernel
theorem dL_law_787 : decode cL_law 787 = .ok (.iload_n 3, 1) := by decide +kernel
theorem dL_law_788 : decode cL_law 788 = .ok (.iconst 2, 1) := by decide +kernel
theorem dL_law_789 : decode cL_law 789 = .ok (.iadd, 1) := by decide +kernel
theorem dL_law_790 : decode cL_law 790 = .ok (.iaload, 1) := by decide +kernel
theorem dL_law_791 : decode cL_law 791 = .ok (.aload_n 0, 1) := by decide +kernel
theorem dL_law_792 : decode cL_law 792 = .ok (.iload_n 3, 1) := by decide +kernel
theorem dL_law_793 : decode cL_law 793 = .ok (.iconst 3, 1) := by decide +kernel
theorem dL_law_794 : decode cL_law 794 = .ok (.iadd, 1) := by decide +kernel
theorem dL_law_795 : decode cL_law 795 = .ok (.iaload, 1) := by decide +kernel
theorem dL_law_796 : decode cL_law 796 = .ok (.invokevirtual 86, 3) := by decide +kernel
theorem dL_law_799 : decode cL_law 799 = .ok (.aload_n 2, 1) := by decide +kernel
theorem dL_law_800 : decode cL_law 800 = .ok (.aload_n 0, 1) := by decide +kernel
theorem dL_law_801 : decode cL_law 801 = .ok (.iload_n 3, 1) := by decide +kernel
theorem dL_law_802 : decode cL_law 802 = .ok (.iconst 1, 1) := by decide +kernel
theorem dL_law_803 : decode cL_law 803 = .ok (.iadd, 1) := by decide +kernel
theorem dL_law_804 : decode cL_law 804 = .ok (.iaload, 1) := by decide +kernel
theorem dL_law_805 : decode cL_law 805 = .ok (.aload_n 0, 1) := by decide +kernel
theorem dL_law_806 : decode cL_law 806 = .ok (.iload_n 3, 1) := by decide +kernel
theorem dL_law_807 : decode cL_law 807 = .ok (.iconst 2, 1) := by decide +kernel
theorem dL_law_808 : decode cL_law 808 = .ok (.iadd, 1) := by decide +kernel
theorem dL_law_809 : decode cL_law 809 = .ok (.iaload, 1) := by decide +kernel
theorem dL_law_810 : decode cL_law 810 = .ok (.aload_n 0, 1) := by decide +kernel
theorem dL_law_811 : decode cL_law 811 = .ok (.iload_n 3, 1) := by decide +kernel
theorem dL_law_812 : decode cL_law 812 = .ok (.iconst 3, 1) := by decide +kernel
theorem dL_law_813 : decode cL_law 813 = .ok (.iadd, 1) := by decide +kernel
theorem dL_law_814 : decode cL_law 814 = .ok (.iaload, 1) := by decide +kernel
theorem dL_law_815 : decode cL_law 815 = .ok (.invokevirtual 89, 3) := by decide +kernel
theorem dL_law_818 : decode cL_law 818 = .ok (.if_icmp .eq 477, 3) := by decide +kernel
theorem dL_law_821 : decode cL_law 821 = .ok (.iconst 0, 1) := by decide +kernel
theorem dL_law_822 : decode cL_law 822 = .ok (.ireturn, 1) := by decide +kernel
theorem dL_law_823 : decode cL_law 823 = .ok (.aload_n 1, 1) := by decide +kernel
theorem dL_law_824 : decode cL_law 824 = .ok (.aload_n 0, 1) := by decide +kernel
theorem dL_law_825 : decode cL_law 825 = .ok (.iload_n 3, 1) := by decide +kernel
theorem dL_law_826 : decode cL_law 826 = .ok (.iconst 1, 1) := by decide +kernel
theorem dL_law_827 : decode cL_law 827 = .ok (.iadd, 1) := by decide +kernel
theorem dL_law_828 : decode cL_law 828 = .ok (.iaload, 1) := by decide +kernel
theorem dL_law_829 : decode cL_law 829 = .ok (.aload_n 0, 1) := by decide +kernel
theorem dL_law_830 : decode cL_law 830 = .ok (.iload_n 3, 1) := by decide +kernel
theorem dL_law_831 : decode cL_law 831 = .ok (.iconst 2, 1) := by decide +kernel
theorem dL_law_832 : decode cL_law 832 = .ok (.iadd, 1) := by decide +kernel
theorem dL_law_833 : decode cL_law 833 = .ok (.iaload, 1) := by decide +kernel
theorem dL_law_834 : decode cL_law 834 = .ok (.aload_n 0, 1) := by decide +kernel
theorem dL_law_835 : decode cL_law 835 = .ok (.iload_n 3, 1) := by decide +kernel
theorem dL_law_836 : decode cL_law 836 = .ok (.iconst 3, 1) := by decide +kernel
theorem dL_law_837 : decode cL_law 837 = .ok (.iadd, 1) := by decide +kernel
theorem dL_law_838 : decode cL_law 838 = .ok (.iaload, 1) := by decide +kernel
theorem dL_law_839 : decode cL_law 839 = .ok (.aload_n 0, 1) := by decide +kernel
theorem dL_law_840 : decode cL_law 840 = .ok (.iload_n 3, 1) := by decide +kernel
theorem dL_law_841 : decode cL_law 841 = .ok (.iconst 4, 1) := by decide +kernel
theorem dL_law_842 : decode cL_law 842 = .ok (.iadd, 1) := by decide +kernel
theorem dL_law_843 : decode cL_law 843 = .ok (.iaload, 1) := by decide +kernel
theorem dL_law_844 : decode cL_law 844 = .ok (.aload_n 0, 1) := by decide +kernel
theorem dL_law_845 : decode cL_law 845 = .ok (.iload_n 3, 1) := by decide +kernel
theorem dL_law_846 : decode cL_law 846 = .ok (.iconst 5, 1) := by decide +kernel
theorem dL_law_847 : decode cL_law 847 = .ok (.iadd, 1) := by decide +kernel
theorem dL_law_848 : decode cL_law 848 = .ok (.iaload, 1) := by decide +kernel
theorem dL_law_849 : decode cL_law 849 = .ok (.invokevirtual 90, 3) := by decide +kernel
theorem dL_law_852 : decode cL_law 852 = .ok (.aload_n 2, 1) := by decide +kernel
theorem dL_law_853 : decode cL_law 853 = .ok (.aload_n 0, 1) := by decide +kernel
theorem dL_law_854 : decode cL_law 854 = .ok (.iload_n 3, 1) := by decide +kernel
theorem dL_law_855 : decode cL_law 855 = .ok (.iconst 1, 1) := by decide +kernel
theorem dL_law_856 : decode cL_law 856 = .ok (.iadd, 1) := by decide +kernel
theorem dL_law_857 : decode cL_law 857 = .ok (.iaload, 1) := by decide +kernel
theorem dL_law_858 : decode cL_law 858 = .ok (.aload_n 0, 1) := by decide +kernel
theorem dL_law_859 : decode cL_law 859 = .ok (.iload_n 3, 1) := by decide +kernel
theorem dL_law_860 : decode cL_law 860 = .ok (.iconst 2, 1) := by decide +kernel
theorem dL_law_861 : decode cL_law 861 = .ok (.iadd, 1) := by decide +kernel
theorem dL_law_862 : decode cL_law 862 = .ok (.iaload, 1) := by decide +kernel
theorem dL_law_863 : decode cL_law 863 = .ok (.aload_n 0, 1) := by decide +kernel
theorem dL_law_864 : decode cL_law 864 = .ok (.iload_n 3, 1) := by decide +kernel
theorem dL_law_865 : decode cL_law 865 = .ok (.iconst 3, 1) := by decide +kernel
theorem dL_law_866 : decode cL_law 866 = .ok (.iadd, 1) := by decide +kernel
theorem dL_law_867 : decode cL_law 867 = .ok (.iaload, 1) := by decide +kernel
theorem dL_law_868 : decode cL_law 868 = .ok (.aload_n 0, 1) := by decide +kernel
theorem dL_law_869 : decode cL_law 869 = .ok (.iload_n 3, 1) := by decide +kernel
theorem dL_law_870 : decode cL_law 870 = .ok (.iconst 4, 1) := by decide +kernel
theorem dL_law_871 : decode cL_law 871 = .ok (.iadd, 1) := by decide +kernel
theorem dL_law_872 : decode cL_law 872 = .ok (.iaload, 1) := by decide +kernel
theorem dL_law_873 : decode cL_law 873 = .ok (.aload_n 0, 1) := by decide +kernel
theorem dL_law_874 : decode cL_law 874 = .ok (.iload_n 3, 1) := by decide +kernel
theorem dL_law_875 : decode cL_law 875 = .ok (.iconst 5, 1) := by decide +kernel
theorem dL_law_876 : decode cL_law 876 = .ok (.iadd, 1) := by decide +kernel
theorem dL_law_877 : decode cL_law 877 = .ok (.iaload, 1) := by decide +kernel
theorem dL_law_878 : decode cL_law 878 = .ok (.invokevirtual 93, 3) := by decide +kernel
theorem dL_law_881 : decode cL_law 881 = .ok (.if_icmp .eq 414, 3) := by decide +kernel
theorem dL_law_884 : decode cL_law 884 = .ok (.iconst 0, 1) := by decide +kernel
theorem dL_law_885 : decode cL_law 885 = .ok (.ireturn, 1) := by decide +kernel
theorem dL_law_886 : decode cL_law 886 = .ok (.aload_n 1, 1) := by decide +kernel
theorem dL_law_887 : decode cL_law 887 = .ok (.aload_n 0, 1) := by decide +kernel
theorem dL_law_888 : decode cL_law 888 = .ok (.iload_n 3, 1) := by decide +kernel
theorem dL_law_889 : decode cL_law 889 = .ok (.iconst 1, 1) := by decide +kernel
theorem dL_law_890 : decode cL_law 890 = .ok (.iadd, 1) := by decide +kernel
theorem dL_law_891 : decode cL_law 891 = .ok (.iaload, 1) := by decide +kernel
theorem dL_law_892 : decode cL_law 892 = .ok (.aload_n 0, 1) := by decide +kernel
theorem dL_law_893 : decode cL_law 893 = .ok (.iload_n 3, 1) := by decide +kernel
theorem dL_law_894 : decode cL_law 894 = .ok (.iconst 2, 1) := by decide +kernel
theorem dL_law_895 : decode cL_law 895 = .ok (.iadd, 1) := by decide +kernel
theorem dL_law_896 : decode cL_law 896 = .ok (.iaload, 1) := by decide +kernel
theorem dL_law_897 : decode cL_law 897 = .ok (.aload_n 0, 1) := by decide +kernel
theorem dL_law_898 : decode cL_law 898 = .ok (.iload_n 3, 1) := by decide +kernel
theorem dL_law_899 : decode cL_law 899 = .ok (.iconst 3, 1) := by decide +kernel
theorem dL_law_900 : decode cL_law 900 = .ok (.iadd, 1) := by decide +kernel
theorem dL_law_901 : decode cL_law 901 = .ok (.iaload, 1) := by decide +kernel
theorem dL_law_902 : decode cL_law 902 = .ok (.invokevirtual 94, 3) := by decide +kernel
theorem dL_law_905 : decode cL_law 905 = .ok (.aload_n 2, 1) := by decide +kernel
theorem dL_law_906 : decode cL_law 906 = .ok (.aload_n 0, 1) := by decide +kernel
theorem dL_law_907 : decode cL_law 907 = .ok (.iload_n 3, 1) := by decide +kernel
theorem dL_law_908 : decode cL_law 908 = .ok (.iconst 1, 1) := by decide +kernel
theorem dL_law_909 : decode cL_law 909 = .ok (.iadd, 1) := by decide +kernel
theorem dL_law_910 : decode cL_law 910 = .ok (.iaload, 1) := by decide +kernel
theorem dL_law_911 : decode cL_law 911 = .ok (.aload_n 0, 1) := by decide +kernel
theorem dL_law_912 : decode cL_law 912 = .ok (.iload_n 3, 1) := by decide +kernel
theorem dL_law_913 : decode cL_law 913 = .ok (.iconst 2, 1) := by decide +kernel
theorem dL_law_914 : decode cL_law 914 = .ok (.iadd, 1) := by decide +kernel
theorem dL_law_915 : decode cL_law 915 = .ok (.iaload, 1) := by decide +kernel
theorem dL_law_916 : decode cL_law 916 = .ok (.aload_n 0, 1) := by decide +kernel
theorem dL_law_917 : decode cL_law 917 = .ok (.iload_n 3, 1) := by decide +kernel
theorem dL_law_918 : decode cL_law 918 = .ok (.iconst 3, 1) := by decide +kernel
theorem dL_law_919 : decode cL_law 919 = .ok (.iadd, 1) := by decide +kernel
theorem dL_law_920 : decode cL_law 920 = .ok (.iaload, 1) := by decide +kernel
theorem dL_law_921 : decode cL_law 921 = .ok (.invokevirtual 97, 3) := by decide +kernel
theorem dL_law_924 : decode cL_law 924 = .ok (.if_icmp .eq 371, 3) := by decide +kernel
theorem dL_law_927 : decode cL_law 927 = .ok (.iconst 0, 1) := by decide +kernel
theorem dL_law_928 : decode cL_law 928 = .ok (.ireturn, 1) := by decide +kernel
theorem dL_law_929 : decode cL_law 929 = .ok (.aload_n 1, 1) := by decide +kernel
theorem dL_law_930 : decode cL_law 930 = .ok (.aload_n 0, 1) := by decide +kernel
theorem dL_law_931 : decode cL_law 931 = .ok (.iload_n 3, 1) := by decide +kernel
theorem dL_law_932 : decode cL_law 932 = .ok (.iconst 1, 1) := by decide +kernel
theorem dL_law_933 : decode cL_law 933 = .ok (.iadd, 1) := by decide +kernel
theorem dL_law_934 : decode cL_law 934 = .ok (.iaload, 1) := by decide +kernel
theorem dL_law_935 : decode cL_law 935 = .ok (.aload_n 0, 1) := by decide +kernel
theorem dL_law_936 : decode cL_law 936 = .ok (.iload_n 3, 1) := by decide +kernel
theorem dL_law_937 : decode cL_law 937 = .ok (.iconst 2, 1) := by decide +kernel
theorem dL_law_938 : decode cL_law 938 = .ok (.iadd, 1) := by decide +kernel
theorem dL_law_939 : decode cL_law 939 = .ok (.iaload, 1) := by decide +kernel
theorem dL_law_940 : decode cL_law 940 = .ok (.invokevirtual 98, 3) := by decide +kernel
theorem dL_law_943 : decode cL_law 943 = .ok (.aload_n 2, 1) := by decide +kernel
theorem dL_law_944 : decode cL_law 944 = .ok (.aload_n 0, 1) := by decide +kernel
theorem dL_law_945 : decode cL_law 945 = .ok (.iload_n 3, 1) := by decide +kernel
theorem dL_law_946 : decode cL_law 946 = .ok (.iconst 1, 1) := by decide +kernel
theorem dL_law_947 : decode cL_law 947 = .ok (.iadd, 1) := by decide +kernel
theorem dL_law_948 : decode cL_law 948 = .ok (.iaload, 1) := by decide +kernel
theorem dL_law_949 : decode cL_law 949 = .ok (.aload_n 0, 1) := by decide +kernel
theorem dL_law_950 : decode cL_law 950 = .ok (.iload_n 3, 1) := by decide +kernel
theorem dL_law_951 : decode cL_law 951 = .ok (.iconst 2, 1) := by decide +kernel
theorem dL_law_952 : decode cL_law 952 = .ok (.iadd, 1) := by decide +kernel
theorem dL_law_953 : decode cL_law 953 = .ok (.iaload, 1) := by decide +kernel
theorem dL_law_954 : decode cL_law 954 = .ok (.invokevirtual 101, 3) := by decide +kernel
theorem dL_law_957 : decode cL_law 957 = .ok (.if_icmp .eq 338, 3) := by decide +kernel
theorem dL_law_960 : decode cL_law 960 = .ok (.iconst 0, 1) := by decide +kernel
theorem dL_law_961 : decode cL_law 961 = .ok (.ireturn, 1) := by decide +kernel
theorem dL_law_962 : decode cL_law 962 = .ok (.aload_n 1, 1) := by decide +kernel
theorem dL_law_963 : decode cL_law 963 = .ok (.aload_n 0, 1) := by decide +kernel
theorem dL_law_964 : decode cL_law 964 = .ok (.iload_n 3, 1) := by decide +kernel
theorem dL_law_965 : decode cL_law 965 = .ok (.iconst 1, 1) := by decide +kernel
theorem dL_law_966 : decode cL_law 966 = .ok (.iadd, 1) := by decide +kernel
theorem dL_law_967 : decode cL_law 967 = .ok (.iaload, 1) := by decide +kernel
theorem dL_law_968 : decode cL_law 968 = .ok (.aload_n 0, 1) := by decide +kernel
theorem dL_law_969 : decode cL_law 969 = .ok (.iload_n 3, 1) := by decide +kernel
theorem dL_law_970 : decode cL_law 970 = .ok (.iconst 2, 1) := by decide +kernel
theorem dL_law_971 : decode cL_law 971 = .ok (.iadd, 1) := by decide +kernel
theorem dL_law_972 : decode cL_law 972 = .ok (.iaload, 1) := by decide +kernel
theorem dL_law_973 : decode cL_law 973 = .ok (.invokevirtual 102, 3) := by decide +kernel
theorem dL_law_976 : decode cL_law 976 = .ok (.aload_n 2, 1) := by decide +kernel
theorem dL_law_977 : decode cL_law 977 = .ok (.aload_n 0, 1) := by decide +kernel
theorem dL_law_978 : decode cL_law 978 = .ok (.iload_n 3, 1) := by decide +kernel
theorem dL_law_979 : decode cL_law 979 = .ok (.iconst 1, 1) := by decide +kernel
theorem dL_law_980 : decode cL_law 980 = .ok (.iadd, 1) := by decide +kernel
theorem dL_law_981 : decode cL_law 981 = .ok (.iaload, 1) := by decide +kernel
theorem dL_law_982 : decode cL_law 982 = .ok (.aload_n 0, 1) := by decide +kernel
theorem dL_law_983 : decode cL_law 983 = .ok (.iload_n 3, 1) := by decide +kernel
theorem dL_law_984 : decode cL_law 984 = .ok (.iconst 2, 1) := by decide +kernel
theorem dL_law_985 : decode cL_law 985 = .ok (.iadd, 1) := by decide +kernel
theorem dL_law_986 : decode cL_law 986 = .ok (.iaload, 1) := by decide +kernel
theorem dL_law_987 : decode cL_law 987 = .ok (.invokevirtual 105, 3) := by decide +kernel
theorem dL_law_990 : decode cL_law 990 = .ok (.if_icmp .eq 305, 3) := by decide +kernel
theorem dL_law_993 : decode cL_law 993 = .ok (.iconst 0, 1) := by decide +kernel
theorem dL_law_994 : decode cL_law 994 = .ok (.ireturn, 1) := by decide +kernel
theorem dL_law_995 : decode cL_law 995 = .ok (.aload_n 1, 1) := by decide +kernel
theorem dL_law_996 : decode cL_law 996 = .ok (.aload_n 0, 1) := by decide +kernel
theorem dL_law_997 : decode cL_law 997 = .ok (.iload_n 3, 1) := by decide +kernel
theorem dL_law_998 : decode cL_law 998 = .ok (.iconst 1, 1) := by decide +kernel
theorem dL_law_999 : decode cL_law 999 = .ok (.iadd, 1) := by decide +kernel
theorem dL_law_1000 : decode cL_law 1000 = .ok (.iaload, 1) := by decide +kernel
theorem dL_law_1001 : decode cL_law 1001 = .ok (.aload_n 0, 1) := by decide +kernel
theorem dL_law_1002 : decode cL_law 1002 = .ok (.iload_n 3, 1) := by decide +kernel
theorem dL_law_1003 : decode cL_law 1003 = .ok (.iconst 2, 1) := by decide +kernel
theorem dL_law_1004 : decode cL_law 1004 = .ok (.iadd, 1) := by decide +kernel
theorem dL_law_1005 : decode cL_law 1005 = .ok (.iaload, 1) := by decide +kernel
theorem dL_law_1006 : decode cL_law 1006 = .ok (.aload_n 0, 1) := by decide +kernel
theorem dL_law_1007 : decode cL_law 1007 = .ok (.iload_n 3, 1) := by decide +kernel
theorem dL_law_1008 : decode cL_law 1008 = .ok (.iconst 3, 1) := by decide +kernel
theorem dL_law_1009 : decode cL_law 1009 = .ok (.iadd, 1) := by decide +kernel
theorem dL_law_1010 : decode cL_law 1010 = .ok (.iaload, 1) := by decide +kernel
theorem dL_law_1011 : decode cL_law 1011 = .ok (.invokevirtual 106, 3) := by decide +kernel
theorem dL_law_1014 : decode cL_law 1014 = .ok (.aload_n 2, 1) := by decide +kernel
theorem dL_law_1015 : decode cL_law 1015 = .ok (.aload_n 0, 1) := by decide +kernel
theorem dL_law_1016 : decode cL_law 1016 = .ok (.iload_n 3, 1) := by decide +kernel
theorem dL_law_1017 : decode cL_law 1017 = .ok (.iconst 1, 1) := by decide +kernel
theorem dL_law_1018 : decode cL_law 1018 = .ok (.iadd, 1) := by decide +kernel
theorem dL_law_1019 : decode cL_law 1019 = .ok (.iaload, 1) := by decide +kernel
theorem dL_law_1020 : decode cL_law 1020 = .ok (.aload_n 0, 1) := by decide +kernel
theorem dL_law_1021 : decode cL_law 1021 = .ok (.iload_n 3, 1) := by decide +kernel
theorem dL_law_1022 : decode cL_law 1022 = .ok (.iconst 2, 1) := by decide +kernel
theorem dL_law_1023 : decode cL_law 1023 = .ok (.iadd, 1) := by decide +kernel
theorem dL_law_1024 : decode cL_law 1024 = .ok (.iaload, 1) := by decide +kernel
theorem dL_law_1025 : decode cL_law 1025 = .ok (.aload_n 0, 1) := by decide +kernel
theorem dL_law_1026 : decode cL_law 1026 = .ok (.iload_n 3, 1) := by decide +kernel
theorem dL_law_1027 : decode cL_law 1027 = .ok (.iconst 3, 1) := by decide +kernel
theorem dL_law_1028 : decode cL_law 1028 = .ok (.iadd, 1) := by decide +kernel
theorem dL_law_1029 : decode cL_law 1029 = .ok (.iaload, 1) := by decide +kernel
theorem dL_law_1030 : decode cL_law 1030 = .ok (.invokevirtual 109, 3) := by decide +kernel
theorem dL_law_1033 : decode cL_law 1033 = .ok (.if_icmp .eq 262, 3) := by decide +kernel
theorem dL_law_1036 : decode cL_law 1036 = .ok (.iconst 0, 1) := by decide +kernel
theorem dL_law_1037 : decode cL_law 1037 = .ok (.ireturn, 1) := by decide +kernel
theorem dL_law_1038 : decode cL_law 1038 = .ok (.aload_n 1, 1) := by decide +kernel
theorem dL_law_1039 : decode cL_law 1039 = .ok (.aload_n 0, 1) := by decide +kernel
theorem dL_law_1040 : decode cL_law 1040 = .ok (.iload_n 3, 1) := by decide +kernel
theorem dL_law_1041 : decode cL_law 1041 = .ok (.iconst 1, 1) := by decide +kernel
theorem dL_law_1042 : decode cL_law 1042 = .ok (.iadd, 1) := by decide +kernel
theorem dL_law_1043 : decode cL_law 1043 = .ok (.iaload, 1) := by decide +kernel
theorem dL_law_1044 : decode cL_law 1044 = .ok (.aload_n 0, 1) := by decide +kernel
theorem dL_law_1045 : decode cL_law 1045 = .ok (.iload_n 3, 1) := by decide +kernel
theorem dL_law_1046 : decode cL_law 1046 = .ok (.iconst 2, 1) := by decide +kernel
theorem dL_law_1047 : decode cL_law 1047 = .ok (.iadd, 1) := by decide +kernel
theorem dL_law_1048 : decode cL_law 1048 = .ok (.iaload, 1) := by decide +kernel
theorem dL_law_1049 : decode cL_law 1049 = .ok (.aload_n 0, 1) := by decide +kernel
theorem dL_law_1050 : decode cL_law 1050 = .ok (.iload_n 3, 1) := by decide +kernel
theorem dL_law_1051 : decode cL_law 1051 = .ok (.iconst 3, 1) := by decide +kernel
theorem dL_law_1052 : decode cL_law 1052 = .ok (.iadd, 1) := by decide +kernel
theorem dL_law_1053 : decode cL_law 1053 = .ok (.iaload, 1) := by decide +kernel
theorem dL_law_1054 : decode cL_law 1054 = .ok (.aload_n 0, 1) := by decide +kernel
theorem dL_law_1055 : decode cL_law 1055 = .ok (.iload_n 3, 1) := by decide +kernel
theorem dL_law_1056 : decode cL_law 1056 = .ok (.iconst 4, 1) := by decide +kernel
theorem dL_law_1057 : decode cL_law 1057 = .ok (.iadd, 1) := by decide +kernel
theorem dL_law_1058 : decode cL_law 1058 = .ok (.iaload, 1) := by decide +kernel
theorem dL_law_1059 : decode cL_law 1059 = .ok (.aload_n 0, 1) := by decide +kernel
theorem dL_law_1060 : decode cL_law 1060 = .ok (.iload_n 3, 1) := by decide +kernel
theorem dL_law_1061 : decode cL_law 1061 = .ok (.iconst 5, 1) := by decide +kernel
theorem dL_law_1062 : decode cL_law 1062 = .ok (.iadd, 1) := by decide +kernel
theorem dL_law_1063 : decode cL_law 1063 = .ok (.iaload, 1) := by decide +kernel
theorem dL_law_1064 : decode cL_law 1064 = .ok (.invokevirtual 110, 3) := by decide +kernel
theorem dL_law_1067 : decode cL_law 1067 = .ok (.aload_n 2, 1) := by decide +kernel
theorem dL_law_1068 : decode cL_law 1068 = .ok (.aload_n 0, 1) := by decide +kernel
theorem dL_law_1069 : decode cL_law 1069 = .ok (.iload_n 3, 1) := by decide +kernel
theorem dL_law_1070 : decode cL_law 1070 = .ok (.iconst 1, 1) := by decide +kernel
theorem dL_law_1071 : decode cL_law 1071 = .ok (.iadd, 1) := by decide +kernel
theorem dL_law_1072 : decode cL_law 1072 = .ok (.iaload, 1) := by decide +kernel
theorem dL_law_1073 : decode cL_law 1073 = .ok (.aload_n 0, 1) := by decide +kernel
theorem dL_law_1074 : decode cL_law 1074 = .ok (.iload_n 3, 1) := by decide +kernel
theorem dL_law_1075 : decode cL_law 1075 = .ok (.iconst 2, 1) := by decide +kernel
theorem dL_law_1076 : decode cL_law 1076 = .ok (.iadd, 1) := by decide +kernel
theorem dL_law_1077 : decode cL_law 1077 = .ok (.iaload, 1) := by decide +kernel
theorem dL_law_1078 : decode cL_law 1078 = .ok (.aload_n 0, 1) := by decide +kernel
theorem dL_law_1079 : decode cL_law 1079 = .ok (.iload_n 3, 1) := by decide +kernel
theorem dL_law_1080 : decode cL_law 1080 = .ok (.iconst 3, 1) := by decide +kernel
theorem dL_law_1081 : decode cL_law 1081 = .ok (.iadd, 1) := by decide +kernel
theorem dL_law_1082 : decode cL_law 1082 = .ok (.iaload, 1) := by decide +kernel
theorem dL_law_1083 : decode cL_law 1083 = .ok (.aload_n 0, 1) := by decide +kernel
theorem dL_law_1084 : decode cL_law 1084 = .ok (.iload_n 3, 1) := by decide +kernel
theorem dL_law_1085 : decode cL_law 1085 = .ok (.iconst 4, 1) := by decide +kernel
theorem dL_law_1086 : decode cL_law 1086 = .ok (.iadd, 1) := by decide +kernel
theorem dL_law_1087 : decode cL_law 1087 = .ok (.iaload, 1) := by decide +kernel
theorem dL_law_1088 : decode cL_law 1088 = .ok (.aload_n 0, 1) := by decide +kernel
theorem dL_law_1089 : decode cL_law 1089 = .ok (.iload_n 3, 1) := by decide +kernel
theorem dL_law_1090 : decode cL_law 1090 = .ok (.iconst 5, 1) := by decide +kernel
theorem dL_law_1091 : decode cL_law 1091 = .ok (.iadd, 1) := by decide +kernel
theorem dL_law_1092 : decode cL_law 1092 = .ok (.iaload, 1) := by decide +kernel
theorem dL_law_1093 : decode cL_law 1093 = .ok (.invokevirtual 113, 3) := by decide +kernel
theorem dL_law_1096 : decode cL_law 1096 = .ok (.if_icmp .eq 199, 3) := by decide +kernel
theorem dL_law_1099 : decode cL_law 1099 = .ok (.iconst 0, 1) := by decide +kernel
theorem dL_law_1100 : decode cL_law 1100 = .ok (.ireturn, 1) := by decide +kernel
theorem dL_law_1101 : decode cL_law 1101 = .ok (.aload_n 1, 1) := by decide +kernel
theorem dL_law_1102 : decode cL_law 1102 = .ok (.aload_n 0, 1) := by decide +kernel
theorem dL_law_1103 : decode cL_law 1103 = .ok (.iload_n 3, 1) := by decide +kernel
theorem dL_law_1104 : decode cL_law 1104 = .ok (.iconst 1, 1) := by decide +kernel
theorem dL_law_1105 : decode cL_law 1105 = .ok (.iadd, 1) := by decide +kernel
theorem dL_law_1106 : decode cL_law 1106 = .ok (.iaload, 1) := by decide +kernel
theorem dL_law_1107 : decode cL_law 1107 = .ok (.invokevirtual 114, 3) := by decide +kernel
theorem dL_law_1110 : decode cL_law 1110 = .ok (.aload_n 2, 1) := by decide +kernel
theorem dL_law_1111 : decode cL_law 1111 = .ok (.aload_n 0, 1) := by decide +kernel
theorem dL_law_1112 : decode cL_law 1112 = .ok (.iload_n 3, 1) := by decide +kernel
theorem dL_law_1113 : decode cL_law 1113 = .ok (.iconst 1, 1) := by decide +kernel
theorem dL_law_1114 : decode cL_law 1114 = .ok (.iadd, 1) := by decide +kernel
theorem dL_law_1115 : decode cL_law 1115 = .ok (.iaload, 1) := by decide +kernel
theorem dL_law_1116 : decode cL_law 1116 = .ok (.invokevirtual 117, 3) := by decide +kernel
theorem dL_law_1119 : decode cL_law 1119 = .ok (.if_icmp .eq 176, 3) := by decide +kernel
theorem dL_law_1122 : decode cL_law 1122 = .ok (.iconst 0, 1) := by decide +kernel
theorem dL_law_1123 : decode cL_law 1123 = .ok (.ireturn, 1) := by decide +kernel
theorem dL_law_1124 : decode cL_law 1124 = .ok (.aload_n 1, 1) := by decide +kernel
theorem dL_law_1125 : decode cL_law 1125 = .ok (.aload_n 0, 1) := by decide +kernel
theorem dL_law_1126 : decode cL_law 1126 = .ok (.iload_n 3, 1) := by decide +kernel
theorem dL_law_1127 : decode cL_law 1127 = .ok (.iconst 1, 1) := by decide +kernel
theorem dL_law_1128 : decode cL_law 1128 = .ok (.iadd, 1) := by decide +kernel
theorem dL_law_1129 : decode cL_law 1129 = .ok (.iaload, 1) := by decide +kernel
theorem dL_law_1130 : decode cL_law 1130 = .ok (.invokevirtual 118, 3) := by decide +kernel
theorem dL_law_1133 : decode cL_law 1133 = .ok (.aload_n 2, 1) := by decide +kernel
theorem dL_law_1134 : decode cL_law 1134 = .ok (.aload_n 0, 1) := by decide +kernel
theorem dL_law_1135 : decode cL_law 1135 = .ok (.iload_n 3, 1) := by decide +kernel
theorem dL_law_1136 : decode cL_law 1136 = .ok (.iconst 1, 1) := by decide +kernel
theorem dL_law_1137 : decode cL_law 1137 = .ok (.iadd, 1) := by decide +kernel
theorem dL_law_1138 : decode cL_law 1138 = .ok (.iaload, 1) := by decide +kernel
theorem dL_law_1139 : decode cL_law 1139 = .ok (.invokevirtual 121, 3) := by decide +kernel
theorem dL_law_1142 : decode cL_law 1142 = .ok (.if_icmp .eq 153, 3) := by decide +kernel
theorem dL_law_1145 : decode cL_law 1145 = .ok (.iconst 0, 1) := by decide +kernel
theorem dL_law_1146 : decode cL_law 1146 = .ok (.ireturn, 1) := by decide +kernel
theorem dL_law_1147 : decode cL_law 1147 = .ok (.aload_n 1, 1) := by decide +kernel
theorem dL_law_1148 : decode cL_law 1148 = .ok (.aload_n 0, 1) := by decide +kernel
theorem dL_law_1149 : decode cL_law 1149 = .ok (.iload_n 3, 1) := by decide +kernel
theorem dL_law_1150 : decode cL_law 1150 = .ok (.iconst 1, 1) := by decide +kernel
theorem dL_law_1151 : decode cL_law 1151 = .ok (.iadd, 1) := by decide +kernel
theorem dL_law_1152 : decode cL_law 1152 = .ok (.iaload, 1) := by decide +kernel
theorem dL_law_1153 : decode cL_law 1153 = .ok (.invokevirtual 122, 3) := by decide +kernel
theorem dL_law_1156 : decode cL_law 1156 = .ok (.aload_n 2, 1) := by decide +kernel
theorem dL_law_1157 : decode cL_law 1157 = .ok (.aload_n 0, 1) := by decide +kernel
theorem dL_law_1158 : decode cL_law 1158 = .ok (.iload_n 3, 1) := by decide +kernel
theorem dL_law_1159 : decode cL_law 1159 = .ok (.iconst 1, 1) := by decide +kernel
theorem dL_law_1160 : decode cL_law 1160 = .ok (.iadd, 1) := by decide +kernel
theorem dL_law_1161 : decode cL_law 1161 = .ok (.iaload, 1) := by decide +kernel
theorem dL_law_1162 : decode cL_law 1162 = .ok (.invokevirtual 125, 3) := by decide +kernel
theorem dL_law_1165 : decode cL_law 1165 = .ok (.if_icmp .eq 130, 3) := by decide +kernel
theorem dL_law_1168 : decode cL_law 1168 = .ok (.iconst 0, 1) := by decide +kernel
theorem dL_law_1169 : decode cL_law 1169 = .ok (.ireturn, 1) := by decide +kernel
theorem dL_law_1170 : decode cL_law 1170 = .ok (.aload_n 1, 1) := by decide +kernel
theorem dL_law_1171 : decode cL_law 1171 = .ok (.aload_n 0, 1) := by decide +kernel
theorem dL_law_1172 : decode cL_law 1172 = .ok (.iload_n 3, 1) := by decide +kernel
theorem dL_law_1173 : decode cL_law 1173 = .ok (.iconst 1, 1) := by decide +kernel
theorem dL_law_1174 : decode cL_law 1174 = .ok (.iadd, 1) := by decide +kernel
theorem dL_law_1175 : decode cL_law 1175 = .ok (.iaload, 1) := by decide +kernel
theorem dL_law_1176 : decode cL_law 1176 = .ok (.aload_n 0, 1) := by decide +kernel
theorem dL_law_1177 : decode cL_law 1177 = .ok (.iload_n 3, 1) := by decide +kernel
theorem dL_law_1178 : decode cL_law 1178 = .ok (.iconst 2, 1) := by decide +kernel
theorem dL_law_1179 : decode cL_law 1179 = .ok (.iadd, 1) := by decide +kernel
theorem dL_law_1180 : decode cL_law 1180 = .ok (.iaload, 1) := by decide +kernel
theorem dL_law_1181 : decode cL_law 1181 = .ok (.invokevirtual 126, 3) := by decide +kernel
theorem dL_law_1184 : decode cL_law 1184 = .ok (.aload_n 2, 1) := by decide +kernel
theorem dL_law_1185 : decode cL_law 1185 = .ok (.aload_n 0, 1) := by decide +kernel
theorem dL_law_1186 : decode cL_law 1186 = .ok (.iload_n 3, 1) := by decide +kernel
theorem dL_law_1187 : decode cL_law 1187 = .ok (.iconst 1, 1) := by decide +kernel
theorem dL_law_1188 : decode cL_law 1188 = .ok (.iadd, 1) := by decide +kernel
theorem dL_law_1189 : decode cL_law 1189 = .ok (.iaload, 1) := by decide +kernel
theorem dL_law_1190 : decode cL_law 1190 = .ok (.aload_n 0, 1) := by decide +kernel
theorem dL_law_1191 : decode cL_law 1191 = .ok (.iload_n 3, 1) := by decide +kernel
theorem dL_law_1192 : decode cL_law 1192 = .ok (.iconst 2, 1) := by decide +kernel
theorem dL_law_1193 : decode cL_law 1193 = .ok (.iadd, 1) := by decide +kernel
theorem dL_law_1194 : decode cL_law 1194 = .ok (.iaload, 1) := by decide +kernel
theorem dL_law_1195 : decode cL_law 1195 = .ok (.invokevirtual 129, 3) := by decide +kernel
theorem dL_law_1198 : decode cL_law 1198 = .ok (.if_icmp .eq 97, 3) := by decide +kernel
theorem dL_law_1201 : decode cL_law 1201 = .ok (.iconst 0, 1) := by decide +kernel
theorem dL_law_1202 : decode cL_law 1202 = .ok (.ireturn, 1) := by decide +kernel
theorem dL_law_1203 : decode cL_law 1203 = .ok (.aload_n 1, 1) := by decide +kernel
theorem dL_law_1204 : decode cL_law 1204 = .ok (.aload_n 0, 1) := by decide +kernel
theorem dL_law_1205 : decode cL_law 1205 = .ok (.iload_n 3, 1) := by decide +kernel
theorem dL_law_1206 : decode cL_law 1206 = .ok (.iconst 1, 1) := by decide +kernel
theorem dL_law_1207 : decode cL_law 1207 = .ok (.iadd, 1) := by decide +kernel
theorem dL_law_1208 : decode cL_law 1208 = .ok (.iaload, 1) := by decide +kernel
theorem dL_law_1209 : decode cL_law 1209 = .ok (.aload_n 0, 1) := by decide +kernel
theorem dL_law_1210 : decode cL_law 1210 = .ok (.iload_n 3, 1) := by decide +kernel
theorem dL_law_1211 : decode cL_law 1211 = .ok (.iconst 2, 1) := by decide +kernel
theorem dL_law_1212 : decode cL_law 1212 = .ok (.iadd, 1) := by decide +kernel
theorem dL_law_1213 : decode cL_law 1213 = .ok (.iaload, 1) := by decide +kernel
theorem dL_law_1214 : decode cL_law 1214 = .ok (.invokevirtual 130, 3) := by decide +kernel
theorem dL_law_1217 : decode cL_law 1217 = .ok (.aload_n 2, 1) := by decide +kernel
theorem dL_law_1218 : decode cL_law 1218 = .ok (.aload_n 0, 1) := by decide +kernel
theorem dL_law_1219 : decode cL_law 1219 = .ok (.iload_n 3, 1) := by decide +kernel
theorem dL_law_1220 : decode cL_law 1220 = .ok (.iconst 1, 1) := by decide +kernel
theorem dL_law_1221 : decode cL_law 1221 = .ok (.iadd, 1) := by decide +kernel
theorem dL_law_1222 : decode cL_law 1222 = .ok (.iaload, 1) := by decide +kernel
theorem dL_law_1223 : decode cL_law 1223 = .ok (.aload_n 0, 1) := by decide +kernel
theorem dL_law_1224 : decode cL_law 1224 = .ok (.iload_n 3, 1) := by decide +kernel
theorem dL_law_1225 : decode cL_law 1225 = .ok (.iconst 2, 1) := by decide +kernel
theorem dL_law_1226 : decode cL_law 1226 = .ok (.iadd, 1) := by decide +kernel
theorem dL_law_1227 : decode cL_law 1227 = .ok (.iaload, 1) := by decide +kernel
theorem dL_law_1228 : decode cL_law 1228 = .ok (.invokevirtual 133, 3) := by decide +kernel
theorem dL_law_1231 : decode cL_law 1231 = .ok (.if_icmp .eq 64, 3) := by decide +kernel
theorem dL_law_1234 : decode cL_law 1234 = .ok (.iconst 0, 1) := by decide +kernel
theorem dL_law_1235 : decode cL_law 1235 = .ok (.ireturn, 1) := by decide +kernel
theorem dL_law_1236 : decode cL_law 1236 = .ok (.aload_n 1, 1) := by decide +kernel
theorem dL_law_1237 : decode cL_law 1237 = .ok (.aload_n 0, 1) := by decide +kernel
theorem dL_law_1238 : decode cL_law 1238 = .ok (.iload_n 3, 1) := by decide +kernel
theorem dL_law_1239 : decode cL_law 1239 = .ok (.iconst 1, 1) := by decide +kernel
theorem dL_law_1240 : decode cL_law 1240 = .ok (.iadd, 1) := by decide +kernel
theorem dL_law_1241 : decode cL_law 1241 = .ok (.iaload, 1) := by decide +kernel
theorem dL_law_1242 : decode cL_law 1242 = .ok (.invokevirtual 134, 3) := by decide +kernel
theorem dL_law_1245 : decode cL_law 1245 = .ok (.aload_n 2, 1) := by decide +kernel
theorem dL_law_1246 : decode cL_law 1246 = .ok (.aload_n 0, 1) := by decide +kernel
theorem dL_law_1247 : decode cL_law 1247 = .ok (.iload_n 3, 1) := by decide +kernel
theorem dL_law_1248 : decode cL_law 1248 = .ok (.iconst 1, 1) := by decide +kernel
theorem dL_law_1249 : decode cL_law 1249 = .ok (.iadd, 1) := by decide +kernel
theorem dL_law_1250 : decode cL_law 1250 = .ok (.iaload, 1) := by decide +kernel
theorem dL_law_1251 : decode cL_law 1251 = .ok (.invokevirtual 137, 3) := by decide +kernel
theorem dL_law_1254 : decode cL_law 1254 = .ok (.if_icmp .eq 41, 3) := by decide +kernel
theorem dL_law_1257 : decode cL_law 1257 = .ok (.iconst 0, 1) := by decide +kernel
theorem dL_law_1258 : decode cL_law 1258 = .ok (.ireturn, 1) := by decide +kernel
theorem dL_law_1259 : decode cL_law 1259 = .ok (.aload_n 1, 1) := by decide +kernel
theorem dL_law_1260 : decode cL_law 1260 = .ok (.aload_n 0, 1) := by decide +kernel
theorem dL_law_1261 : decode cL_law 1261 = .ok (.iload_n 3, 1) := by decide +kernel
theorem dL_law_1262 : decode cL_law 1262 = .ok (.iconst 1, 1) := by decide +kernel
theorem dL_law_1263 : decode cL_law 1263 = .ok (.iadd, 1) := by decide +kernel
theorem dL_law_1264 : decode cL_law 1264 = .ok (.iaload, 1) := by decide +kernel
theorem dL_law_1265 : decode cL_law 1265 = .ok (.invokevirtual 138, 3) := by decide +kernel
theorem dL_law_1268 : decode cL_law 1268 = .ok (.aload_n 2, 1) := by decide +kernel
theorem dL_law_1269 : decode cL_law 1269 = .ok (.aload_n 0, 1) := by decide +kernel
theorem dL_law_1270 : decode cL_law 1270 = .ok (.iload_n 3, 1) := by decide +kernel
theorem dL_law_1271 : decode cL_law 1271 = .ok (.iconst 1, 1) := by decide +kernel
theorem dL_law_1272 : decode cL_law 1272 = .ok (.iadd, 1) := by decide +kernel
theorem dL_law_1273 : decode cL_law 1273 = .ok (.iaload, 1) := by decide +kernel
theorem dL_law_1274 : decode cL_law 1274 = .ok (.invokevirtual 141, 3) := by decide +kernel
theorem dL_law_1277 : decode cL_law 1277 = .ok (.if_icmp .eq 18, 3) := by decide +kernel
theorem dL_law_1280 : decode cL_law 1280 = .ok (.iconst 0, 1) := by decide +kernel
theorem dL_law_1281 : decode cL_law 1281 = .ok (.ireturn, 1) := by decide +kernel
theorem dL_law_1282 : decode cL_law 1282 = .ok (.aload_n 1, 1) := by decide +kernel
theorem dL_law_1283 : decode cL_law 1283 = .ok (.invokevirtual 142, 3) := by decide +kernel
theorem dL_law_1286 : decode cL_law 1286 = .ok (.aload_n 2, 1) := by decide +kernel
theorem dL_law_1287 : decode cL_law 1287 = .ok (.invokevirtual 145, 3) := by decide +kernel
theorem dL_law_1290 : decode cL_law 1290 = .ok (.if_icmp .eq 5, 3) := by decide +kernel
theorem dL_law_1293 : decode cL_law 1293 = .ok (.iconst 0, 1) := by decide +kernel
theorem dL_law_1294 : decode cL_law 1294 = .ok (.ireturn, 1) := by decide +kernel
theorem dL_law_1295 : decode cL_law 1295 = .ok (.iinc 3 6, 3) := by decide +kernel
theorem dL_law_1298 : decode cL_law 1298 = .ok (.goto (-1280), 3) := by decide +kernel
theorem dL_law_1301 : decode cL_law 1301 = .ok (.iconst 1, 1) := by decide +kernel
theorem dL_law_1302 : decode cL_law 1302 = .ok (.ireturn, 1) := by decide +kernel
