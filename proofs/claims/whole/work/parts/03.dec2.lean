theorem dX12_back_2 : decode cX12_back 2 = .ok (.iconst 1, 1) := by decide +kernel
theorem dX12_back_3 : decode cX12_back 3 = .ok (.invokestatic 3, 3) := by decide +kernel
theorem dX12_back_6 : decode cX12_back 6 = .ok (.ifCond .ne 9, 3) := by decide +kernel
theorem dX12_back_9 : decode cX12_back 9 = .ok (.aload_n 0, 1) := by decide +kernel
theorem dX12_back_10 : decode cX12_back 10 = .ok (.iconst (-1), 1) := by decide +kernel
theorem dX12_back_11 : decode cX12_back 11 = .ok (.invokevirtual 106, 3) := by decide +kernel
theorem dX12_back_14 : decode cX12_back 14 = .ok (.ireturn, 1) := by decide +kernel
theorem dX12_back_15 : decode cX12_back 15 = .ok (.aload_n 0, 1) := by decide +kernel
theorem dX12_back_16 : decode cX12_back 16 = .ok (.getfield 24, 3) := by decide +kernel
theorem dX12_back_19 : decode cX12_back 19 = .ok (.iload_n 1, 1) := by decide +kernel
theorem dX12_back_20 : decode cX12_back 20 = .ok (.baload, 1) := by decide +kernel
theorem dX12_back_21 : decode cX12_back 21 = .ok (.ifCond .ne 10, 3) := by decide +kernel
theorem dX12_back_24 : decode cX12_back 24 = .ok (.aload_n 0, 1) := by decide +kernel
theorem dX12_back_25 : decode cX12_back 25 = .ok (.bipush (-2), 2) := by decide +kernel
theorem dX12_back_27 : decode cX12_back 27 = .ok (.invokevirtual 106, 3) := by decide +kernel
theorem dX12_back_30 : decode cX12_back 30 = .ok (.ireturn, 1) := by decide +kernel
theorem dX12_back_31 : decode cX12_back 31 = .ok (.iconst 0, 1) := by decide +kernel
theorem dX12_back_32 : decode cX12_back 32 = .ok (.istore_n 2, 1) := by decide +kernel
theorem dX12_back_33 : decode cX12_back 33 = .ok (.iload_n 2, 1) := by decide +kernel
theorem dX12_back_34 : decode cX12_back 34 = .ok (.sipush 730, 3) := by decide +kernel
theorem dX12_back_37 : decode cX12_back 37 = .ok (.if_icmp .ge 27, 3) := by decide +kernel
theorem dX12_back_40 : decode cX12_back 40 = .ok (.aload_n 0, 1) := by decide +kernel
theorem dX12_back_41 : decode cX12_back 41 = .ok (.getfield 17, 3) := by decide +kernel
theorem dX12_back_44 : decode cX12_back 44 = .ok (.iload_n 2, 1) := by decide +kernel
theorem dX12_back_45 : decode cX12_back 45 = .ok (.aload_n 0, 1) := by decide +kernel
theorem dX12_back_46 : decode cX12_back 46 = .ok (.getfield 21, 3) := by decide +kernel
theorem dX12_back_49 : decode cX12_back 49 = .ok (.sipush 730, 3) := by decide +kernel
theorem dX12_back_52 : decode cX12_back 52 = .ok (.iload_n 1, 1) := by decide +kernel
theorem dX12_back_53 : decode cX12_back 53 = .ok (.imul, 1) := by decide +kernel
theorem dX12_back_54 : decode cX12_back 54 = .ok (.iload_n 2, 1) := by decide +kernel
theorem dX12_back_55 : decode cX12_back 55 = .ok (.iadd, 1) := by decide +kernel
theorem dX12_back_56 : decode cX12_back 56 = .ok (.iaload, 1) := by decide +kernel
theorem dX12_back_57 : decode cX12_back 57 = .ok (.iastore, 1) := by decide +kernel
theorem dX12_back_58 : decode cX12_back 58 = .ok (.iinc 2 1, 3) := by decide +kernel
theorem dX12_back_61 : decode cX12_back 61 = .ok (.goto (-28), 3) := by decide +kernel
theorem dX12_back_64 : decode cX12_back 64 = .ok (.aload_n 0, 1) := by decide +kernel
theorem dX12_back_65 : decode cX12_back 65 = .ok (.iconst 0, 1) := by decide +kernel
theorem dX12_back_66 : decode cX12_back 66 = .ok (.invokevirtual 106, 3) := by decide +kernel
theorem dX12_back_69 : decode cX12_back 69 = .ok (.ireturn, 1) := by decide +kernel
theorem dX12_table_0 : decode cX12_table 0 = .ok (.iload_n 1, 1) := by decide +kernel
theorem dX12_table_1 : decode cX12_table 1 = .ok (.iconst 0, 1) := by decide +kernel
theorem dX12_table_2 : decode cX12_table 2 = .ok (.iconst 1, 1) := by decide +kernel
theorem dX12_table_3 : decode cX12_table 3 = .ok (.invokestatic 3, 3) := by decide +kernel
theorem dX12_table_6 : decode cX12_table 6 = .ok (.ifCond .eq 42, 3) := by decide +kernel
theorem dX12_table_9 : decode cX12_table 9 = .ok (.iload_n 2, 1) := by decide +kernel
theorem dX12_table_10 : decode cX12_table 10 = .ok (.iconst 0, 1) := by decide +kernel
theorem dX12_table_11 : decode cX12_table 11 = .ok (.iload_n 1, 1) := by decide +kernel
theorem dX12_table_12 : decode cX12_table 12 = .ok (.ifCond .ne 7, 3) := by decide +kernel
theorem dX12_table_15 : decode cX12_table 15 = .ok (.iconst 5, 1) := by decide +kernel
theorem dX12_table_16 : decode cX12_table 16 = .ok (.goto 4, 3) := by decide +kernel
theorem dX12_table_19 : decode cX12_table 19 = .ok (.iconst 3, 1) := by decide +kernel
theorem dX12_table_20 : decode cX12_table 20 = .ok (.invokestatic 3, 3) := by decide +kernel
theorem dX12_table_23 : decode cX12_table 23 = .ok (.ifCond .eq 25, 3) := by decide +kernel
theorem dX12_table_26 : decode cX12_table 26 = .ok (.iload_n 3, 1) := by decide +kernel
theorem dX12_table_27 : decode cX12_table 27 = .ok (.bipush (-100), 2) := by decide +kernel
theorem dX12_table_29 : decode cX12_table 29 = .ok (.bipush 100, 2) := by decide +kernel
theorem dX12_table_31 : decode cX12_table 31 = .ok (.invokestatic 3, 3) := by decide +kernel
theorem dX12_table_34 : decode cX12_table 34 = .ok (.ifCond .eq 14, 3) := by decide +kernel
theorem dX12_table_37 : decode cX12_table 37 = .ok (.iload 4, 2) := by decide +kernel
theorem dX12_table_39 : decode cX12_table 39 = .ok (.iload_n 3, 1) := by decide +kernel
theorem dX12_table_40 : decode cX12_table 40 = .ok (.bipush 100, 2) := by decide +kernel
theorem dX12_table_42 : decode cX12_table 42 = .ok (.invokestatic 3, 3) := by decide +kernel
theorem dX12_table_45 : decode cX12_table 45 = .ok (.ifCond .ne 9, 3) := by decide +kernel
theorem dX12_table_48 : decode cX12_table 48 = .ok (.aload_n 0, 1) := by decide +kernel
theorem dX12_table_49 : decode cX12_table 49 = .ok (.iconst (-1), 1) := by decide +kernel
theorem dX12_table_50 : decode cX12_table 50 = .ok (.invokevirtual 106, 3) := by decide +kernel
theorem dX12_table_53 : decode cX12_table 53 = .ok (.ireturn, 1) := by decide +kernel
theorem dX12_table_54 : decode cX12_table 54 = .ok (.iload_n 1, 1) := by decide +kernel
theorem dX12_table_55 : decode cX12_table 55 = .ok (.ifCond .ne 8, 3) := by decide +kernel
theorem dX12_table_58 : decode cX12_table 58 = .ok (.bipush 6, 2) := by decide +kernel
theorem dX12_table_60 : decode cX12_table 60 = .ok (.goto 4, 3) := by decide +kernel
theorem dX12_table_63 : decode cX12_table 63 = .ok (.iconst 4, 1) := by decide +kernel
theorem dX12_table_64 : decode cX12_table 64 = .ok (.istore 5, 2) := by decide +kernel
theorem dX12_table_66 : decode cX12_table 66 = .ok (.iload_n 1, 1) := by decide +kernel
theorem dX12_table_67 : decode cX12_table 67 = .ok (.ifCond .ne 7, 3) := by decide +kernel
theorem dX12_table_70 : decode cX12_table 70 = .ok (.iconst 3, 1) := by decide +kernel
theorem dX12_table_71 : decode cX12_table 71 = .ok (.goto 5, 3) := by decide +kernel
theorem dX12_table_74 : decode cX12_table 74 = .ok (.bipush 15, 2) := by decide +kernel
theorem dX12_table_76 : decode cX12_table 76 = .ok (.istore 6, 2) := by decide +kernel
theorem dX12_table_78 : decode cX12_table 78 = .ok (.aload_n 0, 1) := by decide +kernel
theorem dX12_table_79 : decode cX12_table 79 = .ok (.getfield 17, 3) := by decide +kernel
theorem dX12_table_82 : decode cX12_table 82 = .ok (.iload 6, 2) := by decide +kernel
theorem dX12_table_84 : decode cX12_table 84 = .ok (.iload_n 2, 1) := by decide +kernel
theorem dX12_table_85 : decode cX12_table 85 = .ok (.iadd, 1) := by decide +kernel
theorem dX12_table_86 : decode cX12_table 86 = .ok (.iload_n 3, 1) := by decide +kernel
theorem dX12_table_87 : decode cX12_table 87 = .ok (.iastore, 1) := by decide +kernel
theorem dX12_table_88 : decode cX12_table 88 = .ok (.aload_n 0, 1) := by decide +kernel
theorem dX12_table_89 : decode cX12_table 89 = .ok (.getfield 17, 3) := by decide +kernel
theorem dX12_table_92 : decode cX12_table 92 = .ok (.iload 6, 2) := by decide +kernel
theorem dX12_table_94 : decode cX12_table 94 = .ok (.iload 5, 2) := by decide +kernel
theorem dX12_table_96 : decode cX12_table 96 = .ok (.iadd, 1) := by decide +kernel
theorem dX12_table_97 : decode cX12_table 97 = .ok (.iload_n 2, 1) := by decide +kernel
theorem dX12_table_98 : decode cX12_table 98 = .ok (.iadd, 1) := by decide +kernel
theorem dX12_table_99 : decode cX12_table 99 = .ok (.iload 4, 2) := by decide +kernel
theorem dX12_table_101 : decode cX12_table 101 = .ok (.iastore, 1) := by decide +kernel
theorem dX12_table_102 : decode cX12_table 102 = .ok (.aload_n 0, 1) := by decide +kernel
theorem dX12_table_103 : decode cX12_table 103 = .ok (.iconst 0, 1) := by decide +kernel
theorem dX12_table_104 : decode cX12_table 104 = .ok (.invokevirtual 106, 3) := by decide +kernel
theorem dX12_table_107 : decode cX12_table 107 = .ok (.ireturn, 1) := by decide +kernel
theorem dX12_ship_0 : decode cX12_ship 0 = .ok (.iload_n 1, 1) := by decide +kernel
theorem dX12_ship_1 : decode cX12_ship 1 = .ok (.iconst 0, 1) := by decide +kernel
theorem dX12_ship_2 : decode cX12_ship 2 = .ok (.sipush 1000, 3) := by decide +kernel
theorem dX12_ship_5 : decode cX12_ship 5 = .ok (.invokestatic 3, 3) := by decide +kernel
theorem dX12_ship_8 : decode cX12_ship 8 = .ok (.ifCond .ne 9, 3) := by decide +kernel
theorem dX12_ship_11 : decode cX12_ship 11 = .ok (.aload_n 0, 1) := by decide +kernel
theorem dX12_ship_12 : decode cX12_ship 12 = .ok (.iconst (-1), 1) := by decide +kernel
theorem dX12_ship_13 : decode cX12_ship 13 = .ok (.invokevirtual 106, 3) := by decide +kernel
theorem dX12_ship_16 : decode cX12_ship 16 = .ok (.ireturn, 1) := by decide +kernel
theorem dX12_ship_17 : decode cX12_ship 17 = .ok (.aload_n 0, 1) := by decide +kernel
theorem dX12_ship_18 : decode cX12_ship 18 = .ok (.iconst 0, 1) := by decide +kernel
theorem dX12_ship_19 : decode cX12_ship 19 = .ok (.invokevirtual 102, 3) := by decide +kernel
theorem dX12_ship_22 : decode cX12_ship 22 = .ok (.iconst 3, 1) := by decide +kernel
theorem dX12_ship_23 : decode cX12_ship 23 = .ok (.if_icmp .ne 10, 3) := by decide +kernel
theorem dX12_ship_26 : decode cX12_ship 26 = .ok (.aload_n 0, 1) := by decide +kernel
theorem dX12_ship_27 : decode cX12_ship 27 = .ok (.bipush (-5), 2) := by decide +kernel
theorem dX12_ship_29 : decode cX12_ship 29 = .ok (.invokevirtual 106, 3) := by decide +kernel
theorem dX12_ship_32 : decode cX12_ship 32 = .ok (.ireturn, 1) := by decide +kernel
theorem dX12_ship_33 : decode cX12_ship 33 = .ok (.aload_n 0, 1) := by decide +kernel
theorem dX12_ship_34 : decode cX12_ship 34 = .ok (.getfield 17, 3) := by decide +kernel
theorem dX12_ship_37 : decode cX12_ship 37 = .ok (.iconst 0, 1) := by decide +kernel
theorem dX12_ship_38 : decode cX12_ship 38 = .ok (.aload_n 0, 1) := by decide +kernel
theorem dX12_ship_39 : decode cX12_ship 39 = .ok (.iconst 0, 1) := by decide +kernel
theorem dX12_ship_40 : decode cX12_ship 40 = .ok (.invokevirtual 102, 3) := by decide +kernel
theorem dX12_ship_43 : decode cX12_ship 43 = .ok (.iadd, 1) := by decide +kernel
theorem dX12_ship_44 : decode cX12_ship 44 = .ok (.iload_n 1, 1) := by decide +kernel
theorem dX12_ship_45 : decode cX12_ship 45 = .ok (.iastore, 1) := by decide +kernel
theorem dX12_ship_46 : decode cX12_ship 46 = .ok (.aload_n 0, 1) := by decide +kernel
theorem dX12_ship_47 : decode cX12_ship 47 = .ok (.getfield 17, 3) := by decide +kernel
theorem dX12_ship_50 : decode cX12_ship 50 = .ok (.sipush 721, 3) := by decide +kernel
theorem dX12_ship_53 : decode cX12_ship 53 = .ok (.dup2, 1) := by decide +kernel
theorem dX12_ship_54 : decode cX12_ship 54 = .ok (.iaload, 1) := by decide +kernel
theorem dX12_ship_55 : decode cX12_ship 55 = .ok (.iconst 1, 1) := by decide +kernel
theorem dX12_ship_56 : decode cX12_ship 56 = .ok (.iadd, 1) := by decide +kernel
theorem dX12_ship_57 : decode cX12_ship 57 = .ok (.iastore, 1) := by decide +kernel
theorem dX12_ship_58 : decode cX12_ship 58 = .ok (.aload_n 0, 1) := by decide +kernel
theorem dX12_ship_59 : decode cX12_ship 59 = .ok (.aload_n 0, 1) := by decide +kernel
theorem dX12_ship_60 : decode cX12_ship 60 = .ok (.iconst 0, 1) := by decide +kernel
theorem dX12_ship_61 : decode cX12_ship 61 = .ok (.invokevirtual 102, 3) := by decide +kernel
theorem dX12_ship_64 : decode cX12_ship 64 = .ok (.iconst 1, 1) := by decide +kernel
theorem dX12_ship_65 : decode cX12_ship 65 = .ok (.isub, 1) := by decide +kernel
theorem dX12_ship_66 : decode cX12_ship 66 = .ok (.invokevirtual 106, 3) := by decide +kernel
theorem dX12_ship_69 : decode cX12_ship 69 = .ok (.ireturn, 1) := by decide +kernel
theorem dX12_leg_0 : decode cX12_leg 0 = .ok (.iload_n 2, 1) := by decide +kernel
theorem dX12_leg_1 : decode cX12_leg 1 = .ok (.invokestatic 109, 3) := by decide +kernel
theorem dX12_leg_4 : decode cX12_leg 4 = .ok (.ifCond .eq 45, 3) := by decide +kernel
theorem dX12_leg_7 : decode cX12_leg 7 = .ok (.iload_n 3, 1) := by decide +kernel
theorem dX12_leg_8 : decode cX12_leg 8 = .ok (.iconst 0, 1) := by decide +kernel
theorem dX12_leg_9 : decode cX12_leg 9 = .ok (.iconst 5, 1) := by decide +kernel
theorem dX12_leg_10 : decode cX12_leg 10 = .ok (.invokestatic 3, 3) := by decide +kernel
theorem dX12_leg_13 : decode cX12_leg 13 = .ok (.ifCond .eq 36, 3) := by decide +kernel
theorem dX12_leg_16 : decode cX12_leg 16 = .ok (.iload 4, 2) := by decide +kernel
theorem dX12_leg_18 : decode cX12_leg 18 = .ok (.iconst 0, 1) := by decide +kernel
theorem dX12_leg_19 : decode cX12_leg 19 = .ok (.bipush 30, 2) := by decide +kernel
theorem dX12_leg_21 : decode cX12_leg 21 = .ok (.invokestatic 3, 3) := by decide +kernel
theorem dX12_leg_24 : decode cX12_leg 24 = .ok (.ifCond .eq 25, 3) := by decide +kernel
theorem dX12_leg_27 : decode cX12_leg 27 = .ok (.iload 5, 2) := by decide +kernel
theorem dX12_leg_29 : decode cX12_leg 29 = .ok (.iconst 0, 1) := by decide +kernel
theorem dX12_leg_30 : decode cX12_leg 30 = .ok (.bipush 20, 2) := by decide +kernel
theorem dX12_leg_32 : decode cX12_leg 32 = .ok (.invokestatic 3, 3) := by decide +kernel
theorem dX12_leg_35 : decode cX12_leg 35 = .ok (.ifCond .eq 14, 3) := by decide +kernel
theorem dX12_leg_38 : decode cX12_leg 38 = .ok (.iload 6, 2) := by decide +kernel
theorem dX12_leg_40 : decode cX12_leg 40 = .ok (.iconst 0, 1) := by decide +kernel
theorem dX12_leg_41 : decode cX12_leg 41 = .ok (.bipush 100, 2) := by decide +kernel
theorem dX12_leg_43 : decode cX12_leg 43 = .ok (.invokestatic 3, 3) := by decide +kernel
theorem dX12_leg_46 : decode cX12_leg 46 = .ok (.ifCond .ne 9, 3) := by decide +kernel
theorem dX12_leg_49 : decode cX12_leg 49 = .ok (.aload_n 0, 1) := by decide +kernel
theorem dX12_leg_50 : decode cX12_leg 50 = .ok (.iconst (-1), 1) := by decide +kernel
theorem dX12_leg_51 : decode cX12_leg 51 = .ok (.invokevirtual 106, 3) := by decide +kernel
theorem dX12_leg_54 : decode cX12_leg 54 = .ok (.ireturn, 1) := by decide +kernel
theorem dX12_leg_55 : decode cX12_leg 55 = .ok (.aload_n 0, 1) := by decide +kernel
theorem dX12_leg_56 : decode cX12_leg 56 = .ok (.iload_n 1, 1) := by decide +kernel
theorem dX12_leg_57 : decode cX12_leg 57 = .ok (.invokevirtual 113, 3) := by decide +kernel
theorem dX12_leg_60 : decode cX12_leg 60 = .ok (.ifCond .ne 10, 3) := by decide +kernel
theorem dX12_leg_63 : decode cX12_leg 63 = .ok (.aload_n 0, 1) := by decide +kernel
theorem dX12_leg_64 : decode cX12_leg 64 = .ok (.bipush (-2), 2) := by decide +kernel
theorem dX12_leg_66 : decode cX12_leg 66 = .ok (.invokevirtual 106, 3) := by decide +kernel
theorem dX12_leg_69 : decode cX12_leg 69 = .ok (.ireturn, 1) := by decide +kernel
theorem dX12_leg_70 : decode cX12_leg 70 = .ok (.aload_n 0, 1) := by decide +kernel
theorem dX12_leg_71 : decode cX12_leg 71 = .ok (.iconst 1, 1) := by decide +kernel
theorem dX12_leg_72 : decode cX12_leg 72 = .ok (.invokevirtual 102, 3) := by decide +kernel
theorem dX12_leg_75 : decode cX12_leg 75 = .ok (.bipush 60, 2) := by decide +kernel
theorem dX12_leg_77 : decode cX12_leg 77 = .ok (.if_icmp .ne 10, 3) := by decide +kernel
theorem dX12_leg_80 : decode cX12_leg 80 = .ok (.aload_n 0, 1) := by decide +kernel
theorem dX12_leg_81 : decode cX12_leg 81 = .ok (.bipush (-5), 2) := by decide +kernel
theorem dX12_leg_83 : decode cX12_leg 83 = .ok (.invokevirtual 106, 3) := by decide +kernel
theorem dX12_leg_86 : decode cX12_leg 86 = .ok (.ireturn, 1) := by decide +kernel
theorem dX12_leg_87 : decode cX12_leg 87 = .ok (.bipush 23, 2) := by decide +kernel
theorem dX12_leg_89 : decode cX12_leg 89 = .ok (.bipush 6, 2) := by decide +kernel
theorem dX12_leg_91 : decode cX12_leg 91 = .ok (.aload_n 0, 1) := by decide +kernel
theorem dX12_leg_92 : decode cX12_leg 92 = .ok (.iconst 1, 1) := by decide +kernel
theorem dX12_leg_93 : decode cX12_leg 93 = .ok (.invokevirtual 102, 3) := by decide +kernel
theorem dX12_leg_96 : decode cX12_leg 96 = .ok (.imul, 1) := by decide +kernel
theorem dX12_leg_97 : decode cX12_leg 97 = .ok (.iadd, 1) := by decide +kernel
theorem dX12_leg_98 : decode cX12_leg 98 = .ok (.istore 7, 2) := by decide +kernel
theorem dX12_leg_100 : decode cX12_leg 100 = .ok (.aload_n 0, 1) := by decide +kernel
theorem dX12_leg_101 : decode cX12_leg 101 = .ok (.getfield 17, 3) := by decide +kernel
theorem dX12_leg_104 : decode cX12_leg 104 = .ok (.iload 7, 2) := by decide +kernel
theorem dX12_leg_106 : decode cX12_leg 106 = .ok (.iload_n 1, 1) := by decide +kernel
theorem dX12_leg_107 : decode cX12_leg 107 = .ok (.iastore, 1) := by decide +kernel
theorem dX12_leg_108 : decode cX12_leg 108 = .ok (.aload_n 0, 1) := by decide +kernel
theorem dX12_leg_109 : decode cX12_leg 109 = .ok (.getfield 17, 3) := by decide +kernel
theorem dX12_leg_112 : decode cX12_leg 112 = .ok (.iload 7, 2) := by decide +kernel
theorem dX12_leg_114 : decode cX12_leg 114 = .ok (.iconst 1, 1) := by decide +kernel
theorem dX12_leg_115 : decode cX12_leg 115 = .ok (.iadd, 1) := by decide +kernel
theorem dX12_leg_116 : decode cX12_leg 116 = .ok (.iload_n 2, 1) := by decide +kernel
theorem dX12_leg_117 : decode cX12_leg 117 = .ok (.iastore, 1) := by decide +kernel
theorem dX12_leg_118 : decode cX12_leg 118 = .ok (.aload_n 0, 1) := by decide +kernel
theorem dX12_leg_119 : decode cX12_leg 119 = .ok (.getfield 17, 3) := by decide +kernel
theorem dX12_leg_122 : decode cX12_leg 122 = .ok (.iload 7, 2) := by decide +kernel
theorem dX12_leg_124 : decode cX12_leg 124 = .ok (.iconst 2, 1) := by decide +kernel
theorem dX12_leg_125 : decode cX12_leg 125 = .ok (.iadd, 1) := by decide +kernel
theorem dX12_leg_126 : decode cX12_leg 126 = .ok (.iload_n 3, 1) := by decide +kernel
theorem dX12_leg_127 : decode cX12_leg 127 = .ok (.iastore, 1) := by decide +kernel
theorem dX12_leg_128 : decode cX12_leg 128 = .ok (.aload_n 0, 1) := by decide +kernel
theorem dX12_leg_129 : decode cX12_leg 129 = .ok (.getfield 17, 3) := by decide +kernel
theorem dX12_leg_132 : decode cX12_leg 132 = .ok (.iload 7, 2) := by decide +kernel
theorem dX12_leg_134 : decode cX12_leg 134 = .ok (.iconst 3, 1) := by decide +kernel
theorem dX12_leg_135 : decode cX12_leg 135 = .ok (.iadd, 1) := by decide +kernel
theorem dX12_leg_136 : decode cX12_leg 136 = .ok (.iload 4, 2) := by decide +kernel
theorem dX12_leg_138 : decode cX12_leg 138 = .ok (.iastore, 1) := by decide +kernel
theorem dX12_leg_139 : decode cX12_leg 139 = .ok (.aload_n 0, 1) := by decide +kernel
theorem dX12_leg_140 : decode cX12_leg 140 = .ok (.getfield 17, 3) := by decide +kernel
theorem dX12_leg_143 : decode cX12_leg 143 = .ok (.iload 7, 2) := by decide +kernel
theorem dX12_leg_145 : decode cX12_leg 145 = .ok (.iconst 4, 1) := by decide +kernel
theorem dX12_leg_146 : decode cX12_leg 146 = .ok (.iadd, 1) := by decide +kernel
theorem dX12_leg_147 : decode cX12_leg 147 = .ok (.iload 5, 2) := by decide +kernel
theorem dX12_leg_149 : decode cX12_leg 149 = .ok (.iastore, 1) := by decide +kernel
theorem dX12_leg_150 : decode cX12_leg 150 = .ok (.aload_n 0, 1) := by decide +kernel
theorem dX12_leg_151 : decode cX12_leg 151 = .ok (.getfield 17, 3) := by decide +kernel
theorem dX12_leg_154 : decode cX12_leg 154 = .ok (.iload 7, 2) := by decide +kernel
theorem dX12_leg_156 : decode cX12_leg 156 = .ok (.iconst 5, 1) := by decide +kernel
theorem dX12_leg_157 : decode cX12_leg 157 = .ok (.iadd, 1) := by decide +kernel
theorem dX12_leg_158 : decode cX12_leg 158 = .ok (.iload 6, 2) := by decide +kernel
theorem dX12_leg_160 : decode cX12_leg 160 = .ok (.iastore, 1) := by decide +kernel
theorem dX12_leg_161 : decode cX12_leg 161 = .ok (.aload_n 0, 1) := by decide +kernel
theorem dX12_leg_162 : decode cX12_leg 162 = .ok (.getfield 17, 3) := by decide +kernel
theorem dX12_leg_165 : decode cX12_leg 165 = .ok (.sipush 722, 3) := by decide +kernel
theorem dX12_leg_168 : decode cX12_leg 168 = .ok (.dup2, 1) := by decide +kernel
theorem dX12_leg_169 : decode cX12_leg 169 = .ok (.iaload, 1) := by decide +kernel
theorem dX12_leg_170 : decode cX12_leg 170 = .ok (.iconst 1, 1) := by decide +kernel
theorem dX12_leg_171 : decode cX12_leg 171 = .ok (.iadd, 1) := by decide +kernel
theorem dX12_leg_172 : decode cX12_leg 172 = .ok (.iastore, 1) := by decide +kernel
theorem dX12_leg_173 : decode cX12_leg 173 = .ok (.aload_n 0, 1) := by decide +kernel
theorem dX12_leg_174 : decode cX12_leg 174 = .ok (.aload_n 0, 1) := by decide +kernel
theorem dX12_leg_175 : decode cX12_leg 175 = .ok (.iconst 1, 1) := by decide +kernel
theorem dX12_leg_176 : decode cX12_leg 176 = .ok (.invokevirtual 102, 3) := by decide +kernel
theorem dX12_leg_179 : decode cX12_leg 179 = .ok (.invokevirtual 106, 3) := by decide +kernel
theorem dX12_leg_182 : decode cX12_leg 182 = .ok (.ireturn, 1) := by decide +kernel
theorem dX12_cleaned_0 : decode cX12_cleaned 0 = .ok (.iload_n 2, 1) := by decide +kernel
theorem dX12_cleaned_1 : decode cX12_cleaned 1 = .ok (.invokestatic 109, 3) := by decide +kernel
theorem dX12_cleaned_4 : decode cX12_cleaned 4 = .ok (.ifCond .eq 14, 3) := by decide +kernel
theorem dX12_cleaned_7 : decode cX12_cleaned 7 = .ok (.iload_n 3, 1) := by decide +kernel
theorem dX12_cleaned_8 : decode cX12_cleaned 8 = .ok (.iconst 0, 1) := by decide +kernel
theorem dX12_cleaned_9 : decode cX12_cleaned 9 = .ok (.sipush 1000, 3) := by decide +kernel
theorem dX12_cleaned_12 : decode cX12_cleaned 12 = .ok (.invokestatic 3, 3) := by decide +kernel
theorem dX12_cleaned_15 : decode cX12_cleaned 15 = .ok (.ifCond .ne 9, 3) := by decide +kernel
theorem dX12_cleaned_18 : decode cX12_cleaned 18 = .ok (.aload_n 0, 1) := by decide +kernel
theorem dX12_cleaned_19 : decode cX12_cleaned 19 = .ok (.iconst (-1), 1) := by decide +kernel
theorem dX12_cleaned_20 : decode cX12_cleaned 20 = .ok (.invokevirtual 106, 3) := by decide +kernel
theorem dX12_cleaned_23 : decode cX12_cleaned 23 = .ok (.ireturn, 1) := by decide +kernel
theorem dX12_cleaned_24 : decode cX12_cleaned 24 = .ok (.aload_n 0, 1) := by decide +kernel
theorem dX12_cleaned_25 : decode cX12_cleaned 25 = .ok (.iload_n 1, 1) := by decide +kernel
theorem dX12_cleaned_26 : decode cX12_cleaned 26 = .ok (.invokevirtual 113, 3) := by decide +kernel
theorem dX12_cleaned_29 : decode cX12_cleaned 29 = .ok (.ifCond .ne 10, 3) := by decide +kernel
theorem dX12_cleaned_32 : decode cX12_cleaned 32 = .ok (.aload_n 0, 1) := by decide +kernel
theorem dX12_cleaned_33 : decode cX12_cleaned 33 = .ok (.bipush (-2), 2) := by decide +kernel
theorem dX12_cleaned_35 : decode cX12_cleaned 35 = .ok (.invokevirtual 106, 3) := by decide +kernel
theorem dX12_cleaned_38 : decode cX12_cleaned 38 = .ok (.ireturn, 1) := by decide +kernel
theorem dX12_cleaned_39 : decode cX12_cleaned 39 = .ok (.aload_n 0, 1) := by decide +kernel
theorem dX12_cleaned_40 : decode cX12_cleaned 40 = .ok (.iload_n 1, 1) := by decide +kernel
theorem dX12_cleaned_41 : decode cX12_cleaned 41 = .ok (.iload_n 2, 1) := by decide +kernel
theorem dX12_cleaned_42 : decode cX12_cleaned 42 = .ok (.invokevirtual 116, 3) := by decide +kernel
theorem dX12_cleaned_45 : decode cX12_cleaned 45 = .ok (.iconst (-1), 1) := by decide +kernel
theorem dX12_cleaned_46 : decode cX12_cleaned 46 = .ok (.if_icmp .eq 10, 3) := by decide +kernel
theorem dX12_cleaned_49 : decode cX12_cleaned 49 = .ok (.aload_n 0, 1) := by decide +kernel
theorem dX12_cleaned_50 : decode cX12_cleaned 50 = .ok (.bipush (-4), 2) := by decide +kernel
theorem dX12_cleaned_52 : decode cX12_cleaned 52 = .ok (.invokevirtual 106, 3) := by decide +kernel
theorem dX12_cleaned_55 : decode cX12_cleaned 55 = .ok (.ireturn, 1) := by decide +kernel
theorem dX12_cleaned_56 : decode cX12_cleaned 56 = .ok (.aload_n 0, 1) := by decide +kernel
theorem dX12_cleaned_57 : decode cX12_cleaned 57 = .ok (.iconst 2, 1) := by decide +kernel
theorem dX12_cleaned_58 : decode cX12_cleaned 58 = .ok (.invokevirtual 102, 3) := by decide +kernel
theorem dX12_cleaned_61 : decode cX12_cleaned 61 = .ok (.bipush 40, 2) := by decide +kernel
theorem dX12_cleaned_63 : decode cX12_cleaned 63 = .ok (.if_icmp .ne 10, 3) := by decide +kernel
theorem dX12_cleaned_66 : decode cX12_cleaned 66 = .ok (.aload_n 0, 1) := by decide +kernel
theorem dX12_cleaned_67 : decode cX12_cleaned 67 = .ok (.bipush (-5), 2) := by decide +kernel
theorem dX12_cleaned_69 : decode cX12_cleaned 69 = .ok (.invokevirtual 106, 3) := by decide +kernel
theorem dX12_cleaned_72 : decode cX12_cleaned 72 = .ok (.ireturn, 1) := by decide +kernel
theorem dX12_cleaned_73 : decode cX12_cleaned 73 = .ok (.sipush 383, 3) := by decide +kernel
theorem dX12_cleaned_76 : decode cX12_cleaned 76 = .ok (.iconst 3, 1) := by decide +kernel
theorem dX12_cleaned_77 : decode cX12_cleaned 77 = .ok (.aload_n 0, 1) := by decide +kernel
theorem dX12_cleaned_78 : decode cX12_cleaned 78 = .ok (.iconst 2, 1) := by decide +kernel
theorem dX12_cleaned_79 : decode cX12_cleaned 79 = .ok (.invokevirtual 102, 3) := by decide +kernel
theorem dX12_cleaned_82 : decode cX12_cleaned 82 = .ok (.imul, 1) := by decide +kernel
theorem dX12_cleaned_83 : decode cX12_cleaned 83 = .ok (.iadd, 1) := by decide +kernel
theorem dX12_cleaned_84 : decode cX12_cleaned 84 = .ok (.istore 4, 2) := by decide +kernel
theorem dX12_cleaned_86 : decode cX12_cleaned 86 = .ok (.aload_n 0, 1) := by decide +kernel
theorem dX12_cleaned_87 : decode cX12_cleaned 87 = .ok (.getfield 17, 3) := by decide +kernel
theorem dX12_cleaned_90 : decode cX12_cleaned 90 = .ok (.iload 4, 2) := by decide +kernel
theorem dX12_cleaned_92 : decode cX12_cleaned 92 = .ok (.iload_n 1, 1) := by decide +kernel
theorem dX12_cleaned_93 : decode cX12_cleaned 93 = .ok (.iastore, 1) := by decide +kernel
theorem dX12_cleaned_94 : decode cX12_cleaned 94 = .ok (.aload_n 0, 1) := by decide +kernel
theorem dX12_cleaned_95 : decode cX12_cleaned 95 = .ok (.getfield 17, 3) := by decide +kernel
theorem dX12_cleaned_98 : decode cX12_cleaned 98 = .ok (.iload 4, 2) := by decide +kernel
theorem dX12_cleaned_100 : decode cX12_cleaned 100 = .ok (.iconst 1, 1) := by decide +kernel
theorem dX12_cleaned_101 : decode cX12_cleaned 101 = .ok (.iadd, 1) := by decide +kernel
theorem dX12_cleaned_102 : decode cX12_cleaned 102 = .ok (.iload_n 2, 1) := by decide +kernel
theorem dX12_cleaned_103 : decode cX12_cleaned 103 = .ok (.iastore, 1) := by decide +kernel
theorem dX12_cleaned_104 : decode cX12_cleaned 104 = .ok (.aload_n 0, 1) := by decide +kernel
theorem dX12_cleaned_105 : decode cX12_cleaned 105 = .ok (.getfield 17, 3) := by decide +kernel
theorem dX12_cleaned_108 : decode cX12_cleaned 108 = .ok (.iload 4, 2) := by decide +kernel
theorem dX12_cleaned_110 : decode cX12_cleaned 110 = .ok (.iconst 2, 1) := by decide +kernel
theorem dX12_cleaned_111 : decode cX12_cleaned 111 = .ok (.iadd, 1) := by decide +kernel
theorem dX12_cleaned_112 : decode cX12_cleaned 112 = .ok (.iload_n 3, 1) := by decide +kernel
theorem dX12_cleaned_113 : decode cX12_cleaned 113 = .ok (.iastore, 1) := by decide +kernel
theorem dX12_cleaned_114 : decode cX12_cleaned 114 = .ok (.aload_n 0, 1) := by decide +kernel
theorem dX12_cleaned_115 : decode cX12_cleaned 115 = .ok (.getfield 17, 3) := by decide +kernel
theorem dX12_cleaned_118 : decode cX12_cleaned 118 = .ok (.sipush 723, 3) := by decide +kernel
theorem dX12_cleaned_121 : decode cX12_cleaned 121 = .ok (.dup2, 1) := by decide +kernel
theorem dX12_cleaned_122 : decode cX12_cleaned 122 = .ok (.iaload, 1) := by decide +kernel
theorem dX12_cleaned_123 : decode cX12_cleaned 123 = .ok (.iconst 1, 1) := by decide +kernel
theorem dX12_cleaned_124 : decode cX12_cleaned 124 = .ok (.iadd, 1) := by decide +kernel
theorem dX12_cleaned_125 : decode cX12_cleaned 125 = .ok (.iastore, 1) := by decide +kernel
theorem dX12_cleaned_126 : decode cX12_cleaned 126 = .ok (.aload_n 0, 1) := by decide +kernel
theorem dX12_cleaned_127 : decode cX12_cleaned 127 = .ok (.aload_n 0, 1) := by decide +kernel
theorem dX12_cleaned_128 : decode cX12_cleaned 128 = .ok (.iconst 2, 1) := by decide +kernel
theorem dX12_cleaned_129 : decode cX12_cleaned 129 = .ok (.invokevirtual 102, 3) := by decide +kernel
theorem dX12_cleaned_132 : decode cX12_cleaned 132 = .ok (.invokevirtual 106, 3) := by decide +kernel
theorem dX12_cleaned_135 : decode cX12_cleaned 135 = .ok (.ireturn, 1) := by decide +kernel
theorem dX12_terms_0 : decode cX12_terms 0 = .ok (.iload_n 1, 1) := by decide +kernel
theorem dX12_terms_1 : decode cX12_terms 1 = .ok (.iconst 0, 1) := by decide +kernel
theorem dX12_terms_2 : decode cX12_terms 2 = .ok (.sipush 1000, 3) := by decide +kernel
theorem dX12_terms_5 : decode cX12_terms 5 = .ok (.invokestatic 3, 3) := by decide +kernel
theorem dX12_terms_8 : decode cX12_terms 8 = .ok (.ifCond .eq 13, 3) := by decide +kernel
theorem dX12_terms_11 : decode cX12_terms 11 = .ok (.iload_n 2, 1) := by decide +kernel
theorem dX12_terms_12 : decode cX12_terms 12 = .ok (.iconst 0, 1) := by decide +kernel
theorem dX12_terms_13 : decode cX12_terms 13 = .ok (.ldc 120, 2) := by decide +kernel
theorem dX12_terms_15 : decode cX12_terms 15 = .ok (.invokestatic 3, 3) := by decide +kernel
theorem dX12_terms_18 : decode cX12_terms 18 = .ok (.ifCond .ne 9, 3) := by decide +kernel
theorem dX12_terms_21 : decode cX12_terms 21 = .ok (.aload_n 0, 1) := by decide +kernel
theorem dX12_terms_22 : decode cX12_terms 22 = .ok (.iconst (-1), 1) := by decide +kernel
theorem dX12_terms_23 : decode cX12_terms 23 = .ok (.invokevirtual 106, 3) := by decide +kernel
theorem dX12_terms_26 : decode cX12_terms 26 = .ok (.ireturn, 1) := by decide +kernel
theorem dX12_terms_27 : decode cX12_terms 27 = .ok (.aload_n 0, 1) := by decide +kernel
theorem dX12_terms_28 : decode cX12_terms 28 = .ok (.getfield 17, 3) := by decide +kernel
theorem dX12_terms_31 : decode cX12_terms 31 = .ok (.sipush 719, 3) := by decide +kernel
theorem dX12_terms_34 : decode cX12_terms 34 = .ok (.iload_n 1, 1) := by decide +kernel
theorem dX12_terms_35 : decode cX12_terms 35 = .ok (.iastore, 1) := by decide +kernel
theorem dX12_terms_36 : decode cX12_terms 36 = .ok (.aload_n 0, 1) := by decide +kernel
theorem dX12_terms_37 : decode cX12_terms 37 = .ok (.getfield 17, 3) := by decide +kernel
theorem dX12_terms_40 : decode cX12_terms 40 = .ok (.sipush 720, 3) := by decide +kernel
theorem dX12_terms_43 : decode cX12_terms 43 = .ok (.iload_n 2, 1) := by decide +kernel
theorem dX12_terms_44 : decode cX12_terms 44 = .ok (.iastore, 1) := by decide +kernel
theorem dX12_terms_45 : decode cX12_terms 45 = .ok (.aload_n 0, 1) := by decide +kernel
theorem dX12_terms_46 : decode cX12_terms 46 = .ok (.iconst 0, 1) := by decide +kernel
theorem dX12_terms_47 : decode cX12_terms 47 = .ok (.invokevirtual 106, 3) := by decide +kernel
theorem dX12_terms_50 : decode cX12_terms 50 = .ok (.ireturn, 1) := by decide +kernel
theorem dX12_legOn_0 : decode cX12_legOn 0 = .ok (.iconst (-1), 1) := by decide +kernel
theorem dX12_legOn_1 : decode cX12_legOn 1 = .ok (.istore_n 3, 1) := by decide +kernel
theorem dX12_legOn_2 : decode cX12_legOn 2 = .ok (.iconst 0, 1) := by decide +kernel
theorem dX12_legOn_3 : decode cX12_legOn 3 = .ok (.istore 4, 2) := by decide +kernel
theorem dX12_legOn_5 : decode cX12_legOn 5 = .ok (.iload 4, 2) := by decide +kernel
theorem dX12_legOn_7 : decode cX12_legOn 7 = .ok (.aload_n 0, 1) := by decide +kernel
theorem dX12_legOn_8 : decode cX12_legOn 8 = .ok (.iconst 1, 1) := by decide +kernel
theorem dX12_legOn_9 : decode cX12_legOn 9 = .ok (.invokevirtual 102, 3) := by decide +kernel
theorem dX12_legOn_12 : decode cX12_legOn 12 = .ok (.if_icmp .ge 55, 3) := by decide +kernel
theorem dX12_legOn_15 : decode cX12_legOn 15 = .ok (.aload_n 0, 1) := by decide +kernel
theorem dX12_legOn_16 : decode cX12_legOn 16 = .ok (.iload 4, 2) := by decide +kernel
theorem dX12_legOn_18 : decode cX12_legOn 18 = .ok (.iconst 0, 1) := by decide +kernel
theorem dX12_legOn_19 : decode cX12_legOn 19 = .ok (.invokevirtual 121, 3) := by decide +kernel
theorem dX12_legOn_22 : decode cX12_legOn 22 = .ok (.iload_n 1, 1) := by decide +kernel
theorem dX12_legOn_23 : decode cX12_legOn 23 = .ok (.if_icmp .ne 38, 3) := by decide +kernel
theorem dX12_legOn_26 : decode cX12_legOn 26 = .ok (.aload_n 0, 1) := by decide +kernel
theorem dX12_legOn_27 : decode cX12_legOn 27 = .ok (.iload 4, 2) := by decide +kernel
theorem dX12_legOn_29 : decode cX12_legOn 29 = .ok (.iconst 1, 1) := by decide +kernel
theorem dX12_legOn_30 : decode cX12_legOn 30 = .ok (.invokevirtual 121, 3) := by decide +kernel
theorem dX12_legOn_33 : decode cX12_legOn 33 = .ok (.iload_n 2, 1) := by decide +kernel
theorem dX12_legOn_34 : decode cX12_legOn 34 = .ok (.if_icmp .gt 27, 3) := by decide +kernel
theorem dX12_legOn_37 : decode cX12_legOn 37 = .ok (.iload_n 3, 1) := by decide +kernel
theorem dX12_legOn_38 : decode cX12_legOn 38 = .ok (.iconst (-1), 1) := by decide +kernel
theorem dX12_legOn_39 : decode cX12_legOn 39 = .ok (.if_icmp .eq 19, 3) := by decide +kernel
theorem dX12_legOn_42 : decode cX12_legOn 42 = .ok (.aload_n 0, 1) := by decide +kernel
theorem dX12_legOn_43 : decode cX12_legOn 43 = .ok (.iload 4, 2) := by decide +kernel
theorem dX12_legOn_45 : decode cX12_legOn 45 = .ok (.iconst 1, 1) := by decide +kernel
theorem dX12_legOn_46 : decode cX12_legOn 46 = .ok (.invokevirtual 121, 3) := by decide +kernel
theorem dX12_legOn_49 : decode cX12_legOn 49 = .ok (.aload_n 0, 1) := by decide +kernel
theorem dX12_legOn_50 : decode cX12_legOn 50 = .ok (.iload_n 3, 1) := by decide +kernel
theorem dX12_legOn_51 : decode cX12_legOn 51 = .ok (.iconst 1, 1) := by decide +kernel
theorem dX12_legOn_52 : decode cX12_legOn 52 = .ok (.invokevirtual 121, 3) := by decide +kernel
theorem dX12_legOn_55 : decode cX12_legOn 55 = .ok (.if_icmp .lt 6, 3) := by decide +kernel
theorem dX12_legOn_58 : decode cX12_legOn 58 = .ok (.iload 4, 2) := by decide +kernel
theorem dX12_legOn_60 : decode cX12_legOn 60 = .ok (.istore_n 3, 1) := by decide +kernel
theorem dX12_legOn_61 : decode cX12_legOn 61 = .ok (.iinc 4 1, 3) := by decide +kernel
theorem dX12_legOn_64 : decode cX12_legOn 64 = .ok (.goto (-59), 3) := by decide +kernel
theorem dX12_legOn_67 : decode cX12_legOn 67 = .ok (.iload_n 3, 1) := by decide +kernel
theorem dX12_legOn_68 : decode cX12_legOn 68 = .ok (.ireturn, 1) := by decide +kernel
theorem dX12_onDay_0 : decode cX12_onDay 0 = .ok (.aload_n 0, 1) := by decide +kernel
theorem dX12_onDay_1 : decode cX12_onDay 1 = .ok (.iload_n 1, 1) := by decide +kernel
theorem dX12_onDay_2 : decode cX12_onDay 2 = .ok (.iload_n 2, 1) := by decide +kernel
theorem dX12_onDay_3 : decode cX12_onDay 3 = .ok (.invokevirtual 124, 3) := by decide +kernel
theorem dX12_onDay_6 : decode cX12_onDay 6 = .ok (.istore 4, 2) := by decide +kernel
theorem dX12_onDay_8 : decode cX12_onDay 8 = .ok (.iload 4, 2) := by decide +kernel
theorem dX12_onDay_10 : decode cX12_onDay 10 = .ok (.iconst (-1), 1) := by decide +kernel
theorem dX12_onDay_11 : decode cX12_onDay 11 = .ok (.if_icmp .ne 7, 3) := by decide +kernel
theorem dX12_onDay_14 : decode cX12_onDay 14 = .ok (.iconst 0, 1) := by decide +kernel
theorem dX12_onDay_15 : decode cX12_onDay 15 = .ok (.goto 10, 3) := by decide +kernel
theorem dX12_onDay_18 : decode cX12_onDay 18 = .ok (.aload_n 0, 1) := by decide +kernel
theorem dX12_onDay_19 : decode cX12_onDay 19 = .ok (.iload 4, 2) := by decide +kernel
theorem dX12_onDay_21 : decode cX12_onDay 21 = .ok (.iload_n 3, 1) := by decide +kernel
theorem dX12_onDay_22 : decode cX12_onDay 22 = .ok (.invokevirtual 121, 3) := by decide +kernel
theorem dX12_onDay_25 : decode cX12_onDay 25 = .ok (.ireturn, 1) := by decide +kernel
theorem dX12_leftOn_0 : decode cX12_leftOn 0 = .ok (.iconst 0, 1) := by decide +kernel
theorem dX12_leftOn_1 : decode cX12_leftOn 1 = .ok (.istore_n 3, 1) := by decide +kernel
theorem dX12_leftOn_2 : decode cX12_leftOn 2 = .ok (.iload_n 3, 1) := by decide +kernel
theorem dX12_leftOn_3 : decode cX12_leftOn 3 = .ok (.aload_n 0, 1) := by decide +kernel
theorem dX12_leftOn_4 : decode cX12_leftOn 4 = .ok (.iconst 2, 1) := by decide +kernel
theorem dX12_leftOn_5 : decode cX12_leftOn 5 = .ok (.invokevirtual 102, 3) := by decide +kernel
theorem dX12_leftOn_8 : decode cX12_leftOn 8 = .ok (.if_icmp .ge 36, 3) := by decide +kernel
theorem dX12_leftOn_11 : decode cX12_leftOn 11 = .ok (.aload_n 0, 1) := by decide +kernel
theorem dX12_leftOn_12 : decode cX12_leftOn 12 = .ok (.iload_n 3, 1) := by decide +kernel
theorem dX12_leftOn_13 : decode cX12_leftOn 13 = .ok (.iconst 0, 1) := by decide +kernel
theorem dX12_leftOn_14 : decode cX12_leftOn 14 = .ok (.invokevirtual 127, 3) := by decide +kernel
theorem dX12_leftOn_17 : decode cX12_leftOn 17 = .ok (.iload_n 1, 1) := by decide +kernel
theorem dX12_leftOn_18 : decode cX12_leftOn 18 = .ok (.if_icmp .ne 20, 3) := by decide +kernel
theorem dX12_leftOn_21 : decode cX12_leftOn 21 = .ok (.aload_n 0, 1) := by decide +kernel
theorem dX12_leftOn_22 : decode cX12_leftOn 22 = .ok (.iload_n 3, 1) := by decide +kernel
theorem dX12_leftOn_23 : decode cX12_leftOn 23 = .ok (.iconst 1, 1) := by decide +kernel
theorem dX12_leftOn_24 : decode cX12_leftOn 24 = .ok (.invokevirtual 127, 3) := by decide +kernel
theorem dX12_leftOn_27 : decode cX12_leftOn 27 = .ok (.iload_n 2, 1) := by decide +kernel
theorem dX12_leftOn_28 : decode cX12_leftOn 28 = .ok (.if_icmp .ne 10, 3) := by decide +kernel
theorem dX12_leftOn_31 : decode cX12_leftOn 31 = .ok (.aload_n 0, 1) := by decide +kernel
theorem dX12_leftOn_32 : decode cX12_leftOn 32 = .ok (.iload_n 3, 1) := by decide +kernel
theorem dX12_leftOn_33 : decode cX12_leftOn 33 = .ok (.iconst 2, 1) := by decide +kernel
theorem dX12_leftOn_34 : decode cX12_leftOn 34 = .ok (.invokevirtual 127, 3) := by decide +kernel
theorem dX12_leftOn_37 : decode cX12_leftOn 37 = .ok (.ireturn, 1) := by decide +kernel
theorem dX12_leftOn_38 : decode cX12_leftOn 38 = .ok (.iinc 3 1, 3) := by decide +kernel
theorem dX12_leftOn_41 : decode cX12_leftOn 41 = .ok (.goto (-39), 3) := by decide +kernel
theorem dX12_leftOn_44 : decode cX12_leftOn 44 = .ok (.iconst (-1), 1) := by decide +kernel
theorem dX12_leftOn_45 : decode cX12_leftOn 45 = .ok (.ireturn, 1) := by decide +kernel
theorem dX12_speedOn_0 : decode cX12_speedOn 0 = .ok (.aload_n 0, 1) := by decide +kernel
theorem dX12_speedOn_1 : decode cX12_speedOn 1 = .ok (.iload_n 1, 1) := by decide +kernel
theorem dX12_speedOn_2 : decode cX12_speedOn 2 = .ok (.iload_n 2, 1) := by decide +kernel
theorem dX12_speedOn_3 : decode cX12_speedOn 3 = .ok (.iconst 3, 1) := by decide +kernel
theorem dX12_speedOn_4 : decode cX12_speedOn 4 = .ok (.invokevirtual 130, 3) := by decide +kernel
theorem dX12_speedOn_7 : decode cX12_speedOn 7 = .ok (.ireturn, 1) := by decide +kernel
theorem dX12_byTable_0 : decode cX12_byTable 0 = .ok (.aload_n 0, 1) := by decide +kernel
theorem dX12_byTable_1 : decode cX12_byTable 1 = .ok (.iload_n 1, 1) := by decide +kernel
theorem dX12_byTable_2 : decode cX12_byTable 2 = .ok (.iload_n 2, 1) := by decide +kernel
theorem dX12_byTable_3 : decode cX12_byTable 3 = .ok (.invokevirtual 134, 3) := by decide +kernel
theorem dX12_byTable_6 : decode cX12_byTable 6 = .ok (.istore 4, 2) := by decide +kernel
theorem dX12_byTable_8 : decode cX12_byTable 8 = .ok (.iload 4, 2) := by decide +kernel
theorem dX12_byTable_10 : decode cX12_byTable 10 = .ok (.ifCond .ne 25, 3) := by decide +kernel
theorem dX12_byTable_13 : decode cX12_byTable 13 = .ok (.aload_n 0, 1) := by decide +kernel
theorem dX12_byTable_14 : decode cX12_byTable 14 = .ok (.getfield 17, 3) := by decide +kernel
theorem dX12_byTable_17 : decode cX12_byTable 17 = .ok (.iconst 3, 1) := by decide +kernel
theorem dX12_byTable_18 : decode cX12_byTable 18 = .ok (.bipush 6, 2) := by decide +kernel
theorem dX12_byTable_20 : decode cX12_byTable 20 = .ok (.iload_n 3, 1) := by decide +kernel
theorem dX12_byTable_21 : decode cX12_byTable 21 = .ok (.imul, 1) := by decide +kernel
theorem dX12_byTable_22 : decode cX12_byTable 22 = .ok (.iadd, 1) := by decide +kernel
theorem dX12_byTable_23 : decode cX12_byTable 23 = .ok (.aload_n 0, 1) := by decide +kernel
theorem dX12_byTable_24 : decode cX12_byTable 24 = .ok (.iload_n 1, 1) := by decide +kernel
theorem dX12_byTable_25 : decode cX12_byTable 25 = .ok (.iload_n 2, 1) := by decide +kernel
theorem dX12_byTable_26 : decode cX12_byTable 26 = .ok (.iconst 2, 1) := by decide +kernel
theorem dX12_byTable_27 : decode cX12_byTable 27 = .ok (.invokevirtual 130, 3) := by decide +kernel
theorem dX12_byTable_30 : decode cX12_byTable 30 = .ok (.iadd, 1) := by decide +kernel
theorem dX12_byTable_31 : decode cX12_byTable 31 = .ok (.iaload, 1) := by decide +kernel
theorem dX12_byTable_32 : decode cX12_byTable 32 = .ok (.goto 20, 3) := by decide +kernel
theorem dX12_byTable_35 : decode cX12_byTable 35 = .ok (.aload_n 0, 1) := by decide +kernel
theorem dX12_byTable_36 : decode cX12_byTable 36 = .ok (.getfield 17, 3) := by decide +kernel
theorem dX12_byTable_39 : decode cX12_byTable 39 = .ok (.bipush 15, 2) := by decide +kernel
theorem dX12_byTable_41 : decode cX12_byTable 41 = .ok (.iconst 4, 1) := by decide +kernel
theorem dX12_byTable_42 : decode cX12_byTable 42 = .ok (.iload_n 3, 1) := by decide +kernel
theorem dX12_byTable_43 : decode cX12_byTable 43 = .ok (.imul, 1) := by decide +kernel
theorem dX12_byTable_44 : decode cX12_byTable 44 = .ok (.iadd, 1) := by decide +kernel
theorem dX12_byTable_45 : decode cX12_byTable 45 = .ok (.iload 4, 2) := by decide +kernel
theorem dX12_byTable_47 : decode cX12_byTable 47 = .ok (.bipush 8, 2) := by decide +kernel
theorem dX12_byTable_49 : decode cX12_byTable 49 = .ok (.idiv, 1) := by decide +kernel
theorem dX12_byTable_50 : decode cX12_byTable 50 = .ok (.iadd, 1) := by decide +kernel
theorem dX12_byTable_51 : decode cX12_byTable 51 = .ok (.iaload, 1) := by decide +kernel
theorem dX12_byTable_52 : decode cX12_byTable 52 = .ok (.ireturn, 1) := by decide +kernel
theorem dX12_law_0 : decode cX12_law 0 = .ok (.aload_n 0, 1) := by decide +kernel
theorem dX12_law_1 : decode cX12_law 1 = .ok (.iload_n 1, 1) := by decide +kernel
theorem dX12_law_2 : decode cX12_law 2 = .ok (.invokevirtual 113, 3) := by decide +kernel
theorem dX12_law_5 : decode cX12_law 5 = .ok (.ifCond .eq 44, 3) := by decide +kernel
theorem dX12_law_8 : decode cX12_law 8 = .ok (.iload_n 2, 1) := by decide +kernel
theorem dX12_law_9 : decode cX12_law 9 = .ok (.iconst 0, 1) := by decide +kernel
theorem dX12_law_10 : decode cX12_law 10 = .ok (.bipush 118, 2) := by decide +kernel
theorem dX12_law_12 : decode cX12_law 12 = .ok (.invokestatic 3, 3) := by decide +kernel
theorem dX12_law_15 : decode cX12_law 15 = .ok (.ifCond .eq 34, 3) := by decide +kernel
theorem dX12_law_18 : decode cX12_law 18 = .ok (.iload_n 3, 1) := by decide +kernel
theorem dX12_law_19 : decode cX12_law 19 = .ok (.iconst 0, 1) := by decide +kernel
theorem dX12_law_20 : decode cX12_law 20 = .ok (.iconst 1, 1) := by decide +kernel
theorem dX12_law_21 : decode cX12_law 21 = .ok (.invokestatic 3, 3) := by decide +kernel
theorem dX12_law_24 : decode cX12_law 24 = .ok (.ifCond .eq 25, 3) := by decide +kernel
theorem dX12_law_27 : decode cX12_law 27 = .ok (.aload_n 0, 1) := by decide +kernel
theorem dX12_law_28 : decode cX12_law 28 = .ok (.iload_n 1, 1) := by decide +kernel
theorem dX12_law_29 : decode cX12_law 29 = .ok (.iload_n 2, 1) := by decide +kernel
theorem dX12_law_30 : decode cX12_law 30 = .ok (.iconst 1, 1) := by decide +kernel
theorem dX12_law_31 : decode cX12_law 31 = .ok (.iadd, 1) := by decide +kernel
theorem dX12_law_32 : decode cX12_law 32 = .ok (.invokevirtual 116, 3) := by decide +kernel
theorem dX12_law_35 : decode cX12_law 35 = .ok (.iconst (-1), 1) := by decide +kernel
theorem dX12_law_36 : decode cX12_law 36 = .ok (.if_icmp .ne 13, 3) := by decide +kernel
theorem dX12_law_39 : decode cX12_law 39 = .ok (.aload_n 0, 1) := by decide +kernel
theorem dX12_law_40 : decode cX12_law 40 = .ok (.iload_n 1, 1) := by decide +kernel
theorem dX12_law_41 : decode cX12_law 41 = .ok (.iload_n 2, 1) := by decide +kernel
theorem dX12_law_42 : decode cX12_law 42 = .ok (.iload_n 3, 1) := by decide +kernel
theorem dX12_law_43 : decode cX12_law 43 = .ok (.invokevirtual 137, 3) := by decide +kernel
theorem dX12_law_46 : decode cX12_law 46 = .ok (.goto 6, 3) := by decide +kernel
theorem dX12_law_49 : decode cX12_law 49 = .ok (.sipush (-1000), 3) := by decide +kernel
theorem dX12_law_52 : decode cX12_law 52 = .ok (.ireturn, 1) := by decide +kernel
theorem dX12_portion_0 : decode cX12_portion 0 = .ok (.aload_n 0, 1) := by decide +kernel
theorem dX12_portion_1 : decode cX12_portion 1 = .ok (.iload_n 1, 1) := by decide +kernel
theorem dX12_portion_2 : decode cX12_portion 2 = .ok (.iload_n 2, 1) := by decide +kernel
theorem dX12_portion_3 : decode cX12_portion 3 = .ok (.invokevirtual 134, 3) := by decide +kernel
theorem dX12_portion_6 : decode cX12_portion 6 = .ok (.istore 5, 2) := by decide +kernel
theorem dX12_portion_8 : decode cX12_portion 8 = .ok (.iload 4, 2) := by decide +kernel
theorem dX12_portion_10 : decode cX12_portion 10 = .ok (.ifCond .ne 18, 3) := by decide +kernel
theorem dX12_portion_13 : decode cX12_portion 13 = .ok (.iload 5, 2) := by decide +kernel
theorem dX12_portion_15 : decode cX12_portion 15 = .ok (.iload 5, 2) := by decide +kernel
theorem dX12_portion_17 : decode cX12_portion 17 = .ok (.imul, 1) := by decide +kernel
theorem dX12_portion_18 : decode cX12_portion 18 = .ok (.aload_n 0, 1) := by decide +kernel
theorem dX12_portion_19 : decode cX12_portion 19 = .ok (.getfield 17, 3) := by decide +kernel
theorem dX12_portion_22 : decode cX12_portion 22 = .ok (.iconst 0, 1) := by decide +kernel
theorem dX12_portion_23 : decode cX12_portion 23 = .ok (.iload_n 1, 1) := by decide +kernel
theorem dX12_portion_24 : decode cX12_portion 24 = .ok (.iadd, 1) := by decide +kernel
theorem dX12_portion_25 : decode cX12_portion 25 = .ok (.iaload, 1) := by decide +kernel
theorem dX12_portion_26 : decode cX12_portion 26 = .ok (.imul, 1) := by decide +kernel
theorem dX12_portion_27 : decode cX12_portion 27 = .ok (.ireturn, 1) := by decide +kernel
theorem dX12_portion_28 : decode cX12_portion 28 = .ok (.iload 4, 2) := by decide +kernel
theorem dX12_portion_30 : decode cX12_portion 30 = .ok (.iconst 1, 1) := by decide +kernel
theorem dX12_portion_31 : decode cX12_portion 31 = .ok (.if_icmp .ne 22, 3) := by decide +kernel
theorem dX12_portion_34 : decode cX12_portion 34 = .ok (.aload_n 0, 1) := by decide +kernel
theorem dX12_portion_35 : decode cX12_portion 35 = .ok (.iload_n 1, 1) := by decide +kernel
theorem dX12_portion_36 : decode cX12_portion 36 = .ok (.iload_n 2, 1) := by decide +kernel
theorem dX12_portion_37 : decode cX12_portion 37 = .ok (.iconst 4, 1) := by decide +kernel
theorem dX12_portion_38 : decode cX12_portion 38 = .ok (.invokevirtual 130, 3) := by decide +kernel
theorem dX12_portion_41 : decode cX12_portion 41 = .ok (.aload_n 0, 1) := by decide +kernel
theorem dX12_portion_42 : decode cX12_portion 42 = .ok (.iload_n 1, 1) := by decide +kernel
theorem dX12_portion_43 : decode cX12_portion 43 = .ok (.iload_n 2, 1) := by decide +kernel
theorem dX12_portion_44 : decode cX12_portion 44 = .ok (.iconst 4, 1) := by decide +kernel
theorem dX12_portion_45 : decode cX12_portion 45 = .ok (.invokevirtual 130, 3) := by decide +kernel
theorem dX12_portion_48 : decode cX12_portion 48 = .ok (.imul, 1) := by decide +kernel
theorem dX12_portion_49 : decode cX12_portion 49 = .ok (.iload 5, 2) := by decide +kernel
theorem dX12_portion_51 : decode cX12_portion 51 = .ok (.imul, 1) := by decide +kernel
theorem dX12_portion_52 : decode cX12_portion 52 = .ok (.ireturn, 1) := by decide +kernel
theorem dX12_portion_53 : decode cX12_portion 53 = .ok (.iload 4, 2) := by decide +kernel
theorem dX12_portion_55 : decode cX12_portion 55 = .ok (.iconst 2, 1) := by decide +kernel
theorem dX12_portion_56 : decode cX12_portion 56 = .ok (.if_icmp .ne 16, 3) := by decide +kernel
theorem dX12_portion_59 : decode cX12_portion 59 = .ok (.aload_n 0, 1) := by decide +kernel
theorem dX12_portion_60 : decode cX12_portion 60 = .ok (.iload_n 1, 1) := by decide +kernel
theorem dX12_portion_61 : decode cX12_portion 61 = .ok (.iload_n 2, 1) := by decide +kernel
theorem dX12_portion_62 : decode cX12_portion 62 = .ok (.iconst 5, 1) := by decide +kernel
theorem dX12_portion_63 : decode cX12_portion 63 = .ok (.invokevirtual 130, 3) := by decide +kernel
theorem dX12_portion_66 : decode cX12_portion 66 = .ok (.iload 5, 2) := by decide +kernel
theorem dX12_portion_68 : decode cX12_portion 68 = .ok (.imul, 1) := by decide +kernel
theorem dX12_portion_69 : decode cX12_portion 69 = .ok (.goto 10, 3) := by decide +kernel
theorem dX12_portion_72 : decode cX12_portion 72 = .ok (.iload 5, 2) := by decide +kernel
theorem dX12_portion_74 : decode cX12_portion 74 = .ok (.iload 5, 2) := by decide +kernel
theorem dX12_portion_76 : decode cX12_portion 76 = .ok (.imul, 1) := by decide +kernel
theorem dX12_portion_77 : decode cX12_portion 77 = .ok (.iload_n 3, 1) := by decide +kernel
theorem dX12_portion_78 : decode cX12_portion 78 = .ok (.imul, 1) := by decide +kernel
theorem dX12_portion_79 : decode cX12_portion 79 = .ok (.ireturn, 1) := by decide +kernel
theorem dX12_fuel_0 : decode cX12_fuel 0 = .ok (.aload_n 0, 1) := by decide +kernel
theorem dX12_fuel_1 : decode cX12_fuel 1 = .ok (.iload_n 1, 1) := by decide +kernel
theorem dX12_fuel_2 : decode cX12_fuel 2 = .ok (.iload_n 2, 1) := by decide +kernel
theorem dX12_fuel_3 : decode cX12_fuel 3 = .ok (.iload_n 3, 1) := by decide +kernel
theorem dX12_fuel_4 : decode cX12_fuel 4 = .ok (.iconst 0, 1) := by decide +kernel
theorem dX12_fuel_5 : decode cX12_fuel 5 = .ok (.invokevirtual 140, 3) := by decide +kernel
theorem dX12_fuel_8 : decode cX12_fuel 8 = .ok (.aload_n 0, 1) := by decide +kernel
theorem dX12_fuel_9 : decode cX12_fuel 9 = .ok (.iload_n 1, 1) := by decide +kernel
theorem dX12_fuel_10 : decode cX12_fuel 10 = .ok (.iload_n 2, 1) := by decide +kernel
theorem dX12_fuel_11 : decode cX12_fuel 11 = .ok (.iload_n 3, 1) := by decide +kernel
theorem dX12_fuel_12 : decode cX12_fuel 12 = .ok (.iconst 1, 1) := by decide +kernel
theorem dX12_fuel_13 : decode cX12_fuel 13 = .ok (.invokevirtual 140, 3) := by decide +kernel
theorem dX12_fuel_16 : decode cX12_fuel 16 = .ok (.iadd, 1) := by decide +kernel
theorem dX12_fuel_17 : decode cX12_fuel 17 = .ok (.aload_n 0, 1) := by decide +kernel
theorem dX12_fuel_18 : decode cX12_fuel 18 = .ok (.iload_n 1, 1) := by decide +kernel
theorem dX12_fuel_19 : decode cX12_fuel 19 = .ok (.iload_n 2, 1) := by decide +kernel
theorem dX12_fuel_20 : decode cX12_fuel 20 = .ok (.iload_n 3, 1) := by decide +kernel
theorem dX12_fuel_21 : decode cX12_fuel 21 = .ok (.iconst 2, 1) := by decide +kernel
theorem dX12_fuel_22 : decode cX12_fuel 22 = .ok (.invokevirtual 140, 3) := by decide +kernel
theorem dX12_fuel_25 : decode cX12_fuel 25 = .ok (.iadd, 1) := by decide +kernel
theorem dX12_fuel_26 : decode cX12_fuel 26 = .ok (.aload_n 0, 1) := by decide +kernel
theorem dX12_fuel_27 : decode cX12_fuel 27 = .ok (.iload_n 1, 1) := by decide +kernel
theorem dX12_fuel_28 : decode cX12_fuel 28 = .ok (.iload_n 2, 1) := by decide +kernel
theorem dX12_fuel_29 : decode cX12_fuel 29 = .ok (.iload_n 3, 1) := by decide +kernel
theorem dX12_fuel_30 : decode cX12_fuel 30 = .ok (.iconst 3, 1) := by decide +kernel
theorem dX12_fuel_31 : decode cX12_fuel 31 = .ok (.invokevirtual 140, 3) := by decide +kernel
theorem dX12_fuel_34 : decode cX12_fuel 34 = .ok (.iadd, 1) := by decide +kernel
theorem dX12_fuel_35 : decode cX12_fuel 35 = .ok (.bipush 100, 2) := by decide +kernel
theorem dX12_fuel_37 : decode cX12_fuel 37 = .ok (.idiv, 1) := by decide +kernel
theorem dX12_fuel_38 : decode cX12_fuel 38 = .ok (.ireturn, 1) := by decide +kernel
theorem dX12_share_0 : decode cX12_share 0 = .ok (.aload_n 0, 1) := by decide +kernel
theorem dX12_share_1 : decode cX12_share 1 = .ok (.iload_n 1, 1) := by decide +kernel
theorem dX12_share_2 : decode cX12_share 2 = .ok (.invokevirtual 113, 3) := by decide +kernel
theorem dX12_share_5 : decode cX12_share 5 = .ok (.ifCond .eq 31, 3) := by decide +kernel
theorem dX12_share_8 : decode cX12_share 8 = .ok (.iload_n 2, 1) := by decide +kernel
theorem dX12_share_9 : decode cX12_share 9 = .ok (.invokestatic 109, 3) := by decide +kernel
theorem dX12_share_12 : decode cX12_share 12 = .ok (.ifCond .eq 24, 3) := by decide +kernel
theorem dX12_share_15 : decode cX12_share 15 = .ok (.iload_n 3, 1) := by decide +kernel
theorem dX12_share_16 : decode cX12_share 16 = .ok (.iconst 0, 1) := by decide +kernel
theorem dX12_share_17 : decode cX12_share 17 = .ok (.sipush 1000, 3) := by decide +kernel
theorem dX12_share_20 : decode cX12_share 20 = .ok (.invokestatic 3, 3) := by decide +kernel
theorem dX12_share_23 : decode cX12_share 23 = .ok (.ifCond .eq 13, 3) := by decide +kernel
theorem dX12_share_26 : decode cX12_share 26 = .ok (.iload 4, 2) := by decide +kernel
theorem dX12_share_28 : decode cX12_share 28 = .ok (.iconst 0, 1) := by decide +kernel
theorem dX12_share_29 : decode cX12_share 29 = .ok (.iconst 4, 1) := by decide +kernel
theorem dX12_share_30 : decode cX12_share 30 = .ok (.invokestatic 3, 3) := by decide +kernel
theorem dX12_share_33 : decode cX12_share 33 = .ok (.ifCond .ne 5, 3) := by decide +kernel
theorem dX12_share_36 : decode cX12_share 36 = .ok (.iconst (-1), 1) := by decide +kernel
theorem dX12_share_37 : decode cX12_share 37 = .ok (.ireturn, 1) := by decide +kernel
theorem dX12_share_38 : decode cX12_share 38 = .ok (.aload_n 0, 1) := by decide +kernel
theorem dX12_share_39 : decode cX12_share 39 = .ok (.iload_n 1, 1) := by decide +kernel
theorem dX12_share_40 : decode cX12_share 40 = .ok (.iload_n 2, 1) := by decide +kernel
theorem dX12_share_41 : decode cX12_share 41 = .ok (.iload_n 3, 1) := by decide +kernel
theorem dX12_share_42 : decode cX12_share 42 = .ok (.invokevirtual 144, 3) := by decide +kernel
theorem dX12_share_45 : decode cX12_share 45 = .ok (.istore 5, 2) := by decide +kernel
theorem dX12_share_47 : decode cX12_share 47 = .ok (.iload 4, 2) := by decide +kernel
theorem dX12_share_49 : decode cX12_share 49 = .ok (.iconst 4, 1) := by decide +kernel
theorem dX12_share_50 : decode cX12_share 50 = .ok (.if_icmp .ne 6, 3) := by decide +kernel
theorem dX12_share_53 : decode cX12_share 53 = .ok (.iload 5, 2) := by decide +kernel
theorem dX12_share_55 : decode cX12_share 55 = .ok (.ireturn, 1) := by decide +kernel
theorem dX12_share_56 : decode cX12_share 56 = .ok (.iload 5, 2) := by decide +kernel
theorem dX12_share_58 : decode cX12_share 58 = .ok (.istore 6, 2) := by decide +kernel
theorem dX12_share_60 : decode cX12_share 60 = .ok (.iconst 0, 1) := by decide +kernel
theorem dX12_share_61 : decode cX12_share 61 = .ok (.istore 7, 2) := by decide +kernel
theorem dX12_share_63 : decode cX12_share 63 = .ok (.aload_n 0, 1) := by decide +kernel
theorem dX12_share_64 : decode cX12_share 64 = .ok (.iload_n 1, 1) := by decide +kernel
theorem dX12_share_65 : decode cX12_share 65 = .ok (.iload_n 2, 1) := by decide +kernel
theorem dX12_share_66 : decode cX12_share 66 = .ok (.iload_n 3, 1) := by decide +kernel
theorem dX12_share_67 : decode cX12_share 67 = .ok (.iload 4, 2) := by decide +kernel
theorem dX12_share_69 : decode cX12_share 69 = .ok (.invokevirtual 140, 3) := by decide +kernel
theorem dX12_share_72 : decode cX12_share 72 = .ok (.istore 8, 2) := by decide +kernel
theorem dX12_share_74 : decode cX12_share 74 = .ok (.iconst 0, 1) := by decide +kernel
theorem dX12_share_75 : decode cX12_share 75 = .ok (.istore 9, 2) := by decide +kernel
theorem dX12_share_77 : decode cX12_share 77 = .ok (.iload 9, 2) := by decide +kernel
theorem dX12_share_79 : decode cX12_share 79 = .ok (.iconst 4, 1) := by decide +kernel
theorem dX12_share_80 : decode cX12_share 80 = .ok (.if_icmp .ge 80, 3) := by decide +kernel
theorem dX12_share_83 : decode cX12_share 83 = .ok (.aload_n 0, 1) := by decide +kernel
theorem dX12_share_84 : decode cX12_share 84 = .ok (.iload_n 1, 1) := by decide +kernel
theorem dX12_share_85 : decode cX12_share 85 = .ok (.iload_n 2, 1) := by decide +kernel
theorem dX12_share_86 : decode cX12_share 86 = .ok (.iload_n 3, 1) := by decide +kernel
theorem dX12_share_87 : decode cX12_share 87 = .ok (.iload 9, 2) := by decide +kernel
theorem dX12_share_89 : decode cX12_share 89 = .ok (.invokevirtual 140, 3) := by decide +kernel
theorem dX12_share_92 : decode cX12_share 92 = .ok (.istore 10, 2) := by decide +kernel
theorem dX12_share_94 : decode cX12_share 94 = .ok (.iload 6, 2) := by decide +kernel
theorem dX12_share_96 : decode cX12_share 96 = .ok (.iload 10, 2) := by decide +kernel
theorem dX12_share_98 : decode cX12_share 98 = .ok (.bipush 100, 2) := by decide +kernel
theorem dX12_share_100 : decode cX12_share 100 = .ok (.idiv, 1) := by decide +kernel
theorem dX12_share_101 : decode cX12_share 101 = .ok (.isub, 1) := by decide +kernel
theorem dX12_share_102 : decode cX12_share 102 = .ok (.istore 6, 2) := by decide +kernel
theorem dX12_share_104 : decode cX12_share 104 = .ok (.iload 7, 2) := by decide +kernel
theorem dX12_share_106 : decode cX12_share 106 = .ok (.iload 9, 2) := by decide +kernel
theorem dX12_share_108 : decode cX12_share 108 = .ok (.iload 4, 2) := by decide +kernel
theorem dX12_share_110 : decode cX12_share 110 = .ok (.if_icmp .eq 40, 3) := by decide +kernel
theorem dX12_share_113 : decode cX12_share 113 = .ok (.iload 10, 2) := by decide +kernel
theorem dX12_share_115 : decode cX12_share 115 = .ok (.bipush 100, 2) := by decide +kernel
theorem dX12_share_117 : decode cX12_share 117 = .ok (.irem, 1) := by decide +kernel
theorem dX12_share_118 : decode cX12_share 118 = .ok (.iload 8, 2) := by decide +kernel
theorem dX12_share_120 : decode cX12_share 120 = .ok (.bipush 100, 2) := by decide +kernel
theorem dX12_share_122 : decode cX12_share 122 = .ok (.irem, 1) := by decide +kernel
theorem dX12_share_123 : decode cX12_share 123 = .ok (.if_icmp .gt 23, 3) := by decide +kernel
theorem dX12_share_126 : decode cX12_share 126 = .ok (.iload 10, 2) := by decide +kernel
theorem dX12_share_128 : decode cX12_share 128 = .ok (.bipush 100, 2) := by decide +kernel
theorem dX12_share_130 : decode cX12_share 130 = .ok (.irem, 1) := by decide +kernel
theorem dX12_share_131 : decode cX12_share 131 = .ok (.iload 8, 2) := by decide +kernel
theorem dX12_share_133 : decode cX12_share 133 = .ok (.bipush 100, 2) := by decide +kernel
theorem dX12_share_135 : decode cX12_share 135 = .ok (.irem, 1) := by decide +kernel
theorem dX12_share_136 : decode cX12_share 136 = .ok (.if_icmp .ne 14, 3) := by decide +kernel
theorem dX12_share_139 : decode cX12_share 139 = .ok (.iload 9, 2) := by decide +kernel
theorem dX12_share_141 : decode cX12_share 141 = .ok (.iload 4, 2) := by decide +kernel
theorem dX12_share_143 : decode cX12_share 143 = .ok (.if_icmp .ge 7, 3) := by decide +kernel
theorem dX12_share_146 : decode cX12_share 146 = .ok (.iconst 1, 1) := by decide +kernel
theorem dX12_share_147 : decode cX12_share 147 = .ok (.goto 4, 3) := by decide +kernel
theorem dX12_share_150 : decode cX12_share 150 = .ok (.iconst 0, 1) := by decide +kernel
theorem dX12_share_151 : decode cX12_share 151 = .ok (.iadd, 1) := by decide +kernel
theorem dX12_share_152 : decode cX12_share 152 = .ok (.istore 7, 2) := by decide +kernel
theorem dX12_share_154 : decode cX12_share 154 = .ok (.iinc 9 1, 3) := by decide +kernel
theorem dX12_share_157 : decode cX12_share 157 = .ok (.goto (-80), 3) := by decide +kernel
theorem dX12_share_160 : decode cX12_share 160 = .ok (.iload 8, 2) := by decide +kernel
theorem dX12_share_162 : decode cX12_share 162 = .ok (.bipush 100, 2) := by decide +kernel
theorem dX12_share_164 : decode cX12_share 164 = .ok (.idiv, 1) := by decide +kernel
theorem dX12_share_165 : decode cX12_share 165 = .ok (.iload 7, 2) := by decide +kernel
theorem dX12_share_167 : decode cX12_share 167 = .ok (.iload 6, 2) := by decide +kernel
theorem dX12_share_169 : decode cX12_share 169 = .ok (.if_icmp .ge 7, 3) := by decide +kernel
theorem dX12_share_172 : decode cX12_share 172 = .ok (.iconst 1, 1) := by decide +kernel
theorem dX12_share_173 : decode cX12_share 173 = .ok (.goto 4, 3) := by decide +kernel
theorem dX12_share_176 : decode cX12_share 176 = .ok (.iconst 0, 1) := by decide +kernel
theorem dX12_share_177 : decode cX12_share 177 = .ok (.iadd, 1) := by decide +kernel
theorem dX12_share_178 : decode cX12_share 178 = .ok (.ireturn, 1) := by decide +kernel
theorem dX12_skin_0 : decode cX12_skin 0 = .ok (.aload_n 0, 1) := by decide +kernel
theorem dX12_skin_1 : decode cX12_skin 1 = .ok (.iload_n 1, 1) := by decide +kernel
theorem dX12_skin_2 : decode cX12_skin 2 = .ok (.iload_n 2, 1) := by decide +kernel
theorem dX12_skin_3 : decode cX12_skin 3 = .ok (.iload_n 3, 1) := by decide +kernel
theorem dX12_skin_4 : decode cX12_skin 4 = .ok (.iconst 3, 1) := by decide +kernel
theorem dX12_skin_5 : decode cX12_skin 5 = .ok (.invokevirtual 140, 3) := by decide +kernel
theorem dX12_skin_8 : decode cX12_skin 8 = .ok (.bipush 100, 2) := by decide +kernel
theorem dX12_skin_10 : decode cX12_skin 10 = .ok (.idiv, 1) := by decide +kernel
theorem dX12_skin_11 : decode cX12_skin 11 = .ok (.ireturn, 1) := by decide +kernel
theorem dX12_adds_0 : decode cX12_adds 0 = .ok (.aload_n 0, 1) := by decide +kernel
theorem dX12_adds_1 : decode cX12_adds 1 = .ok (.iconst 3, 1) := by decide +kernel
theorem dX12_adds_2 : decode cX12_adds 2 = .ok (.invokevirtual 102, 3) := by decide +kernel
theorem dX12_adds_5 : decode cX12_adds 5 = .ok (.istore 8, 2) := by decide +kernel
theorem dX12_adds_7 : decode cX12_adds 7 = .ok (.sipush 503, 3) := by decide +kernel
theorem dX12_adds_10 : decode cX12_adds 10 = .ok (.bipush 9, 2) := by decide +kernel
theorem dX12_adds_12 : decode cX12_adds 12 = .ok (.iload 8, 2) := by decide +kernel
theorem dX12_adds_14 : decode cX12_adds 14 = .ok (.imul, 1) := by decide +kernel
theorem dX12_adds_15 : decode cX12_adds 15 = .ok (.iadd, 1) := by decide +kernel
theorem dX12_adds_16 : decode cX12_adds 16 = .ok (.istore 9, 2) := by decide +kernel
theorem dX12_adds_18 : decode cX12_adds 18 = .ok (.aload_n 0, 1) := by decide +kernel
theorem dX12_adds_19 : decode cX12_adds 19 = .ok (.getfield 17, 3) := by decide +kernel
theorem dX12_adds_22 : decode cX12_adds 22 = .ok (.iload 9, 2) := by decide +kernel
theorem dX12_adds_24 : decode cX12_adds 24 = .ok (.iload_n 1, 1) := by decide +kernel
theorem dX12_adds_25 : decode cX12_adds 25 = .ok (.iastore, 1) := by decide +kernel
theorem dX12_adds_26 : decode cX12_adds 26 = .ok (.aload_n 0, 1) := by decide +kernel
theorem dX12_adds_27 : decode cX12_adds 27 = .ok (.getfield 17, 3) := by decide +kernel
theorem dX12_adds_30 : decode cX12_adds 30 = .ok (.iload 9, 2) := by decide +kernel
theorem dX12_adds_32 : decode cX12_adds 32 = .ok (.iconst 1, 1) := by decide +kernel
theorem dX12_adds_33 : decode cX12_adds 33 = .ok (.iadd, 1) := by decide +kernel
theorem dX12_adds_34 : decode cX12_adds 34 = .ok (.iload_n 2, 1) := by decide +kernel
theorem dX12_adds_35 : decode cX12_adds 35 = .ok (.iastore, 1) := by decide +kernel
theorem dX12_adds_36 : decode cX12_adds 36 = .ok (.aload_n 0, 1) := by decide +kernel
theorem dX12_adds_37 : decode cX12_adds 37 = .ok (.getfield 17, 3) := by decide +kernel
theorem dX12_adds_40 : decode cX12_adds 40 = .ok (.iload 9, 2) := by decide +kernel
theorem dX12_adds_42 : decode cX12_adds 42 = .ok (.iconst 2, 1) := by decide +kernel
theorem dX12_adds_43 : decode cX12_adds 43 = .ok (.iadd, 1) := by decide +kernel
theorem dX12_adds_44 : decode cX12_adds 44 = .ok (.iload_n 3, 1) := by decide +kernel
theorem dX12_adds_45 : decode cX12_adds 45 = .ok (.iastore, 1) := by decide +kernel
theorem dX12_adds_46 : decode cX12_adds 46 = .ok (.aload_n 0, 1) := by decide +kernel
theorem dX12_adds_47 : decode cX12_adds 47 = .ok (.getfield 17, 3) := by decide +kernel
theorem dX12_adds_50 : decode cX12_adds 50 = .ok (.iload 9, 2) := by decide +kernel
theorem dX12_adds_52 : decode cX12_adds 52 = .ok (.iconst 3, 1) := by decide +kernel
theorem dX12_adds_53 : decode cX12_adds 53 = .ok (.iadd, 1) := by decide +kernel
theorem dX12_adds_54 : decode cX12_adds 54 = .ok (.iload 4, 2) := by decide +kernel
theorem dX12_adds_56 : decode cX12_adds 56 = .ok (.iastore, 1) := by decide +kernel
theorem dX12_adds_57 : decode cX12_adds 57 = .ok (.aload_n 0, 1) := by decide +kernel
theorem dX12_adds_58 : decode cX12_adds 58 = .ok (.getfield 17, 3) := by decide +kernel
theorem dX12_adds_61 : decode cX12_adds 61 = .ok (.iload 9, 2) := by decide +kernel
theorem dX12_adds_63 : decode cX12_adds 63 = .ok (.iconst 4, 1) := by decide +kernel
theorem dX12_adds_64 : decode cX12_adds 64 = .ok (.iadd, 1) := by decide +kernel
theorem dX12_adds_65 : decode cX12_adds 65 = .ok (.iload 5, 2) := by decide +kernel
theorem dX12_adds_67 : decode cX12_adds 67 = .ok (.iastore, 1) := by decide +kernel
theorem dX12_adds_68 : decode cX12_adds 68 = .ok (.aload_n 0, 1) := by decide +kernel
theorem dX12_adds_69 : decode cX12_adds 69 = .ok (.getfield 17, 3) := by decide +kernel
theorem dX12_adds_72 : decode cX12_adds 72 = .ok (.iload 9, 2) := by decide +kernel
theorem dX12_adds_74 : decode cX12_adds 74 = .ok (.iconst 5, 1) := by decide +kernel
theorem dX12_adds_75 : decode cX12_adds 75 = .ok (.iadd, 1) := by decide +kernel
theorem dX12_adds_76 : decode cX12_adds 76 = .ok (.iload 6, 2) := by decide +kernel
theorem dX12_adds_78 : decode cX12_adds 78 = .ok (.iastore, 1) := by decide +kernel
theorem dX12_adds_79 : decode cX12_adds 79 = .ok (.aload_n 0, 1) := by decide +kernel
theorem dX12_adds_80 : decode cX12_adds 80 = .ok (.getfield 17, 3) := by decide +kernel
theorem dX12_adds_83 : decode cX12_adds 83 = .ok (.iload 9, 2) := by decide +kernel
theorem dX12_adds_85 : decode cX12_adds 85 = .ok (.bipush 6, 2) := by decide +kernel
theorem dX12_adds_87 : decode cX12_adds 87 = .ok (.iadd, 1) := by decide +kernel
theorem dX12_adds_88 : decode cX12_adds 88 = .ok (.iload 7, 2) := by decide +kernel
theorem dX12_adds_90 : decode cX12_adds 90 = .ok (.iastore, 1) := by decide +kernel
theorem dX12_adds_91 : decode cX12_adds 91 = .ok (.aload_n 0, 1) := by decide +kernel
theorem dX12_adds_92 : decode cX12_adds 92 = .ok (.getfield 17, 3) := by decide +kernel
theorem dX12_adds_95 : decode cX12_adds 95 = .ok (.iload 9, 2) := by decide +kernel
theorem dX12_adds_97 : decode cX12_adds 97 = .ok (.bipush 7, 2) := by decide +kernel
theorem dX12_adds_99 : decode cX12_adds 99 = .ok (.iadd, 1) := by decide +kernel
theorem dX12_adds_100 : decode cX12_adds 100 = .ok (.iconst 0, 1) := by decide +kernel
theorem dX12_adds_101 : decode cX12_adds 101 = .ok (.iastore, 1) := by decide +kernel
theorem dX12_adds_102 : decode cX12_adds 102 = .ok (.aload_n 0, 1) := by decide +kernel
theorem dX12_adds_103 : decode cX12_adds 103 = .ok (.getfield 17, 3) := by decide +kernel
theorem dX12_adds_106 : decode cX12_adds 106 = .ok (.sipush 724, 3) := by decide +kernel
theorem dX12_adds_109 : decode cX12_adds 109 = .ok (.dup2, 1) := by decide +kernel
theorem dX12_adds_110 : decode cX12_adds 110 = .ok (.iaload, 1) := by decide +kernel
theorem dX12_adds_111 : decode cX12_adds 111 = .ok (.iconst 1, 1) := by decide +kernel
theorem dX12_adds_112 : decode cX12_adds 112 = .ok (.iadd, 1) := by decide +kernel
theorem dX12_adds_113 : decode cX12_adds 113 = .ok (.iastore, 1) := by decide +kernel
theorem dX12_adds_114 : decode cX12_adds 114 = .ok (.iload 8, 2) := by decide +kernel
theorem dX12_adds_116 : decode cX12_adds 116 = .ok (.ireturn, 1) := by decide +kernel
theorem dX12_log_0 : decode cX12_log 0 = .ok (.iload_n 2, 1) := by decide +kernel
theorem dX12_log_1 : decode cX12_log 1 = .ok (.invokestatic 109, 3) := by decide +kernel
theorem dX12_log_4 : decode cX12_log 4 = .ok (.ifCond .eq 44, 3) := by decide +kernel
theorem dX12_log_7 : decode cX12_log 7 = .ok (.iload_n 3, 1) := by decide +kernel
theorem dX12_log_8 : decode cX12_log 8 = .ok (.iconst 0, 1) := by decide +kernel
theorem dX12_log_9 : decode cX12_log 9 = .ok (.ldc 120, 2) := by decide +kernel
theorem dX12_log_11 : decode cX12_log 11 = .ok (.invokestatic 3, 3) := by decide +kernel
theorem dX12_log_14 : decode cX12_log 14 = .ok (.ifCond .eq 34, 3) := by decide +kernel
theorem dX12_log_17 : decode cX12_log 17 = .ok (.iload 4, 2) := by decide +kernel
theorem dX12_log_19 : decode cX12_log 19 = .ok (.iconst 0, 1) := by decide +kernel
theorem dX12_log_20 : decode cX12_log 20 = .ok (.sipush 1000, 3) := by decide +kernel
theorem dX12_log_23 : decode cX12_log 23 = .ok (.invokestatic 3, 3) := by decide +kernel
theorem dX12_log_26 : decode cX12_log 26 = .ok (.ifCond .eq 22, 3) := by decide +kernel
theorem dX12_log_29 : decode cX12_log 29 = .ok (.iload 5, 2) := by decide +kernel
theorem dX12_log_31 : decode cX12_log 31 = .ok (.iconst 1, 1) := by decide +kernel
theorem dX12_log_32 : decode cX12_log 32 = .ok (.bipush 100, 2) := by decide +kernel
theorem dX12_log_34 : decode cX12_log 34 = .ok (.invokestatic 3, 3) := by decide +kernel
theorem dX12_log_37 : decode cX12_log 37 = .ok (.ifCond .eq 11, 3) := by decide +kernel
theorem dX12_log_40 : decode cX12_log 40 = .ok (.iload 6, 2) := by decide +kernel
theorem dX12_log_42 : decode cX12_log 42 = .ok (.invokestatic 109, 3) := by decide +kernel
theorem dX12_log_45 : decode cX12_log 45 = .ok (.ifCond .ne 9, 3) := by decide +kernel
theorem dX12_log_48 : decode cX12_log 48 = .ok (.aload_n 0, 1) := by decide +kernel
theorem dX12_log_49 : decode cX12_log 49 = .ok (.iconst (-1), 1) := by decide +kernel
theorem dX12_log_50 : decode cX12_log 50 = .ok (.invokevirtual 106, 3) := by decide +kernel
theorem dX12_log_53 : decode cX12_log 53 = .ok (.ireturn, 1) := by decide +kernel
theorem dX12_log_54 : decode cX12_log 54 = .ok (.aload_n 0, 1) := by decide +kernel
theorem dX12_log_55 : decode cX12_log 55 = .ok (.iload_n 1, 1) := by decide +kernel
theorem dX12_log_56 : decode cX12_log 56 = .ok (.invokevirtual 113, 3) := by decide +kernel
theorem dX12_log_59 : decode cX12_log 59 = .ok (.ifCond .ne 10, 3) := by decide +kernel
theorem dX12_log_62 : decode cX12_log 62 = .ok (.aload_n 0, 1) := by decide +kernel
theorem dX12_log_63 : decode cX12_log 63 = .ok (.bipush (-2), 2) := by decide +kernel
theorem dX12_log_65 : decode cX12_log 65 = .ok (.invokevirtual 106, 3) := by decide +kernel
theorem dX12_log_68 : decode cX12_log 68 = .ok (.ireturn, 1) := by decide +kernel
theorem dX12_log_69 : decode cX12_log 69 = .ok (.aload_n 0, 1) := by decide +kernel
theorem dX12_log_70 : decode cX12_log 70 = .ok (.iload_n 1, 1) := by decide +kernel
theorem dX12_log_71 : decode cX12_log 71 = .ok (.iload_n 2, 1) := by decide +kernel
theorem dX12_log_72 : decode cX12_log 72 = .ok (.invokevirtual 134, 3) := by decide +kernel
theorem dX12_log_75 : decode cX12_log 75 = .ok (.ifCond .ne 10, 3) := by decide +kernel
theorem dX12_log_78 : decode cX12_log 78 = .ok (.aload_n 0, 1) := by decide +kernel
theorem dX12_log_79 : decode cX12_log 79 = .ok (.bipush (-3), 2) := by decide +kernel
theorem dX12_log_81 : decode cX12_log 81 = .ok (.invokevirtual 106, 3) := by decide +kernel
theorem dX12_log_84 : decode cX12_log 84 = .ok (.ireturn, 1) := by decide +kernel
theorem dX12_log_85 : decode cX12_log 85 = .ok (.aload_n 0, 1) := by decide +kernel
theorem dX12_log_86 : decode cX12_log 86 = .ok (.iconst 3, 1) := by decide +kernel
theorem dX12_log_87 : decode cX12_log 87 = .ok (.invokevirtual 102, 3) := by decide +kernel
theorem dX12_log_90 : decode cX12_log 90 = .ok (.bipush 24, 2) := by decide +kernel
theorem dX12_log_92 : decode cX12_log 92 = .ok (.if_icmp .ne 10, 3) := by decide +kernel
theorem dX12_log_95 : decode cX12_log 95 = .ok (.aload_n 0, 1) := by decide +kernel
theorem dX12_log_96 : decode cX12_log 96 = .ok (.bipush (-5), 2) := by decide +kernel
theorem dX12_log_98 : decode cX12_log 98 = .ok (.invokevirtual 106, 3) := by decide +kernel
theorem dX12_log_101 : decode cX12_log 101 = .ok (.ireturn, 1) := by decide +kernel
theorem dX12_log_102 : decode cX12_log 102 = .ok (.aload_n 0, 1) := by decide +kernel
theorem dX12_log_103 : decode cX12_log 103 = .ok (.aload_n 0, 1) := by decide +kernel
theorem dX12_log_104 : decode cX12_log 104 = .ok (.iload_n 1, 1) := by decide +kernel
theorem dX12_log_105 : decode cX12_log 105 = .ok (.iload_n 2, 1) := by decide +kernel
theorem dX12_log_106 : decode cX12_log 106 = .ok (.iload_n 3, 1) := by decide +kernel
theorem dX12_log_107 : decode cX12_log 107 = .ok (.iload 4, 2) := by decide +kernel
theorem dX12_log_109 : decode cX12_log 109 = .ok (.iload 5, 2) := by decide +kernel
theorem dX12_log_111 : decode cX12_log 111 = .ok (.iload 6, 2) := by decide +kernel
theorem dX12_log_113 : decode cX12_log 113 = .ok (.iconst 0, 1) := by decide +kernel
theorem dX12_log_114 : decode cX12_log 114 = .ok (.invokevirtual 147, 3) := by decide +kernel
theorem dX12_log_117 : decode cX12_log 117 = .ok (.invokevirtual 106, 3) := by decide +kernel
theorem dX12_log_120 : decode cX12_log 120 = .ok (.ireturn, 1) := by decide +kernel
theorem dX12_look_0 : decode cX12_look 0 = .ok (.iload_n 2, 1) := by decide +kernel
theorem dX12_look_1 : decode cX12_look 1 = .ok (.invokestatic 109, 3) := by decide +kernel
theorem dX12_look_4 : decode cX12_look 4 = .ok (.ifCond .eq 45, 3) := by decide +kernel
theorem dX12_look_7 : decode cX12_look 7 = .ok (.iload_n 3, 1) := by decide +kernel
theorem dX12_look_8 : decode cX12_look 8 = .ok (.iconst 0, 1) := by decide +kernel
theorem dX12_look_9 : decode cX12_look 9 = .ok (.sipush 1000, 3) := by decide +kernel
theorem dX12_look_12 : decode cX12_look 12 = .ok (.invokestatic 3, 3) := by decide +kernel
theorem dX12_look_15 : decode cX12_look 15 = .ok (.ifCond .eq 34, 3) := by decide +kernel
theorem dX12_look_18 : decode cX12_look 18 = .ok (.iload 4, 2) := by decide +kernel
theorem dX12_look_20 : decode cX12_look 20 = .ok (.iload_n 3, 1) := by decide +kernel
theorem dX12_look_21 : decode cX12_look 21 = .ok (.sipush 1000, 3) := by decide +kernel
theorem dX12_look_24 : decode cX12_look 24 = .ok (.invokestatic 3, 3) := by decide +kernel
theorem dX12_look_27 : decode cX12_look 27 = .ok (.ifCond .eq 22, 3) := by decide +kernel
theorem dX12_look_30 : decode cX12_look 30 = .ok (.iload 5, 2) := by decide +kernel
theorem dX12_look_32 : decode cX12_look 32 = .ok (.iconst 1, 1) := by decide +kernel
theorem dX12_look_33 : decode cX12_look 33 = .ok (.bipush 100, 2) := by decide +kernel
theorem dX12_look_35 : decode cX12_look 35 = .ok (.invokestatic 3, 3) := by decide +kernel
theorem dX12_look_38 : decode cX12_look 38 = .ok (.ifCond .eq 11, 3) := by decide +kernel
theorem dX12_look_41 : decode cX12_look 41 = .ok (.iload 6, 2) := by decide +kernel
theorem dX12_look_43 : decode cX12_look 43 = .ok (.invokestatic 109, 3) := by decide +kernel
theorem dX12_look_46 : decode cX12_look 46 = .ok (.ifCond .ne 9, 3) := by decide +kernel
theorem dX12_look_49 : decode cX12_look 49 = .ok (.aload_n 0, 1) := by decide +kernel
theorem dX12_look_50 : decode cX12_look 50 = .ok (.iconst (-1), 1) := by decide +kernel
theorem dX12_look_51 : decode cX12_look 51 = .ok (.invokevirtual 106, 3) := by decide +kernel
theorem dX12_look_54 : decode cX12_look 54 = .ok (.ireturn, 1) := by decide +kernel
theorem dX12_look_55 : decode cX12_look 55 = .ok (.aload_n 0, 1) := by decide +kernel
theorem dX12_look_56 : decode cX12_look 56 = .ok (.iload_n 1, 1) := by decide +kernel
theorem dX12_look_57 : decode cX12_look 57 = .ok (.invokevirtual 113, 3) := by decide +kernel
theorem dX12_look_60 : decode cX12_look 60 = .ok (.ifCond .ne 10, 3) := by decide +kernel
theorem dX12_look_63 : decode cX12_look 63 = .ok (.aload_n 0, 1) := by decide +kernel
theorem dX12_look_64 : decode cX12_look 64 = .ok (.bipush (-2), 2) := by decide +kernel
theorem dX12_look_66 : decode cX12_look 66 = .ok (.invokevirtual 106, 3) := by decide +kernel
theorem dX12_look_69 : decode cX12_look 69 = .ok (.ireturn, 1) := by decide +kernel
theorem dX12_look_70 : decode cX12_look 70 = .ok (.aload_n 0, 1) := by decide +kernel
theorem dX12_look_71 : decode cX12_look 71 = .ok (.iconst 3, 1) := by decide +kernel
theorem dX12_look_72 : decode cX12_look 72 = .ok (.invokevirtual 102, 3) := by decide +kernel
theorem dX12_look_75 : decode cX12_look 75 = .ok (.bipush 24, 2) := by decide +kernel
theorem dX12_look_77 : decode cX12_look 77 = .ok (.if_icmp .ne 10, 3) := by decide +kernel
theorem dX12_look_80 : decode cX12_look 80 = .ok (.aload_n 0, 1) := by decide +kernel
theorem dX12_look_81 : decode cX12_look 81 = .ok (.bipush (-5), 2) := by decide +kernel
theorem dX12_look_83 : decode cX12_look 83 = .ok (.invokevirtual 106, 3) := by decide +kernel
theorem dX12_look_86 : decode cX12_look 86 = .ok (.ireturn, 1) := by decide +kernel
theorem dX12_look_87 : decode cX12_look 87 = .ok (.aload_n 0, 1) := by decide +kernel
theorem dX12_look_88 : decode cX12_look 88 = .ok (.aload_n 0, 1) := by decide +kernel
theorem dX12_look_89 : decode cX12_look 89 = .ok (.iload_n 1, 1) := by decide +kernel
theorem dX12_look_90 : decode cX12_look 90 = .ok (.iload_n 2, 1) := by decide +kernel
theorem dX12_look_91 : decode cX12_look 91 = .ok (.iload_n 3, 1) := by decide +kernel
theorem dX12_look_92 : decode cX12_look 92 = .ok (.iload 4, 2) := by decide +kernel
theorem dX12_look_94 : decode cX12_look 94 = .ok (.iload 5, 2) := by decide +kernel
theorem dX12_look_96 : decode cX12_look 96 = .ok (.iload 6, 2) := by decide +kernel
theorem dX12_look_98 : decode cX12_look 98 = .ok (.iconst 1, 1) := by decide +kernel
theorem dX12_look_99 : decode cX12_look 99 = .ok (.invokevirtual 147, 3) := by decide +kernel
theorem dX12_look_102 : decode cX12_look 102 = .ok (.invokevirtual 106, 3) := by decide +kernel
theorem dX12_look_105 : decode cX12_look 105 = .ok (.ireturn, 1) := by decide +kernel
theorem dX12_readAs_0 : decode cX12_readAs 0 = .ok (.aload_n 0, 1) := by decide +kernel
theorem dX12_readAs_1 : decode cX12_readAs 1 = .ok (.iload_n 1, 1) := by decide +kernel
theorem dX12_readAs_2 : decode cX12_readAs 2 = .ok (.bipush 6, 2) := by decide +kernel
theorem dX12_readAs_4 : decode cX12_readAs 4 = .ok (.invokevirtual 151, 3) := by decide +kernel
theorem dX12_readAs_7 : decode cX12_readAs 7 = .ok (.iconst 1, 1) := by decide +kernel
theorem dX12_readAs_8 : decode cX12_readAs 8 = .ok (.if_icmp .ne 31, 3) := by decide +kernel
theorem dX12_readAs_11 : decode cX12_readAs 11 = .ok (.aload_n 0, 1) := by decide +kernel
theorem dX12_readAs_12 : decode cX12_readAs 12 = .ok (.iload_n 1, 1) := by decide +kernel
theorem dX12_readAs_13 : decode cX12_readAs 13 = .ok (.iconst 2, 1) := by decide +kernel
theorem dX12_readAs_14 : decode cX12_readAs 14 = .ok (.invokevirtual 151, 3) := by decide +kernel
theorem dX12_readAs_17 : decode cX12_readAs 17 = .ok (.aload_n 0, 1) := by decide +kernel
theorem dX12_readAs_18 : decode cX12_readAs 18 = .ok (.iload_n 1, 1) := by decide +kernel
theorem dX12_readAs_19 : decode cX12_readAs 19 = .ok (.iconst 3, 1) := by decide +kernel
theorem dX12_readAs_20 : decode cX12_readAs 20 = .ok (.invokevirtual 151, 3) := by decide +kernel
theorem dX12_readAs_23 : decode cX12_readAs 23 = .ok (.if_icmp .le 7, 3) := by decide +kernel
theorem dX12_readAs_26 : decode cX12_readAs 26 = .ok (.iconst (-1), 1) := by decide +kernel
theorem dX12_readAs_27 : decode cX12_readAs 27 = .ok (.goto 11, 3) := by decide +kernel
theorem dX12_readAs_30 : decode cX12_readAs 30 = .ok (.aload_n 0, 1) := by decide +kernel
theorem dX12_readAs_31 : decode cX12_readAs 31 = .ok (.iload_n 1, 1) := by decide +kernel
theorem dX12_readAs_32 : decode cX12_readAs 32 = .ok (.iconst 2, 1) := by decide +kernel
theorem dX12_readAs_33 : decode cX12_readAs 33 = .ok (.iload_n 2, 1) := by decide +kernel
theorem dX12_readAs_34 : decode cX12_readAs 34 = .ok (.iadd, 1) := by decide +kernel
theorem dX12_readAs_35 : decode cX12_readAs 35 = .ok (.invokevirtual 151, 3) := by decide +kernel
theorem dX12_readAs_38 : decode cX12_readAs 38 = .ok (.ireturn, 1) := by decide +kernel
theorem dX12_readAs_39 : decode cX12_readAs 39 = .ok (.aload_n 0, 1) := by decide +kernel
theorem dX12_readAs_40 : decode cX12_readAs 40 = .ok (.aload_n 0, 1) := by decide +kernel
theorem dX12_readAs_41 : decode cX12_readAs 41 = .ok (.iload_n 1, 1) := by decide +kernel
theorem dX12_readAs_42 : decode cX12_readAs 42 = .ok (.iconst 0, 1) := by decide +kernel
theorem dX12_readAs_43 : decode cX12_readAs 43 = .ok (.invokevirtual 151, 3) := by decide +kernel
theorem dX12_readAs_46 : decode cX12_readAs 46 = .ok (.aload_n 0, 1) := by decide +kernel
theorem dX12_readAs_47 : decode cX12_readAs 47 = .ok (.iload_n 1, 1) := by decide +kernel
theorem dX12_readAs_48 : decode cX12_readAs 48 = .ok (.iconst 1, 1) := by decide +kernel
theorem dX12_readAs_49 : decode cX12_readAs 49 = .ok (.invokevirtual 151, 3) := by decide +kernel
theorem dX12_readAs_52 : decode cX12_readAs 52 = .ok (.invokevirtual 134, 3) := by decide +kernel
theorem dX12_readAs_55 : decode cX12_readAs 55 = .ok (.ifCond .ne 5, 3) := by decide +kernel
theorem dX12_readAs_58 : decode cX12_readAs 58 = .ok (.iconst (-1), 1) := by decide +kernel
theorem dX12_readAs_59 : decode cX12_readAs 59 = .ok (.ireturn, 1) := by decide +kernel
theorem dX12_readAs_60 : decode cX12_readAs 60 = .ok (.iconst (-1), 1) := by decide +kernel
theorem dX12_readAs_61 : decode cX12_readAs 61 = .ok (.istore_n 3, 1) := by decide +kernel
theorem dX12_readAs_62 : decode cX12_readAs 62 = .ok (.iconst 0, 1) := by decide +kernel
theorem dX12_readAs_63 : decode cX12_readAs 63 = .ok (.istore 4, 2) := by decide +kernel
theorem dX12_readAs_65 : decode cX12_readAs 65 = .ok (.iload 4, 2) := by decide +kernel
theorem dX12_readAs_67 : decode cX12_readAs 67 = .ok (.sipush 1000, 3) := by decide +kernel
theorem dX12_readAs_70 : decode cX12_readAs 70 = .ok (.if_icmp .gt 76, 3) := by decide +kernel
theorem dX12_readAs_73 : decode cX12_readAs 73 = .ok (.aload_n 0, 1) := by decide +kernel
theorem dX12_readAs_74 : decode cX12_readAs 74 = .ok (.aload_n 0, 1) := by decide +kernel
theorem dX12_readAs_75 : decode cX12_readAs 75 = .ok (.iload_n 1, 1) := by decide +kernel
theorem dX12_readAs_76 : decode cX12_readAs 76 = .ok (.iconst 0, 1) := by decide +kernel
theorem dX12_readAs_77 : decode cX12_readAs 77 = .ok (.invokevirtual 151, 3) := by decide +kernel
theorem dX12_readAs_80 : decode cX12_readAs 80 = .ok (.aload_n 0, 1) := by decide +kernel
theorem dX12_readAs_81 : decode cX12_readAs 81 = .ok (.iload_n 1, 1) := by decide +kernel
theorem dX12_readAs_82 : decode cX12_readAs 82 = .ok (.iconst 1, 1) := by decide +kernel
theorem dX12_readAs_83 : decode cX12_readAs 83 = .ok (.invokevirtual 151, 3) := by decide +kernel
theorem dX12_readAs_86 : decode cX12_readAs 86 = .ok (.iload 4, 2) := by decide +kernel
theorem dX12_readAs_88 : decode cX12_readAs 88 = .ok (.invokevirtual 144, 3) := by decide +kernel
theorem dX12_readAs_91 : decode cX12_readAs 91 = .ok (.istore 5, 2) := by decide +kernel
theorem dX12_readAs_93 : decode cX12_readAs 93 = .ok (.iload 5, 2) := by decide +kernel
theorem dX12_readAs_95 : decode cX12_readAs 95 = .ok (.aload_n 0, 1) := by decide +kernel
theorem dX12_readAs_96 : decode cX12_readAs 96 = .ok (.iload_n 1, 1) := by decide +kernel
theorem dX12_readAs_97 : decode cX12_readAs 97 = .ok (.iconst 2, 1) := by decide +kernel
theorem dX12_readAs_98 : decode cX12_readAs 98 = .ok (.invokevirtual 151, 3) := by decide +kernel
theorem dX12_readAs_101 : decode cX12_readAs 101 = .ok (.aload_n 0, 1) := by decide +kernel
theorem dX12_readAs_102 : decode cX12_readAs 102 = .ok (.iload_n 1, 1) := by decide +kernel
theorem dX12_readAs_103 : decode cX12_readAs 103 = .ok (.iconst 3, 1) := by decide +kernel
theorem dX12_readAs_104 : decode cX12_readAs 104 = .ok (.invokevirtual 151, 3) := by decide +kernel
theorem dX12_readAs_107 : decode cX12_readAs 107 = .ok (.isub, 1) := by decide +kernel
theorem dX12_readAs_108 : decode cX12_readAs 108 = .ok (.aload_n 0, 1) := by decide +kernel
theorem dX12_readAs_109 : decode cX12_readAs 109 = .ok (.iload_n 1, 1) := by decide +kernel
theorem dX12_readAs_110 : decode cX12_readAs 110 = .ok (.iconst 2, 1) := by decide +kernel
theorem dX12_readAs_111 : decode cX12_readAs 111 = .ok (.invokevirtual 151, 3) := by decide +kernel
theorem dX12_readAs_114 : decode cX12_readAs 114 = .ok (.aload_n 0, 1) := by decide +kernel
theorem dX12_readAs_115 : decode cX12_readAs 115 = .ok (.iload_n 1, 1) := by decide +kernel
theorem dX12_readAs_116 : decode cX12_readAs 116 = .ok (.iconst 3, 1) := by decide +kernel
theorem dX12_readAs_117 : decode cX12_readAs 117 = .ok (.invokevirtual 151, 3) := by decide +kernel
theorem dX12_readAs_120 : decode cX12_readAs 120 = .ok (.iadd, 1) := by decide +kernel
theorem dX12_readAs_121 : decode cX12_readAs 121 = .ok (.invokestatic 3, 3) := by decide +kernel
theorem dX12_readAs_124 : decode cX12_readAs 124 = .ok (.ifCond .eq 16, 3) := by decide +kernel
theorem dX12_readAs_127 : decode cX12_readAs 127 = .ok (.iload_n 2, 1) := by decide +kernel
theorem dX12_readAs_128 : decode cX12_readAs 128 = .ok (.iconst 1, 1) := by decide +kernel
theorem dX12_readAs_129 : decode cX12_readAs 129 = .ok (.if_icmp .eq 8, 3) := by decide +kernel
theorem dX12_readAs_132 : decode cX12_readAs 132 = .ok (.iload_n 3, 1) := by decide +kernel
theorem dX12_readAs_133 : decode cX12_readAs 133 = .ok (.iconst (-1), 1) := by decide +kernel
theorem dX12_readAs_134 : decode cX12_readAs 134 = .ok (.if_icmp .ne 6, 3) := by decide +kernel
theorem dX12_readAs_137 : decode cX12_readAs 137 = .ok (.iload 4, 2) := by decide +kernel
theorem dX12_readAs_139 : decode cX12_readAs 139 = .ok (.istore_n 3, 1) := by decide +kernel
theorem dX12_readAs_140 : decode cX12_readAs 140 = .ok (.iinc 4 1, 3) := by decide +kernel
theorem dX12_readAs_143 : decode cX12_readAs 143 = .ok (.goto (-78), 3) := by decide +kernel
theorem dX12_readAs_146 : decode cX12_readAs 146 = .ok (.iload_n 3, 1) := by decide +kernel
theorem dX12_readAs_147 : decode cX12_readAs 147 = .ok (.ireturn, 1) := by decide +kernel
theorem dX12_of_0 : decode cX12_of 0 = .ok (.aload_n 0, 1) := by decide +kernel
theorem dX12_of_1 : decode cX12_of 1 = .ok (.iload_n 1, 1) := by decide +kernel
theorem dX12_of_2 : decode cX12_of 2 = .ok (.invokevirtual 154, 3) := by decide +kernel
theorem dX12_of_5 : decode cX12_of 5 = .ok (.ifCond .eq 13, 3) := by decide +kernel
theorem dX12_of_8 : decode cX12_of 8 = .ok (.iload_n 2, 1) := by decide +kernel
theorem dX12_of_9 : decode cX12_of 9 = .ok (.iconst 0, 1) := by decide +kernel
theorem dX12_of_10 : decode cX12_of 10 = .ok (.bipush 6, 2) := by decide +kernel
theorem dX12_of_12 : decode cX12_of 12 = .ok (.invokestatic 3, 3) := by decide +kernel
theorem dX12_of_15 : decode cX12_of 15 = .ok (.ifCond .ne 5, 3) := by decide +kernel
theorem dX12_of_18 : decode cX12_of 18 = .ok (.iconst (-1), 1) := by decide +kernel
theorem dX12_of_19 : decode cX12_of 19 = .ok (.ireturn, 1) := by decide +kernel
theorem dX12_of_20 : decode cX12_of 20 = .ok (.iload_n 2, 1) := by decide +kernel
theorem dX12_of_21 : decode cX12_of 21 = .ok (.iconst 2, 1) := by decide +kernel
theorem dX12_of_22 : decode cX12_of 22 = .ok (.if_icmp .ge 10, 3) := by decide +kernel
theorem dX12_of_25 : decode cX12_of 25 = .ok (.aload_n 0, 1) := by decide +kernel
theorem dX12_of_26 : decode cX12_of 26 = .ok (.iload_n 1, 1) := by decide +kernel
theorem dX12_of_27 : decode cX12_of 27 = .ok (.iload_n 2, 1) := by decide +kernel
theorem dX12_of_28 : decode cX12_of 28 = .ok (.invokevirtual 151, 3) := by decide +kernel
theorem dX12_of_31 : decode cX12_of 31 = .ok (.ireturn, 1) := by decide +kernel
theorem dX12_of_32 : decode cX12_of 32 = .ok (.iload_n 2, 1) := by decide +kernel
theorem dX12_of_33 : decode cX12_of 33 = .ok (.iconst 4, 1) := by decide +kernel
theorem dX12_of_34 : decode cX12_of 34 = .ok (.if_icmp .ge 12, 3) := by decide +kernel
theorem dX12_of_37 : decode cX12_of 37 = .ok (.aload_n 0, 1) := by decide +kernel
theorem dX12_of_38 : decode cX12_of 38 = .ok (.iload_n 1, 1) := by decide +kernel
theorem dX12_of_39 : decode cX12_of 39 = .ok (.iload_n 2, 1) := by decide +kernel
theorem dX12_of_40 : decode cX12_of 40 = .ok (.iconst 2, 1) := by decide +kernel
theorem dX12_of_41 : decode cX12_of 41 = .ok (.isub, 1) := by decide +kernel
theorem dX12_of_42 : decode cX12_of 42 = .ok (.invokevirtual 157, 3) := by decide +kernel
theorem dX12_of_45 : decode cX12_of 45 = .ok (.ireturn, 1) := by decide +kernel
theorem dX12_of_46 : decode cX12_of 46 = .ok (.iload_n 2, 1) := by decide +kernel
theorem dX12_of_47 : decode cX12_of 47 = .ok (.bipush 6, 2) := by decide +kernel
theorem dX12_of_49 : decode cX12_of 49 = .ok (.if_icmp .ne 13, 3) := by decide +kernel
theorem dX12_of_52 : decode cX12_of 52 = .ok (.aload_n 0, 1) := by decide +kernel
theorem dX12_of_53 : decode cX12_of 53 = .ok (.iload_n 1, 1) := by decide +kernel
theorem dX12_of_54 : decode cX12_of 54 = .ok (.bipush 7, 2) := by decide +kernel
theorem dX12_of_56 : decode cX12_of 56 = .ok (.invokevirtual 151, 3) := by decide +kernel
theorem dX12_of_59 : decode cX12_of 59 = .ok (.goto 9, 3) := by decide +kernel
theorem dX12_of_62 : decode cX12_of 62 = .ok (.aload_n 0, 1) := by decide +kernel
theorem dX12_of_63 : decode cX12_of 63 = .ok (.iload_n 1, 1) := by decide +kernel
theorem dX12_of_64 : decode cX12_of 64 = .ok (.iload_n 2, 1) := by decide +kernel
theorem dX12_of_65 : decode cX12_of 65 = .ok (.invokevirtual 151, 3) := by decide +kernel
theorem dX12_of_68 : decode cX12_of 68 = .ok (.ireturn, 1) := by decide +kernel
theorem dX12_leave_0 : decode cX12_leave 0 = .ok (.iload_n 2, 1) := by decide +kernel
theorem dX12_leave_1 : decode cX12_leave 1 = .ok (.iconst 0, 1) := by decide +kernel
theorem dX12_leave_2 : decode cX12_leave 2 = .ok (.iconst 1, 1) := by decide +kernel
theorem dX12_leave_3 : decode cX12_leave 3 = .ok (.invokestatic 3, 3) := by decide +kernel
theorem dX12_leave_6 : decode cX12_leave 6 = .ok (.ifCond .ne 9, 3) := by decide +kernel
theorem dX12_leave_9 : decode cX12_leave 9 = .ok (.aload_n 0, 1) := by decide +kernel
theorem dX12_leave_10 : decode cX12_leave 10 = .ok (.iconst (-1), 1) := by decide +kernel
theorem dX12_leave_11 : decode cX12_leave 11 = .ok (.invokevirtual 106, 3) := by decide +kernel
theorem dX12_leave_14 : decode cX12_leave 14 = .ok (.ireturn, 1) := by decide +kernel
theorem dX12_leave_15 : decode cX12_leave 15 = .ok (.aload_n 0, 1) := by decide +kernel
theorem dX12_leave_16 : decode cX12_leave 16 = .ok (.iload_n 1, 1) := by decide +kernel
theorem dX12_leave_17 : decode cX12_leave 17 = .ok (.invokevirtual 154, 3) := by decide +kernel
theorem dX12_leave_20 : decode cX12_leave 20 = .ok (.ifCond .ne 10, 3) := by decide +kernel
theorem dX12_leave_23 : decode cX12_leave 23 = .ok (.aload_n 0, 1) := by decide +kernel
theorem dX12_leave_24 : decode cX12_leave 24 = .ok (.bipush (-2), 2) := by decide +kernel
theorem dX12_leave_26 : decode cX12_leave 26 = .ok (.invokevirtual 106, 3) := by decide +kernel
theorem dX12_leave_29 : decode cX12_leave 29 = .ok (.ireturn, 1) := by decide +kernel
theorem dX12_leave_30 : decode cX12_leave 30 = .ok (.aload_n 0, 1) := by decide +kernel
theorem dX12_leave_31 : decode cX12_leave 31 = .ok (.getfield 17, 3) := by decide +kernel
theorem dX12_leave_34 : decode cX12_leave 34 = .ok (.sipush 503, 3) := by decide +kernel
theorem dX12_leave_37 : decode cX12_leave 37 = .ok (.bipush 9, 2) := by decide +kernel
theorem dX12_leave_39 : decode cX12_leave 39 = .ok (.iload_n 1, 1) := by decide +kernel
theorem dX12_leave_40 : decode cX12_leave 40 = .ok (.imul, 1) := by decide +kernel
theorem dX12_leave_41 : decode cX12_leave 41 = .ok (.iadd, 1) := by decide +kernel
theorem dX12_leave_42 : decode cX12_leave 42 = .ok (.bipush 7, 2) := by decide +kernel
theorem dX12_leave_44 : decode cX12_leave 44 = .ok (.iadd, 1) := by decide +kernel
theorem dX12_leave_45 : decode cX12_leave 45 = .ok (.iload_n 2, 1) := by decide +kernel
theorem dX12_leave_46 : decode cX12_leave 46 = .ok (.iastore, 1) := by decide +kernel
theorem dX12_leave_47 : decode cX12_leave 47 = .ok (.aload_n 0, 1) := by decide +kernel
theorem dX12_leave_48 : decode cX12_leave 48 = .ok (.iconst 0, 1) := by decide +kernel
theorem dX12_leave_49 : decode cX12_leave 49 = .ok (.invokevirtual 106, 3) := by decide +kernel
theorem dX12_leave_52 : decode cX12_leave 52 = .ok (.ireturn, 1) := by decide +kernel
theorem dX12_counting_0 : decode cX12_counting 0 = .ok (.iconst 0, 1) := by decide +kernel
theorem dX12_counting_1 : decode cX12_counting 1 = .ok (.istore_n 3, 1) := by decide +kernel
theorem dX12_counting_2 : decode cX12_counting 2 = .ok (.iconst 0, 1) := by decide +kernel
theorem dX12_counting_3 : decode cX12_counting 3 = .ok (.istore 4, 2) := by decide +kernel
theorem dX12_counting_5 : decode cX12_counting 5 = .ok (.iload 4, 2) := by decide +kernel
theorem dX12_counting_7 : decode cX12_counting 7 = .ok (.aload_n 0, 1) := by decide +kernel
theorem dX12_counting_8 : decode cX12_counting 8 = .ok (.iconst 3, 1) := by decide +kernel
theorem dX12_counting_9 : decode cX12_counting 9 = .ok (.invokevirtual 102, 3) := by decide +kernel
theorem dX12_counting_12 : decode cX12_counting 12 = .ok (.if_icmp .ge 60, 3) := by decide +kernel
theorem dX12_counting_15 : decode cX12_counting 15 = .ok (.aload_n 0, 1) := by decide +kernel
theorem dX12_counting_16 : decode cX12_counting 16 = .ok (.iload 4, 2) := by decide +kernel
theorem dX12_counting_18 : decode cX12_counting 18 = .ok (.iconst 0, 1) := by decide +kernel
theorem dX12_counting_19 : decode cX12_counting 19 = .ok (.invokevirtual 151, 3) := by decide +kernel
theorem dX12_counting_22 : decode cX12_counting 22 = .ok (.iload_n 1, 1) := by decide +kernel
theorem dX12_counting_23 : decode cX12_counting 23 = .ok (.if_icmp .ne 43, 3) := by decide +kernel
theorem dX12_counting_26 : decode cX12_counting 26 = .ok (.aload_n 0, 1) := by decide +kernel
theorem dX12_counting_27 : decode cX12_counting 27 = .ok (.iload 4, 2) := by decide +kernel
theorem dX12_counting_29 : decode cX12_counting 29 = .ok (.iconst 5, 1) := by decide +kernel
theorem dX12_counting_30 : decode cX12_counting 30 = .ok (.invokevirtual 151, 3) := by decide +kernel
theorem dX12_counting_33 : decode cX12_counting 33 = .ok (.iload_n 2, 1) := by decide +kernel
theorem dX12_counting_34 : decode cX12_counting 34 = .ok (.if_icmp .gt 32, 3) := by decide +kernel
theorem dX12_counting_37 : decode cX12_counting 37 = .ok (.aload_n 0, 1) := by decide +kernel
theorem dX12_counting_38 : decode cX12_counting 38 = .ok (.iload 4, 2) := by decide +kernel
theorem dX12_counting_40 : decode cX12_counting 40 = .ok (.bipush 7, 2) := by decide +kernel
theorem dX12_counting_42 : decode cX12_counting 42 = .ok (.invokevirtual 151, 3) := by decide +kernel
theorem dX12_counting_45 : decode cX12_counting 45 = .ok (.ifCond .ne 21, 3) := by decide +kernel
theorem dX12_counting_48 : decode cX12_counting 48 = .ok (.aload_n 0, 1) := by decide +kernel
theorem dX12_counting_49 : decode cX12_counting 49 = .ok (.iload 4, 2) := by decide +kernel
theorem dX12_counting_51 : decode cX12_counting 51 = .ok (.iconst 0, 1) := by decide +kernel
theorem dX12_counting_52 : decode cX12_counting 52 = .ok (.invokevirtual 157, 3) := by decide +kernel
theorem dX12_counting_55 : decode cX12_counting 55 = .ok (.iconst (-1), 1) := by decide +kernel
theorem dX12_counting_56 : decode cX12_counting 56 = .ok (.if_icmp .eq 10, 3) := by decide +kernel
theorem dX12_counting_59 : decode cX12_counting 59 = .ok (.iload_n 3, 1) := by decide +kernel
theorem dX12_counting_60 : decode cX12_counting 60 = .ok (.iconst 1, 1) := by decide +kernel
theorem dX12_counting_61 : decode cX12_counting 61 = .ok (.iload 4, 2) := by decide +kernel
theorem dX12_counting_63 : decode cX12_counting 63 = .ok (.ishl, 1) := by decide +kernel
theorem dX12_counting_64 : decode cX12_counting 64 = .ok (.ior, 1) := by decide +kernel
theorem dX12_counting_65 : decode cX12_counting 65 = .ok (.istore_n 3, 1) := by decide +kernel
theorem dX12_counting_66 : decode cX12_counting 66 = .ok (.iinc 4 1, 3) := by decide +kernel
theorem dX12_counting_69 : decode cX12_counting 69 = .ok (.goto (-64), 3) := by decide +kernel
theorem dX12_counting_72 : decode cX12_counting 72 = .ok (.iload_n 3, 1) := by decide +kernel
theorem dX12_counting_73 : decode cX12_counting 73 = .ok (.ireturn, 1) := by decide +kernel
theorem dX12_alone_0 : decode cX12_alone 0 = .ok (.aload_n 0, 1) := by decide +kernel
theorem dX12_alone_1 : decode cX12_alone 1 = .ok (.iload_n 1, 1) := by decide +kernel
theorem dX12_alone_2 : decode cX12_alone 2 = .ok (.iload_n 2, 1) := by decide +kernel
theorem dX12_alone_3 : decode cX12_alone 3 = .ok (.invokevirtual 116, 3) := by decide +kernel
theorem dX12_alone_6 : decode cX12_alone 6 = .ok (.istore 4, 2) := by decide +kernel
theorem dX12_alone_8 : decode cX12_alone 8 = .ok (.aload_n 0, 1) := by decide +kernel
theorem dX12_alone_9 : decode cX12_alone 9 = .ok (.iconst 0, 1) := by decide +kernel
theorem dX12_alone_10 : decode cX12_alone 10 = .ok (.putfield 160, 3) := by decide +kernel
theorem dX12_alone_13 : decode cX12_alone 13 = .ok (.aload_n 0, 1) := by decide +kernel
theorem dX12_alone_14 : decode cX12_alone 14 = .ok (.iload 4, 2) := by decide +kernel
theorem dX12_alone_16 : decode cX12_alone 16 = .ok (.iconst (-1), 1) := by decide +kernel
theorem dX12_alone_17 : decode cX12_alone 17 = .ok (.if_icmp .ne 9, 3) := by decide +kernel
theorem dX12_alone_20 : decode cX12_alone 20 = .ok (.sipush 1000, 3) := by decide +kernel
theorem dX12_alone_23 : decode cX12_alone 23 = .ok (.goto 5, 3) := by decide +kernel
theorem dX12_alone_26 : decode cX12_alone 26 = .ok (.iload 4, 2) := by decide +kernel
theorem dX12_alone_28 : decode cX12_alone 28 = .ok (.putfield 163, 3) := by decide +kernel
theorem dX12_alone_31 : decode cX12_alone 31 = .ok (.iconst 0, 1) := by decide +kernel
theorem dX12_alone_32 : decode cX12_alone 32 = .ok (.istore 5, 2) := by decide +kernel
theorem dX12_alone_34 : decode cX12_alone 34 = .ok (.iload 5, 2) := by decide +kernel
theorem dX12_alone_36 : decode cX12_alone 36 = .ok (.aload_n 0, 1) := by decide +kernel
theorem dX12_alone_37 : decode cX12_alone 37 = .ok (.iconst 3, 1) := by decide +kernel
theorem dX12_alone_38 : decode cX12_alone 38 = .ok (.invokevirtual 102, 3) := by decide +kernel
theorem dX12_alone_41 : decode cX12_alone 41 = .ok (.if_icmp .ge 94, 3) := by decide +kernel
theorem dX12_alone_44 : decode cX12_alone 44 = .ok (.iload_n 3, 1) := by decide +kernel
theorem dX12_alone_45 : decode cX12_alone 45 = .ok (.iload 5, 2) := by decide +kernel
theorem dX12_alone_47 : decode cX12_alone 47 = .ok (.ishr, 1) := by decide +kernel
theorem dX12_alone_48 : decode cX12_alone 48 = .ok (.iconst 1, 1) := by decide +kernel
theorem dX12_alone_49 : decode cX12_alone 49 = .ok (.iand, 1) := by decide +kernel
theorem dX12_alone_50 : decode cX12_alone 50 = .ok (.ifCond .eq 79, 3) := by decide +kernel
theorem dX12_alone_53 : decode cX12_alone 53 = .ok (.aload_n 0, 1) := by decide +kernel
theorem dX12_alone_54 : decode cX12_alone 54 = .ok (.iload 5, 2) := by decide +kernel
theorem dX12_alone_56 : decode cX12_alone 56 = .ok (.iconst 1, 1) := by decide +kernel
theorem dX12_alone_57 : decode cX12_alone 57 = .ok (.invokevirtual 151, 3) := by decide +kernel
theorem dX12_alone_60 : decode cX12_alone 60 = .ok (.iload_n 2, 1) := by decide +kernel
theorem dX12_alone_61 : decode cX12_alone 61 = .ok (.if_icmp .eq 6, 3) := by decide +kernel
theorem dX12_alone_64 : decode cX12_alone 64 = .ok (.goto 65, 3) := by decide +kernel
theorem dX12_alone_67 : decode cX12_alone 67 = .ok (.aload_n 0, 1) := by decide +kernel
theorem dX12_alone_68 : decode cX12_alone 68 = .ok (.iload 5, 2) := by decide +kernel
theorem dX12_alone_70 : decode cX12_alone 70 = .ok (.iconst 0, 1) := by decide +kernel
theorem dX12_alone_71 : decode cX12_alone 71 = .ok (.invokevirtual 157, 3) := by decide +kernel
theorem dX12_alone_74 : decode cX12_alone 74 = .ok (.istore 6, 2) := by decide +kernel
theorem dX12_alone_76 : decode cX12_alone 76 = .ok (.aload_n 0, 1) := by decide +kernel
theorem dX12_alone_77 : decode cX12_alone 77 = .ok (.iload 5, 2) := by decide +kernel
theorem dX12_alone_79 : decode cX12_alone 79 = .ok (.iconst 1, 1) := by decide +kernel
theorem dX12_alone_80 : decode cX12_alone 80 = .ok (.invokevirtual 157, 3) := by decide +kernel
theorem dX12_alone_83 : decode cX12_alone 83 = .ok (.istore 7, 2) := by decide +kernel
theorem dX12_alone_85 : decode cX12_alone 85 = .ok (.aload_n 0, 1) := by decide +kernel
theorem dX12_alone_86 : decode cX12_alone 86 = .ok (.iload 6, 2) := by decide +kernel
theorem dX12_alone_88 : decode cX12_alone 88 = .ok (.aload_n 0, 1) := by decide +kernel
theorem dX12_alone_89 : decode cX12_alone 89 = .ok (.getfield 160, 3) := by decide +kernel
theorem dX12_alone_92 : decode cX12_alone 92 = .ok (.if_icmp .le 8, 3) := by decide +kernel
theorem dX12_alone_95 : decode cX12_alone 95 = .ok (.iload 6, 2) := by decide +kernel
theorem dX12_alone_97 : decode cX12_alone 97 = .ok (.goto 7, 3) := by decide +kernel
theorem dX12_alone_100 : decode cX12_alone 100 = .ok (.aload_n 0, 1) := by decide +kernel
theorem dX12_alone_101 : decode cX12_alone 101 = .ok (.getfield 160, 3) := by decide +kernel
theorem dX12_alone_104 : decode cX12_alone 104 = .ok (.putfield 160, 3) := by decide +kernel
theorem dX12_alone_107 : decode cX12_alone 107 = .ok (.aload_n 0, 1) := by decide +kernel
theorem dX12_alone_108 : decode cX12_alone 108 = .ok (.iload 7, 2) := by decide +kernel
theorem dX12_alone_110 : decode cX12_alone 110 = .ok (.aload_n 0, 1) := by decide +kernel
theorem dX12_alone_111 : decode cX12_alone 111 = .ok (.getfield 163, 3) := by decide +kernel
theorem dX12_alone_114 : decode cX12_alone 114 = .ok (.if_icmp .ge 8, 3) := by decide +kernel
theorem dX12_alone_117 : decode cX12_alone 117 = .ok (.iload 7, 2) := by decide +kernel
theorem dX12_alone_119 : decode cX12_alone 119 = .ok (.goto 7, 3) := by decide +kernel
theorem dX12_alone_122 : decode cX12_alone 122 = .ok (.aload_n 0, 1) := by decide +kernel
theorem dX12_alone_123 : decode cX12_alone 123 = .ok (.getfield 163, 3) := by decide +kernel
theorem dX12_alone_126 : decode cX12_alone 126 = .ok (.putfield 163, 3) := by decide +kernel
theorem dX12_alone_129 : decode cX12_alone 129 = .ok (.iinc 5 1, 3) := by decide +kernel
theorem dX12_alone_132 : decode cX12_alone 132 = .ok (.goto (-98), 3) := by decide +kernel
theorem dX12_alone_135 : decode cX12_alone 135 = .ok (.return_, 1) := by decide +kernel
theorem dX12_meets_0 : decode cX12_meets 0 = .ok (.aload_n 0, 1) := by decide +kernel
theorem dX12_meets_1 : decode cX12_meets 1 = .ok (.iload_n 1, 1) := by decide +kernel
theorem dX12_meets_2 : decode cX12_meets 2 = .ok (.aload_n 0, 1) := by decide +kernel
theorem dX12_meets_3 : decode cX12_meets 3 = .ok (.getfield 160, 3) := by decide +kernel
theorem dX12_meets_6 : decode cX12_meets 6 = .ok (.if_icmp .le 7, 3) := by decide +kernel
theorem dX12_meets_9 : decode cX12_meets 9 = .ok (.iload_n 1, 1) := by decide +kernel
theorem dX12_meets_10 : decode cX12_meets 10 = .ok (.goto 7, 3) := by decide +kernel
theorem dX12_meets_13 : decode cX12_meets 13 = .ok (.aload_n 0, 1) := by decide +kernel
theorem dX12_meets_14 : decode cX12_meets 14 = .ok (.getfield 160, 3) := by decide +kernel
theorem dX12_meets_17 : decode cX12_meets 17 = .ok (.putfield 160, 3) := by decide +kernel
theorem dX12_meets_20 : decode cX12_meets 20 = .ok (.aload_n 0, 1) := by decide +kernel
theorem dX12_meets_21 : decode cX12_meets 21 = .ok (.iload_n 2, 1) := by decide +kernel
theorem dX12_meets_22 : decode cX12_meets 22 = .ok (.aload_n 0, 1) := by decide +kernel
theorem dX12_meets_23 : decode cX12_meets 23 = .ok (.getfield 163, 3) := by decide +kernel
theorem dX12_meets_26 : decode cX12_meets 26 = .ok (.if_icmp .ge 7, 3) := by decide +kernel
theorem dX12_meets_29 : decode cX12_meets 29 = .ok (.iload_n 2, 1) := by decide +kernel
theorem dX12_meets_30 : decode cX12_meets 30 = .ok (.goto 7, 3) := by decide +kernel
theorem dX12_meets_33 : decode cX12_meets 33 = .ok (.aload_n 0, 1) := by decide +kernel
theorem dX12_meets_34 : decode cX12_meets 34 = .ok (.getfield 163, 3) := by decide +kernel
theorem dX12_meets_37 : decode cX12_meets 37 = .ok (.putfield 163, 3) := by decide +kernel
theorem dX12_meets_40 : decode cX12_meets 40 = .ok (.return_, 1) := by decide +kernel
theorem dX12_spans_0 : decode cX12_spans 0 = .ok (.iconst 0, 1) := by decide +kernel
theorem dX12_spans_1 : decode cX12_spans 1 = .ok (.istore_n 3, 1) := by decide +kernel
theorem dX12_spans_2 : decode cX12_spans 2 = .ok (.iload_n 3, 1) := by decide +kernel
theorem dX12_spans_3 : decode cX12_spans 3 = .ok (.bipush 120, 2) := by decide +kernel
theorem dX12_spans_5 : decode cX12_spans 5 = .ok (.if_icmp .ge 103, 3) := by decide +kernel
theorem dX12_spans_8 : decode cX12_spans 8 = .ok (.aload_n 0, 1) := by decide +kernel
theorem dX12_spans_9 : decode cX12_spans 9 = .ok (.iload_n 1, 1) := by decide +kernel
theorem dX12_spans_10 : decode cX12_spans 10 = .ok (.iload_n 3, 1) := by decide +kernel
theorem dX12_spans_11 : decode cX12_spans 11 = .ok (.iload_n 2, 1) := by decide +kernel
theorem dX12_spans_12 : decode cX12_spans 12 = .ok (.invokevirtual 166, 3) := by decide +kernel
theorem dX12_spans_15 : decode cX12_spans 15 = .ok (.iload_n 3, 1) := by decide +kernel
theorem dX12_spans_16 : decode cX12_spans 16 = .ok (.ifCond .le 53, 3) := by decide +kernel
theorem dX12_spans_19 : decode cX12_spans 19 = .ok (.aload_n 0, 1) := by decide +kernel
theorem dX12_spans_20 : decode cX12_spans 20 = .ok (.iload_n 1, 1) := by decide +kernel
theorem dX12_spans_21 : decode cX12_spans 21 = .ok (.iload_n 3, 1) := by decide +kernel
theorem dX12_spans_22 : decode cX12_spans 22 = .ok (.invokevirtual 116, 3) := by decide +kernel
theorem dX12_spans_25 : decode cX12_spans 25 = .ok (.iconst (-1), 1) := by decide +kernel
theorem dX12_spans_26 : decode cX12_spans 26 = .ok (.if_icmp .ne 43, 3) := by decide +kernel
theorem dX12_spans_29 : decode cX12_spans 29 = .ok (.aload_n 0, 1) := by decide +kernel
theorem dX12_spans_30 : decode cX12_spans 30 = .ok (.aload_n 0, 1) := by decide +kernel
theorem dX12_spans_31 : decode cX12_spans 31 = .ok (.getfield 34, 3) := by decide +kernel
theorem dX12_spans_34 : decode cX12_spans 34 = .ok (.iload_n 3, 1) := by decide +kernel
theorem dX12_spans_35 : decode cX12_spans 35 = .ok (.iconst 1, 1) := by decide +kernel
theorem dX12_spans_36 : decode cX12_spans 36 = .ok (.isub, 1) := by decide +kernel
theorem dX12_spans_37 : decode cX12_spans 37 = .ok (.iaload, 1) := by decide +kernel
theorem dX12_spans_38 : decode cX12_spans 38 = .ok (.aload_n 0, 1) := by decide +kernel
theorem dX12_spans_39 : decode cX12_spans 39 = .ok (.iload_n 1, 1) := by decide +kernel
theorem dX12_spans_40 : decode cX12_spans 40 = .ok (.iload_n 3, 1) := by decide +kernel
theorem dX12_spans_41 : decode cX12_spans 41 = .ok (.iconst 1, 1) := by decide +kernel
theorem dX12_spans_42 : decode cX12_spans 42 = .ok (.isub, 1) := by decide +kernel
theorem dX12_spans_43 : decode cX12_spans 43 = .ok (.iconst 0, 1) := by decide +kernel
theorem dX12_spans_44 : decode cX12_spans 44 = .ok (.invokevirtual 137, 3) := by decide +kernel
theorem dX12_spans_47 : decode cX12_spans 47 = .ok (.iadd, 1) := by decide +kernel
theorem dX12_spans_48 : decode cX12_spans 48 = .ok (.aload_n 0, 1) := by decide +kernel
theorem dX12_spans_49 : decode cX12_spans 49 = .ok (.getfield 37, 3) := by decide +kernel
theorem dX12_spans_52 : decode cX12_spans 52 = .ok (.iload_n 3, 1) := by decide +kernel
theorem dX12_spans_53 : decode cX12_spans 53 = .ok (.iconst 1, 1) := by decide +kernel
theorem dX12_spans_54 : decode cX12_spans 54 = .ok (.isub, 1) := by decide +kernel
theorem dX12_spans_55 : decode cX12_spans 55 = .ok (.iaload, 1) := by decide +kernel
theorem dX12_spans_56 : decode cX12_spans 56 = .ok (.aload_n 0, 1) := by decide +kernel
theorem dX12_spans_57 : decode cX12_spans 57 = .ok (.iload_n 1, 1) := by decide +kernel
theorem dX12_spans_58 : decode cX12_spans 58 = .ok (.iload_n 3, 1) := by decide +kernel
theorem dX12_spans_59 : decode cX12_spans 59 = .ok (.iconst 1, 1) := by decide +kernel
theorem dX12_spans_60 : decode cX12_spans 60 = .ok (.isub, 1) := by decide +kernel
theorem dX12_spans_61 : decode cX12_spans 61 = .ok (.iconst 1, 1) := by decide +kernel
theorem dX12_spans_62 : decode cX12_spans 62 = .ok (.invokevirtual 137, 3) := by decide +kernel
theorem dX12_spans_65 : decode cX12_spans 65 = .ok (.iadd, 1) := by decide +kernel
theorem dX12_spans_66 : decode cX12_spans 66 = .ok (.invokevirtual 170, 3) := by decide +kernel
theorem dX12_spans_69 : decode cX12_spans 69 = .ok (.aload_n 0, 1) := by decide +kernel
theorem dX12_spans_70 : decode cX12_spans 70 = .ok (.getfield 160, 3) := by decide +kernel
theorem dX12_spans_73 : decode cX12_spans 73 = .ok (.aload_n 0, 1) := by decide +kernel
theorem dX12_spans_74 : decode cX12_spans 74 = .ok (.getfield 163, 3) := by decide +kernel
theorem dX12_spans_77 : decode cX12_spans 77 = .ok (.if_icmp .le 5, 3) := by decide +kernel
theorem dX12_spans_80 : decode cX12_spans 80 = .ok (.iconst 0, 1) := by decide +kernel
theorem dX12_spans_81 : decode cX12_spans 81 = .ok (.ireturn, 1) := by decide +kernel
theorem dX12_spans_82 : decode cX12_spans 82 = .ok (.aload_n 0, 1) := by decide +kernel
theorem dX12_spans_83 : decode cX12_spans 83 = .ok (.getfield 34, 3) := by decide +kernel
theorem dX12_spans_86 : decode cX12_spans 86 = .ok (.iload_n 3, 1) := by decide +kernel
theorem dX12_spans_87 : decode cX12_spans 87 = .ok (.aload_n 0, 1) := by decide +kernel
theorem dX12_spans_88 : decode cX12_spans 88 = .ok (.getfield 160, 3) := by decide +kernel
theorem dX12_spans_91 : decode cX12_spans 91 = .ok (.iastore, 1) := by decide +kernel
theorem dX12_spans_92 : decode cX12_spans 92 = .ok (.aload_n 0, 1) := by decide +kernel
theorem dX12_spans_93 : decode cX12_spans 93 = .ok (.getfield 37, 3) := by decide +kernel
theorem dX12_spans_96 : decode cX12_spans 96 = .ok (.iload_n 3, 1) := by decide +kernel
theorem dX12_spans_97 : decode cX12_spans 97 = .ok (.aload_n 0, 1) := by decide +kernel
theorem dX12_spans_98 : decode cX12_spans 98 = .ok (.getfield 163, 3) := by decide +kernel
theorem dX12_spans_101 : decode cX12_spans 101 = .ok (.iastore, 1) := by decide +kernel
theorem dX12_spans_102 : decode cX12_spans 102 = .ok (.iinc 3 1, 3) := by decide +kernel
theorem dX12_spans_105 : decode cX12_spans 105 = .ok (.goto (-103), 3) := by decide +kernel
theorem dX12_spans_108 : decode cX12_spans 108 = .ok (.bipush 119, 2) := by decide +kernel
theorem dX12_spans_110 : decode cX12_spans 110 = .ok (.istore_n 3, 1) := by decide +kernel
theorem dX12_spans_111 : decode cX12_spans 111 = .ok (.iload_n 3, 1) := by decide +kernel
theorem dX12_spans_112 : decode cX12_spans 112 = .ok (.ifCond .lt 103, 3) := by decide +kernel
theorem dX12_spans_115 : decode cX12_spans 115 = .ok (.aload_n 0, 1) := by decide +kernel
theorem dX12_spans_116 : decode cX12_spans 116 = .ok (.aload_n 0, 1) := by decide +kernel
theorem dX12_spans_117 : decode cX12_spans 117 = .ok (.getfield 34, 3) := by decide +kernel
theorem dX12_spans_120 : decode cX12_spans 120 = .ok (.iload_n 3, 1) := by decide +kernel
theorem dX12_spans_121 : decode cX12_spans 121 = .ok (.iaload, 1) := by decide +kernel
theorem dX12_spans_122 : decode cX12_spans 122 = .ok (.putfield 160, 3) := by decide +kernel
theorem dX12_spans_125 : decode cX12_spans 125 = .ok (.aload_n 0, 1) := by decide +kernel
theorem dX12_spans_126 : decode cX12_spans 126 = .ok (.aload_n 0, 1) := by decide +kernel
theorem dX12_spans_127 : decode cX12_spans 127 = .ok (.getfield 37, 3) := by decide +kernel
theorem dX12_spans_130 : decode cX12_spans 130 = .ok (.iload_n 3, 1) := by decide +kernel
theorem dX12_spans_131 : decode cX12_spans 131 = .ok (.iaload, 1) := by decide +kernel
theorem dX12_spans_132 : decode cX12_spans 132 = .ok (.putfield 163, 3) := by decide +kernel
theorem dX12_spans_135 : decode cX12_spans 135 = .ok (.iload_n 3, 1) := by decide +kernel
theorem dX12_spans_136 : decode cX12_spans 136 = .ok (.bipush 119, 2) := by decide +kernel
theorem dX12_spans_138 : decode cX12_spans 138 = .ok (.if_icmp .ge 51, 3) := by decide +kernel
theorem dX12_spans_141 : decode cX12_spans 141 = .ok (.aload_n 0, 1) := by decide +kernel
theorem dX12_spans_142 : decode cX12_spans 142 = .ok (.iload_n 1, 1) := by decide +kernel
theorem dX12_spans_143 : decode cX12_spans 143 = .ok (.iload_n 3, 1) := by decide +kernel
theorem dX12_spans_144 : decode cX12_spans 144 = .ok (.iconst 1, 1) := by decide +kernel
theorem dX12_spans_145 : decode cX12_spans 145 = .ok (.iadd, 1) := by decide +kernel
theorem dX12_spans_146 : decode cX12_spans 146 = .ok (.invokevirtual 116, 3) := by decide +kernel
theorem dX12_spans_149 : decode cX12_spans 149 = .ok (.iconst (-1), 1) := by decide +kernel
theorem dX12_spans_150 : decode cX12_spans 150 = .ok (.if_icmp .ne 39, 3) := by decide +kernel
theorem dX12_spans_153 : decode cX12_spans 153 = .ok (.aload_n 0, 1) := by decide +kernel
theorem dX12_spans_154 : decode cX12_spans 154 = .ok (.aload_n 0, 1) := by decide +kernel
theorem dX12_spans_155 : decode cX12_spans 155 = .ok (.getfield 28, 3) := by decide +kernel
theorem dX12_spans_158 : decode cX12_spans 158 = .ok (.iload_n 3, 1) := by decide +kernel
theorem dX12_spans_159 : decode cX12_spans 159 = .ok (.iconst 1, 1) := by decide +kernel
theorem dX12_spans_160 : decode cX12_spans 160 = .ok (.iadd, 1) := by decide +kernel
theorem dX12_spans_161 : decode cX12_spans 161 = .ok (.iaload, 1) := by decide +kernel
theorem dX12_spans_162 : decode cX12_spans 162 = .ok (.aload_n 0, 1) := by decide +kernel
theorem dX12_spans_163 : decode cX12_spans 163 = .ok (.iload_n 1, 1) := by decide +kernel
theorem dX12_spans_164 : decode cX12_spans 164 = .ok (.iload_n 3, 1) := by decide +kernel
theorem dX12_spans_165 : decode cX12_spans 165 = .ok (.iconst 1, 1) := by decide +kernel
theorem dX12_spans_166 : decode cX12_spans 166 = .ok (.invokevirtual 137, 3) := by decide +kernel
theorem dX12_spans_169 : decode cX12_spans 169 = .ok (.isub, 1) := by decide +kernel
theorem dX12_spans_170 : decode cX12_spans 170 = .ok (.aload_n 0, 1) := by decide +kernel
theorem dX12_spans_171 : decode cX12_spans 171 = .ok (.getfield 31, 3) := by decide +kernel
theorem dX12_spans_174 : decode cX12_spans 174 = .ok (.iload_n 3, 1) := by decide +kernel
theorem dX12_spans_175 : decode cX12_spans 175 = .ok (.iconst 1, 1) := by decide +kernel
theorem dX12_spans_176 : decode cX12_spans 176 = .ok (.iadd, 1) := by decide +kernel
theorem dX12_spans_177 : decode cX12_spans 177 = .ok (.iaload, 1) := by decide +kernel
theorem dX12_spans_178 : decode cX12_spans 178 = .ok (.aload_n 0, 1) := by decide +kernel
theorem dX12_spans_179 : decode cX12_spans 179 = .ok (.iload_n 1, 1) := by decide +kernel
theorem dX12_spans_180 : decode cX12_spans 180 = .ok (.iload_n 3, 1) := by decide +kernel
theorem dX12_spans_181 : decode cX12_spans 181 = .ok (.iconst 0, 1) := by decide +kernel
theorem dX12_spans_182 : decode cX12_spans 182 = .ok (.invokevirtual 137, 3) := by decide +kernel
theorem dX12_spans_185 : decode cX12_spans 185 = .ok (.isub, 1) := by decide +kernel
theorem dX12_spans_186 : decode cX12_spans 186 = .ok (.invokevirtual 170, 3) := by decide +kernel
theorem dX12_spans_189 : decode cX12_spans 189 = .ok (.aload_n 0, 1) := by decide +kernel
theorem dX12_spans_190 : decode cX12_spans 190 = .ok (.getfield 28, 3) := by decide +kernel
theorem dX12_spans_193 : decode cX12_spans 193 = .ok (.iload_n 3, 1) := by decide +kernel
theorem dX12_spans_194 : decode cX12_spans 194 = .ok (.aload_n 0, 1) := by decide +kernel
theorem dX12_spans_195 : decode cX12_spans 195 = .ok (.getfield 160, 3) := by decide +kernel
theorem dX12_spans_198 : decode cX12_spans 198 = .ok (.iastore, 1) := by decide +kernel
theorem dX12_spans_199 : decode cX12_spans 199 = .ok (.aload_n 0, 1) := by decide +kernel
theorem dX12_spans_200 : decode cX12_spans 200 = .ok (.getfield 31, 3) := by decide +kernel
theorem dX12_spans_203 : decode cX12_spans 203 = .ok (.iload_n 3, 1) := by decide +kernel
theorem dX12_spans_204 : decode cX12_spans 204 = .ok (.aload_n 0, 1) := by decide +kernel
theorem dX12_spans_205 : decode cX12_spans 205 = .ok (.getfield 163, 3) := by decide +kernel
theorem dX12_spans_208 : decode cX12_spans 208 = .ok (.iastore, 1) := by decide +kernel
theorem dX12_spans_209 : decode cX12_spans 209 = .ok (.iinc 3 (-1), 3) := by decide +kernel
theorem dX12_spans_212 : decode cX12_spans 212 = .ok (.goto (-101), 3) := by decide +kernel
theorem dX12_spans_215 : decode cX12_spans 215 = .ok (.iconst 1, 1) := by decide +kernel
theorem dX12_spans_216 : decode cX12_spans 216 = .ok (.ireturn, 1) := by decide +kernel
theorem dX12_isAsked_0 : decode cX12_isAsked 0 = .ok (.aload_n 0, 1) := by decide +kernel
theorem dX12_isAsked_1 : decode cX12_isAsked 1 = .ok (.iload_n 1, 1) := by decide +kernel
theorem dX12_isAsked_2 : decode cX12_isAsked 2 = .ok (.invokevirtual 113, 3) := by decide +kernel
theorem dX12_isAsked_5 : decode cX12_isAsked 5 = .ok (.ifCond .eq 21, 3) := by decide +kernel
theorem dX12_isAsked_8 : decode cX12_isAsked 8 = .ok (.iload_n 2, 1) := by decide +kernel
theorem dX12_isAsked_9 : decode cX12_isAsked 9 = .ok (.invokestatic 109, 3) := by decide +kernel
theorem dX12_isAsked_12 : decode cX12_isAsked 12 = .ok (.ifCond .eq 14, 3) := by decide +kernel
theorem dX12_isAsked_15 : decode cX12_isAsked 15 = .ok (.iload_n 3, 1) := by decide +kernel
theorem dX12_isAsked_16 : decode cX12_isAsked 16 = .ok (.invokestatic 109, 3) := by decide +kernel
theorem dX12_isAsked_19 : decode cX12_isAsked 19 = .ok (.ifCond .eq 7, 3) := by decide +kernel
theorem dX12_isAsked_22 : decode cX12_isAsked 22 = .ok (.iconst 1, 1) := by decide +kernel
theorem dX12_isAsked_23 : decode cX12_isAsked 23 = .ok (.goto 4, 3) := by decide +kernel
theorem dX12_isAsked_26 : decode cX12_isAsked 26 = .ok (.iconst 0, 1) := by decide +kernel
theorem dX12_isAsked_27 : decode cX12_isAsked 27 = .ok (.ireturn, 1) := by decide +kernel
theorem dX12_endOf_0 : decode cX12_endOf 0 = .ok (.iload_n 2, 1) := by decide +kernel
theorem dX12_endOf_1 : decode cX12_endOf 1 = .ok (.ifCond .ne 12, 3) := by decide +kernel
theorem dX12_endOf_4 : decode cX12_endOf 4 = .ok (.aload_n 0, 1) := by decide +kernel
theorem dX12_endOf_5 : decode cX12_endOf 5 = .ok (.getfield 28, 3) := by decide +kernel
theorem dX12_endOf_8 : decode cX12_endOf 8 = .ok (.iload_n 1, 1) := by decide +kernel
theorem dX12_endOf_9 : decode cX12_endOf 9 = .ok (.iaload, 1) := by decide +kernel
theorem dX12_endOf_10 : decode cX12_endOf 10 = .ok (.goto 9, 3) := by decide +kernel
theorem dX12_endOf_13 : decode cX12_endOf 13 = .ok (.aload_n 0, 1) := by decide +kernel
theorem dX12_endOf_14 : decode cX12_endOf 14 = .ok (.getfield 31, 3) := by decide +kernel
theorem dX12_endOf_17 : decode cX12_endOf 17 = .ok (.iload_n 1, 1) := by decide +kernel
theorem dX12_endOf_18 : decode cX12_endOf 18 = .ok (.iaload, 1) := by decide +kernel
theorem dX12_endOf_19 : decode cX12_endOf 19 = .ok (.ireturn, 1) := by decide +kernel
theorem dX12_span_0 : decode cX12_span 0 = .ok (.aload_n 0, 1) := by decide +kernel
theorem dX12_span_1 : decode cX12_span 1 = .ok (.iload_n 1, 1) := by decide +kernel
theorem dX12_span_2 : decode cX12_span 2 = .ok (.iload_n 2, 1) := by decide +kernel
theorem dX12_span_3 : decode cX12_span 3 = .ok (.iload_n 3, 1) := by decide +kernel
theorem dX12_span_4 : decode cX12_span 4 = .ok (.invokevirtual 174, 3) := by decide +kernel
theorem dX12_span_7 : decode cX12_span 7 = .ok (.ifCond .eq 37, 3) := by decide +kernel
theorem dX12_span_10 : decode cX12_span 10 = .ok (.iload 4, 2) := by decide +kernel
theorem dX12_span_12 : decode cX12_span 12 = .ok (.iconst 0, 1) := by decide +kernel
theorem dX12_span_13 : decode cX12_span 13 = .ok (.iconst 1, 1) := by decide +kernel
theorem dX12_span_14 : decode cX12_span 14 = .ok (.invokestatic 3, 3) := by decide +kernel
theorem dX12_span_17 : decode cX12_span 17 = .ok (.ifCond .eq 27, 3) := by decide +kernel
theorem dX12_span_20 : decode cX12_span 20 = .ok (.aload_n 0, 1) := by decide +kernel
theorem dX12_span_21 : decode cX12_span 21 = .ok (.iload_n 1, 1) := by decide +kernel
theorem dX12_span_22 : decode cX12_span 22 = .ok (.aload_n 0, 1) := by decide +kernel
theorem dX12_span_23 : decode cX12_span 23 = .ok (.iload_n 1, 1) := by decide +kernel
theorem dX12_span_24 : decode cX12_span 24 = .ok (.iload_n 3, 1) := by decide +kernel
theorem dX12_span_25 : decode cX12_span 25 = .ok (.invokevirtual 177, 3) := by decide +kernel
theorem dX12_span_28 : decode cX12_span 28 = .ok (.invokevirtual 180, 3) := by decide +kernel
theorem dX12_span_31 : decode cX12_span 31 = .ok (.ifCond .eq 13, 3) := by decide +kernel
theorem dX12_span_34 : decode cX12_span 34 = .ok (.aload_n 0, 1) := by decide +kernel
theorem dX12_span_35 : decode cX12_span 35 = .ok (.iload_n 2, 1) := by decide +kernel
theorem dX12_span_36 : decode cX12_span 36 = .ok (.iload 4, 2) := by decide +kernel
theorem dX12_span_38 : decode cX12_span 38 = .ok (.invokevirtual 184, 3) := by decide +kernel
theorem dX12_span_41 : decode cX12_span 41 = .ok (.goto 4, 3) := by decide +kernel
theorem dX12_span_44 : decode cX12_span 44 = .ok (.iconst (-1), 1) := by decide +kernel
theorem dX12_span_45 : decode cX12_span 45 = .ok (.ireturn, 1) := by decide +kernel
theorem dX12_why_0 : decode cX12_why 0 = .ok (.aload_n 0, 1) := by decide +kernel
theorem dX12_why_1 : decode cX12_why 1 = .ok (.iload_n 1, 1) := by decide +kernel
theorem dX12_why_2 : decode cX12_why 2 = .ok (.iload_n 2, 1) := by decide +kernel
theorem dX12_why_3 : decode cX12_why 3 = .ok (.iload_n 3, 1) := by decide +kernel
theorem dX12_why_4 : decode cX12_why 4 = .ok (.invokevirtual 174, 3) := by decide +kernel
theorem dX12_why_7 : decode cX12_why 7 = .ok (.ifCond .eq 13, 3) := by decide +kernel
theorem dX12_why_10 : decode cX12_why 10 = .ok (.iload 4, 2) := by decide +kernel
theorem dX12_why_12 : decode cX12_why 12 = .ok (.iconst 0, 1) := by decide +kernel
theorem dX12_why_13 : decode cX12_why 13 = .ok (.iconst 1, 1) := by decide +kernel
theorem dX12_why_14 : decode cX12_why 14 = .ok (.invokestatic 3, 3) := by decide +kernel
theorem dX12_why_17 : decode cX12_why 17 = .ok (.ifCond .ne 5, 3) := by decide +kernel
theorem dX12_why_20 : decode cX12_why 20 = .ok (.iconst (-1), 1) := by decide +kernel
theorem dX12_why_21 : decode cX12_why 21 = .ok (.ireturn, 1) := by decide +kernel
theorem dX12_why_22 : decode cX12_why 22 = .ok (.aload_n 0, 1) := by decide +kernel
theorem dX12_why_23 : decode cX12_why 23 = .ok (.iload_n 1, 1) := by decide +kernel
theorem dX12_why_24 : decode cX12_why 24 = .ok (.iload_n 3, 1) := by decide +kernel
theorem dX12_why_25 : decode cX12_why 25 = .ok (.invokevirtual 177, 3) := by decide +kernel
theorem dX12_why_28 : decode cX12_why 28 = .ok (.istore 5, 2) := by decide +kernel
theorem dX12_why_30 : decode cX12_why 30 = .ok (.aload_n 0, 1) := by decide +kernel
theorem dX12_why_31 : decode cX12_why 31 = .ok (.iload_n 1, 1) := by decide +kernel
theorem dX12_why_32 : decode cX12_why 32 = .ok (.iload 5, 2) := by decide +kernel
theorem dX12_why_34 : decode cX12_why 34 = .ok (.invokevirtual 180, 3) := by decide +kernel
theorem dX12_why_37 : decode cX12_why 37 = .ok (.ifCond .ne 5, 3) := by decide +kernel
theorem dX12_why_40 : decode cX12_why 40 = .ok (.iconst (-1), 1) := by decide +kernel
theorem dX12_why_41 : decode cX12_why 41 = .ok (.ireturn, 1) := by decide +kernel
theorem dX12_why_42 : decode cX12_why 42 = .ok (.aload_n 0, 1) := by decide +kernel
theorem dX12_why_43 : decode cX12_why 43 = .ok (.iload_n 2, 1) := by decide +kernel
theorem dX12_why_44 : decode cX12_why 44 = .ok (.iload 4, 2) := by decide +kernel
theorem dX12_why_46 : decode cX12_why 46 = .ok (.invokevirtual 184, 3) := by decide +kernel
theorem dX12_why_49 : decode cX12_why 49 = .ok (.istore 6, 2) := by decide +kernel
theorem dX12_why_51 : decode cX12_why 51 = .ok (.aload_n 0, 1) := by decide +kernel
theorem dX12_why_52 : decode cX12_why 52 = .ok (.iload_n 1, 1) := by decide +kernel
theorem dX12_why_53 : decode cX12_why 53 = .ok (.iconst 0, 1) := by decide +kernel
theorem dX12_why_54 : decode cX12_why 54 = .ok (.invokevirtual 180, 3) := by decide +kernel
theorem dX12_why_57 : decode cX12_why 57 = .ok (.ifCond .eq 17, 3) := by decide +kernel
theorem dX12_why_60 : decode cX12_why 60 = .ok (.aload_n 0, 1) := by decide +kernel
theorem dX12_why_61 : decode cX12_why 61 = .ok (.iload_n 2, 1) := by decide +kernel
theorem dX12_why_62 : decode cX12_why 62 = .ok (.iload 4, 2) := by decide +kernel
theorem dX12_why_64 : decode cX12_why 64 = .ok (.invokevirtual 184, 3) := by decide +kernel
theorem dX12_why_67 : decode cX12_why 67 = .ok (.iload 6, 2) := by decide +kernel
theorem dX12_why_69 : decode cX12_why 69 = .ok (.if_icmp .ne 5, 3) := by decide +kernel
theorem dX12_why_72 : decode cX12_why 72 = .ok (.iconst (-1), 1) := by decide +kernel
theorem dX12_why_73 : decode cX12_why 73 = .ok (.ireturn, 1) := by decide +kernel
theorem dX12_why_74 : decode cX12_why 74 = .ok (.iconst 0, 1) := by decide +kernel
theorem dX12_why_75 : decode cX12_why 75 = .ok (.istore 7, 2) := by decide +kernel
theorem dX12_why_77 : decode cX12_why 77 = .ok (.iload 7, 2) := by decide +kernel
theorem dX12_why_79 : decode cX12_why 79 = .ok (.bipush 24, 2) := by decide +kernel
theorem dX12_why_81 : decode cX12_why 81 = .ok (.if_icmp .ge 47, 3) := by decide +kernel
theorem dX12_why_84 : decode cX12_why 84 = .ok (.iload 5, 2) := by decide +kernel
theorem dX12_why_86 : decode cX12_why 86 = .ok (.iload 7, 2) := by decide +kernel
theorem dX12_why_88 : decode cX12_why 88 = .ok (.ishr, 1) := by decide +kernel
theorem dX12_why_89 : decode cX12_why 89 = .ok (.iconst 1, 1) := by decide +kernel
theorem dX12_why_90 : decode cX12_why 90 = .ok (.iand, 1) := by decide +kernel
theorem dX12_why_91 : decode cX12_why 91 = .ok (.iconst 1, 1) := by decide +kernel
theorem dX12_why_92 : decode cX12_why 92 = .ok (.if_icmp .ne 30, 3) := by decide +kernel
theorem dX12_why_95 : decode cX12_why 95 = .ok (.aload_n 0, 1) := by decide +kernel
theorem dX12_why_96 : decode cX12_why 96 = .ok (.iload_n 1, 1) := by decide +kernel
theorem dX12_why_97 : decode cX12_why 97 = .ok (.iconst 1, 1) := by decide +kernel
theorem dX12_why_98 : decode cX12_why 98 = .ok (.iload 7, 2) := by decide +kernel
theorem dX12_why_100 : decode cX12_why 100 = .ok (.ishl, 1) := by decide +kernel
theorem dX12_why_101 : decode cX12_why 101 = .ok (.invokevirtual 180, 3) := by decide +kernel
theorem dX12_why_104 : decode cX12_why 104 = .ok (.ifCond .eq 18, 3) := by decide +kernel
theorem dX12_why_107 : decode cX12_why 107 = .ok (.aload_n 0, 1) := by decide +kernel
theorem dX12_why_108 : decode cX12_why 108 = .ok (.iload_n 2, 1) := by decide +kernel
theorem dX12_why_109 : decode cX12_why 109 = .ok (.iload 4, 2) := by decide +kernel
theorem dX12_why_111 : decode cX12_why 111 = .ok (.invokevirtual 184, 3) := by decide +kernel
theorem dX12_why_114 : decode cX12_why 114 = .ok (.iload 6, 2) := by decide +kernel
theorem dX12_why_116 : decode cX12_why 116 = .ok (.if_icmp .ne 6, 3) := by decide +kernel
theorem dX12_why_119 : decode cX12_why 119 = .ok (.iload 7, 2) := by decide +kernel
theorem dX12_why_121 : decode cX12_why 121 = .ok (.ireturn, 1) := by decide +kernel
theorem dX12_why_122 : decode cX12_why 122 = .ok (.iinc 7 1, 3) := by decide +kernel
theorem dX12_why_125 : decode cX12_why 125 = .ok (.goto (-48), 3) := by decide +kernel
theorem dX12_why_128 : decode cX12_why 128 = .ok (.iconst (-1), 1) := by decide +kernel
theorem dX12_why_129 : decode cX12_why 129 = .ok (.ireturn, 1) := by decide +kernel
theorem dX12_lost_0 : decode cX12_lost 0 = .ok (.aload_n 0, 1) := by decide +kernel
theorem dX12_lost_1 : decode cX12_lost 1 = .ok (.iload_n 1, 1) := by decide +kernel
theorem dX12_lost_2 : decode cX12_lost 2 = .ok (.iload_n 2, 1) := by decide +kernel
theorem dX12_lost_3 : decode cX12_lost 3 = .ok (.iload 4, 2) := by decide +kernel
theorem dX12_lost_5 : decode cX12_lost 5 = .ok (.invokevirtual 174, 3) := by decide +kernel
theorem dX12_lost_8 : decode cX12_lost 8 = .ok (.ifCond .eq 38, 3) := by decide +kernel
theorem dX12_lost_11 : decode cX12_lost 11 = .ok (.iload_n 3, 1) := by decide +kernel
theorem dX12_lost_12 : decode cX12_lost 12 = .ok (.iload_n 2, 1) := by decide +kernel
theorem dX12_lost_13 : decode cX12_lost 13 = .ok (.bipush 119, 2) := by decide +kernel
theorem dX12_lost_15 : decode cX12_lost 15 = .ok (.invokestatic 3, 3) := by decide +kernel
theorem dX12_lost_18 : decode cX12_lost 18 = .ok (.ifCond .eq 28, 3) := by decide +kernel
theorem dX12_lost_21 : decode cX12_lost 21 = .ok (.iload 5, 2) := by decide +kernel
theorem dX12_lost_23 : decode cX12_lost 23 = .ok (.iconst 0, 1) := by decide +kernel
theorem dX12_lost_24 : decode cX12_lost 24 = .ok (.iconst 1, 1) := by decide +kernel
theorem dX12_lost_25 : decode cX12_lost 25 = .ok (.invokestatic 3, 3) := by decide +kernel
theorem dX12_lost_28 : decode cX12_lost 28 = .ok (.ifCond .eq 18, 3) := by decide +kernel
theorem dX12_lost_31 : decode cX12_lost 31 = .ok (.aload_n 0, 1) := by decide +kernel
theorem dX12_lost_32 : decode cX12_lost 32 = .ok (.iload_n 1, 1) := by decide +kernel
theorem dX12_lost_33 : decode cX12_lost 33 = .ok (.aload_n 0, 1) := by decide +kernel
theorem dX12_lost_34 : decode cX12_lost 34 = .ok (.iload_n 1, 1) := by decide +kernel
theorem dX12_lost_35 : decode cX12_lost 35 = .ok (.iload 4, 2) := by decide +kernel
theorem dX12_lost_37 : decode cX12_lost 37 = .ok (.invokevirtual 177, 3) := by decide +kernel
theorem dX12_lost_40 : decode cX12_lost 40 = .ok (.invokevirtual 180, 3) := by decide +kernel
theorem dX12_lost_43 : decode cX12_lost 43 = .ok (.ifCond .ne 7, 3) := by decide +kernel
theorem dX12_lost_46 : decode cX12_lost 46 = .ok (.ldc2_w 187, 3) := by decide +kernel
theorem dX12_lost_49 : decode cX12_lost 49 = .ok (.lreturn, 1) := by decide +kernel
theorem dX12_lost_50 : decode cX12_lost 50 = .ok (.lconst 0, 1) := by decide +kernel
theorem dX12_lost_51 : decode cX12_lost 51 = .ok (.lstore 6, 2) := by decide +kernel
theorem dX12_lost_53 : decode cX12_lost 53 = .ok (.iload_n 2, 1) := by decide +kernel
theorem dX12_lost_54 : decode cX12_lost 54 = .ok (.istore 8, 2) := by decide +kernel
theorem dX12_lost_56 : decode cX12_lost 56 = .ok (.iload 8, 2) := by decide +kernel
theorem dX12_lost_58 : decode cX12_lost 58 = .ok (.iload_n 3, 1) := by decide +kernel
theorem dX12_lost_59 : decode cX12_lost 59 = .ok (.if_icmp .gt 30, 3) := by decide +kernel
theorem dX12_lost_62 : decode cX12_lost 62 = .ok (.lload 6, 2) := by decide +kernel
theorem dX12_lost_64 : decode cX12_lost 64 = .ok (.aload_n 0, 1) := by decide +kernel
theorem dX12_lost_65 : decode cX12_lost 65 = .ok (.iload_n 1, 1) := by decide +kernel
theorem dX12_lost_66 : decode cX12_lost 66 = .ok (.iload 8, 2) := by decide +kernel
theorem dX12_lost_68 : decode cX12_lost 68 = .ok (.aload_n 0, 1) := by decide +kernel
theorem dX12_lost_69 : decode cX12_lost 69 = .ok (.iload 8, 2) := by decide +kernel
theorem dX12_lost_71 : decode cX12_lost 71 = .ok (.iload 5, 2) := by decide +kernel
theorem dX12_lost_73 : decode cX12_lost 73 = .ok (.invokevirtual 184, 3) := by decide +kernel
theorem dX12_lost_76 : decode cX12_lost 76 = .ok (.invokevirtual 189, 3) := by decide +kernel
theorem dX12_lost_79 : decode cX12_lost 79 = .ok (.i2l, 1) := by decide +kernel
theorem dX12_lost_80 : decode cX12_lost 80 = .ok (.ladd, 1) := by decide +kernel
theorem dX12_lost_81 : decode cX12_lost 81 = .ok (.lstore 6, 2) := by decide +kernel
theorem dX12_lost_83 : decode cX12_lost 83 = .ok (.iinc 8 1, 3) := by decide +kernel
theorem dX12_lost_86 : decode cX12_lost 86 = .ok (.goto (-30), 3) := by decide +kernel
theorem dX12_lost_89 : decode cX12_lost 89 = .ok (.lload 6, 2) := by decide +kernel
theorem dX12_lost_91 : decode cX12_lost 91 = .ok (.lreturn, 1) := by decide +kernel
theorem dX12_widest_0 : decode cX12_widest 0 = .ok (.aload_n 0, 1) := by decide +kernel
theorem dX12_widest_1 : decode cX12_widest 1 = .ok (.iload_n 1, 1) := by decide +kernel
theorem dX12_widest_2 : decode cX12_widest 2 = .ok (.iload_n 2, 1) := by decide +kernel
theorem dX12_widest_3 : decode cX12_widest 3 = .ok (.iload 4, 2) := by decide +kernel
theorem dX12_widest_5 : decode cX12_widest 5 = .ok (.invokevirtual 174, 3) := by decide +kernel
theorem dX12_widest_8 : decode cX12_widest 8 = .ok (.ifCond .eq 28, 3) := by decide +kernel
theorem dX12_widest_11 : decode cX12_widest 11 = .ok (.iload_n 3, 1) := by decide +kernel
theorem dX12_widest_12 : decode cX12_widest 12 = .ok (.iload_n 2, 1) := by decide +kernel
theorem dX12_widest_13 : decode cX12_widest 13 = .ok (.bipush 119, 2) := by decide +kernel
theorem dX12_widest_15 : decode cX12_widest 15 = .ok (.invokestatic 3, 3) := by decide +kernel
theorem dX12_widest_18 : decode cX12_widest 18 = .ok (.ifCond .eq 18, 3) := by decide +kernel
theorem dX12_widest_21 : decode cX12_widest 21 = .ok (.aload_n 0, 1) := by decide +kernel
theorem dX12_widest_22 : decode cX12_widest 22 = .ok (.iload_n 1, 1) := by decide +kernel
theorem dX12_widest_23 : decode cX12_widest 23 = .ok (.aload_n 0, 1) := by decide +kernel
theorem dX12_widest_24 : decode cX12_widest 24 = .ok (.iload_n 1, 1) := by decide +kernel
theorem dX12_widest_25 : decode cX12_widest 25 = .ok (.iload 4, 2) := by decide +kernel
theorem dX12_widest_27 : decode cX12_widest 27 = .ok (.invokevirtual 177, 3) := by decide +kernel
theorem dX12_widest_30 : decode cX12_widest 30 = .ok (.invokevirtual 180, 3) := by decide +kernel
theorem dX12_widest_33 : decode cX12_widest 33 = .ok (.ifCond .ne 5, 3) := by decide +kernel
theorem dX12_widest_36 : decode cX12_widest 36 = .ok (.iconst (-1), 1) := by decide +kernel
theorem dX12_widest_37 : decode cX12_widest 37 = .ok (.ireturn, 1) := by decide +kernel
theorem dX12_widest_38 : decode cX12_widest 38 = .ok (.iload_n 2, 1) := by decide +kernel
theorem dX12_widest_39 : decode cX12_widest 39 = .ok (.istore 5, 2) := by decide +kernel
theorem dX12_widest_41 : decode cX12_widest 41 = .ok (.iload_n 2, 1) := by decide +kernel
theorem dX12_widest_42 : decode cX12_widest 42 = .ok (.istore 6, 2) := by decide +kernel
theorem dX12_widest_44 : decode cX12_widest 44 = .ok (.iload 6, 2) := by decide +kernel
theorem dX12_widest_46 : decode cX12_widest 46 = .ok (.iload_n 3, 1) := by decide +kernel
theorem dX12_widest_47 : decode cX12_widest 47 = .ok (.if_icmp .gt 46, 3) := by decide +kernel
theorem dX12_widest_50 : decode cX12_widest 50 = .ok (.aload_n 0, 1) := by decide +kernel
theorem dX12_widest_51 : decode cX12_widest 51 = .ok (.getfield 31, 3) := by decide +kernel
theorem dX12_widest_54 : decode cX12_widest 54 = .ok (.iload 6, 2) := by decide +kernel
theorem dX12_widest_56 : decode cX12_widest 56 = .ok (.iaload, 1) := by decide +kernel
theorem dX12_widest_57 : decode cX12_widest 57 = .ok (.aload_n 0, 1) := by decide +kernel
theorem dX12_widest_58 : decode cX12_widest 58 = .ok (.getfield 28, 3) := by decide +kernel
theorem dX12_widest_61 : decode cX12_widest 61 = .ok (.iload 6, 2) := by decide +kernel
theorem dX12_widest_63 : decode cX12_widest 63 = .ok (.iaload, 1) := by decide +kernel
theorem dX12_widest_64 : decode cX12_widest 64 = .ok (.isub, 1) := by decide +kernel
theorem dX12_widest_65 : decode cX12_widest 65 = .ok (.aload_n 0, 1) := by decide +kernel
theorem dX12_widest_66 : decode cX12_widest 66 = .ok (.getfield 31, 3) := by decide +kernel
theorem dX12_widest_69 : decode cX12_widest 69 = .ok (.iload 5, 2) := by decide +kernel
theorem dX12_widest_71 : decode cX12_widest 71 = .ok (.iaload, 1) := by decide +kernel
theorem dX12_widest_72 : decode cX12_widest 72 = .ok (.aload_n 0, 1) := by decide +kernel
theorem dX12_widest_73 : decode cX12_widest 73 = .ok (.getfield 28, 3) := by decide +kernel
theorem dX12_widest_76 : decode cX12_widest 76 = .ok (.iload 5, 2) := by decide +kernel
theorem dX12_widest_78 : decode cX12_widest 78 = .ok (.iaload, 1) := by decide +kernel
theorem dX12_widest_79 : decode cX12_widest 79 = .ok (.isub, 1) := by decide +kernel
theorem dX12_widest_80 : decode cX12_widest 80 = .ok (.if_icmp .le 7, 3) := by decide +kernel
theorem dX12_widest_83 : decode cX12_widest 83 = .ok (.iload 6, 2) := by decide +kernel
theorem dX12_widest_85 : decode cX12_widest 85 = .ok (.istore 5, 2) := by decide +kernel
theorem dX12_widest_87 : decode cX12_widest 87 = .ok (.iinc 6 1, 3) := by decide +kernel
theorem dX12_widest_90 : decode cX12_widest 90 = .ok (.goto (-46), 3) := by decide +kernel
theorem dX12_widest_93 : decode cX12_widest 93 = .ok (.iload 5, 2) := by decide +kernel
theorem dX12_widest_95 : decode cX12_widest 95 = .ok (.ireturn, 1) := by decide +kernel
theorem dX12_quarrel0_0 : decode cX12_quarrel0 0 = .ok (.aload_n 0, 1) := by decide +kernel
theorem dX12_quarrel0_1 : decode cX12_quarrel0 1 = .ok (.iload_n 1, 1) := by decide +kernel
theorem dX12_quarrel0_2 : decode cX12_quarrel0 2 = .ok (.iconst 0, 1) := by decide +kernel
theorem dX12_quarrel0_3 : decode cX12_quarrel0 3 = .ok (.invokevirtual 151, 3) := by decide +kernel
theorem dX12_quarrel0_6 : decode cX12_quarrel0 6 = .ok (.aload_n 0, 1) := by decide +kernel
theorem dX12_quarrel0_7 : decode cX12_quarrel0 7 = .ok (.iload_n 2, 1) := by decide +kernel
theorem dX12_quarrel0_8 : decode cX12_quarrel0 8 = .ok (.iconst 0, 1) := by decide +kernel
theorem dX12_quarrel0_9 : decode cX12_quarrel0 9 = .ok (.invokevirtual 151, 3) := by decide +kernel
theorem dX12_quarrel0_12 : decode cX12_quarrel0 12 = .ok (.if_icmp .ne 27, 3) := by decide +kernel
theorem dX12_quarrel0_15 : decode cX12_quarrel0 15 = .ok (.aload_n 0, 1) := by decide +kernel
theorem dX12_quarrel0_16 : decode cX12_quarrel0 16 = .ok (.aload_n 0, 1) := by decide +kernel
theorem dX12_quarrel0_17 : decode cX12_quarrel0 17 = .ok (.iload_n 1, 1) := by decide +kernel
theorem dX12_quarrel0_18 : decode cX12_quarrel0 18 = .ok (.iconst 0, 1) := by decide +kernel
theorem dX12_quarrel0_19 : decode cX12_quarrel0 19 = .ok (.invokevirtual 151, 3) := by decide +kernel
theorem dX12_quarrel0_22 : decode cX12_quarrel0 22 = .ok (.iconst 1, 1) := by decide +kernel
theorem dX12_quarrel0_23 : decode cX12_quarrel0 23 = .ok (.iload_n 1, 1) := by decide +kernel
theorem dX12_quarrel0_24 : decode cX12_quarrel0 24 = .ok (.ishl, 1) := by decide +kernel
theorem dX12_quarrel0_25 : decode cX12_quarrel0 25 = .ok (.iconst 1, 1) := by decide +kernel
theorem dX12_quarrel0_26 : decode cX12_quarrel0 26 = .ok (.iload_n 2, 1) := by decide +kernel
theorem dX12_quarrel0_27 : decode cX12_quarrel0 27 = .ok (.ishl, 1) := by decide +kernel
theorem dX12_quarrel0_28 : decode cX12_quarrel0 28 = .ok (.ior, 1) := by decide +kernel
theorem dX12_quarrel0_29 : decode cX12_quarrel0 29 = .ok (.invokevirtual 180, 3) := by decide +kernel
theorem dX12_quarrel0_32 : decode cX12_quarrel0 32 = .ok (.ifCond .ne 7, 3) := by decide +kernel
theorem dX12_quarrel0_35 : decode cX12_quarrel0 35 = .ok (.iconst 1, 1) := by decide +kernel
theorem dX12_quarrel0_36 : decode cX12_quarrel0 36 = .ok (.goto 4, 3) := by decide +kernel
theorem dX12_quarrel0_39 : decode cX12_quarrel0 39 = .ok (.iconst 0, 1) := by decide +kernel
theorem dX12_quarrel0_40 : decode cX12_quarrel0 40 = .ok (.ireturn, 1) := by decide +kernel
theorem dX12_quarrel_0 : decode cX12_quarrel 0 = .ok (.aload_n 0, 1) := by decide +kernel
theorem dX12_quarrel_1 : decode cX12_quarrel 1 = .ok (.iload_n 1, 1) := by decide +kernel
theorem dX12_quarrel_2 : decode cX12_quarrel 2 = .ok (.invokevirtual 154, 3) := by decide +kernel
theorem dX12_quarrel_5 : decode cX12_quarrel 5 = .ok (.ifCond .eq 31, 3) := by decide +kernel
theorem dX12_quarrel_8 : decode cX12_quarrel 8 = .ok (.aload_n 0, 1) := by decide +kernel
theorem dX12_quarrel_9 : decode cX12_quarrel 9 = .ok (.iload_n 2, 1) := by decide +kernel
theorem dX12_quarrel_10 : decode cX12_quarrel 10 = .ok (.invokevirtual 154, 3) := by decide +kernel
theorem dX12_quarrel_13 : decode cX12_quarrel 13 = .ok (.ifCond .eq 23, 3) := by decide +kernel
theorem dX12_quarrel_16 : decode cX12_quarrel 16 = .ok (.aload_n 0, 1) := by decide +kernel
theorem dX12_quarrel_17 : decode cX12_quarrel 17 = .ok (.iload_n 1, 1) := by decide +kernel
theorem dX12_quarrel_18 : decode cX12_quarrel 18 = .ok (.iconst 0, 1) := by decide +kernel
theorem dX12_quarrel_19 : decode cX12_quarrel 19 = .ok (.invokevirtual 157, 3) := by decide +kernel
theorem dX12_quarrel_22 : decode cX12_quarrel 22 = .ok (.iconst (-1), 1) := by decide +kernel
theorem dX12_quarrel_23 : decode cX12_quarrel 23 = .ok (.if_icmp .eq 13, 3) := by decide +kernel
theorem dX12_quarrel_26 : decode cX12_quarrel 26 = .ok (.aload_n 0, 1) := by decide +kernel
theorem dX12_quarrel_27 : decode cX12_quarrel 27 = .ok (.iload_n 2, 1) := by decide +kernel
theorem dX12_quarrel_28 : decode cX12_quarrel 28 = .ok (.iconst 0, 1) := by decide +kernel
theorem dX12_quarrel_29 : decode cX12_quarrel 29 = .ok (.invokevirtual 157, 3) := by decide +kernel
theorem dX12_quarrel_32 : decode cX12_quarrel 32 = .ok (.iconst (-1), 1) := by decide +kernel
theorem dX12_quarrel_33 : decode cX12_quarrel 33 = .ok (.if_icmp .ne 5, 3) := by decide +kernel
theorem dX12_quarrel_36 : decode cX12_quarrel 36 = .ok (.iconst (-1), 1) := by decide +kernel
theorem dX12_quarrel_37 : decode cX12_quarrel 37 = .ok (.ireturn, 1) := by decide +kernel
theorem dX12_quarrel_38 : decode cX12_quarrel 38 = .ok (.aload_n 0, 1) := by decide +kernel
theorem dX12_quarrel_39 : decode cX12_quarrel 39 = .ok (.iload_n 1, 1) := by decide +kernel
theorem dX12_quarrel_40 : decode cX12_quarrel 40 = .ok (.iload_n 2, 1) := by decide +kernel
theorem dX12_quarrel_41 : decode cX12_quarrel 41 = .ok (.invokevirtual 192, 3) := by decide +kernel
theorem dX12_quarrel_44 : decode cX12_quarrel 44 = .ok (.ifCond .eq 7, 3) := by decide +kernel
theorem dX12_quarrel_47 : decode cX12_quarrel 47 = .ok (.iconst 1, 1) := by decide +kernel
theorem dX12_quarrel_48 : decode cX12_quarrel 48 = .ok (.goto 4, 3) := by decide +kernel
theorem dX12_quarrel_51 : decode cX12_quarrel 51 = .ok (.iconst 0, 1) := by decide +kernel
theorem dX12_quarrel_52 : decode cX12_quarrel 52 = .ok (.ireturn, 1) := by decide +kernel
theorem dX12_quarrels_0 : decode cX12_quarrels 0 = .ok (.aload_n 0, 1) := by decide +kernel
theorem dX12_quarrels_1 : decode cX12_quarrels 1 = .ok (.iload_n 1, 1) := by decide +kernel
theorem dX12_quarrels_2 : decode cX12_quarrels 2 = .ok (.invokevirtual 113, 3) := by decide +kernel
theorem dX12_quarrels_5 : decode cX12_quarrels 5 = .ok (.ifCond .eq 15, 3) := by decide +kernel
theorem dX12_quarrels_8 : decode cX12_quarrels 8 = .ok (.iload_n 2, 1) := by decide +kernel
theorem dX12_quarrels_9 : decode cX12_quarrels 9 = .ok (.invokestatic 109, 3) := by decide +kernel
theorem dX12_quarrels_12 : decode cX12_quarrels 12 = .ok (.ifCond .eq 8, 3) := by decide +kernel
theorem dX12_quarrels_15 : decode cX12_quarrels 15 = .ok (.iload_n 3, 1) := by decide +kernel
theorem dX12_quarrels_16 : decode cX12_quarrels 16 = .ok (.iconst (-1), 1) := by decide +kernel
theorem dX12_quarrels_17 : decode cX12_quarrels 17 = .ok (.if_icmp .ge 5, 3) := by decide +kernel
theorem dX12_quarrels_20 : decode cX12_quarrels 20 = .ok (.iconst (-1), 1) := by decide +kernel
theorem dX12_quarrels_21 : decode cX12_quarrels 21 = .ok (.ireturn, 1) := by decide +kernel
theorem dX12_quarrels_22 : decode cX12_quarrels 22 = .ok (.aload_n 0, 1) := by decide +kernel
theorem dX12_quarrels_23 : decode cX12_quarrels 23 = .ok (.iload_n 1, 1) := by decide +kernel
theorem dX12_quarrels_24 : decode cX12_quarrels 24 = .ok (.iload_n 2, 1) := by decide +kernel
theorem dX12_quarrels_25 : decode cX12_quarrels 25 = .ok (.invokevirtual 177, 3) := by decide +kernel
theorem dX12_quarrels_28 : decode cX12_quarrels 28 = .ok (.istore 4, 2) := by decide +kernel
theorem dX12_quarrels_30 : decode cX12_quarrels 30 = .ok (.iconst 0, 1) := by decide +kernel
theorem dX12_quarrels_31 : decode cX12_quarrels 31 = .ok (.istore 5, 2) := by decide +kernel
theorem dX12_quarrels_33 : decode cX12_quarrels 33 = .ok (.iconst 0, 1) := by decide +kernel
theorem dX12_quarrels_34 : decode cX12_quarrels 34 = .ok (.istore 6, 2) := by decide +kernel
theorem dX12_quarrels_36 : decode cX12_quarrels 36 = .ok (.iload 6, 2) := by decide +kernel
theorem dX12_quarrels_38 : decode cX12_quarrels 38 = .ok (.bipush 24, 2) := by decide +kernel
theorem dX12_quarrels_40 : decode cX12_quarrels 40 = .ok (.if_icmp .ge 74, 3) := by decide +kernel
theorem dX12_quarrels_43 : decode cX12_quarrels 43 = .ok (.iload 6, 2) := by decide +kernel
theorem dX12_quarrels_45 : decode cX12_quarrels 45 = .ok (.istore 7, 2) := by decide +kernel
theorem dX12_quarrels_47 : decode cX12_quarrels 47 = .ok (.iload 7, 2) := by decide +kernel
theorem dX12_quarrels_49 : decode cX12_quarrels 49 = .ok (.bipush 24, 2) := by decide +kernel
theorem dX12_quarrels_51 : decode cX12_quarrels 51 = .ok (.if_icmp .ge 57, 3) := by decide +kernel
theorem dX12_quarrels_54 : decode cX12_quarrels 54 = .ok (.iload 4, 2) := by decide +kernel
theorem dX12_quarrels_56 : decode cX12_quarrels 56 = .ok (.iload 6, 2) := by decide +kernel
theorem dX12_quarrels_58 : decode cX12_quarrels 58 = .ok (.ishr, 1) := by decide +kernel
theorem dX12_quarrels_59 : decode cX12_quarrels 59 = .ok (.iload 4, 2) := by decide +kernel
theorem dX12_quarrels_61 : decode cX12_quarrels 61 = .ok (.iload 7, 2) := by decide +kernel
theorem dX12_quarrels_63 : decode cX12_quarrels 63 = .ok (.ishr, 1) := by decide +kernel
theorem dX12_quarrels_64 : decode cX12_quarrels 64 = .ok (.iand, 1) := by decide +kernel
theorem dX12_quarrels_65 : decode cX12_quarrels 65 = .ok (.iconst 1, 1) := by decide +kernel
theorem dX12_quarrels_66 : decode cX12_quarrels 66 = .ok (.iand, 1) := by decide +kernel
theorem dX12_quarrels_67 : decode cX12_quarrels 67 = .ok (.ifCond .eq 35, 3) := by decide +kernel
theorem dX12_quarrels_70 : decode cX12_quarrels 70 = .ok (.aload_n 0, 1) := by decide +kernel
theorem dX12_quarrels_71 : decode cX12_quarrels 71 = .ok (.iload 6, 2) := by decide +kernel
theorem dX12_quarrels_73 : decode cX12_quarrels 73 = .ok (.iload 7, 2) := by decide +kernel
theorem dX12_quarrels_75 : decode cX12_quarrels 75 = .ok (.invokevirtual 192, 3) := by decide +kernel
theorem dX12_quarrels_78 : decode cX12_quarrels 78 = .ok (.ifCond .ne 6, 3) := by decide +kernel
theorem dX12_quarrels_81 : decode cX12_quarrels 81 = .ok (.goto 21, 3) := by decide +kernel
theorem dX12_quarrels_84 : decode cX12_quarrels 84 = .ok (.iload 5, 2) := by decide +kernel
theorem dX12_quarrels_86 : decode cX12_quarrels 86 = .ok (.iload_n 3, 1) := by decide +kernel
theorem dX12_quarrels_87 : decode cX12_quarrels 87 = .ok (.if_icmp .ne 12, 3) := by decide +kernel
theorem dX12_quarrels_90 : decode cX12_quarrels 90 = .ok (.bipush 24, 2) := by decide +kernel
theorem dX12_quarrels_92 : decode cX12_quarrels 92 = .ok (.iload 6, 2) := by decide +kernel
theorem dX12_quarrels_94 : decode cX12_quarrels 94 = .ok (.imul, 1) := by decide +kernel
theorem dX12_quarrels_95 : decode cX12_quarrels 95 = .ok (.iload 7, 2) := by decide +kernel
theorem dX12_quarrels_97 : decode cX12_quarrels 97 = .ok (.iadd, 1) := by decide +kernel
theorem dX12_quarrels_98 : decode cX12_quarrels 98 = .ok (.ireturn, 1) := by decide +kernel
theorem dX12_quarrels_99 : decode cX12_quarrels 99 = .ok (.iinc 5 1, 3) := by decide +kernel
theorem dX12_quarrels_102 : decode cX12_quarrels 102 = .ok (.iinc 7 1, 3) := by decide +kernel
theorem dX12_quarrels_105 : decode cX12_quarrels 105 = .ok (.goto (-58), 3) := by decide +kernel
theorem dX12_quarrels_108 : decode cX12_quarrels 108 = .ok (.iinc 6 1, 3) := by decide +kernel
theorem dX12_quarrels_111 : decode cX12_quarrels 111 = .ok (.goto (-75), 3) := by decide +kernel
theorem dX12_quarrels_114 : decode cX12_quarrels 114 = .ok (.iload_n 3, 1) := by decide +kernel
theorem dX12_quarrels_115 : decode cX12_quarrels 115 = .ok (.iconst (-1), 1) := by decide +kernel
theorem dX12_quarrels_116 : decode cX12_quarrels 116 = .ok (.if_icmp .ne 8, 3) := by decide +kernel
theorem dX12_quarrels_119 : decode cX12_quarrels 119 = .ok (.iload 5, 2) := by decide +kernel
theorem dX12_quarrels_121 : decode cX12_quarrels 121 = .ok (.goto 4, 3) := by decide +kernel
theorem dX12_quarrels_124 : decode cX12_quarrels 124 = .ok (.iconst (-1), 1) := by decide +kernel
theorem dX12_quarrels_125 : decode cX12_quarrels 125 = .ok (.ireturn, 1) := by decide +kernel
theorem dX12_opening_0 : decode cX12_opening 0 = .ok (.aload_n 0, 1) := by decide +kernel
theorem dX12_opening_1 : decode cX12_opening 1 = .ok (.iload_n 1, 1) := by decide +kernel
theorem dX12_opening_2 : decode cX12_opening 2 = .ok (.iload_n 2, 1) := by decide +kernel
theorem dX12_opening_3 : decode cX12_opening 3 = .ok (.invokevirtual 177, 3) := by decide +kernel
theorem dX12_opening_6 : decode cX12_opening 6 = .ok (.istore_n 3, 1) := by decide +kernel
theorem dX12_opening_7 : decode cX12_opening 7 = .ok (.iconst 0, 1) := by decide +kernel
theorem dX12_opening_8 : decode cX12_opening 8 = .ok (.istore 4, 2) := by decide +kernel
theorem dX12_opening_10 : decode cX12_opening 10 = .ok (.iconst 0, 1) := by decide +kernel
theorem dX12_opening_11 : decode cX12_opening 11 = .ok (.istore 5, 2) := by decide +kernel
theorem dX12_opening_13 : decode cX12_opening 13 = .ok (.iload 5, 2) := by decide +kernel
theorem dX12_opening_15 : decode cX12_opening 15 = .ok (.bipush 24, 2) := by decide +kernel
theorem dX12_opening_17 : decode cX12_opening 17 = .ok (.if_icmp .ge 39, 3) := by decide +kernel
theorem dX12_opening_20 : decode cX12_opening 20 = .ok (.iload_n 3, 1) := by decide +kernel
theorem dX12_opening_21 : decode cX12_opening 21 = .ok (.iload 5, 2) := by decide +kernel
theorem dX12_opening_23 : decode cX12_opening 23 = .ok (.ishr, 1) := by decide +kernel
theorem dX12_opening_24 : decode cX12_opening 24 = .ok (.iconst 1, 1) := by decide +kernel
theorem dX12_opening_25 : decode cX12_opening 25 = .ok (.iand, 1) := by decide +kernel
theorem dX12_opening_26 : decode cX12_opening 26 = .ok (.iconst 1, 1) := by decide +kernel
theorem dX12_opening_27 : decode cX12_opening 27 = .ok (.if_icmp .ne 23, 3) := by decide +kernel
theorem dX12_opening_30 : decode cX12_opening 30 = .ok (.aload_n 0, 1) := by decide +kernel
theorem dX12_opening_31 : decode cX12_opening 31 = .ok (.iload 5, 2) := by decide +kernel
theorem dX12_opening_33 : decode cX12_opening 33 = .ok (.iload 5, 2) := by decide +kernel
theorem dX12_opening_35 : decode cX12_opening 35 = .ok (.invokevirtual 192, 3) := by decide +kernel
theorem dX12_opening_38 : decode cX12_opening 38 = .ok (.ifCond .ne 12, 3) := by decide +kernel
theorem dX12_opening_41 : decode cX12_opening 41 = .ok (.iload 4, 2) := by decide +kernel
theorem dX12_opening_43 : decode cX12_opening 43 = .ok (.iconst 1, 1) := by decide +kernel
theorem dX12_opening_44 : decode cX12_opening 44 = .ok (.iload 5, 2) := by decide +kernel
theorem dX12_opening_46 : decode cX12_opening 46 = .ok (.ishl, 1) := by decide +kernel
theorem dX12_opening_47 : decode cX12_opening 47 = .ok (.ior, 1) := by decide +kernel
theorem dX12_opening_48 : decode cX12_opening 48 = .ok (.istore 4, 2) := by decide +kernel
theorem dX12_opening_50 : decode cX12_opening 50 = .ok (.iinc 5 1, 3) := by decide +kernel
theorem dX12_opening_53 : decode cX12_opening 53 = .ok (.goto (-40), 3) := by decide +kernel
theorem dX12_opening_56 : decode cX12_opening 56 = .ok (.iconst 0, 1) := by decide +kernel
theorem dX12_opening_57 : decode cX12_opening 57 = .ok (.istore 5, 2) := by decide +kernel
theorem dX12_opening_59 : decode cX12_opening 59 = .ok (.iload 5, 2) := by decide +kernel
theorem dX12_opening_61 : decode cX12_opening 61 = .ok (.bipush 24, 2) := by decide +kernel
theorem dX12_opening_63 : decode cX12_opening 63 = .ok (.if_icmp .ge 82, 3) := by decide +kernel
theorem dX12_opening_66 : decode cX12_opening 66 = .ok (.aload_n 0, 1) := by decide +kernel
theorem dX12_opening_67 : decode cX12_opening 67 = .ok (.getfield 40, 3) := by decide +kernel
theorem dX12_opening_70 : decode cX12_opening 70 = .ok (.iload 5, 2) := by decide +kernel
theorem dX12_opening_72 : decode cX12_opening 72 = .ok (.iconst 0, 1) := by decide +kernel
theorem dX12_opening_73 : decode cX12_opening 73 = .ok (.iastore, 1) := by decide +kernel
theorem dX12_opening_74 : decode cX12_opening 74 = .ok (.iconst 0, 1) := by decide +kernel
theorem dX12_opening_75 : decode cX12_opening 75 = .ok (.istore 6, 2) := by decide +kernel
theorem dX12_opening_77 : decode cX12_opening 77 = .ok (.iload 6, 2) := by decide +kernel
theorem dX12_opening_79 : decode cX12_opening 79 = .ok (.bipush 24, 2) := by decide +kernel
theorem dX12_opening_81 : decode cX12_opening 81 = .ok (.if_icmp .ge 58, 3) := by decide +kernel
theorem dX12_opening_84 : decode cX12_opening 84 = .ok (.iload 5, 2) := by decide +kernel
theorem dX12_opening_86 : decode cX12_opening 86 = .ok (.iload 6, 2) := by decide +kernel
theorem dX12_opening_88 : decode cX12_opening 88 = .ok (.if_icmp .eq 45, 3) := by decide +kernel
theorem dX12_opening_91 : decode cX12_opening 91 = .ok (.iload 4, 2) := by decide +kernel
theorem dX12_opening_93 : decode cX12_opening 93 = .ok (.iload 5, 2) := by decide +kernel
theorem dX12_opening_95 : decode cX12_opening 95 = .ok (.ishr, 1) := by decide +kernel
theorem dX12_opening_96 : decode cX12_opening 96 = .ok (.iload 4, 2) := by decide +kernel
theorem dX12_opening_98 : decode cX12_opening 98 = .ok (.iload 6, 2) := by decide +kernel
theorem dX12_opening_100 : decode cX12_opening 100 = .ok (.ishr, 1) := by decide +kernel
theorem dX12_opening_101 : decode cX12_opening 101 = .ok (.iand, 1) := by decide +kernel
theorem dX12_opening_102 : decode cX12_opening 102 = .ok (.iconst 1, 1) := by decide +kernel
theorem dX12_opening_103 : decode cX12_opening 103 = .ok (.iand, 1) := by decide +kernel
theorem dX12_opening_104 : decode cX12_opening 104 = .ok (.iconst 1, 1) := by decide +kernel
theorem dX12_opening_105 : decode cX12_opening 105 = .ok (.if_icmp .ne 28, 3) := by decide +kernel
theorem dX12_opening_108 : decode cX12_opening 108 = .ok (.aload_n 0, 1) := by decide +kernel
theorem dX12_opening_109 : decode cX12_opening 109 = .ok (.iload 5, 2) := by decide +kernel
theorem dX12_opening_111 : decode cX12_opening 111 = .ok (.iload 6, 2) := by decide +kernel
theorem dX12_opening_113 : decode cX12_opening 113 = .ok (.invokevirtual 192, 3) := by decide +kernel
theorem dX12_opening_116 : decode cX12_opening 116 = .ok (.ifCond .eq 17, 3) := by decide +kernel
theorem dX12_opening_119 : decode cX12_opening 119 = .ok (.aload_n 0, 1) := by decide +kernel
theorem dX12_opening_120 : decode cX12_opening 120 = .ok (.getfield 40, 3) := by decide +kernel
theorem dX12_opening_123 : decode cX12_opening 123 = .ok (.iload 5, 2) := by decide +kernel
theorem dX12_opening_125 : decode cX12_opening 125 = .ok (.dup2, 1) := by decide +kernel
theorem dX12_opening_126 : decode cX12_opening 126 = .ok (.iaload, 1) := by decide +kernel
theorem dX12_opening_127 : decode cX12_opening 127 = .ok (.iconst 1, 1) := by decide +kernel
theorem dX12_opening_128 : decode cX12_opening 128 = .ok (.iload 6, 2) := by decide +kernel
theorem dX12_opening_130 : decode cX12_opening 130 = .ok (.ishl, 1) := by decide +kernel
theorem dX12_opening_131 : decode cX12_opening 131 = .ok (.ior, 1) := by decide +kernel
theorem dX12_opening_132 : decode cX12_opening 132 = .ok (.iastore, 1) := by decide +kernel
theorem dX12_opening_133 : decode cX12_opening 133 = .ok (.iinc 6 1, 3) := by decide +kernel
theorem dX12_opening_136 : decode cX12_opening 136 = .ok (.goto (-59), 3) := by decide +kernel
theorem dX12_opening_139 : decode cX12_opening 139 = .ok (.iinc 5 1, 3) := by decide +kernel
theorem dX12_opening_142 : decode cX12_opening 142 = .ok (.goto (-83), 3) := by decide +kernel
theorem dX12_opening_145 : decode cX12_opening 145 = .ok (.iload 4, 2) := by decide +kernel
theorem dX12_opening_147 : decode cX12_opening 147 = .ok (.ireturn, 1) := by decide +kernel
theorem dX12_ones_0 : decode cX12_ones 0 = .ok (.iconst 0, 1) := by decide +kernel
theorem dX12_ones_1 : decode cX12_ones 1 = .ok (.istore_n 1, 1) := by decide +kernel
theorem dX12_ones_2 : decode cX12_ones 2 = .ok (.iconst 0, 1) := by decide +kernel
theorem dX12_ones_3 : decode cX12_ones 3 = .ok (.istore_n 2, 1) := by decide +kernel
theorem dX12_ones_4 : decode cX12_ones 4 = .ok (.iload_n 2, 1) := by decide +kernel
theorem dX12_ones_5 : decode cX12_ones 5 = .ok (.bipush 24, 2) := by decide +kernel
theorem dX12_ones_7 : decode cX12_ones 7 = .ok (.if_icmp .ge 17, 3) := by decide +kernel
theorem dX12_ones_10 : decode cX12_ones 10 = .ok (.iload_n 1, 1) := by decide +kernel
theorem dX12_ones_11 : decode cX12_ones 11 = .ok (.iload_n 0, 1) := by decide +kernel
theorem dX12_ones_12 : decode cX12_ones 12 = .ok (.iload_n 2, 1) := by decide +kernel
theorem dX12_ones_13 : decode cX12_ones 13 = .ok (.ishr, 1) := by decide +kernel
theorem dX12_ones_14 : decode cX12_ones 14 = .ok (.iconst 1, 1) := by decide +kernel
theorem dX12_ones_15 : decode cX12_ones 15 = .ok (.iand, 1) := by decide +kernel
theorem dX12_ones_16 : decode cX12_ones 16 = .ok (.iadd, 1) := by decide +kernel
theorem dX12_ones_17 : decode cX12_ones 17 = .ok (.istore_n 1, 1) := by decide +kernel
theorem dX12_ones_18 : decode cX12_ones 18 = .ok (.iinc 2 1, 3) := by decide +kernel
theorem dX12_ones_21 : decode cX12_ones 21 = .ok (.goto (-17), 3) := by decide +kernel
theorem dX12_ones_24 : decode cX12_ones 24 = .ok (.iload_n 1, 1) := by decide +kernel
theorem dX12_ones_25 : decode cX12_ones 25 = .ok (.ireturn, 1) := by decide +kernel
theorem dX12_worth_0 : decode cX12_worth 0 = .ok (.iconst 0, 1) := by decide +kernel
theorem dX12_worth_1 : decode cX12_worth 1 = .ok (.istore_n 2, 1) := by decide +kernel
theorem dX12_worth_2 : decode cX12_worth 2 = .ok (.iconst 0, 1) := by decide +kernel
theorem dX12_worth_3 : decode cX12_worth 3 = .ok (.istore_n 3, 1) := by decide +kernel
theorem dX12_worth_4 : decode cX12_worth 4 = .ok (.iload_n 3, 1) := by decide +kernel
theorem dX12_worth_5 : decode cX12_worth 5 = .ok (.bipush 24, 2) := by decide +kernel
theorem dX12_worth_7 : decode cX12_worth 7 = .ok (.if_icmp .ge 31, 3) := by decide +kernel
theorem dX12_worth_10 : decode cX12_worth 10 = .ok (.iload_n 2, 1) := by decide +kernel
theorem dX12_worth_11 : decode cX12_worth 11 = .ok (.iload_n 1, 1) := by decide +kernel
theorem dX12_worth_12 : decode cX12_worth 12 = .ok (.iload_n 3, 1) := by decide +kernel
theorem dX12_worth_13 : decode cX12_worth 13 = .ok (.ishr, 1) := by decide +kernel
theorem dX12_worth_14 : decode cX12_worth 14 = .ok (.iconst 1, 1) := by decide +kernel
theorem dX12_worth_15 : decode cX12_worth 15 = .ok (.iand, 1) := by decide +kernel
theorem dX12_worth_16 : decode cX12_worth 16 = .ok (.iconst 1, 1) := by decide +kernel
theorem dX12_worth_17 : decode cX12_worth 17 = .ok (.if_icmp .ne 12, 3) := by decide +kernel
theorem dX12_worth_20 : decode cX12_worth 20 = .ok (.aload_n 0, 1) := by decide +kernel
theorem dX12_worth_21 : decode cX12_worth 21 = .ok (.iload_n 3, 1) := by decide +kernel
theorem dX12_worth_22 : decode cX12_worth 22 = .ok (.iconst 4, 1) := by decide +kernel
theorem dX12_worth_23 : decode cX12_worth 23 = .ok (.invokevirtual 151, 3) := by decide +kernel
theorem dX12_worth_26 : decode cX12_worth 26 = .ok (.goto 4, 3) := by decide +kernel
theorem dX12_worth_29 : decode cX12_worth 29 = .ok (.iconst 0, 1) := by decide +kernel
theorem dX12_worth_30 : decode cX12_worth 30 = .ok (.iadd, 1) := by decide +kernel
theorem dX12_worth_31 : decode cX12_worth 31 = .ok (.istore_n 2, 1) := by decide +kernel
theorem dX12_worth_32 : decode cX12_worth 32 = .ok (.iinc 3 1, 3) := by decide +kernel
theorem dX12_worth_35 : decode cX12_worth 35 = .ok (.goto (-31), 3) := by decide +kernel
theorem dX12_worth_38 : decode cX12_worth 38 = .ok (.iload_n 2, 1) := by decide +kernel
theorem dX12_worth_39 : decode cX12_worth 39 = .ok (.ireturn, 1) := by decide +kernel
theorem dX12_chooses_0 : decode cX12_chooses 0 = .ok (.iload_n 3, 1) := by decide +kernel
theorem dX12_chooses_1 : decode cX12_chooses 1 = .ok (.aload_n 0, 1) := by decide +kernel
theorem dX12_chooses_2 : decode cX12_chooses 2 = .ok (.iload_n 1, 1) := by decide +kernel
theorem dX12_chooses_3 : decode cX12_chooses 3 = .ok (.invokevirtual 195, 3) := by decide +kernel
theorem dX12_chooses_6 : decode cX12_chooses 6 = .ok (.iadd, 1) := by decide +kernel
theorem dX12_chooses_7 : decode cX12_chooses 7 = .ok (.istore 5, 2) := by decide +kernel
theorem dX12_chooses_9 : decode cX12_chooses 9 = .ok (.iload 5, 2) := by decide +kernel
theorem dX12_chooses_11 : decode cX12_chooses 11 = .ok (.aload_n 0, 1) := by decide +kernel
theorem dX12_chooses_12 : decode cX12_chooses 12 = .ok (.getfield 198, 3) := by decide +kernel
theorem dX12_chooses_15 : decode cX12_chooses 15 = .ok (.if_icmp .lt 26, 3) := by decide +kernel
theorem dX12_chooses_18 : decode cX12_chooses 18 = .ok (.iload 5, 2) := by decide +kernel
theorem dX12_chooses_20 : decode cX12_chooses 20 = .ok (.aload_n 0, 1) := by decide +kernel
theorem dX12_chooses_21 : decode cX12_chooses 21 = .ok (.getfield 198, 3) := by decide +kernel
theorem dX12_chooses_24 : decode cX12_chooses 24 = .ok (.if_icmp .ne 18, 3) := by decide +kernel
theorem dX12_chooses_27 : decode cX12_chooses 27 = .ok (.iload 4, 2) := by decide +kernel
theorem dX12_chooses_29 : decode cX12_chooses 29 = .ok (.iload_n 1, 1) := by decide +kernel
theorem dX12_chooses_30 : decode cX12_chooses 30 = .ok (.invokestatic 201, 3) := by decide +kernel
theorem dX12_chooses_33 : decode cX12_chooses 33 = .ok (.iadd, 1) := by decide +kernel
theorem dX12_chooses_34 : decode cX12_chooses 34 = .ok (.aload_n 0, 1) := by decide +kernel
theorem dX12_chooses_35 : decode cX12_chooses 35 = .ok (.getfield 204, 3) := by decide +kernel
theorem dX12_chooses_38 : decode cX12_chooses 38 = .ok (.if_icmp .gt 4, 3) := by decide +kernel
theorem dX12_chooses_41 : decode cX12_chooses 41 = .ok (.return_, 1) := by decide +kernel
theorem dX12_chooses_42 : decode cX12_chooses 42 = .ok (.iload_n 1, 1) := by decide +kernel
theorem dX12_chooses_43 : decode cX12_chooses 43 = .ok (.ifCond .ne 20, 3) := by decide +kernel
theorem dX12_chooses_46 : decode cX12_chooses 46 = .ok (.aload_n 0, 1) := by decide +kernel
theorem dX12_chooses_47 : decode cX12_chooses 47 = .ok (.iload_n 2, 1) := by decide +kernel
theorem dX12_chooses_48 : decode cX12_chooses 48 = .ok (.putfield 207, 3) := by decide +kernel
theorem dX12_chooses_51 : decode cX12_chooses 51 = .ok (.aload_n 0, 1) := by decide +kernel
theorem dX12_chooses_52 : decode cX12_chooses 52 = .ok (.iload_n 3, 1) := by decide +kernel
theorem dX12_chooses_53 : decode cX12_chooses 53 = .ok (.putfield 198, 3) := by decide +kernel
theorem dX12_chooses_56 : decode cX12_chooses 56 = .ok (.aload_n 0, 1) := by decide +kernel
theorem dX12_chooses_57 : decode cX12_chooses 57 = .ok (.iload 4, 2) := by decide +kernel
theorem dX12_chooses_59 : decode cX12_chooses 59 = .ok (.putfield 204, 3) := by decide +kernel
theorem dX12_chooses_62 : decode cX12_chooses 62 = .ok (.return_, 1) := by decide +kernel
theorem dX12_chooses_63 : decode cX12_chooses 63 = .ok (.iconst 0, 1) := by decide +kernel
theorem dX12_chooses_64 : decode cX12_chooses 64 = .ok (.istore 6, 2) := by decide +kernel
theorem dX12_chooses_66 : decode cX12_chooses 66 = .ok (.iload_n 1, 1) := by decide +kernel
theorem dX12_chooses_67 : decode cX12_chooses 67 = .ok (.iload 6, 2) := by decide +kernel
theorem dX12_chooses_69 : decode cX12_chooses 69 = .ok (.ishr, 1) := by decide +kernel
theorem dX12_chooses_70 : decode cX12_chooses 70 = .ok (.iconst 1, 1) := by decide +kernel
theorem dX12_chooses_71 : decode cX12_chooses 71 = .ok (.iand, 1) := by decide +kernel
theorem dX12_chooses_72 : decode cX12_chooses 72 = .ok (.ifCond .ne 9, 3) := by decide +kernel
theorem dX12_chooses_75 : decode cX12_chooses 75 = .ok (.iinc 6 1, 3) := by decide +kernel
theorem dX12_chooses_78 : decode cX12_chooses 78 = .ok (.goto (-12), 3) := by decide +kernel
theorem dX12_chooses_81 : decode cX12_chooses 81 = .ok (.iload_n 1, 1) := by decide +kernel
theorem dX12_chooses_82 : decode cX12_chooses 82 = .ok (.iconst 1, 1) := by decide +kernel
theorem dX12_chooses_83 : decode cX12_chooses 83 = .ok (.iload 6, 2) := by decide +kernel
theorem dX12_chooses_85 : decode cX12_chooses 85 = .ok (.ishl, 1) := by decide +kernel
theorem dX12_chooses_86 : decode cX12_chooses 86 = .ok (.iconst (-1), 1) := by decide +kernel
theorem dX12_chooses_87 : decode cX12_chooses 87 = .ok (.ixor, 1) := by decide +kernel
theorem dX12_chooses_88 : decode cX12_chooses 88 = .ok (.iand, 1) := by decide +kernel
theorem dX12_chooses_89 : decode cX12_chooses 89 = .ok (.istore 7, 2) := by decide +kernel
theorem dX12_chooses_91 : decode cX12_chooses 91 = .ok (.aload_n 0, 1) := by decide +kernel
theorem dX12_chooses_92 : decode cX12_chooses 92 = .ok (.iload 7, 2) := by decide +kernel
theorem dX12_chooses_94 : decode cX12_chooses 94 = .ok (.aload_n 0, 1) := by decide +kernel
theorem dX12_chooses_95 : decode cX12_chooses 95 = .ok (.getfield 40, 3) := by decide +kernel
theorem dX12_chooses_98 : decode cX12_chooses 98 = .ok (.iload 6, 2) := by decide +kernel
theorem dX12_chooses_100 : decode cX12_chooses 100 = .ok (.iaload, 1) := by decide +kernel
theorem dX12_chooses_101 : decode cX12_chooses 101 = .ok (.iconst (-1), 1) := by decide +kernel
theorem dX12_chooses_102 : decode cX12_chooses 102 = .ok (.ixor, 1) := by decide +kernel
theorem dX12_chooses_103 : decode cX12_chooses 103 = .ok (.iand, 1) := by decide +kernel
theorem dX12_chooses_104 : decode cX12_chooses 104 = .ok (.iload_n 2, 1) := by decide +kernel
theorem dX12_chooses_105 : decode cX12_chooses 105 = .ok (.iconst 1, 1) := by decide +kernel
theorem dX12_chooses_106 : decode cX12_chooses 106 = .ok (.iload 6, 2) := by decide +kernel
theorem dX12_chooses_108 : decode cX12_chooses 108 = .ok (.ishl, 1) := by decide +kernel
theorem dX12_chooses_109 : decode cX12_chooses 109 = .ok (.ior, 1) := by decide +kernel
theorem dX12_chooses_110 : decode cX12_chooses 110 = .ok (.iload_n 3, 1) := by decide +kernel
theorem dX12_chooses_111 : decode cX12_chooses 111 = .ok (.aload_n 0, 1) := by decide +kernel
theorem dX12_chooses_112 : decode cX12_chooses 112 = .ok (.iload 6, 2) := by decide +kernel
theorem dX12_chooses_114 : decode cX12_chooses 114 = .ok (.iconst 4, 1) := by decide +kernel
theorem dX12_chooses_115 : decode cX12_chooses 115 = .ok (.invokevirtual 151, 3) := by decide +kernel
theorem dX12_chooses_118 : decode cX12_chooses 118 = .ok (.iadd, 1) := by decide +kernel
theorem dX12_chooses_119 : decode cX12_chooses 119 = .ok (.iload 4, 2) := by decide +kernel
theorem dX12_chooses_121 : decode cX12_chooses 121 = .ok (.iconst 1, 1) := by decide +kernel
theorem dX12_chooses_122 : decode cX12_chooses 122 = .ok (.iadd, 1) := by decide +kernel
theorem dX12_chooses_123 : decode cX12_chooses 123 = .ok (.invokevirtual 210, 3) := by decide +kernel
theorem dX12_chooses_126 : decode cX12_chooses 126 = .ok (.aload_n 0, 1) := by decide +kernel
theorem dX12_chooses_127 : decode cX12_chooses 127 = .ok (.iload 7, 2) := by decide +kernel
theorem dX12_chooses_129 : decode cX12_chooses 129 = .ok (.iload_n 2, 1) := by decide +kernel
theorem dX12_chooses_130 : decode cX12_chooses 130 = .ok (.iload_n 3, 1) := by decide +kernel
theorem dX12_chooses_131 : decode cX12_chooses 131 = .ok (.iload 4, 2) := by decide +kernel
theorem dX12_chooses_133 : decode cX12_chooses 133 = .ok (.invokevirtual 210, 3) := by decide +kernel
theorem dX12_chooses_136 : decode cX12_chooses 136 = .ok (.return_, 1) := by decide +kernel
theorem dX12_best_0 : decode cX12_best 0 = .ok (.aload_n 0, 1) := by decide +kernel
theorem dX12_best_1 : decode cX12_best 1 = .ok (.iconst 0, 1) := by decide +kernel
theorem dX12_best_2 : decode cX12_best 2 = .ok (.putfield 207, 3) := by decide +kernel
theorem dX12_best_5 : decode cX12_best 5 = .ok (.aload_n 0, 1) := by decide +kernel
theorem dX12_best_6 : decode cX12_best 6 = .ok (.iconst 0, 1) := by decide +kernel
theorem dX12_best_7 : decode cX12_best 7 = .ok (.putfield 198, 3) := by decide +kernel
theorem dX12_best_10 : decode cX12_best 10 = .ok (.aload_n 0, 1) := by decide +kernel
theorem dX12_best_11 : decode cX12_best 11 = .ok (.iconst (-1), 1) := by decide +kernel
theorem dX12_best_12 : decode cX12_best 12 = .ok (.putfield 204, 3) := by decide +kernel
theorem dX12_best_15 : decode cX12_best 15 = .ok (.aload_n 0, 1) := by decide +kernel
theorem dX12_best_16 : decode cX12_best 16 = .ok (.iload_n 1, 1) := by decide +kernel
theorem dX12_best_17 : decode cX12_best 17 = .ok (.iconst 0, 1) := by decide +kernel
theorem dX12_best_18 : decode cX12_best 18 = .ok (.iconst 0, 1) := by decide +kernel
theorem dX12_best_19 : decode cX12_best 19 = .ok (.iconst 0, 1) := by decide +kernel
theorem dX12_best_20 : decode cX12_best 20 = .ok (.invokevirtual 210, 3) := by decide +kernel
theorem dX12_best_23 : decode cX12_best 23 = .ok (.aload_n 0, 1) := by decide +kernel
theorem dX12_best_24 : decode cX12_best 24 = .ok (.getfield 198, 3) := by decide +kernel
theorem dX12_best_27 : decode cX12_best 27 = .ok (.ireturn, 1) := by decide +kernel
theorem dX12_right_0 : decode cX12_right 0 = .ok (.aload_n 0, 1) := by decide +kernel
theorem dX12_right_1 : decode cX12_right 1 = .ok (.iload_n 1, 1) := by decide +kernel
theorem dX12_right_2 : decode cX12_right 2 = .ok (.invokevirtual 113, 3) := by decide +kernel
theorem dX12_right_5 : decode cX12_right 5 = .ok (.ifCond .eq 10, 3) := by decide +kernel
theorem dX12_right_8 : decode cX12_right 8 = .ok (.iload_n 2, 1) := by decide +kernel
theorem dX12_right_9 : decode cX12_right 9 = .ok (.invokestatic 109, 3) := by decide +kernel
theorem dX12_right_12 : decode cX12_right 12 = .ok (.ifCond .ne 5, 3) := by decide +kernel
theorem dX12_right_15 : decode cX12_right 15 = .ok (.iconst (-1), 1) := by decide +kernel
theorem dX12_right_16 : decode cX12_right 16 = .ok (.ireturn, 1) := by decide +kernel
theorem dX12_right_17 : decode cX12_right 17 = .ok (.aload_n 0, 1) := by decide +kernel
theorem dX12_right_18 : decode cX12_right 18 = .ok (.aload_n 0, 1) := by decide +kernel
theorem dX12_right_19 : decode cX12_right 19 = .ok (.iload_n 1, 1) := by decide +kernel
theorem dX12_right_20 : decode cX12_right 20 = .ok (.iload_n 2, 1) := by decide +kernel
theorem dX12_right_21 : decode cX12_right 21 = .ok (.invokevirtual 214, 3) := by decide +kernel
theorem dX12_right_24 : decode cX12_right 24 = .ok (.invokevirtual 217, 3) := by decide +kernel
theorem dX12_right_27 : decode cX12_right 27 = .ok (.istore_n 3, 1) := by decide +kernel
theorem dX12_right_28 : decode cX12_right 28 = .ok (.aload_n 0, 1) := by decide +kernel
theorem dX12_right_29 : decode cX12_right 29 = .ok (.aload_n 0, 1) := by decide +kernel
theorem dX12_right_30 : decode cX12_right 30 = .ok (.getfield 207, 3) := by decide +kernel
theorem dX12_right_33 : decode cX12_right 33 = .ok (.putfield 43, 3) := by decide +kernel
theorem dX12_right_36 : decode cX12_right 36 = .ok (.iload_n 3, 1) := by decide +kernel
theorem dX12_right_37 : decode cX12_right 37 = .ok (.ireturn, 1) := by decide +kernel
theorem dX12_isRight_0 : decode cX12_isRight 0 = .ok (.aload_n 0, 1) := by decide +kernel
theorem dX12_isRight_1 : decode cX12_isRight 1 = .ok (.getfield 43, 3) := by decide +kernel
theorem dX12_isRight_4 : decode cX12_isRight 4 = .ok (.iconst (-1), 1) := by decide +kernel
theorem dX12_isRight_5 : decode cX12_isRight 5 = .ok (.if_icmp .eq 11, 3) := by decide +kernel
theorem dX12_isRight_8 : decode cX12_isRight 8 = .ok (.aload_n 0, 1) := by decide +kernel
theorem dX12_isRight_9 : decode cX12_isRight 9 = .ok (.iload_n 1, 1) := by decide +kernel
theorem dX12_isRight_10 : decode cX12_isRight 10 = .ok (.invokevirtual 154, 3) := by decide +kernel
theorem dX12_isRight_13 : decode cX12_isRight 13 = .ok (.ifCond .ne 7, 3) := by decide +kernel
theorem dX12_isRight_16 : decode cX12_isRight 16 = .ok (.iconst (-1), 1) := by decide +kernel
theorem dX12_isRight_17 : decode cX12_isRight 17 = .ok (.goto 11, 3) := by decide +kernel
theorem dX12_isRight_20 : decode cX12_isRight 20 = .ok (.aload_n 0, 1) := by decide +kernel
theorem dX12_isRight_21 : decode cX12_isRight 21 = .ok (.getfield 43, 3) := by decide +kernel
theorem dX12_isRight_24 : decode cX12_isRight 24 = .ok (.iload_n 1, 1) := by decide +kernel
theorem dX12_isRight_25 : decode cX12_isRight 25 = .ok (.ishr, 1) := by decide +kernel
theorem dX12_isRight_26 : decode cX12_isRight 26 = .ok (.iconst 1, 1) := by decide +kernel
theorem dX12_isRight_27 : decode cX12_isRight 27 = .ok (.iand, 1) := by decide +kernel
theorem dX12_isRight_28 : decode cX12_isRight 28 = .ok (.ireturn, 1) := by decide +kernel
theorem dX12_puts_0 : decode cX12_puts 0 = .ok (.aload_n 0, 1) := by decide +kernel
theorem dX12_puts_1 : decode cX12_puts 1 = .ok (.getfield 220, 3) := by decide +kernel
theorem dX12_puts_4 : decode cX12_puts 4 = .ok (.sipush 2000, 3) := by decide +kernel
theorem dX12_puts_7 : decode cX12_puts 7 = .ok (.if_icmp .ge 14, 3) := by decide +kernel
theorem dX12_puts_10 : decode cX12_puts 10 = .ok (.aload_n 0, 1) := by decide +kernel
theorem dX12_puts_11 : decode cX12_puts 11 = .ok (.getfield 50, 3) := by decide +kernel
theorem dX12_puts_14 : decode cX12_puts 14 = .ok (.aload_n 0, 1) := by decide +kernel
theorem dX12_puts_15 : decode cX12_puts 15 = .ok (.getfield 220, 3) := by decide +kernel
theorem dX12_puts_18 : decode cX12_puts 18 = .ok (.iload_n 1, 1) := by decide +kernel
theorem dX12_puts_19 : decode cX12_puts 19 = .ok (.i2b, 1) := by decide +kernel
theorem dX12_puts_20 : decode cX12_puts 20 = .ok (.bastore, 1) := by decide +kernel
theorem dX12_puts_21 : decode cX12_puts 21 = .ok (.aload_n 0, 1) := by decide +kernel
theorem dX12_puts_22 : decode cX12_puts 22 = .ok (.dup, 1) := by decide +kernel
theorem dX12_puts_23 : decode cX12_puts 23 = .ok (.getfield 220, 3) := by decide +kernel
theorem dX12_puts_26 : decode cX12_puts 26 = .ok (.iconst 1, 1) := by decide +kernel
theorem dX12_puts_27 : decode cX12_puts 27 = .ok (.iadd, 1) := by decide +kernel
theorem dX12_puts_28 : decode cX12_puts 28 = .ok (.putfield 220, 3) := by decide +kernel
theorem dX12_puts_31 : decode cX12_puts 31 = .ok (.return_, 1) := by decide +kernel
theorem dX12_putsLog_0 : decode cX12_putsLog 0 = .ok (.iload_n 1, 1) := by decide +kernel
theorem dX12_putsLog_1 : decode cX12_putsLog 1 = .ok (.bipush 9, 2) := by decide +kernel
theorem dX12_putsLog_3 : decode cX12_putsLog 3 = .ok (.if_icmp .le 14, 3) := by decide +kernel
theorem dX12_putsLog_6 : decode cX12_putsLog 6 = .ok (.aload_n 0, 1) := by decide +kernel
theorem dX12_putsLog_7 : decode cX12_putsLog 7 = .ok (.bipush 48, 2) := by decide +kernel
theorem dX12_putsLog_9 : decode cX12_putsLog 9 = .ok (.iload_n 1, 1) := by decide +kernel
theorem dX12_putsLog_10 : decode cX12_putsLog 10 = .ok (.bipush 10, 2) := by decide +kernel
theorem dX12_putsLog_12 : decode cX12_putsLog 12 = .ok (.idiv, 1) := by decide +kernel
theorem dX12_putsLog_13 : decode cX12_putsLog 13 = .ok (.iadd, 1) := by decide +kernel
theorem dX12_putsLog_14 : decode cX12_putsLog 14 = .ok (.invokevirtual 223, 3) := by decide +kernel
theorem dX12_putsLog_17 : decode cX12_putsLog 17 = .ok (.aload_n 0, 1) := by decide +kernel
theorem dX12_putsLog_18 : decode cX12_putsLog 18 = .ok (.bipush 48, 2) := by decide +kernel
theorem dX12_putsLog_20 : decode cX12_putsLog 20 = .ok (.iload_n 1, 1) := by decide +kernel
theorem dX12_putsLog_21 : decode cX12_putsLog 21 = .ok (.bipush 10, 2) := by decide +kernel
theorem dX12_putsLog_23 : decode cX12_putsLog 23 = .ok (.irem, 1) := by decide +kernel
theorem dX12_putsLog_24 : decode cX12_putsLog 24 = .ok (.iadd, 1) := by decide +kernel
theorem dX12_putsLog_25 : decode cX12_putsLog 25 = .ok (.invokevirtual 223, 3) := by decide +kernel
theorem dX12_putsLog_28 : decode cX12_putsLog 28 = .ok (.return_, 1) := by decide +kernel
theorem dX12_joins_0 : decode cX12_joins 0 = .ok (.iconst 0, 1) := by decide +kernel
theorem dX12_joins_1 : decode cX12_joins 1 = .ok (.istore_n 3, 1) := by decide +kernel
theorem dX12_joins_2 : decode cX12_joins 2 = .ok (.iload_n 3, 1) := by decide +kernel
theorem dX12_joins_3 : decode cX12_joins 3 = .ok (.iload_n 1, 1) := by decide +kernel
theorem dX12_joins_4 : decode cX12_joins 4 = .ok (.if_icmp .ge 34, 3) := by decide +kernel
theorem dX12_joins_7 : decode cX12_joins 7 = .ok (.aload_n 0, 1) := by decide +kernel
theorem dX12_joins_8 : decode cX12_joins 8 = .ok (.getfield 56, 3) := by decide +kernel
theorem dX12_joins_11 : decode cX12_joins 11 = .ok (.iload_n 3, 1) := by decide +kernel
theorem dX12_joins_12 : decode cX12_joins 12 = .ok (.iaload, 1) := by decide +kernel
theorem dX12_joins_13 : decode cX12_joins 13 = .ok (.iload_n 2, 1) := by decide +kernel
theorem dX12_joins_14 : decode cX12_joins 14 = .ok (.if_icmp .ne 18, 3) := by decide +kernel
theorem dX12_joins_17 : decode cX12_joins 17 = .ok (.aload_n 0, 1) := by decide +kernel
theorem dX12_joins_18 : decode cX12_joins 18 = .ok (.getfield 40, 3) := by decide +kernel
theorem dX12_joins_21 : decode cX12_joins 21 = .ok (.iload_n 1, 1) := by decide +kernel
theorem dX12_joins_22 : decode cX12_joins 22 = .ok (.iaload, 1) := by decide +kernel
theorem dX12_joins_23 : decode cX12_joins 23 = .ok (.iload_n 3, 1) := by decide +kernel
theorem dX12_joins_24 : decode cX12_joins 24 = .ok (.ishr, 1) := by decide +kernel
theorem dX12_joins_25 : decode cX12_joins 25 = .ok (.iconst 1, 1) := by decide +kernel
theorem dX12_joins_26 : decode cX12_joins 26 = .ok (.iand, 1) := by decide +kernel
theorem dX12_joins_27 : decode cX12_joins 27 = .ok (.ifCond .ne 5, 3) := by decide +kernel
theorem dX12_joins_30 : decode cX12_joins 30 = .ok (.iconst 0, 1) := by decide +kernel
theorem dX12_joins_31 : decode cX12_joins 31 = .ok (.ireturn, 1) := by decide +kernel
theorem dX12_joins_32 : decode cX12_joins 32 = .ok (.iinc 3 1, 3) := by decide +kernel
theorem dX12_joins_35 : decode cX12_joins 35 = .ok (.goto (-33), 3) := by decide +kernel
theorem dX12_joins_38 : decode cX12_joins 38 = .ok (.iconst 1, 1) := by decide +kernel
theorem dX12_joins_39 : decode cX12_joins 39 = .ok (.ireturn, 1) := by decide +kernel
theorem dX12_bound_0 : decode cX12_bound 0 = .ok (.iconst 0, 1) := by decide +kernel
theorem dX12_bound_1 : decode cX12_bound 1 = .ok (.istore_n 3, 1) := by decide +kernel
theorem dX12_bound_2 : decode cX12_bound 2 = .ok (.iload_n 3, 1) := by decide +kernel
theorem dX12_bound_3 : decode cX12_bound 3 = .ok (.bipush 24, 2) := by decide +kernel
theorem dX12_bound_5 : decode cX12_bound 5 = .ok (.if_icmp .ge 16, 3) := by decide +kernel
theorem dX12_bound_8 : decode cX12_bound 8 = .ok (.aload_n 0, 1) := by decide +kernel
theorem dX12_bound_9 : decode cX12_bound 9 = .ok (.getfield 56, 3) := by decide +kernel
theorem dX12_bound_12 : decode cX12_bound 12 = .ok (.iload_n 3, 1) := by decide +kernel
theorem dX12_bound_13 : decode cX12_bound 13 = .ok (.iconst (-1), 1) := by decide +kernel
theorem dX12_bound_14 : decode cX12_bound 14 = .ok (.iastore, 1) := by decide +kernel
theorem dX12_bound_15 : decode cX12_bound 15 = .ok (.iinc 3 1, 3) := by decide +kernel
theorem dX12_bound_18 : decode cX12_bound 18 = .ok (.goto (-16), 3) := by decide +kernel
theorem dX12_bound_21 : decode cX12_bound 21 = .ok (.aload_n 0, 1) := by decide +kernel
theorem dX12_bound_22 : decode cX12_bound 22 = .ok (.iconst 0, 1) := by decide +kernel
theorem dX12_bound_23 : decode cX12_bound 23 = .ok (.putfield 227, 3) := by decide +kernel
theorem dX12_bound_26 : decode cX12_bound 26 = .ok (.iload_n 2, 1) := by decide +kernel
theorem dX12_bound_27 : decode cX12_bound 27 = .ok (.istore_n 3, 1) := by decide +kernel
theorem dX12_bound_28 : decode cX12_bound 28 = .ok (.iconst 0, 1) := by decide +kernel
theorem dX12_bound_29 : decode cX12_bound 29 = .ok (.istore 4, 2) := by decide +kernel
theorem dX12_bound_31 : decode cX12_bound 31 = .ok (.iload 4, 2) := by decide +kernel
theorem dX12_bound_33 : decode cX12_bound 33 = .ok (.bipush 24, 2) := by decide +kernel
theorem dX12_bound_35 : decode cX12_bound 35 = .ok (.if_icmp .ge 159, 3) := by decide +kernel
theorem dX12_bound_38 : decode cX12_bound 38 = .ok (.iload_n 1, 1) := by decide +kernel
theorem dX12_bound_39 : decode cX12_bound 39 = .ok (.iload 4, 2) := by decide +kernel
theorem dX12_bound_41 : decode cX12_bound 41 = .ok (.ishr, 1) := by decide +kernel
theorem dX12_bound_42 : decode cX12_bound 42 = .ok (.iconst 1, 1) := by decide +kernel
theorem dX12_bound_43 : decode cX12_bound 43 = .ok (.iand, 1) := by decide +kernel
theorem dX12_bound_44 : decode cX12_bound 44 = .ok (.ifCond .eq 144, 3) := by decide +kernel
theorem dX12_bound_47 : decode cX12_bound 47 = .ok (.aload_n 0, 1) := by decide +kernel
theorem dX12_bound_48 : decode cX12_bound 48 = .ok (.getfield 56, 3) := by decide +kernel
theorem dX12_bound_51 : decode cX12_bound 51 = .ok (.iload 4, 2) := by decide +kernel
theorem dX12_bound_53 : decode cX12_bound 53 = .ok (.iaload, 1) := by decide +kernel
theorem dX12_bound_54 : decode cX12_bound 54 = .ok (.iconst (-1), 1) := by decide +kernel
theorem dX12_bound_55 : decode cX12_bound 55 = .ok (.if_icmp .eq 6, 3) := by decide +kernel
theorem dX12_bound_58 : decode cX12_bound 58 = .ok (.goto 130, 3) := by decide +kernel
theorem dX12_bound_61 : decode cX12_bound 61 = .ok (.aload_n 0, 1) := by decide +kernel
theorem dX12_bound_62 : decode cX12_bound 62 = .ok (.getfield 56, 3) := by decide +kernel
theorem dX12_bound_65 : decode cX12_bound 65 = .ok (.iload 4, 2) := by decide +kernel
theorem dX12_bound_67 : decode cX12_bound 67 = .ok (.aload_n 0, 1) := by decide +kernel
theorem dX12_bound_68 : decode cX12_bound 68 = .ok (.getfield 227, 3) := by decide +kernel
theorem dX12_bound_71 : decode cX12_bound 71 = .ok (.iastore, 1) := by decide +kernel
theorem dX12_bound_72 : decode cX12_bound 72 = .ok (.aload_n 0, 1) := by decide +kernel
theorem dX12_bound_73 : decode cX12_bound 73 = .ok (.iload 4, 2) := by decide +kernel
theorem dX12_bound_75 : decode cX12_bound 75 = .ok (.iconst 4, 1) := by decide +kernel
theorem dX12_bound_76 : decode cX12_bound 76 = .ok (.invokevirtual 151, 3) := by decide +kernel
theorem dX12_bound_79 : decode cX12_bound 79 = .ok (.istore 5, 2) := by decide +kernel
theorem dX12_bound_81 : decode cX12_bound 81 = .ok (.iload 4, 2) := by decide +kernel
theorem dX12_bound_83 : decode cX12_bound 83 = .ok (.iconst 1, 1) := by decide +kernel
theorem dX12_bound_84 : decode cX12_bound 84 = .ok (.iadd, 1) := by decide +kernel
theorem dX12_bound_85 : decode cX12_bound 85 = .ok (.istore 6, 2) := by decide +kernel
theorem dX12_bound_87 : decode cX12_bound 87 = .ok (.iload 6, 2) := by decide +kernel
theorem dX12_bound_89 : decode cX12_bound 89 = .ok (.bipush 24, 2) := by decide +kernel
theorem dX12_bound_91 : decode cX12_bound 91 = .ok (.if_icmp .ge 82, 3) := by decide +kernel
theorem dX12_bound_94 : decode cX12_bound 94 = .ok (.iload_n 1, 1) := by decide +kernel
theorem dX12_bound_95 : decode cX12_bound 95 = .ok (.iload 6, 2) := by decide +kernel
theorem dX12_bound_97 : decode cX12_bound 97 = .ok (.ishr, 1) := by decide +kernel
theorem dX12_bound_98 : decode cX12_bound 98 = .ok (.iconst 1, 1) := by decide +kernel
theorem dX12_bound_99 : decode cX12_bound 99 = .ok (.iand, 1) := by decide +kernel
theorem dX12_bound_100 : decode cX12_bound 100 = .ok (.ifCond .eq 67, 3) := by decide +kernel
theorem dX12_bound_103 : decode cX12_bound 103 = .ok (.aload_n 0, 1) := by decide +kernel
theorem dX12_bound_104 : decode cX12_bound 104 = .ok (.getfield 56, 3) := by decide +kernel
theorem dX12_bound_107 : decode cX12_bound 107 = .ok (.iload 6, 2) := by decide +kernel
theorem dX12_bound_109 : decode cX12_bound 109 = .ok (.iaload, 1) := by decide +kernel
theorem dX12_bound_110 : decode cX12_bound 110 = .ok (.iconst (-1), 1) := by decide +kernel
theorem dX12_bound_111 : decode cX12_bound 111 = .ok (.if_icmp .ne 56, 3) := by decide +kernel
theorem dX12_bound_114 : decode cX12_bound 114 = .ok (.aload_n 0, 1) := by decide +kernel
theorem dX12_bound_115 : decode cX12_bound 115 = .ok (.iload 6, 2) := by decide +kernel
theorem dX12_bound_117 : decode cX12_bound 117 = .ok (.aload_n 0, 1) := by decide +kernel
theorem dX12_bound_118 : decode cX12_bound 118 = .ok (.getfield 227, 3) := by decide +kernel
theorem dX12_bound_121 : decode cX12_bound 121 = .ok (.invokevirtual 230, 3) := by decide +kernel
theorem dX12_bound_124 : decode cX12_bound 124 = .ok (.ifCond .ne 6, 3) := by decide +kernel
theorem dX12_bound_127 : decode cX12_bound 127 = .ok (.goto 40, 3) := by decide +kernel
theorem dX12_bound_130 : decode cX12_bound 130 = .ok (.aload_n 0, 1) := by decide +kernel
theorem dX12_bound_131 : decode cX12_bound 131 = .ok (.getfield 56, 3) := by decide +kernel
theorem dX12_bound_134 : decode cX12_bound 134 = .ok (.iload 6, 2) := by decide +kernel
theorem dX12_bound_136 : decode cX12_bound 136 = .ok (.aload_n 0, 1) := by decide +kernel
theorem dX12_bound_137 : decode cX12_bound 137 = .ok (.getfield 227, 3) := by decide +kernel
theorem dX12_bound_140 : decode cX12_bound 140 = .ok (.iastore, 1) := by decide +kernel
theorem dX12_bound_141 : decode cX12_bound 141 = .ok (.aload_n 0, 1) := by decide +kernel
theorem dX12_bound_142 : decode cX12_bound 142 = .ok (.iload 6, 2) := by decide +kernel
theorem dX12_bound_144 : decode cX12_bound 144 = .ok (.iconst 4, 1) := by decide +kernel
theorem dX12_bound_145 : decode cX12_bound 145 = .ok (.invokevirtual 151, 3) := by decide +kernel
theorem dX12_bound_148 : decode cX12_bound 148 = .ok (.iload 5, 2) := by decide +kernel
theorem dX12_bound_150 : decode cX12_bound 150 = .ok (.if_icmp .le 13, 3) := by decide +kernel
theorem dX12_bound_153 : decode cX12_bound 153 = .ok (.aload_n 0, 1) := by decide +kernel
theorem dX12_bound_154 : decode cX12_bound 154 = .ok (.iload 6, 2) := by decide +kernel
theorem dX12_bound_156 : decode cX12_bound 156 = .ok (.iconst 4, 1) := by decide +kernel
theorem dX12_bound_157 : decode cX12_bound 157 = .ok (.invokevirtual 151, 3) := by decide +kernel
theorem dX12_bound_160 : decode cX12_bound 160 = .ok (.goto 5, 3) := by decide +kernel
theorem dX12_bound_163 : decode cX12_bound 163 = .ok (.iload 5, 2) := by decide +kernel
theorem dX12_bound_165 : decode cX12_bound 165 = .ok (.istore 5, 2) := by decide +kernel
theorem dX12_bound_167 : decode cX12_bound 167 = .ok (.iinc 6 1, 3) := by decide +kernel
theorem dX12_bound_170 : decode cX12_bound 170 = .ok (.goto (-83), 3) := by decide +kernel
theorem dX12_bound_173 : decode cX12_bound 173 = .ok (.iload_n 3, 1) := by decide +kernel
theorem dX12_bound_174 : decode cX12_bound 174 = .ok (.iload 5, 2) := by decide +kernel
theorem dX12_bound_176 : decode cX12_bound 176 = .ok (.iadd, 1) := by decide +kernel
theorem dX12_bound_177 : decode cX12_bound 177 = .ok (.istore_n 3, 1) := by decide +kernel
theorem dX12_bound_178 : decode cX12_bound 178 = .ok (.aload_n 0, 1) := by decide +kernel
theorem dX12_bound_179 : decode cX12_bound 179 = .ok (.dup, 1) := by decide +kernel
theorem dX12_bound_180 : decode cX12_bound 180 = .ok (.getfield 227, 3) := by decide +kernel
theorem dX12_bound_183 : decode cX12_bound 183 = .ok (.iconst 1, 1) := by decide +kernel
theorem dX12_bound_184 : decode cX12_bound 184 = .ok (.iadd, 1) := by decide +kernel
theorem dX12_bound_185 : decode cX12_bound 185 = .ok (.putfield 227, 3) := by decide +kernel
theorem dX12_bound_188 : decode cX12_bound 188 = .ok (.iinc 4 1, 3) := by decide +kernel
theorem dX12_bound_191 : decode cX12_bound 191 = .ok (.goto (-160), 3) := by decide +kernel
theorem dX12_bound_194 : decode cX12_bound 194 = .ok (.iload_n 3, 1) := by decide +kernel
theorem dX12_bound_195 : decode cX12_bound 195 = .ok (.ireturn, 1) := by decide +kernel
theorem dX12_sizeOf_0 : decode cX12_sizeOf 0 = .ok (.iconst 0, 1) := by decide +kernel
theorem dX12_sizeOf_1 : decode cX12_sizeOf 1 = .ok (.istore_n 2, 1) := by decide +kernel
theorem dX12_sizeOf_2 : decode cX12_sizeOf 2 = .ok (.iconst 0, 1) := by decide +kernel
theorem dX12_sizeOf_3 : decode cX12_sizeOf 3 = .ok (.istore_n 3, 1) := by decide +kernel
theorem dX12_sizeOf_4 : decode cX12_sizeOf 4 = .ok (.iload_n 3, 1) := by decide +kernel
theorem dX12_sizeOf_5 : decode cX12_sizeOf 5 = .ok (.bipush 24, 2) := by decide +kernel
theorem dX12_sizeOf_7 : decode cX12_sizeOf 7 = .ok (.if_icmp .ge 27, 3) := by decide +kernel
theorem dX12_sizeOf_10 : decode cX12_sizeOf 10 = .ok (.iload_n 2, 1) := by decide +kernel
theorem dX12_sizeOf_11 : decode cX12_sizeOf 11 = .ok (.aload_n 0, 1) := by decide +kernel
theorem dX12_sizeOf_12 : decode cX12_sizeOf 12 = .ok (.getfield 56, 3) := by decide +kernel
theorem dX12_sizeOf_15 : decode cX12_sizeOf 15 = .ok (.iload_n 3, 1) := by decide +kernel
theorem dX12_sizeOf_16 : decode cX12_sizeOf 16 = .ok (.iaload, 1) := by decide +kernel
theorem dX12_sizeOf_17 : decode cX12_sizeOf 17 = .ok (.iload_n 1, 1) := by decide +kernel
theorem dX12_sizeOf_18 : decode cX12_sizeOf 18 = .ok (.if_icmp .ne 7, 3) := by decide +kernel
theorem dX12_sizeOf_21 : decode cX12_sizeOf 21 = .ok (.iconst 1, 1) := by decide +kernel
theorem dX12_sizeOf_22 : decode cX12_sizeOf 22 = .ok (.goto 4, 3) := by decide +kernel
theorem dX12_sizeOf_25 : decode cX12_sizeOf 25 = .ok (.iconst 0, 1) := by decide +kernel
theorem dX12_sizeOf_26 : decode cX12_sizeOf 26 = .ok (.iadd, 1) := by decide +kernel
theorem dX12_sizeOf_27 : decode cX12_sizeOf 27 = .ok (.istore_n 2, 1) := by decide +kernel
theorem dX12_sizeOf_28 : decode cX12_sizeOf 28 = .ok (.iinc 3 1, 3) := by decide +kernel
theorem dX12_sizeOf_31 : decode cX12_sizeOf 31 = .ok (.goto (-27), 3) := by decide +kernel
theorem dX12_sizeOf_34 : decode cX12_sizeOf 34 = .ok (.iload_n 2, 1) := by decide +kernel
theorem dX12_sizeOf_35 : decode cX12_sizeOf 35 = .ok (.ireturn, 1) := by decide +kernel
theorem dX12_proves_0 : decode cX12_proves 0 = .ok (.aload_n 0, 1) := by decide +kernel
theorem dX12_proves_1 : decode cX12_proves 1 = .ok (.getfield 220, 3) := by decide +kernel
theorem dX12_proves_4 : decode cX12_proves 4 = .ok (.sipush 2000, 3) := by decide +kernel
theorem dX12_proves_7 : decode cX12_proves 7 = .ok (.if_icmp .le 4, 3) := by decide +kernel
theorem dX12_proves_10 : decode cX12_proves 10 = .ok (.return_, 1) := by decide +kernel
theorem dX12_proves_11 : decode cX12_proves 11 = .ok (.aload_n 0, 1) := by decide +kernel
theorem dX12_proves_12 : decode cX12_proves 12 = .ok (.iload_n 1, 1) := by decide +kernel
theorem dX12_proves_13 : decode cX12_proves 13 = .ok (.iload_n 2, 1) := by decide +kernel
theorem dX12_proves_14 : decode cX12_proves 14 = .ok (.invokevirtual 233, 3) := by decide +kernel
theorem dX12_proves_17 : decode cX12_proves 17 = .ok (.aload_n 0, 1) := by decide +kernel
theorem dX12_proves_18 : decode cX12_proves 18 = .ok (.getfield 236, 3) := by decide +kernel
theorem dX12_proves_21 : decode cX12_proves 21 = .ok (.if_icmp .gt 46, 3) := by decide +kernel
theorem dX12_proves_24 : decode cX12_proves 24 = .ok (.aload_n 0, 1) := by decide +kernel
theorem dX12_proves_25 : decode cX12_proves 25 = .ok (.bipush 91, 2) := by decide +kernel
theorem dX12_proves_27 : decode cX12_proves 27 = .ok (.invokevirtual 223, 3) := by decide +kernel
theorem dX12_proves_30 : decode cX12_proves 30 = .ok (.iconst 0, 1) := by decide +kernel
theorem dX12_proves_31 : decode cX12_proves 31 = .ok (.istore_n 3, 1) := by decide +kernel
theorem dX12_proves_32 : decode cX12_proves 32 = .ok (.iload_n 3, 1) := by decide +kernel
theorem dX12_proves_33 : decode cX12_proves 33 = .ok (.aload_n 0, 1) := by decide +kernel
theorem dX12_proves_34 : decode cX12_proves 34 = .ok (.getfield 227, 3) := by decide +kernel
theorem dX12_proves_37 : decode cX12_proves 37 = .ok (.if_icmp .ge 23, 3) := by decide +kernel
theorem dX12_proves_40 : decode cX12_proves 40 = .ok (.aload_n 0, 1) := by decide +kernel
theorem dX12_proves_41 : decode cX12_proves 41 = .ok (.iload_n 3, 1) := by decide +kernel
theorem dX12_proves_42 : decode cX12_proves 42 = .ok (.invokevirtual 239, 3) := by decide +kernel
theorem dX12_proves_45 : decode cX12_proves 45 = .ok (.iconst 1, 1) := by decide +kernel
theorem dX12_proves_46 : decode cX12_proves 46 = .ok (.if_icmp .le 8, 3) := by decide +kernel
theorem dX12_proves_49 : decode cX12_proves 49 = .ok (.aload_n 0, 1) := by decide +kernel
theorem dX12_proves_50 : decode cX12_proves 50 = .ok (.iload_n 3, 1) := by decide +kernel
theorem dX12_proves_51 : decode cX12_proves 51 = .ok (.invokevirtual 242, 3) := by decide +kernel
theorem dX12_proves_54 : decode cX12_proves 54 = .ok (.iinc 3 1, 3) := by decide +kernel
theorem dX12_proves_57 : decode cX12_proves 57 = .ok (.goto (-25), 3) := by decide +kernel
theorem dX12_proves_60 : decode cX12_proves 60 = .ok (.aload_n 0, 1) := by decide +kernel
theorem dX12_proves_61 : decode cX12_proves 61 = .ok (.bipush 93, 2) := by decide +kernel
theorem dX12_proves_63 : decode cX12_proves 63 = .ok (.invokevirtual 223, 3) := by decide +kernel
theorem dX12_proves_66 : decode cX12_proves 66 = .ok (.return_, 1) := by decide +kernel
theorem dX12_proves_67 : decode cX12_proves 67 = .ok (.iconst (-1), 1) := by decide +kernel
theorem dX12_proves_68 : decode cX12_proves 68 = .ok (.istore_n 3, 1) := by decide +kernel
theorem dX12_proves_69 : decode cX12_proves 69 = .ok (.iconst 0, 1) := by decide +kernel
theorem dX12_proves_70 : decode cX12_proves 70 = .ok (.istore 4, 2) := by decide +kernel
theorem dX12_proves_72 : decode cX12_proves 72 = .ok (.iload 4, 2) := by decide +kernel
theorem dX12_proves_74 : decode cX12_proves 74 = .ok (.bipush 24, 2) := by decide +kernel
theorem dX12_proves_76 : decode cX12_proves 76 = .ok (.if_icmp .ge 53, 3) := by decide +kernel
theorem dX12_proves_79 : decode cX12_proves 79 = .ok (.iload_n 1, 1) := by decide +kernel
theorem dX12_proves_80 : decode cX12_proves 80 = .ok (.iload 4, 2) := by decide +kernel
theorem dX12_proves_82 : decode cX12_proves 82 = .ok (.ishr, 1) := by decide +kernel
theorem dX12_proves_83 : decode cX12_proves 83 = .ok (.iconst 1, 1) := by decide +kernel
theorem dX12_proves_84 : decode cX12_proves 84 = .ok (.iand, 1) := by decide +kernel
theorem dX12_proves_85 : decode cX12_proves 85 = .ok (.iconst 1, 1) := by decide +kernel
theorem dX12_proves_86 : decode cX12_proves 86 = .ok (.if_icmp .ne 37, 3) := by decide +kernel
theorem dX12_proves_89 : decode cX12_proves 89 = .ok (.iload_n 3, 1) := by decide +kernel
theorem dX12_proves_90 : decode cX12_proves 90 = .ok (.iconst (-1), 1) := by decide +kernel
theorem dX12_proves_91 : decode cX12_proves 91 = .ok (.if_icmp .eq 29, 3) := by decide +kernel
theorem dX12_proves_94 : decode cX12_proves 94 = .ok (.aload_n 0, 1) := by decide +kernel
theorem dX12_proves_95 : decode cX12_proves 95 = .ok (.getfield 40, 3) := by decide +kernel
theorem dX12_proves_98 : decode cX12_proves 98 = .ok (.iload 4, 2) := by decide +kernel
theorem dX12_proves_100 : decode cX12_proves 100 = .ok (.iaload, 1) := by decide +kernel
theorem dX12_proves_101 : decode cX12_proves 101 = .ok (.iload_n 1, 1) := by decide +kernel
theorem dX12_proves_102 : decode cX12_proves 102 = .ok (.iand, 1) := by decide +kernel
theorem dX12_proves_103 : decode cX12_proves 103 = .ok (.invokestatic 201, 3) := by decide +kernel
theorem dX12_proves_106 : decode cX12_proves 106 = .ok (.aload_n 0, 1) := by decide +kernel
theorem dX12_proves_107 : decode cX12_proves 107 = .ok (.getfield 40, 3) := by decide +kernel
theorem dX12_proves_110 : decode cX12_proves 110 = .ok (.iload_n 3, 1) := by decide +kernel
theorem dX12_proves_111 : decode cX12_proves 111 = .ok (.iaload, 1) := by decide +kernel
theorem dX12_proves_112 : decode cX12_proves 112 = .ok (.iload_n 1, 1) := by decide +kernel
theorem dX12_proves_113 : decode cX12_proves 113 = .ok (.iand, 1) := by decide +kernel
theorem dX12_proves_114 : decode cX12_proves 114 = .ok (.invokestatic 201, 3) := by decide +kernel
theorem dX12_proves_117 : decode cX12_proves 117 = .ok (.if_icmp .le 6, 3) := by decide +kernel
theorem dX12_proves_120 : decode cX12_proves 120 = .ok (.iload 4, 2) := by decide +kernel
theorem dX12_proves_122 : decode cX12_proves 122 = .ok (.istore_n 3, 1) := by decide +kernel
theorem dX12_proves_123 : decode cX12_proves 123 = .ok (.iinc 4 1, 3) := by decide +kernel
theorem dX12_proves_126 : decode cX12_proves 126 = .ok (.goto (-54), 3) := by decide +kernel
theorem dX12_proves_129 : decode cX12_proves 129 = .ok (.aload_n 0, 1) := by decide +kernel
theorem dX12_proves_130 : decode cX12_proves 130 = .ok (.bipush 40, 2) := by decide +kernel
theorem dX12_proves_132 : decode cX12_proves 132 = .ok (.invokevirtual 223, 3) := by decide +kernel
theorem dX12_proves_135 : decode cX12_proves 135 = .ok (.aload_n 0, 1) := by decide +kernel
theorem dX12_proves_136 : decode cX12_proves 136 = .ok (.iload_n 3, 1) := by decide +kernel
theorem dX12_proves_137 : decode cX12_proves 137 = .ok (.invokevirtual 245, 3) := by decide +kernel
theorem dX12_proves_140 : decode cX12_proves 140 = .ok (.aload_n 0, 1) := by decide +kernel
theorem dX12_proves_141 : decode cX12_proves 141 = .ok (.iload_n 1, 1) := by decide +kernel
theorem dX12_proves_142 : decode cX12_proves 142 = .ok (.iconst 1, 1) := by decide +kernel
theorem dX12_proves_143 : decode cX12_proves 143 = .ok (.iload_n 3, 1) := by decide +kernel
theorem dX12_proves_144 : decode cX12_proves 144 = .ok (.ishl, 1) := by decide +kernel
theorem dX12_proves_145 : decode cX12_proves 145 = .ok (.aload_n 0, 1) := by decide +kernel
theorem dX12_proves_146 : decode cX12_proves 146 = .ok (.getfield 40, 3) := by decide +kernel
theorem dX12_proves_149 : decode cX12_proves 149 = .ok (.iload_n 3, 1) := by decide +kernel
theorem dX12_proves_150 : decode cX12_proves 150 = .ok (.iaload, 1) := by decide +kernel
theorem dX12_proves_151 : decode cX12_proves 151 = .ok (.ior, 1) := by decide +kernel
theorem dX12_proves_152 : decode cX12_proves 152 = .ok (.iconst (-1), 1) := by decide +kernel
theorem dX12_proves_153 : decode cX12_proves 153 = .ok (.ixor, 1) := by decide +kernel
theorem dX12_proves_154 : decode cX12_proves 154 = .ok (.iand, 1) := by decide +kernel
theorem dX12_proves_155 : decode cX12_proves 155 = .ok (.iload_n 2, 1) := by decide +kernel
theorem dX12_proves_156 : decode cX12_proves 156 = .ok (.aload_n 0, 1) := by decide +kernel
theorem dX12_proves_157 : decode cX12_proves 157 = .ok (.iload_n 3, 1) := by decide +kernel
theorem dX12_proves_158 : decode cX12_proves 158 = .ok (.iconst 4, 1) := by decide +kernel
theorem dX12_proves_159 : decode cX12_proves 159 = .ok (.invokevirtual 151, 3) := by decide +kernel
theorem dX12_proves_162 : decode cX12_proves 162 = .ok (.iadd, 1) := by decide +kernel
theorem dX12_proves_163 : decode cX12_proves 163 = .ok (.invokevirtual 248, 3) := by decide +kernel
theorem dX12_proves_166 : decode cX12_proves 166 = .ok (.aload_n 0, 1) := by decide +kernel
theorem dX12_proves_167 : decode cX12_proves 167 = .ok (.iload_n 1, 1) := by decide +kernel
theorem dX12_proves_168 : decode cX12_proves 168 = .ok (.iconst 1, 1) := by decide +kernel
theorem dX12_proves_169 : decode cX12_proves 169 = .ok (.iload_n 3, 1) := by decide +kernel
theorem dX12_proves_170 : decode cX12_proves 170 = .ok (.ishl, 1) := by decide +kernel
theorem dX12_proves_171 : decode cX12_proves 171 = .ok (.iconst (-1), 1) := by decide +kernel
theorem dX12_proves_172 : decode cX12_proves 172 = .ok (.ixor, 1) := by decide +kernel
theorem dX12_proves_173 : decode cX12_proves 173 = .ok (.iand, 1) := by decide +kernel
theorem dX12_proves_174 : decode cX12_proves 174 = .ok (.iload_n 2, 1) := by decide +kernel
theorem dX12_proves_175 : decode cX12_proves 175 = .ok (.invokevirtual 248, 3) := by decide +kernel
theorem dX12_proves_178 : decode cX12_proves 178 = .ok (.aload_n 0, 1) := by decide +kernel
theorem dX12_proves_179 : decode cX12_proves 179 = .ok (.bipush 41, 2) := by decide +kernel
theorem dX12_proves_181 : decode cX12_proves 181 = .ok (.invokevirtual 223, 3) := by decide +kernel
theorem dX12_proves_184 : decode cX12_proves 184 = .ok (.return_, 1) := by decide +kernel
theorem dX12_putsGroup_0 : decode cX12_putsGroup 0 = .ok (.iconst 0, 1) := by decide +kernel
theorem dX12_putsGroup_1 : decode cX12_putsGroup 1 = .ok (.istore_n 2, 1) := by decide +kernel
theorem dX12_putsGroup_2 : decode cX12_putsGroup 2 = .ok (.iconst 0, 1) := by decide +kernel
theorem dX12_putsGroup_3 : decode cX12_putsGroup 3 = .ok (.istore_n 3, 1) := by decide +kernel
theorem dX12_putsGroup_4 : decode cX12_putsGroup 4 = .ok (.iload_n 3, 1) := by decide +kernel
theorem dX12_putsGroup_5 : decode cX12_putsGroup 5 = .ok (.bipush 24, 2) := by decide +kernel
theorem dX12_putsGroup_7 : decode cX12_putsGroup 7 = .ok (.if_icmp .ge 39, 3) := by decide +kernel
theorem dX12_putsGroup_10 : decode cX12_putsGroup 10 = .ok (.aload_n 0, 1) := by decide +kernel
theorem dX12_putsGroup_11 : decode cX12_putsGroup 11 = .ok (.getfield 56, 3) := by decide +kernel
theorem dX12_putsGroup_14 : decode cX12_putsGroup 14 = .ok (.iload_n 3, 1) := by decide +kernel
theorem dX12_putsGroup_15 : decode cX12_putsGroup 15 = .ok (.iaload, 1) := by decide +kernel
theorem dX12_putsGroup_16 : decode cX12_putsGroup 16 = .ok (.iload_n 1, 1) := by decide +kernel
theorem dX12_putsGroup_17 : decode cX12_putsGroup 17 = .ok (.if_icmp .eq 6, 3) := by decide +kernel
theorem dX12_putsGroup_20 : decode cX12_putsGroup 20 = .ok (.goto 20, 3) := by decide +kernel
theorem dX12_putsGroup_23 : decode cX12_putsGroup 23 = .ok (.iload_n 2, 1) := by decide +kernel
theorem dX12_putsGroup_24 : decode cX12_putsGroup 24 = .ok (.ifCond .eq 9, 3) := by decide +kernel
theorem dX12_putsGroup_27 : decode cX12_putsGroup 27 = .ok (.aload_n 0, 1) := by decide +kernel
theorem dX12_putsGroup_28 : decode cX12_putsGroup 28 = .ok (.bipush 44, 2) := by decide +kernel
theorem dX12_putsGroup_30 : decode cX12_putsGroup 30 = .ok (.invokevirtual 223, 3) := by decide +kernel
theorem dX12_putsGroup_33 : decode cX12_putsGroup 33 = .ok (.aload_n 0, 1) := by decide +kernel
theorem dX12_putsGroup_34 : decode cX12_putsGroup 34 = .ok (.iload_n 3, 1) := by decide +kernel
theorem dX12_putsGroup_35 : decode cX12_putsGroup 35 = .ok (.invokevirtual 245, 3) := by decide +kernel
theorem dX12_putsGroup_38 : decode cX12_putsGroup 38 = .ok (.iconst 1, 1) := by decide +kernel
theorem dX12_putsGroup_39 : decode cX12_putsGroup 39 = .ok (.istore_n 2, 1) := by decide +kernel
theorem dX12_putsGroup_40 : decode cX12_putsGroup 40 = .ok (.iinc 3 1, 3) := by decide +kernel
theorem dX12_putsGroup_43 : decode cX12_putsGroup 43 = .ok (.goto (-39), 3) := by decide +kernel
theorem dX12_putsGroup_46 : decode cX12_putsGroup 46 = .ok (.aload_n 0, 1) := by decide +kernel
theorem dX12_putsGroup_47 : decode cX12_putsGroup 47 = .ok (.bipush 59, 2) := by decide +kernel
theorem dX12_putsGroup_49 : decode cX12_putsGroup 49 = .ok (.invokevirtual 223, 3) := by decide +kernel
theorem dX12_putsGroup_52 : decode cX12_putsGroup 52 = .ok (.return_, 1) := by decide +kernel
theorem dX12_prove_0 : decode cX12_prove 0 = .ok (.aload_n 0, 1) := by decide +kernel
theorem dX12_prove_1 : decode cX12_prove 1 = .ok (.iload_n 1, 1) := by decide +kernel
theorem dX12_prove_2 : decode cX12_prove 2 = .ok (.invokevirtual 113, 3) := by decide +kernel
theorem dX12_prove_5 : decode cX12_prove 5 = .ok (.ifCond .eq 10, 3) := by decide +kernel
theorem dX12_prove_8 : decode cX12_prove 8 = .ok (.iload_n 2, 1) := by decide +kernel
theorem dX12_prove_9 : decode cX12_prove 9 = .ok (.invokestatic 109, 3) := by decide +kernel
theorem dX12_prove_12 : decode cX12_prove 12 = .ok (.ifCond .ne 5, 3) := by decide +kernel
theorem dX12_prove_15 : decode cX12_prove 15 = .ok (.iconst (-1), 1) := by decide +kernel
theorem dX12_prove_16 : decode cX12_prove 16 = .ok (.ireturn, 1) := by decide +kernel
theorem dX12_prove_17 : decode cX12_prove 17 = .ok (.aload_n 0, 1) := by decide +kernel
theorem dX12_prove_18 : decode cX12_prove 18 = .ok (.iload_n 1, 1) := by decide +kernel
theorem dX12_prove_19 : decode cX12_prove 19 = .ok (.iload_n 2, 1) := by decide +kernel
theorem dX12_prove_20 : decode cX12_prove 20 = .ok (.invokevirtual 214, 3) := by decide +kernel
theorem dX12_prove_23 : decode cX12_prove 23 = .ok (.istore_n 3, 1) := by decide +kernel
theorem dX12_prove_24 : decode cX12_prove 24 = .ok (.aload_n 0, 1) := by decide +kernel
theorem dX12_prove_25 : decode cX12_prove 25 = .ok (.aload_n 0, 1) := by decide +kernel
theorem dX12_prove_26 : decode cX12_prove 26 = .ok (.iload_n 3, 1) := by decide +kernel
theorem dX12_prove_27 : decode cX12_prove 27 = .ok (.invokevirtual 217, 3) := by decide +kernel
theorem dX12_prove_30 : decode cX12_prove 30 = .ok (.putfield 236, 3) := by decide +kernel
theorem dX12_prove_33 : decode cX12_prove 33 = .ok (.aload_n 0, 1) := by decide +kernel
theorem dX12_prove_34 : decode cX12_prove 34 = .ok (.iconst 0, 1) := by decide +kernel
theorem dX12_prove_35 : decode cX12_prove 35 = .ok (.putfield 220, 3) := by decide +kernel
theorem dX12_prove_38 : decode cX12_prove 38 = .ok (.aload_n 0, 1) := by decide +kernel
theorem dX12_prove_39 : decode cX12_prove 39 = .ok (.iload_n 3, 1) := by decide +kernel
theorem dX12_prove_40 : decode cX12_prove 40 = .ok (.iconst 0, 1) := by decide +kernel
theorem dX12_prove_41 : decode cX12_prove 41 = .ok (.invokevirtual 248, 3) := by decide +kernel
theorem dX12_prove_44 : decode cX12_prove 44 = .ok (.aload_n 0, 1) := by decide +kernel
theorem dX12_prove_45 : decode cX12_prove 45 = .ok (.getfield 220, 3) := by decide +kernel
theorem dX12_prove_48 : decode cX12_prove 48 = .ok (.sipush 2000, 3) := by decide +kernel
theorem dX12_prove_51 : decode cX12_prove 51 = .ok (.if_icmp .le 5, 3) := by decide +kernel
theorem dX12_prove_54 : decode cX12_prove 54 = .ok (.iconst (-1), 1) := by decide +kernel
theorem dX12_prove_55 : decode cX12_prove 55 = .ok (.ireturn, 1) := by decide +kernel
theorem dX12_prove_56 : decode cX12_prove 56 = .ok (.aload_n 0, 1) := by decide +kernel
theorem dX12_prove_57 : decode cX12_prove 57 = .ok (.aload_n 0, 1) := by decide +kernel
theorem dX12_prove_58 : decode cX12_prove 58 = .ok (.getfield 220, 3) := by decide +kernel
theorem dX12_prove_61 : decode cX12_prove 61 = .ok (.putfield 53, 3) := by decide +kernel
theorem dX12_prove_64 : decode cX12_prove 64 = .ok (.iconst 0, 1) := by decide +kernel
theorem dX12_prove_65 : decode cX12_prove 65 = .ok (.istore 4, 2) := by decide +kernel
theorem dX12_prove_67 : decode cX12_prove 67 = .ok (.iload 4, 2) := by decide +kernel
theorem dX12_prove_69 : decode cX12_prove 69 = .ok (.aload_n 0, 1) := by decide +kernel
theorem dX12_prove_70 : decode cX12_prove 70 = .ok (.getfield 220, 3) := by decide +kernel
theorem dX12_prove_73 : decode cX12_prove 73 = .ok (.if_icmp .ge 23, 3) := by decide +kernel
theorem dX12_prove_76 : decode cX12_prove 76 = .ok (.aload_n 0, 1) := by decide +kernel
theorem dX12_prove_77 : decode cX12_prove 77 = .ok (.getfield 46, 3) := by decide +kernel
theorem dX12_prove_80 : decode cX12_prove 80 = .ok (.iload 4, 2) := by decide +kernel
theorem dX12_prove_82 : decode cX12_prove 82 = .ok (.aload_n 0, 1) := by decide +kernel
theorem dX12_prove_83 : decode cX12_prove 83 = .ok (.getfield 50, 3) := by decide +kernel
theorem dX12_prove_86 : decode cX12_prove 86 = .ok (.iload 4, 2) := by decide +kernel
theorem dX12_prove_88 : decode cX12_prove 88 = .ok (.baload, 1) := by decide +kernel
theorem dX12_prove_89 : decode cX12_prove 89 = .ok (.bastore, 1) := by decide +kernel
theorem dX12_prove_90 : decode cX12_prove 90 = .ok (.iinc 4 1, 3) := by decide +kernel
theorem dX12_prove_93 : decode cX12_prove 93 = .ok (.goto (-26), 3) := by decide +kernel
theorem dX12_prove_96 : decode cX12_prove 96 = .ok (.aload_n 0, 1) := by decide +kernel
theorem dX12_prove_97 : decode cX12_prove 97 = .ok (.getfield 53, 3) := by decide +kernel
theorem dX12_prove_100 : decode cX12_prove 100 = .ok (.ireturn, 1) := by decide +kernel
theorem dX12_proof_0 : decode cX12_proof 0 = .ok (.iload_n 1, 1) := by decide +kernel
theorem dX12_proof_1 : decode cX12_proof 1 = .ok (.iconst 0, 1) := by decide +kernel
theorem dX12_proof_2 : decode cX12_proof 2 = .ok (.aload_n 0, 1) := by decide +kernel
theorem dX12_proof_3 : decode cX12_proof 3 = .ok (.getfield 53, 3) := by decide +kernel
theorem dX12_proof_6 : decode cX12_proof 6 = .ok (.iconst 1, 1) := by decide +kernel
theorem dX12_proof_7 : decode cX12_proof 7 = .ok (.isub, 1) := by decide +kernel
theorem dX12_proof_8 : decode cX12_proof 8 = .ok (.invokestatic 3, 3) := by decide +kernel
theorem dX12_proof_11 : decode cX12_proof 11 = .ok (.ifCond .eq 12, 3) := by decide +kernel
theorem dX12_proof_14 : decode cX12_proof 14 = .ok (.aload_n 0, 1) := by decide +kernel
theorem dX12_proof_15 : decode cX12_proof 15 = .ok (.getfield 46, 3) := by decide +kernel
theorem dX12_proof_18 : decode cX12_proof 18 = .ok (.iload_n 1, 1) := by decide +kernel
theorem dX12_proof_19 : decode cX12_proof 19 = .ok (.baload, 1) := by decide +kernel
theorem dX12_proof_20 : decode cX12_proof 20 = .ok (.goto 4, 3) := by decide +kernel
theorem dX12_proof_23 : decode cX12_proof 23 = .ok (.iconst (-1), 1) := by decide +kernel
theorem dX12_proof_24 : decode cX12_proof 24 = .ok (.ireturn, 1) := by decide +kernel
theorem dX12_feed_0 : decode cX12_feed 0 = .ok (.aload_n 0, 1) := by decide +kernel
theorem dX12_feed_1 : decode cX12_feed 1 = .ok (.getfield 251, 3) := by decide +kernel
theorem dX12_feed_4 : decode cX12_feed 4 = .ok (.bipush 20, 2) := by decide +kernel
theorem dX12_feed_6 : decode cX12_feed 6 = .ok (.iadd, 1) := by decide +kernel
theorem dX12_feed_7 : decode cX12_feed 7 = .ok (.sipush 400, 3) := by decide +kernel
theorem dX12_feed_10 : decode cX12_feed 10 = .ok (.if_icmp .le 5, 3) := by decide +kernel
theorem dX12_feed_13 : decode cX12_feed 13 = .ok (.iconst (-1), 1) := by decide +kernel
theorem dX12_feed_14 : decode cX12_feed 14 = .ok (.ireturn, 1) := by decide +kernel
theorem dX12_feed_15 : decode cX12_feed 15 = .ok (.aload_n 0, 1) := by decide +kernel
theorem dX12_feed_16 : decode cX12_feed 16 = .ok (.getfield 65, 3) := by decide +kernel
theorem dX12_feed_19 : decode cX12_feed 19 = .ok (.iconst 0, 1) := by decide +kernel
theorem dX12_feed_20 : decode cX12_feed 20 = .ok (.iload_n 1, 1) := by decide +kernel
theorem dX12_feed_21 : decode cX12_feed 21 = .ok (.iastore, 1) := by decide +kernel
theorem dX12_feed_22 : decode cX12_feed 22 = .ok (.aload_n 0, 1) := by decide +kernel
theorem dX12_feed_23 : decode cX12_feed 23 = .ok (.getfield 65, 3) := by decide +kernel
theorem dX12_feed_26 : decode cX12_feed 26 = .ok (.iconst 1, 1) := by decide +kernel
theorem dX12_feed_27 : decode cX12_feed 27 = .ok (.iload_n 2, 1) := by decide +kernel
theorem dX12_feed_28 : decode cX12_feed 28 = .ok (.iastore, 1) := by decide +kernel
theorem dX12_feed_29 : decode cX12_feed 29 = .ok (.aload_n 0, 1) := by decide +kernel
theorem dX12_feed_30 : decode cX12_feed 30 = .ok (.getfield 65, 3) := by decide +kernel
theorem dX12_feed_33 : decode cX12_feed 33 = .ok (.iconst 2, 1) := by decide +kernel
theorem dX12_feed_34 : decode cX12_feed 34 = .ok (.iload_n 3, 1) := by decide +kernel
theorem dX12_feed_35 : decode cX12_feed 35 = .ok (.iastore, 1) := by decide +kernel
theorem dX12_feed_36 : decode cX12_feed 36 = .ok (.aload_n 0, 1) := by decide +kernel
theorem dX12_feed_37 : decode cX12_feed 37 = .ok (.getfield 65, 3) := by decide +kernel
theorem dX12_feed_40 : decode cX12_feed 40 = .ok (.iconst 3, 1) := by decide +kernel
theorem dX12_feed_41 : decode cX12_feed 41 = .ok (.iload 4, 2) := by decide +kernel
theorem dX12_feed_43 : decode cX12_feed 43 = .ok (.iastore, 1) := by decide +kernel
theorem dX12_feed_44 : decode cX12_feed 44 = .ok (.aload_n 0, 1) := by decide +kernel
theorem dX12_feed_45 : decode cX12_feed 45 = .ok (.getfield 65, 3) := by decide +kernel
theorem dX12_feed_48 : decode cX12_feed 48 = .ok (.iconst 4, 1) := by decide +kernel
theorem dX12_feed_49 : decode cX12_feed 49 = .ok (.iload 5, 2) := by decide +kernel
theorem dX12_feed_51 : decode cX12_feed 51 = .ok (.iastore, 1) := by decide +kernel
theorem dX12_feed_52 : decode cX12_feed 52 = .ok (.iconst 0, 1) := by decide +kernel
theorem dX12_feed_53 : decode cX12_feed 53 = .ok (.istore 6, 2) := by decide +kernel
theorem dX12_feed_55 : decode cX12_feed 55 = .ok (.iload 6, 2) := by decide +kernel
theorem dX12_feed_57 : decode cX12_feed 57 = .ok (.bipush 20, 2) := by decide +kernel
theorem dX12_feed_59 : decode cX12_feed 59 = .ok (.if_icmp .ge 42, 3) := by decide +kernel
theorem dX12_feed_62 : decode cX12_feed 62 = .ok (.aload_n 0, 1) := by decide +kernel
theorem dX12_feed_63 : decode cX12_feed 63 = .ok (.getfield 59, 3) := by decide +kernel
theorem dX12_feed_66 : decode cX12_feed 66 = .ok (.aload_n 0, 1) := by decide +kernel
theorem dX12_feed_67 : decode cX12_feed 67 = .ok (.getfield 251, 3) := by decide +kernel
theorem dX12_feed_70 : decode cX12_feed 70 = .ok (.iload 6, 2) := by decide +kernel
theorem dX12_feed_72 : decode cX12_feed 72 = .ok (.iadd, 1) := by decide +kernel
theorem dX12_feed_73 : decode cX12_feed 73 = .ok (.aload_n 0, 1) := by decide +kernel
theorem dX12_feed_74 : decode cX12_feed 74 = .ok (.getfield 65, 3) := by decide +kernel
theorem dX12_feed_77 : decode cX12_feed 77 = .ok (.iload 6, 2) := by decide +kernel
theorem dX12_feed_79 : decode cX12_feed 79 = .ok (.iconst 4, 1) := by decide +kernel
theorem dX12_feed_80 : decode cX12_feed 80 = .ok (.idiv, 1) := by decide +kernel
theorem dX12_feed_81 : decode cX12_feed 81 = .ok (.iaload, 1) := by decide +kernel
theorem dX12_feed_82 : decode cX12_feed 82 = .ok (.bipush 24, 2) := by decide +kernel
theorem dX12_feed_84 : decode cX12_feed 84 = .ok (.bipush 8, 2) := by decide +kernel
theorem dX12_feed_86 : decode cX12_feed 86 = .ok (.iload 6, 2) := by decide +kernel
theorem dX12_feed_88 : decode cX12_feed 88 = .ok (.iconst 4, 1) := by decide +kernel
theorem dX12_feed_89 : decode cX12_feed 89 = .ok (.irem, 1) := by decide +kernel
theorem dX12_feed_90 : decode cX12_feed 90 = .ok (.imul, 1) := by decide +kernel
theorem dX12_feed_91 : decode cX12_feed 91 = .ok (.isub, 1) := by decide +kernel
theorem dX12_feed_92 : decode cX12_feed 92 = .ok (.ishr, 1) := by decide +kernel
theorem dX12_feed_93 : decode cX12_feed 93 = .ok (.i2b, 1) := by decide +kernel
theorem dX12_feed_94 : decode cX12_feed 94 = .ok (.bastore, 1) := by decide +kernel
theorem dX12_feed_95 : decode cX12_feed 95 = .ok (.iinc 6 1, 3) := by decide +kernel
theorem dX12_feed_98 : decode cX12_feed 98 = .ok (.goto (-43), 3) := by decide +kernel
theorem dX12_feed_101 : decode cX12_feed 101 = .ok (.aload_n 0, 1) := by decide +kernel
theorem dX12_feed_102 : decode cX12_feed 102 = .ok (.dup, 1) := by decide +kernel
theorem dX12_feed_103 : decode cX12_feed 103 = .ok (.getfield 251, 3) := by decide +kernel
theorem dX12_feed_106 : decode cX12_feed 106 = .ok (.bipush 20, 2) := by decide +kernel
theorem dX12_feed_108 : decode cX12_feed 108 = .ok (.iadd, 1) := by decide +kernel
theorem dX12_feed_109 : decode cX12_feed 109 = .ok (.putfield 251, 3) := by decide +kernel
theorem dX12_feed_112 : decode cX12_feed 112 = .ok (.aload_n 0, 1) := by decide +kernel
theorem dX12_feed_113 : decode cX12_feed 113 = .ok (.getfield 251, 3) := by decide +kernel
theorem dX12_feed_116 : decode cX12_feed 116 = .ok (.ireturn, 1) := by decide +kernel
theorem dX12_end_0 : decode cX12_end 0 = .ok (.iload_n 1, 1) := by decide +kernel
theorem dX12_end_1 : decode cX12_end 1 = .ok (.iconst 0, 1) := by decide +kernel
theorem dX12_end_2 : decode cX12_end 2 = .ok (.aload_n 0, 1) := by decide +kernel
theorem dX12_end_3 : decode cX12_end 3 = .ok (.getfield 251, 3) := by decide +kernel
theorem dX12_end_6 : decode cX12_end 6 = .ok (.invokestatic 3, 3) := by decide +kernel
theorem dX12_end_9 : decode cX12_end 9 = .ok (.ifCond .ne 5, 3) := by decide +kernel
theorem dX12_end_12 : decode cX12_end 12 = .ok (.iconst (-1), 1) := by decide +kernel
theorem dX12_end_13 : decode cX12_end 13 = .ok (.ireturn, 1) := by decide +kernel
theorem dX12_end_14 : decode cX12_end 14 = .ok (.aload_n 0, 1) := by decide +kernel
theorem dX12_end_15 : decode cX12_end 15 = .ok (.iload_n 1, 1) := by decide +kernel
theorem dX12_end_16 : decode cX12_end 16 = .ok (.putfield 251, 3) := by decide +kernel
theorem dX12_end_19 : decode cX12_end 19 = .ok (.iload_n 1, 1) := by decide +kernel
theorem dX12_end_20 : decode cX12_end 20 = .ok (.ireturn, 1) := by decide +kernel
theorem dX12_isDigit_0 : decode cX12_isDigit 0 = .ok (.iload_n 1, 1) := by decide +kernel
theorem dX12_isDigit_1 : decode cX12_isDigit 1 = .ok (.aload_n 0, 1) := by decide +kernel
theorem dX12_isDigit_2 : decode cX12_isDigit 2 = .ok (.getfield 254, 3) := by decide +kernel
theorem dX12_isDigit_5 : decode cX12_isDigit 5 = .ok (.if_icmp .ge 29, 3) := by decide +kernel
theorem dX12_isDigit_8 : decode cX12_isDigit 8 = .ok (.aload_n 0, 1) := by decide +kernel
theorem dX12_isDigit_9 : decode cX12_isDigit 9 = .ok (.getfield 62, 3) := by decide +kernel
theorem dX12_isDigit_12 : decode cX12_isDigit 12 = .ok (.iload_n 1, 1) := by decide +kernel
theorem dX12_isDigit_13 : decode cX12_isDigit 13 = .ok (.baload, 1) := by decide +kernel
theorem dX12_isDigit_14 : decode cX12_isDigit 14 = .ok (.bipush 48, 2) := by decide +kernel
theorem dX12_isDigit_16 : decode cX12_isDigit 16 = .ok (.if_icmp .lt 18, 3) := by decide +kernel
theorem dX12_isDigit_19 : decode cX12_isDigit 19 = .ok (.aload_n 0, 1) := by decide +kernel
theorem dX12_isDigit_20 : decode cX12_isDigit 20 = .ok (.getfield 62, 3) := by decide +kernel
theorem dX12_isDigit_23 : decode cX12_isDigit 23 = .ok (.iload_n 1, 1) := by decide +kernel
theorem dX12_isDigit_24 : decode cX12_isDigit 24 = .ok (.baload, 1) := by decide +kernel
theorem dX12_isDigit_25 : decode cX12_isDigit 25 = .ok (.bipush 57, 2) := by decide +kernel
theorem dX12_isDigit_27 : decode cX12_isDigit 27 = .ok (.if_icmp .gt 7, 3) := by decide +kernel
theorem dX12_isDigit_30 : decode cX12_isDigit 30 = .ok (.iconst 1, 1) := by decide +kernel
theorem dX12_isDigit_31 : decode cX12_isDigit 31 = .ok (.goto 4, 3) := by decide +kernel
theorem dX12_isDigit_34 : decode cX12_isDigit 34 = .ok (.iconst 0, 1) := by decide +kernel
theorem dX12_isDigit_35 : decode cX12_isDigit 35 = .ok (.ireturn, 1) := by decide +kernel
theorem dX12_next_0 : decode cX12_next 0 = .ok (.aload_n 0, 1) := by decide +kernel
theorem dX12_next_1 : decode cX12_next 1 = .ok (.aload_n 0, 1) := by decide +kernel
theorem dX12_next_2 : decode cX12_next 2 = .ok (.getfield 257, 3) := by decide +kernel
theorem dX12_next_5 : decode cX12_next 5 = .ok (.putfield 260, 3) := by decide +kernel
theorem dX12_next_8 : decode cX12_next 8 = .ok (.aload_n 0, 1) := by decide +kernel
theorem dX12_next_9 : decode cX12_next 9 = .ok (.getfield 260, 3) := by decide +kernel
theorem dX12_next_12 : decode cX12_next 12 = .ok (.aload_n 0, 1) := by decide +kernel
theorem dX12_next_13 : decode cX12_next 13 = .ok (.getfield 254, 3) := by decide +kernel
theorem dX12_next_16 : decode cX12_next 16 = .ok (.if_icmp .ge 30, 3) := by decide +kernel
theorem dX12_next_19 : decode cX12_next 19 = .ok (.aload_n 0, 1) := by decide +kernel
theorem dX12_next_20 : decode cX12_next 20 = .ok (.getfield 62, 3) := by decide +kernel
theorem dX12_next_23 : decode cX12_next 23 = .ok (.aload_n 0, 1) := by decide +kernel
theorem dX12_next_24 : decode cX12_next 24 = .ok (.getfield 260, 3) := by decide +kernel
theorem dX12_next_27 : decode cX12_next 27 = .ok (.baload, 1) := by decide +kernel
theorem dX12_next_28 : decode cX12_next 28 = .ok (.bipush 32, 2) := by decide +kernel
theorem dX12_next_30 : decode cX12_next 30 = .ok (.if_icmp .ne 16, 3) := by decide +kernel
theorem dX12_next_33 : decode cX12_next 33 = .ok (.aload_n 0, 1) := by decide +kernel
theorem dX12_next_34 : decode cX12_next 34 = .ok (.dup, 1) := by decide +kernel
theorem dX12_next_35 : decode cX12_next 35 = .ok (.getfield 260, 3) := by decide +kernel
theorem dX12_next_38 : decode cX12_next 38 = .ok (.iconst 1, 1) := by decide +kernel
theorem dX12_next_39 : decode cX12_next 39 = .ok (.iadd, 1) := by decide +kernel
theorem dX12_next_40 : decode cX12_next 40 = .ok (.putfield 260, 3) := by decide +kernel
theorem dX12_next_43 : decode cX12_next 43 = .ok (.goto (-35), 3) := by decide +kernel
theorem dX12_next_46 : decode cX12_next 46 = .ok (.aload_n 0, 1) := by decide +kernel
theorem dX12_next_47 : decode cX12_next 47 = .ok (.aload_n 0, 1) := by decide +kernel
theorem dX12_next_48 : decode cX12_next 48 = .ok (.getfield 260, 3) := by decide +kernel
theorem dX12_next_51 : decode cX12_next 51 = .ok (.putfield 257, 3) := by decide +kernel
theorem dX12_next_54 : decode cX12_next 54 = .ok (.aload_n 0, 1) := by decide +kernel
theorem dX12_next_55 : decode cX12_next 55 = .ok (.aload_n 0, 1) := by decide +kernel
theorem dX12_next_56 : decode cX12_next 56 = .ok (.getfield 260, 3) := by decide +kernel
theorem dX12_next_59 : decode cX12_next 59 = .ok (.invokevirtual 263, 3) := by decide +kernel
theorem dX12_next_62 : decode cX12_next 62 = .ok (.ifCond .eq 27, 3) := by decide +kernel
theorem dX12_next_65 : decode cX12_next 65 = .ok (.aload_n 0, 1) := by decide +kernel
theorem dX12_next_66 : decode cX12_next 66 = .ok (.aload_n 0, 1) := by decide +kernel
theorem dX12_next_67 : decode cX12_next 67 = .ok (.getfield 257, 3) := by decide +kernel
theorem dX12_next_70 : decode cX12_next 70 = .ok (.invokevirtual 263, 3) := by decide +kernel
theorem dX12_next_73 : decode cX12_next 73 = .ok (.ifCond .eq 37, 3) := by decide +kernel
theorem dX12_next_76 : decode cX12_next 76 = .ok (.aload_n 0, 1) := by decide +kernel
theorem dX12_next_77 : decode cX12_next 77 = .ok (.dup, 1) := by decide +kernel
theorem dX12_next_78 : decode cX12_next 78 = .ok (.getfield 257, 3) := by decide +kernel
theorem dX12_next_81 : decode cX12_next 81 = .ok (.iconst 1, 1) := by decide +kernel
theorem dX12_next_82 : decode cX12_next 82 = .ok (.iadd, 1) := by decide +kernel
theorem dX12_next_83 : decode cX12_next 83 = .ok (.putfield 257, 3) := by decide +kernel
theorem dX12_next_86 : decode cX12_next 86 = .ok (.goto (-21), 3) := by decide +kernel
theorem dX12_next_89 : decode cX12_next 89 = .ok (.aload_n 0, 1) := by decide +kernel
theorem dX12_next_90 : decode cX12_next 90 = .ok (.getfield 260, 3) := by decide +kernel
theorem dX12_next_93 : decode cX12_next 93 = .ok (.aload_n 0, 1) := by decide +kernel
theorem dX12_next_94 : decode cX12_next 94 = .ok (.getfield 254, 3) := by decide +kernel
theorem dX12_next_97 : decode cX12_next 97 = .ok (.if_icmp .ge 13, 3) := by decide +kernel
theorem dX12_next_100 : decode cX12_next 100 = .ok (.aload_n 0, 1) := by decide +kernel
theorem dX12_next_101 : decode cX12_next 101 = .ok (.dup, 1) := by decide +kernel
theorem dX12_next_102 : decode cX12_next 102 = .ok (.getfield 257, 3) := by decide +kernel
theorem dX12_next_105 : decode cX12_next 105 = .ok (.iconst 1, 1) := by decide +kernel
theorem dX12_next_106 : decode cX12_next 106 = .ok (.iadd, 1) := by decide +kernel
theorem dX12_next_107 : decode cX12_next 107 = .ok (.putfield 257, 3) := by decide +kernel
theorem dX12_next_110 : decode cX12_next 110 = .ok (.return_, 1) := by decide +kernel
theorem dX12_good_0 : decode cX12_good 0 = .ok (.aload_n 0, 1) := by decide +kernel
theorem dX12_good_1 : decode cX12_good 1 = .ok (.getfield 266, 3) := by decide +kernel
theorem dX12_good_4 : decode cX12_good 4 = .ok (.iconst (-1), 1) := by decide +kernel
theorem dX12_good_5 : decode cX12_good 5 = .ok (.if_icmp .ne 7, 3) := by decide +kernel
theorem dX12_good_8 : decode cX12_good 8 = .ok (.iconst 1, 1) := by decide +kernel
theorem dX12_good_9 : decode cX12_good 9 = .ok (.goto 4, 3) := by decide +kernel
theorem dX12_good_12 : decode cX12_good 12 = .ok (.iconst 0, 1) := by decide +kernel
theorem dX12_good_13 : decode cX12_good 13 = .ok (.ireturn, 1) := by decide +kernel
theorem dX12_faults_0 : decode cX12_faults 0 = .ok (.aload_n 0, 1) := by decide +kernel
theorem dX12_faults_1 : decode cX12_faults 1 = .ok (.invokevirtual 269, 3) := by decide +kernel
theorem dX12_faults_4 : decode cX12_faults 4 = .ok (.ifCond .eq 11, 3) := by decide +kernel
theorem dX12_faults_7 : decode cX12_faults 7 = .ok (.aload_n 0, 1) := by decide +kernel
theorem dX12_faults_8 : decode cX12_faults 8 = .ok (.aload_n 0, 1) := by decide +kernel
theorem dX12_faults_9 : decode cX12_faults 9 = .ok (.getfield 260, 3) := by decide +kernel
theorem dX12_faults_12 : decode cX12_faults 12 = .ok (.putfield 266, 3) := by decide +kernel
theorem dX12_faults_15 : decode cX12_faults 15 = .ok (.return_, 1) := by decide +kernel
theorem dX12_takes_0 : decode cX12_takes 0 = .ok (.aload_n 0, 1) := by decide +kernel
theorem dX12_takes_1 : decode cX12_takes 1 = .ok (.invokevirtual 269, 3) := by decide +kernel
theorem dX12_takes_4 : decode cX12_takes 4 = .ok (.ifCond .eq 31, 3) := by decide +kernel
theorem dX12_takes_7 : decode cX12_takes 7 = .ok (.aload_n 0, 1) := by decide +kernel
theorem dX12_takes_8 : decode cX12_takes 8 = .ok (.getfield 260, 3) := by decide +kernel
theorem dX12_takes_11 : decode cX12_takes 11 = .ok (.aload_n 0, 1) := by decide +kernel
theorem dX12_takes_12 : decode cX12_takes 12 = .ok (.getfield 254, 3) := by decide +kernel
theorem dX12_takes_15 : decode cX12_takes 15 = .ok (.if_icmp .ge 20, 3) := by decide +kernel
theorem dX12_takes_18 : decode cX12_takes 18 = .ok (.aload_n 0, 1) := by decide +kernel
theorem dX12_takes_19 : decode cX12_takes 19 = .ok (.getfield 62, 3) := by decide +kernel
theorem dX12_takes_22 : decode cX12_takes 22 = .ok (.aload_n 0, 1) := by decide +kernel
theorem dX12_takes_23 : decode cX12_takes 23 = .ok (.getfield 260, 3) := by decide +kernel
theorem dX12_takes_26 : decode cX12_takes 26 = .ok (.baload, 1) := by decide +kernel
theorem dX12_takes_27 : decode cX12_takes 27 = .ok (.iload_n 1, 1) := by decide +kernel
theorem dX12_takes_28 : decode cX12_takes 28 = .ok (.if_icmp .ne 7, 3) := by decide +kernel
theorem dX12_takes_31 : decode cX12_takes 31 = .ok (.iconst 1, 1) := by decide +kernel
theorem dX12_takes_32 : decode cX12_takes 32 = .ok (.goto 4, 3) := by decide +kernel
theorem dX12_takes_35 : decode cX12_takes 35 = .ok (.iconst 0, 1) := by decide +kernel
theorem dX12_takes_36 : decode cX12_takes 36 = .ok (.istore_n 2, 1) := by decide +kernel
theorem dX12_takes_37 : decode cX12_takes 37 = .ok (.iload_n 2, 1) := by decide +kernel
theorem dX12_takes_38 : decode cX12_takes 38 = .ok (.ifCond .eq 7, 3) := by decide +kernel
theorem dX12_takes_41 : decode cX12_takes 41 = .ok (.aload_n 0, 1) := by decide +kernel
theorem dX12_takes_42 : decode cX12_takes 42 = .ok (.invokevirtual 273, 3) := by decide +kernel
theorem dX12_takes_45 : decode cX12_takes 45 = .ok (.iload_n 2, 1) := by decide +kernel
theorem dX12_takes_46 : decode cX12_takes 46 = .ok (.ireturn, 1) := by decide +kernel
theorem dX12_need_0 : decode cX12_need 0 = .ok (.aload_n 0, 1) := by decide +kernel
theorem dX12_need_1 : decode cX12_need 1 = .ok (.iload_n 1, 1) := by decide +kernel
theorem dX12_need_2 : decode cX12_need 2 = .ok (.invokevirtual 276, 3) := by decide +kernel
theorem dX12_need_5 : decode cX12_need 5 = .ok (.ifCond .ne 7, 3) := by decide +kernel
theorem dX12_need_8 : decode cX12_need 8 = .ok (.aload_n 0, 1) := by decide +kernel
theorem dX12_need_9 : decode cX12_need 9 = .ok (.invokevirtual 279, 3) := by decide +kernel
theorem dX12_need_12 : decode cX12_need 12 = .ok (.return_, 1) := by decide +kernel
theorem dX12_aLog_0 : decode cX12_aLog 0 = .ok (.aload_n 0, 1) := by decide +kernel
theorem dX12_aLog_1 : decode cX12_aLog 1 = .ok (.invokevirtual 269, 3) := by decide +kernel
theorem dX12_aLog_4 : decode cX12_aLog 4 = .ok (.ifCond .ne 5, 3) := by decide +kernel
theorem dX12_aLog_7 : decode cX12_aLog 7 = .ok (.iconst (-1), 1) := by decide +kernel
theorem dX12_aLog_8 : decode cX12_aLog 8 = .ok (.ireturn, 1) := by decide +kernel
theorem dX12_aLog_9 : decode cX12_aLog 9 = .ok (.iconst 0, 1) := by decide +kernel
theorem dX12_aLog_10 : decode cX12_aLog 10 = .ok (.istore_n 2, 1) := by decide +kernel
theorem dX12_aLog_11 : decode cX12_aLog 11 = .ok (.aload_n 0, 1) := by decide +kernel
theorem dX12_aLog_12 : decode cX12_aLog 12 = .ok (.getfield 260, 3) := by decide +kernel
theorem dX12_aLog_15 : decode cX12_aLog 15 = .ok (.istore_n 3, 1) := by decide +kernel
theorem dX12_aLog_16 : decode cX12_aLog 16 = .ok (.iload_n 3, 1) := by decide +kernel
theorem dX12_aLog_17 : decode cX12_aLog 17 = .ok (.aload_n 0, 1) := by decide +kernel
theorem dX12_aLog_18 : decode cX12_aLog 18 = .ok (.getfield 257, 3) := by decide +kernel
theorem dX12_aLog_21 : decode cX12_aLog 21 = .ok (.if_icmp .ge 42, 3) := by decide +kernel
theorem dX12_aLog_24 : decode cX12_aLog 24 = .ok (.aload_n 0, 1) := by decide +kernel
theorem dX12_aLog_25 : decode cX12_aLog 25 = .ok (.iload_n 3, 1) := by decide +kernel
theorem dX12_aLog_26 : decode cX12_aLog 26 = .ok (.invokevirtual 263, 3) := by decide +kernel
theorem dX12_aLog_29 : decode cX12_aLog 29 = .ok (.ifCond .eq 34, 3) := by decide +kernel
theorem dX12_aLog_32 : decode cX12_aLog 32 = .ok (.iload_n 2, 1) := by decide +kernel
theorem dX12_aLog_33 : decode cX12_aLog 33 = .ok (.bipush 24, 2) := by decide +kernel
theorem dX12_aLog_35 : decode cX12_aLog 35 = .ok (.if_icmp .le 7, 3) := by decide +kernel
theorem dX12_aLog_38 : decode cX12_aLog 38 = .ok (.iload_n 2, 1) := by decide +kernel
theorem dX12_aLog_39 : decode cX12_aLog 39 = .ok (.goto 17, 3) := by decide +kernel
theorem dX12_aLog_42 : decode cX12_aLog 42 = .ok (.bipush 10, 2) := by decide +kernel
theorem dX12_aLog_44 : decode cX12_aLog 44 = .ok (.iload_n 2, 1) := by decide +kernel
theorem dX12_aLog_45 : decode cX12_aLog 45 = .ok (.imul, 1) := by decide +kernel
theorem dX12_aLog_46 : decode cX12_aLog 46 = .ok (.aload_n 0, 1) := by decide +kernel
theorem dX12_aLog_47 : decode cX12_aLog 47 = .ok (.getfield 62, 3) := by decide +kernel
theorem dX12_aLog_50 : decode cX12_aLog 50 = .ok (.iload_n 3, 1) := by decide +kernel
theorem dX12_aLog_51 : decode cX12_aLog 51 = .ok (.baload, 1) := by decide +kernel
theorem dX12_aLog_52 : decode cX12_aLog 52 = .ok (.iadd, 1) := by decide +kernel
theorem dX12_aLog_53 : decode cX12_aLog 53 = .ok (.bipush 48, 2) := by decide +kernel
theorem dX12_aLog_55 : decode cX12_aLog 55 = .ok (.isub, 1) := by decide +kernel
theorem dX12_aLog_56 : decode cX12_aLog 56 = .ok (.istore_n 2, 1) := by decide +kernel
theorem dX12_aLog_57 : decode cX12_aLog 57 = .ok (.iinc 3 1, 3) := by decide +kernel
theorem dX12_aLog_60 : decode cX12_aLog 60 = .ok (.goto (-44), 3) := by decide +kernel
theorem dX12_aLog_63 : decode cX12_aLog 63 = .ok (.aload_n 0, 1) := by decide +kernel
theorem dX12_aLog_64 : decode cX12_aLog 64 = .ok (.aload_n 0, 1) := by decide +kernel
theorem dX12_aLog_65 : decode cX12_aLog 65 = .ok (.getfield 260, 3) := by decide +kernel
theorem dX12_aLog_68 : decode cX12_aLog 68 = .ok (.invokevirtual 263, 3) := by decide +kernel
theorem dX12_aLog_71 : decode cX12_aLog 71 = .ok (.ifCond .eq 17, 3) := by decide +kernel
theorem dX12_aLog_74 : decode cX12_aLog 74 = .ok (.iload_n 2, 1) := by decide +kernel
theorem dX12_aLog_75 : decode cX12_aLog 75 = .ok (.bipush 24, 2) := by decide +kernel
theorem dX12_aLog_77 : decode cX12_aLog 77 = .ok (.if_icmp .ge 11, 3) := by decide +kernel
theorem dX12_aLog_80 : decode cX12_aLog 80 = .ok (.iload_n 1, 1) := by decide +kernel
theorem dX12_aLog_81 : decode cX12_aLog 81 = .ok (.iload_n 2, 1) := by decide +kernel
theorem dX12_aLog_82 : decode cX12_aLog 82 = .ok (.ishr, 1) := by decide +kernel
theorem dX12_aLog_83 : decode cX12_aLog 83 = .ok (.iconst 1, 1) := by decide +kernel
theorem dX12_aLog_84 : decode cX12_aLog 84 = .ok (.iand, 1) := by decide +kernel
theorem dX12_aLog_85 : decode cX12_aLog 85 = .ok (.ifCond .ne 9, 3) := by decide +kernel
theorem dX12_aLog_88 : decode cX12_aLog 88 = .ok (.aload_n 0, 1) := by decide +kernel
theorem dX12_aLog_89 : decode cX12_aLog 89 = .ok (.invokevirtual 279, 3) := by decide +kernel
theorem dX12_aLog_92 : decode cX12_aLog 92 = .ok (.iconst (-1), 1) := by decide +kernel
theorem dX12_aLog_93 : decode cX12_aLog 93 = .ok (.ireturn, 1) := by decide +kernel
theorem dX12_aLog_94 : decode cX12_aLog 94 = .ok (.aload_n 0, 1) := by decide +kernel
theorem dX12_aLog_95 : decode cX12_aLog 95 = .ok (.invokevirtual 273, 3) := by decide +kernel
theorem dX12_aLog_98 : decode cX12_aLog 98 = .ok (.iload_n 2, 1) := by decide +kernel
theorem dX12_aLog_99 : decode cX12_aLog 99 = .ok (.ireturn, 1) := by decide +kernel
theorem dX12_proofOf_0 : decode cX12_proofOf 0 = .ok (.aload_n 0, 1) := by decide +kernel
theorem dX12_proofOf_1 : decode cX12_proofOf 1 = .ok (.invokevirtual 269, 3) := by decide +kernel
theorem dX12_proofOf_4 : decode cX12_proofOf 4 = .ok (.ifCond .ne 4, 3) := by decide +kernel
theorem dX12_proofOf_7 : decode cX12_proofOf 7 = .ok (.return_, 1) := by decide +kernel
theorem dX12_proofOf_8 : decode cX12_proofOf 8 = .ok (.aload_n 0, 1) := by decide +kernel
theorem dX12_proofOf_9 : decode cX12_proofOf 9 = .ok (.getfield 260, 3) := by decide +kernel
theorem dX12_proofOf_12 : decode cX12_proofOf 12 = .ok (.aload_n 0, 1) := by decide +kernel
theorem dX12_proofOf_13 : decode cX12_proofOf 13 = .ok (.getfield 254, 3) := by decide +kernel
theorem dX12_proofOf_16 : decode cX12_proofOf 16 = .ok (.if_icmp .ge 21, 3) := by decide +kernel
theorem dX12_proofOf_19 : decode cX12_proofOf 19 = .ok (.aload_n 0, 1) := by decide +kernel
theorem dX12_proofOf_20 : decode cX12_proofOf 20 = .ok (.getfield 62, 3) := by decide +kernel
theorem dX12_proofOf_23 : decode cX12_proofOf 23 = .ok (.aload_n 0, 1) := by decide +kernel
theorem dX12_proofOf_24 : decode cX12_proofOf 24 = .ok (.getfield 260, 3) := by decide +kernel
theorem dX12_proofOf_27 : decode cX12_proofOf 27 = .ok (.baload, 1) := by decide +kernel
theorem dX12_proofOf_28 : decode cX12_proofOf 28 = .ok (.bipush 40, 2) := by decide +kernel
theorem dX12_proofOf_30 : decode cX12_proofOf 30 = .ok (.if_icmp .ne 7, 3) := by decide +kernel
theorem dX12_proofOf_33 : decode cX12_proofOf 33 = .ok (.iconst 1, 1) := by decide +kernel
theorem dX12_proofOf_34 : decode cX12_proofOf 34 = .ok (.goto 4, 3) := by decide +kernel
theorem dX12_proofOf_37 : decode cX12_proofOf 37 = .ok (.iconst 0, 1) := by decide +kernel
theorem dX12_proofOf_38 : decode cX12_proofOf 38 = .ok (.istore 4, 2) := by decide +kernel
theorem dX12_proofOf_40 : decode cX12_proofOf 40 = .ok (.iload 4, 2) := by decide +kernel
theorem dX12_proofOf_42 : decode cX12_proofOf 42 = .ok (.ifCond .ne 28, 3) := by decide +kernel
theorem dX12_proofOf_45 : decode cX12_proofOf 45 = .ok (.aload_n 0, 1) := by decide +kernel
theorem dX12_proofOf_46 : decode cX12_proofOf 46 = .ok (.getfield 260, 3) := by decide +kernel
theorem dX12_proofOf_49 : decode cX12_proofOf 49 = .ok (.aload_n 0, 1) := by decide +kernel
theorem dX12_proofOf_50 : decode cX12_proofOf 50 = .ok (.getfield 254, 3) := by decide +kernel
theorem dX12_proofOf_53 : decode cX12_proofOf 53 = .ok (.if_icmp .ge 23, 3) := by decide +kernel
theorem dX12_proofOf_56 : decode cX12_proofOf 56 = .ok (.aload_n 0, 1) := by decide +kernel
theorem dX12_proofOf_57 : decode cX12_proofOf 57 = .ok (.getfield 62, 3) := by decide +kernel
theorem dX12_proofOf_60 : decode cX12_proofOf 60 = .ok (.aload_n 0, 1) := by decide +kernel
theorem dX12_proofOf_61 : decode cX12_proofOf 61 = .ok (.getfield 260, 3) := by decide +kernel
theorem dX12_proofOf_64 : decode cX12_proofOf 64 = .ok (.baload, 1) := by decide +kernel
theorem dX12_proofOf_65 : decode cX12_proofOf 65 = .ok (.bipush 91, 2) := by decide +kernel
theorem dX12_proofOf_67 : decode cX12_proofOf 67 = .ok (.if_icmp .ne 9, 3) := by decide +kernel
theorem dX12_proofOf_70 : decode cX12_proofOf 70 = .ok (.iload_n 3, 1) := by decide +kernel
theorem dX12_proofOf_71 : decode cX12_proofOf 71 = .ok (.bipush 24, 2) := by decide +kernel
theorem dX12_proofOf_73 : decode cX12_proofOf 73 = .ok (.if_icmp .ne 8, 3) := by decide +kernel
theorem dX12_proofOf_76 : decode cX12_proofOf 76 = .ok (.aload_n 0, 1) := by decide +kernel
theorem dX12_proofOf_77 : decode cX12_proofOf 77 = .ok (.invokevirtual 279, 3) := by decide +kernel
theorem dX12_proofOf_80 : decode cX12_proofOf 80 = .ok (.return_, 1) := by decide +kernel
theorem dX12_proofOf_81 : decode cX12_proofOf 81 = .ok (.aload_n 0, 1) := by decide +kernel
theorem dX12_proofOf_82 : decode cX12_proofOf 82 = .ok (.invokevirtual 273, 3) := by decide +kernel
theorem dX12_proofOf_85 : decode cX12_proofOf 85 = .ok (.iload 4, 2) := by decide +kernel
theorem dX12_proofOf_87 : decode cX12_proofOf 87 = .ok (.ifCond .ne 10, 3) := by decide +kernel
theorem dX12_proofOf_90 : decode cX12_proofOf 90 = .ok (.aload_n 0, 1) := by decide +kernel
theorem dX12_proofOf_91 : decode cX12_proofOf 91 = .ok (.iload_n 1, 1) := by decide +kernel
theorem dX12_proofOf_92 : decode cX12_proofOf 92 = .ok (.iload_n 2, 1) := by decide +kernel
theorem dX12_proofOf_93 : decode cX12_proofOf 93 = .ok (.invokevirtual 282, 3) := by decide +kernel
theorem dX12_proofOf_96 : decode cX12_proofOf 96 = .ok (.return_, 1) := by decide +kernel
theorem dX12_proofOf_97 : decode cX12_proofOf 97 = .ok (.aload_n 0, 1) := by decide +kernel
theorem dX12_proofOf_98 : decode cX12_proofOf 98 = .ok (.iload_n 1, 1) := by decide +kernel
theorem dX12_proofOf_99 : decode cX12_proofOf 99 = .ok (.invokevirtual 285, 3) := by decide +kernel
theorem dX12_proofOf_102 : decode cX12_proofOf 102 = .ok (.istore 5, 2) := by decide +kernel
theorem dX12_proofOf_104 : decode cX12_proofOf 104 = .ok (.iload 5, 2) := by decide +kernel
theorem dX12_proofOf_106 : decode cX12_proofOf 106 = .ok (.iconst (-1), 1) := by decide +kernel
theorem dX12_proofOf_107 : decode cX12_proofOf 107 = .ok (.if_icmp .ne 4, 3) := by decide +kernel
theorem dX12_proofOf_110 : decode cX12_proofOf 110 = .ok (.return_, 1) := by decide +kernel
theorem dX12_proofOf_111 : decode cX12_proofOf 111 = .ok (.aload_n 0, 1) := by decide +kernel
theorem dX12_proofOf_112 : decode cX12_proofOf 112 = .ok (.iload_n 1, 1) := by decide +kernel
theorem dX12_proofOf_113 : decode cX12_proofOf 113 = .ok (.iconst 1, 1) := by decide +kernel
theorem dX12_proofOf_114 : decode cX12_proofOf 114 = .ok (.iload 5, 2) := by decide +kernel
theorem dX12_proofOf_116 : decode cX12_proofOf 116 = .ok (.ishl, 1) := by decide +kernel
theorem dX12_proofOf_117 : decode cX12_proofOf 117 = .ok (.aload_n 0, 1) := by decide +kernel
theorem dX12_proofOf_118 : decode cX12_proofOf 118 = .ok (.getfield 40, 3) := by decide +kernel
theorem dX12_proofOf_121 : decode cX12_proofOf 121 = .ok (.iload 5, 2) := by decide +kernel
theorem dX12_proofOf_123 : decode cX12_proofOf 123 = .ok (.iaload, 1) := by decide +kernel
theorem dX12_proofOf_124 : decode cX12_proofOf 124 = .ok (.ior, 1) := by decide +kernel
theorem dX12_proofOf_125 : decode cX12_proofOf 125 = .ok (.iconst (-1), 1) := by decide +kernel
theorem dX12_proofOf_126 : decode cX12_proofOf 126 = .ok (.ixor, 1) := by decide +kernel
theorem dX12_proofOf_127 : decode cX12_proofOf 127 = .ok (.iand, 1) := by decide +kernel
theorem dX12_proofOf_128 : decode cX12_proofOf 128 = .ok (.iload_n 2, 1) := by decide +kernel
theorem dX12_proofOf_129 : decode cX12_proofOf 129 = .ok (.aload_n 0, 1) := by decide +kernel
theorem dX12_proofOf_130 : decode cX12_proofOf 130 = .ok (.iload 5, 2) := by decide +kernel
theorem dX12_proofOf_132 : decode cX12_proofOf 132 = .ok (.iconst 4, 1) := by decide +kernel
theorem dX12_proofOf_133 : decode cX12_proofOf 133 = .ok (.invokevirtual 151, 3) := by decide +kernel
theorem dX12_proofOf_136 : decode cX12_proofOf 136 = .ok (.iadd, 1) := by decide +kernel
theorem dX12_proofOf_137 : decode cX12_proofOf 137 = .ok (.iload_n 3, 1) := by decide +kernel
theorem dX12_proofOf_138 : decode cX12_proofOf 138 = .ok (.iconst 1, 1) := by decide +kernel
theorem dX12_proofOf_139 : decode cX12_proofOf 139 = .ok (.iadd, 1) := by decide +kernel
theorem dX12_proofOf_140 : decode cX12_proofOf 140 = .ok (.invokevirtual 288, 3) := by decide +kernel
theorem dX12_proofOf_143 : decode cX12_proofOf 143 = .ok (.aload_n 0, 1) := by decide +kernel
theorem dX12_proofOf_144 : decode cX12_proofOf 144 = .ok (.iload_n 1, 1) := by decide +kernel
theorem dX12_proofOf_145 : decode cX12_proofOf 145 = .ok (.iconst 1, 1) := by decide +kernel
theorem dX12_proofOf_146 : decode cX12_proofOf 146 = .ok (.iload 5, 2) := by decide +kernel
theorem dX12_proofOf_148 : decode cX12_proofOf 148 = .ok (.ishl, 1) := by decide +kernel
theorem dX12_proofOf_149 : decode cX12_proofOf 149 = .ok (.iconst (-1), 1) := by decide +kernel
theorem dX12_proofOf_150 : decode cX12_proofOf 150 = .ok (.ixor, 1) := by decide +kernel
theorem dX12_proofOf_151 : decode cX12_proofOf 151 = .ok (.iand, 1) := by decide +kernel
theorem dX12_proofOf_152 : decode cX12_proofOf 152 = .ok (.iload_n 2, 1) := by decide +kernel
theorem dX12_proofOf_153 : decode cX12_proofOf 153 = .ok (.iload_n 3, 1) := by decide +kernel
theorem dX12_proofOf_154 : decode cX12_proofOf 154 = .ok (.iconst 1, 1) := by decide +kernel
theorem dX12_proofOf_155 : decode cX12_proofOf 155 = .ok (.iadd, 1) := by decide +kernel
theorem dX12_proofOf_156 : decode cX12_proofOf 156 = .ok (.invokevirtual 288, 3) := by decide +kernel
theorem dX12_proofOf_159 : decode cX12_proofOf 159 = .ok (.aload_n 0, 1) := by decide +kernel
theorem dX12_proofOf_160 : decode cX12_proofOf 160 = .ok (.bipush 41, 2) := by decide +kernel
theorem dX12_proofOf_162 : decode cX12_proofOf 162 = .ok (.invokevirtual 291, 3) := by decide +kernel
theorem dX12_proofOf_165 : decode cX12_proofOf 165 = .ok (.return_, 1) := by decide +kernel
theorem dX12_leafOf_0 : decode cX12_leafOf 0 = .ok (.iconst 0, 1) := by decide +kernel
theorem dX12_leafOf_1 : decode cX12_leafOf 1 = .ok (.istore_n 3, 1) := by decide +kernel
theorem dX12_leafOf_2 : decode cX12_leafOf 2 = .ok (.iload_n 2, 1) := by decide +kernel
theorem dX12_leafOf_3 : decode cX12_leafOf 3 = .ok (.istore 4, 2) := by decide +kernel
theorem dX12_leafOf_5 : decode cX12_leafOf 5 = .ok (.aload_n 0, 1) := by decide +kernel
theorem dX12_leafOf_6 : decode cX12_leafOf 6 = .ok (.invokevirtual 269, 3) := by decide +kernel
theorem dX12_leafOf_9 : decode cX12_leafOf 9 = .ok (.ifCond .eq 182, 3) := by decide +kernel
theorem dX12_leafOf_12 : decode cX12_leafOf 12 = .ok (.aload_n 0, 1) := by decide +kernel
theorem dX12_leafOf_13 : decode cX12_leafOf 13 = .ok (.getfield 260, 3) := by decide +kernel
theorem dX12_leafOf_16 : decode cX12_leafOf 16 = .ok (.aload_n 0, 1) := by decide +kernel
theorem dX12_leafOf_17 : decode cX12_leafOf 17 = .ok (.getfield 254, 3) := by decide +kernel
theorem dX12_leafOf_20 : decode cX12_leafOf 20 = .ok (.if_icmp .ge 17, 3) := by decide +kernel
theorem dX12_leafOf_23 : decode cX12_leafOf 23 = .ok (.aload_n 0, 1) := by decide +kernel
theorem dX12_leafOf_24 : decode cX12_leafOf 24 = .ok (.getfield 62, 3) := by decide +kernel
theorem dX12_leafOf_27 : decode cX12_leafOf 27 = .ok (.aload_n 0, 1) := by decide +kernel
theorem dX12_leafOf_28 : decode cX12_leafOf 28 = .ok (.getfield 260, 3) := by decide +kernel
theorem dX12_leafOf_31 : decode cX12_leafOf 31 = .ok (.baload, 1) := by decide +kernel
theorem dX12_leafOf_32 : decode cX12_leafOf 32 = .ok (.bipush 93, 2) := by decide +kernel
theorem dX12_leafOf_34 : decode cX12_leafOf 34 = .ok (.if_icmp .eq 157, 3) := by decide +kernel
theorem dX12_leafOf_37 : decode cX12_leafOf 37 = .ok (.iconst 0, 1) := by decide +kernel
theorem dX12_leafOf_38 : decode cX12_leafOf 38 = .ok (.istore 5, 2) := by decide +kernel
theorem dX12_leafOf_40 : decode cX12_leafOf 40 = .ok (.iconst 0, 1) := by decide +kernel
theorem dX12_leafOf_41 : decode cX12_leafOf 41 = .ok (.istore 6, 2) := by decide +kernel
theorem dX12_leafOf_43 : decode cX12_leafOf 43 = .ok (.iconst 1, 1) := by decide +kernel
theorem dX12_leafOf_44 : decode cX12_leafOf 44 = .ok (.istore 7, 2) := by decide +kernel
theorem dX12_leafOf_46 : decode cX12_leafOf 46 = .ok (.aload_n 0, 1) := by decide +kernel
theorem dX12_leafOf_47 : decode cX12_leafOf 47 = .ok (.invokevirtual 269, 3) := by decide +kernel
theorem dX12_leafOf_50 : decode cX12_leafOf 50 = .ok (.ifCond .eq 120, 3) := by decide +kernel
theorem dX12_leafOf_53 : decode cX12_leafOf 53 = .ok (.iload 7, 2) := by decide +kernel
theorem dX12_leafOf_55 : decode cX12_leafOf 55 = .ok (.ifCond .eq 115, 3) := by decide +kernel
theorem dX12_leafOf_58 : decode cX12_leafOf 58 = .ok (.iload_n 1, 1) := by decide +kernel
theorem dX12_leafOf_59 : decode cX12_leafOf 59 = .ok (.iload_n 3, 1) := by decide +kernel
theorem dX12_leafOf_60 : decode cX12_leafOf 60 = .ok (.iconst (-1), 1) := by decide +kernel
theorem dX12_leafOf_61 : decode cX12_leafOf 61 = .ok (.ixor, 1) := by decide +kernel
theorem dX12_leafOf_62 : decode cX12_leafOf 62 = .ok (.iand, 1) := by decide +kernel
theorem dX12_leafOf_63 : decode cX12_leafOf 63 = .ok (.iload 5, 2) := by decide +kernel
theorem dX12_leafOf_65 : decode cX12_leafOf 65 = .ok (.iconst (-1), 1) := by decide +kernel
theorem dX12_leafOf_66 : decode cX12_leafOf 66 = .ok (.ixor, 1) := by decide +kernel
theorem dX12_leafOf_67 : decode cX12_leafOf 67 = .ok (.iand, 1) := by decide +kernel
theorem dX12_leafOf_68 : decode cX12_leafOf 68 = .ok (.istore 8, 2) := by decide +kernel
theorem dX12_leafOf_70 : decode cX12_leafOf 70 = .ok (.iconst 0, 1) := by decide +kernel
theorem dX12_leafOf_71 : decode cX12_leafOf 71 = .ok (.istore 9, 2) := by decide +kernel
theorem dX12_leafOf_73 : decode cX12_leafOf 73 = .ok (.iload 9, 2) := by decide +kernel
theorem dX12_leafOf_75 : decode cX12_leafOf 75 = .ok (.bipush 24, 2) := by decide +kernel
theorem dX12_leafOf_77 : decode cX12_leafOf 77 = .ok (.if_icmp .ge 32, 3) := by decide +kernel
theorem dX12_leafOf_80 : decode cX12_leafOf 80 = .ok (.iload 5, 2) := by decide +kernel
theorem dX12_leafOf_82 : decode cX12_leafOf 82 = .ok (.iload 9, 2) := by decide +kernel
theorem dX12_leafOf_84 : decode cX12_leafOf 84 = .ok (.ishr, 1) := by decide +kernel
theorem dX12_leafOf_85 : decode cX12_leafOf 85 = .ok (.iconst 1, 1) := by decide +kernel
theorem dX12_leafOf_86 : decode cX12_leafOf 86 = .ok (.iand, 1) := by decide +kernel
theorem dX12_leafOf_87 : decode cX12_leafOf 87 = .ok (.iconst 1, 1) := by decide +kernel
theorem dX12_leafOf_88 : decode cX12_leafOf 88 = .ok (.if_icmp .ne 15, 3) := by decide +kernel
theorem dX12_leafOf_91 : decode cX12_leafOf 91 = .ok (.iload 8, 2) := by decide +kernel
theorem dX12_leafOf_93 : decode cX12_leafOf 93 = .ok (.aload_n 0, 1) := by decide +kernel
theorem dX12_leafOf_94 : decode cX12_leafOf 94 = .ok (.getfield 40, 3) := by decide +kernel
theorem dX12_leafOf_97 : decode cX12_leafOf 97 = .ok (.iload 9, 2) := by decide +kernel
theorem dX12_leafOf_99 : decode cX12_leafOf 99 = .ok (.iaload, 1) := by decide +kernel
theorem dX12_leafOf_100 : decode cX12_leafOf 100 = .ok (.iand, 1) := by decide +kernel
theorem dX12_leafOf_101 : decode cX12_leafOf 101 = .ok (.istore 8, 2) := by decide +kernel
theorem dX12_leafOf_103 : decode cX12_leafOf 103 = .ok (.iinc 9 1, 3) := by decide +kernel
theorem dX12_leafOf_106 : decode cX12_leafOf 106 = .ok (.goto (-33), 3) := by decide +kernel
theorem dX12_leafOf_109 : decode cX12_leafOf 109 = .ok (.aload_n 0, 1) := by decide +kernel
theorem dX12_leafOf_110 : decode cX12_leafOf 110 = .ok (.iload 8, 2) := by decide +kernel
theorem dX12_leafOf_112 : decode cX12_leafOf 112 = .ok (.invokevirtual 285, 3) := by decide +kernel
theorem dX12_leafOf_115 : decode cX12_leafOf 115 = .ok (.istore 9, 2) := by decide +kernel
theorem dX12_leafOf_117 : decode cX12_leafOf 117 = .ok (.iload 9, 2) := by decide +kernel
theorem dX12_leafOf_119 : decode cX12_leafOf 119 = .ok (.iconst (-1), 1) := by decide +kernel
theorem dX12_leafOf_120 : decode cX12_leafOf 120 = .ok (.if_icmp .ne 4, 3) := by decide +kernel
theorem dX12_leafOf_123 : decode cX12_leafOf 123 = .ok (.return_, 1) := by decide +kernel
theorem dX12_leafOf_124 : decode cX12_leafOf 124 = .ok (.iload 5, 2) := by decide +kernel
theorem dX12_leafOf_126 : decode cX12_leafOf 126 = .ok (.iconst 1, 1) := by decide +kernel
theorem dX12_leafOf_127 : decode cX12_leafOf 127 = .ok (.iload 9, 2) := by decide +kernel
theorem dX12_leafOf_129 : decode cX12_leafOf 129 = .ok (.ishl, 1) := by decide +kernel
theorem dX12_leafOf_130 : decode cX12_leafOf 130 = .ok (.ior, 1) := by decide +kernel
theorem dX12_leafOf_131 : decode cX12_leafOf 131 = .ok (.istore 5, 2) := by decide +kernel
theorem dX12_leafOf_133 : decode cX12_leafOf 133 = .ok (.aload_n 0, 1) := by decide +kernel
theorem dX12_leafOf_134 : decode cX12_leafOf 134 = .ok (.iload 9, 2) := by decide +kernel
theorem dX12_leafOf_136 : decode cX12_leafOf 136 = .ok (.iconst 4, 1) := by decide +kernel
theorem dX12_leafOf_137 : decode cX12_leafOf 137 = .ok (.invokevirtual 151, 3) := by decide +kernel
theorem dX12_leafOf_140 : decode cX12_leafOf 140 = .ok (.iload 6, 2) := by decide +kernel
theorem dX12_leafOf_142 : decode cX12_leafOf 142 = .ok (.if_icmp .le 13, 3) := by decide +kernel
theorem dX12_leafOf_145 : decode cX12_leafOf 145 = .ok (.aload_n 0, 1) := by decide +kernel
theorem dX12_leafOf_146 : decode cX12_leafOf 146 = .ok (.iload 9, 2) := by decide +kernel
theorem dX12_leafOf_148 : decode cX12_leafOf 148 = .ok (.iconst 4, 1) := by decide +kernel
theorem dX12_leafOf_149 : decode cX12_leafOf 149 = .ok (.invokevirtual 151, 3) := by decide +kernel
theorem dX12_leafOf_152 : decode cX12_leafOf 152 = .ok (.goto 5, 3) := by decide +kernel
theorem dX12_leafOf_155 : decode cX12_leafOf 155 = .ok (.iload 6, 2) := by decide +kernel
theorem dX12_leafOf_157 : decode cX12_leafOf 157 = .ok (.istore 6, 2) := by decide +kernel
theorem dX12_leafOf_159 : decode cX12_leafOf 159 = .ok (.aload_n 0, 1) := by decide +kernel
theorem dX12_leafOf_160 : decode cX12_leafOf 160 = .ok (.bipush 44, 2) := by decide +kernel
theorem dX12_leafOf_162 : decode cX12_leafOf 162 = .ok (.invokevirtual 276, 3) := by decide +kernel
theorem dX12_leafOf_165 : decode cX12_leafOf 165 = .ok (.istore 7, 2) := by decide +kernel
