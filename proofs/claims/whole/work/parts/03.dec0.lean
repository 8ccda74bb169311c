theorem dX0_init_0 : decode cX0_init 0 = .ok (.aload_n 0, 1) := by decide +kernel
theorem dX0_init_1 : decode cX0_init 1 = .ok (.invokespecial 3, 3) := by decide +kernel
theorem dX0_init_4 : decode cX0_init 4 = .ok (.aload_n 0, 1) := by decide +kernel
theorem dX0_init_5 : decode cX0_init 5 = .ok (.iconst 1, 1) := by decide +kernel
theorem dX0_init_6 : decode cX0_init 6 = .ok (.putfield 9, 3) := by decide +kernel
theorem dX0_init_9 : decode cX0_init 9 = .ok (.aload_n 0, 1) := by decide +kernel
theorem dX0_init_10 : decode cX0_init 10 = .ok (.bipush 100, 2) := by decide +kernel
theorem dX0_init_12 : decode cX0_init 12 = .ok (.putfield 15, 3) := by decide +kernel
theorem dX0_init_15 : decode cX0_init 15 = .ok (.aload_n 0, 1) := by decide +kernel
theorem dX0_init_16 : decode cX0_init 16 = .ok (.iconst (-1), 1) := by decide +kernel
theorem dX0_init_17 : decode cX0_init 17 = .ok (.putfield 18, 3) := by decide +kernel
theorem dX0_init_20 : decode cX0_init 20 = .ok (.aload_n 0, 1) := by decide +kernel
theorem dX0_init_21 : decode cX0_init 21 = .ok (.iconst 3, 1) := by decide +kernel
theorem dX0_init_22 : decode cX0_init 22 = .ok (.newarray .int, 2) := by decide +kernel
theorem dX0_init_24 : decode cX0_init 24 = .ok (.putfield 21, 3) := by decide +kernel
theorem dX0_init_27 : decode cX0_init 27 = .ok (.aload_n 0, 1) := by decide +kernel
theorem dX0_init_28 : decode cX0_init 28 = .ok (.bipush 10, 2) := by decide +kernel
theorem dX0_init_30 : decode cX0_init 30 = .ok (.newarray .int, 2) := by decide +kernel
theorem dX0_init_32 : decode cX0_init 32 = .ok (.putfield 25, 3) := by decide +kernel
theorem dX0_init_35 : decode cX0_init 35 = .ok (.aload_n 0, 1) := by decide +kernel
theorem dX0_init_36 : decode cX0_init 36 = .ok (.bipush 10, 2) := by decide +kernel
theorem dX0_init_38 : decode cX0_init 38 = .ok (.newarray .int, 2) := by decide +kernel
theorem dX0_init_40 : decode cX0_init 40 = .ok (.putfield 28, 3) := by decide +kernel
theorem dX0_init_43 : decode cX0_init 43 = .ok (.aload_n 0, 1) := by decide +kernel
theorem dX0_init_44 : decode cX0_init 44 = .ok (.bipush 40, 2) := by decide +kernel
theorem dX0_init_46 : decode cX0_init 46 = .ok (.newarray .int, 2) := by decide +kernel
theorem dX0_init_48 : decode cX0_init 48 = .ok (.putfield 31, 3) := by decide +kernel
theorem dX0_init_51 : decode cX0_init 51 = .ok (.aload_n 0, 1) := by decide +kernel
theorem dX0_init_52 : decode cX0_init 52 = .ok (.bipush 40, 2) := by decide +kernel
theorem dX0_init_54 : decode cX0_init 54 = .ok (.newarray .int, 2) := by decide +kernel
theorem dX0_init_56 : decode cX0_init 56 = .ok (.putfield 34, 3) := by decide +kernel
theorem dX0_init_59 : decode cX0_init 59 = .ok (.aload_n 0, 1) := by decide +kernel
theorem dX0_init_60 : decode cX0_init 60 = .ok (.bipush 40, 2) := by decide +kernel
theorem dX0_init_62 : decode cX0_init 62 = .ok (.newarray .int, 2) := by decide +kernel
theorem dX0_init_64 : decode cX0_init 64 = .ok (.putfield 37, 3) := by decide +kernel
theorem dX0_init_67 : decode cX0_init 67 = .ok (.aload_n 0, 1) := by decide +kernel
theorem dX0_init_68 : decode cX0_init 68 = .ok (.new 40, 3) := by decide +kernel
theorem dX0_init_71 : decode cX0_init 71 = .ok (.dup, 1) := by decide +kernel
theorem dX0_init_72 : decode cX0_init 72 = .ok (.invokespecial 42, 3) := by decide +kernel
theorem dX0_init_75 : decode cX0_init 75 = .ok (.putfield 43, 3) := by decide +kernel
theorem dX0_init_78 : decode cX0_init 78 = .ok (.aload_n 0, 1) := by decide +kernel
theorem dX0_init_79 : decode cX0_init 79 = .ok (.new 47, 3) := by decide +kernel
theorem dX0_init_82 : decode cX0_init 82 = .ok (.dup, 1) := by decide +kernel
theorem dX0_init_83 : decode cX0_init 83 = .ok (.invokespecial 49, 3) := by decide +kernel
theorem dX0_init_86 : decode cX0_init 86 = .ok (.putfield 50, 3) := by decide +kernel
theorem dX0_init_89 : decode cX0_init 89 = .ok (.iconst 0, 1) := by decide +kernel
theorem dX0_init_90 : decode cX0_init 90 = .ok (.istore_n 1, 1) := by decide +kernel
theorem dX0_init_91 : decode cX0_init 91 = .ok (.iload_n 1, 1) := by decide +kernel
theorem dX0_init_92 : decode cX0_init 92 = .ok (.bipush 10, 2) := by decide +kernel
theorem dX0_init_94 : decode cX0_init 94 = .ok (.if_icmp .ge 45, 3) := by decide +kernel
theorem dX0_init_97 : decode cX0_init 97 = .ok (.aload_n 0, 1) := by decide +kernel
theorem dX0_init_98 : decode cX0_init 98 = .ok (.getfield 25, 3) := by decide +kernel
theorem dX0_init_101 : decode cX0_init 101 = .ok (.iload_n 1, 1) := by decide +kernel
theorem dX0_init_102 : decode cX0_init 102 = .ok (.iload_n 1, 1) := by decide +kernel
theorem dX0_init_103 : decode cX0_init 103 = .ok (.bipush 6, 2) := by decide +kernel
theorem dX0_init_105 : decode cX0_init 105 = .ok (.if_icmp .ge 7, 3) := by decide +kernel
theorem dX0_init_108 : decode cX0_init 108 = .ok (.iconst 0, 1) := by decide +kernel
theorem dX0_init_109 : decode cX0_init 109 = .ok (.goto 5, 3) := by decide +kernel
theorem dX0_init_112 : decode cX0_init 112 = .ok (.bipush (-10), 2) := by decide +kernel
theorem dX0_init_114 : decode cX0_init 114 = .ok (.iastore, 1) := by decide +kernel
theorem dX0_init_115 : decode cX0_init 115 = .ok (.aload_n 0, 1) := by decide +kernel
theorem dX0_init_116 : decode cX0_init 116 = .ok (.getfield 28, 3) := by decide +kernel
theorem dX0_init_119 : decode cX0_init 119 = .ok (.iload_n 1, 1) := by decide +kernel
theorem dX0_init_120 : decode cX0_init 120 = .ok (.iload_n 1, 1) := by decide +kernel
theorem dX0_init_121 : decode cX0_init 121 = .ok (.bipush 6, 2) := by decide +kernel
theorem dX0_init_123 : decode cX0_init 123 = .ok (.if_icmp .ge 8, 3) := by decide +kernel
theorem dX0_init_126 : decode cX0_init 126 = .ok (.bipush 10, 2) := by decide +kernel
theorem dX0_init_128 : decode cX0_init 128 = .ok (.goto 4, 3) := by decide +kernel
theorem dX0_init_131 : decode cX0_init 131 = .ok (.iconst 0, 1) := by decide +kernel
theorem dX0_init_132 : decode cX0_init 132 = .ok (.iastore, 1) := by decide +kernel
theorem dX0_init_133 : decode cX0_init 133 = .ok (.iinc 1 1, 3) := by decide +kernel
theorem dX0_init_136 : decode cX0_init 136 = .ok (.goto (-45), 3) := by decide +kernel
theorem dX0_init_139 : decode cX0_init 139 = .ok (.return_, 1) := by decide +kernel
theorem dX0_setLaw_0 : decode cX0_setLaw 0 = .ok (.aload_n 0, 1) := by decide +kernel
theorem dX0_setLaw_1 : decode cX0_setLaw 1 = .ok (.getfield 25, 3) := by decide +kernel
theorem dX0_setLaw_4 : decode cX0_setLaw 4 = .ok (.iload_n 1, 1) := by decide +kernel
theorem dX0_setLaw_5 : decode cX0_setLaw 5 = .ok (.iload_n 2, 1) := by decide +kernel
theorem dX0_setLaw_6 : decode cX0_setLaw 6 = .ok (.iastore, 1) := by decide +kernel
theorem dX0_setLaw_7 : decode cX0_setLaw 7 = .ok (.aload_n 0, 1) := by decide +kernel
theorem dX0_setLaw_8 : decode cX0_setLaw 8 = .ok (.getfield 28, 3) := by decide +kernel
theorem dX0_setLaw_11 : decode cX0_setLaw 11 = .ok (.iload_n 1, 1) := by decide +kernel
theorem dX0_setLaw_12 : decode cX0_setLaw 12 = .ok (.iload_n 3, 1) := by decide +kernel
theorem dX0_setLaw_13 : decode cX0_setLaw 13 = .ok (.iastore, 1) := by decide +kernel
theorem dX0_setLaw_14 : decode cX0_setLaw 14 = .ok (.return_, 1) := by decide +kernel
theorem dX0_isCleaned_0 : decode cX0_isCleaned 0 = .ok (.iconst 0, 1) := by decide +kernel
theorem dX0_isCleaned_1 : decode cX0_isCleaned 1 = .ok (.istore_n 3, 1) := by decide +kernel
theorem dX0_isCleaned_2 : decode cX0_isCleaned 2 = .ok (.iload_n 3, 1) := by decide +kernel
theorem dX0_isCleaned_3 : decode cX0_isCleaned 3 = .ok (.aload_n 0, 1) := by decide +kernel
theorem dX0_isCleaned_4 : decode cX0_isCleaned 4 = .ok (.getfield 54, 3) := by decide +kernel
theorem dX0_isCleaned_7 : decode cX0_isCleaned 7 = .ok (.if_icmp .ge 31, 3) := by decide +kernel
theorem dX0_isCleaned_10 : decode cX0_isCleaned 10 = .ok (.aload_n 0, 1) := by decide +kernel
theorem dX0_isCleaned_11 : decode cX0_isCleaned 11 = .ok (.getfield 31, 3) := by decide +kernel
theorem dX0_isCleaned_14 : decode cX0_isCleaned 14 = .ok (.iload_n 3, 1) := by decide +kernel
theorem dX0_isCleaned_15 : decode cX0_isCleaned 15 = .ok (.iaload, 1) := by decide +kernel
theorem dX0_isCleaned_16 : decode cX0_isCleaned 16 = .ok (.iload_n 1, 1) := by decide +kernel
theorem dX0_isCleaned_17 : decode cX0_isCleaned 17 = .ok (.if_icmp .ne 15, 3) := by decide +kernel
theorem dX0_isCleaned_20 : decode cX0_isCleaned 20 = .ok (.aload_n 0, 1) := by decide +kernel
theorem dX0_isCleaned_21 : decode cX0_isCleaned 21 = .ok (.getfield 34, 3) := by decide +kernel
theorem dX0_isCleaned_24 : decode cX0_isCleaned 24 = .ok (.iload_n 3, 1) := by decide +kernel
theorem dX0_isCleaned_25 : decode cX0_isCleaned 25 = .ok (.iaload, 1) := by decide +kernel
theorem dX0_isCleaned_26 : decode cX0_isCleaned 26 = .ok (.iload_n 2, 1) := by decide +kernel
theorem dX0_isCleaned_27 : decode cX0_isCleaned 27 = .ok (.if_icmp .ne 5, 3) := by decide +kernel
theorem dX0_isCleaned_30 : decode cX0_isCleaned 30 = .ok (.iconst 1, 1) := by decide +kernel
theorem dX0_isCleaned_31 : decode cX0_isCleaned 31 = .ok (.ireturn, 1) := by decide +kernel
theorem dX0_isCleaned_32 : decode cX0_isCleaned 32 = .ok (.iinc 3 1, 3) := by decide +kernel
theorem dX0_isCleaned_35 : decode cX0_isCleaned 35 = .ok (.goto (-33), 3) := by decide +kernel
theorem dX0_isCleaned_38 : decode cX0_isCleaned 38 = .ok (.iconst 0, 1) := by decide +kernel
theorem dX0_isCleaned_39 : decode cX0_isCleaned 39 = .ok (.ireturn, 1) := by decide +kernel
theorem dX0_addCleaning_0 : decode cX0_addCleaning 0 = .ok (.aload_n 0, 1) := by decide +kernel
theorem dX0_addCleaning_1 : decode cX0_addCleaning 1 = .ok (.getfield 31, 3) := by decide +kernel
theorem dX0_addCleaning_4 : decode cX0_addCleaning 4 = .ok (.aload_n 0, 1) := by decide +kernel
theorem dX0_addCleaning_5 : decode cX0_addCleaning 5 = .ok (.getfield 54, 3) := by decide +kernel
theorem dX0_addCleaning_8 : decode cX0_addCleaning 8 = .ok (.iload_n 1, 1) := by decide +kernel
theorem dX0_addCleaning_9 : decode cX0_addCleaning 9 = .ok (.iastore, 1) := by decide +kernel
theorem dX0_addCleaning_10 : decode cX0_addCleaning 10 = .ok (.aload_n 0, 1) := by decide +kernel
theorem dX0_addCleaning_11 : decode cX0_addCleaning 11 = .ok (.getfield 34, 3) := by decide +kernel
theorem dX0_addCleaning_14 : decode cX0_addCleaning 14 = .ok (.aload_n 0, 1) := by decide +kernel
theorem dX0_addCleaning_15 : decode cX0_addCleaning 15 = .ok (.getfield 54, 3) := by decide +kernel
theorem dX0_addCleaning_18 : decode cX0_addCleaning 18 = .ok (.iload_n 2, 1) := by decide +kernel
theorem dX0_addCleaning_19 : decode cX0_addCleaning 19 = .ok (.iastore, 1) := by decide +kernel
theorem dX0_addCleaning_20 : decode cX0_addCleaning 20 = .ok (.aload_n 0, 1) := by decide +kernel
theorem dX0_addCleaning_21 : decode cX0_addCleaning 21 = .ok (.getfield 37, 3) := by decide +kernel
theorem dX0_addCleaning_24 : decode cX0_addCleaning 24 = .ok (.aload_n 0, 1) := by decide +kernel
theorem dX0_addCleaning_25 : decode cX0_addCleaning 25 = .ok (.getfield 54, 3) := by decide +kernel
theorem dX0_addCleaning_28 : decode cX0_addCleaning 28 = .ok (.iload_n 3, 1) := by decide +kernel
theorem dX0_addCleaning_29 : decode cX0_addCleaning 29 = .ok (.iastore, 1) := by decide +kernel
theorem dX0_addCleaning_30 : decode cX0_addCleaning 30 = .ok (.aload_n 0, 1) := by decide +kernel
theorem dX0_addCleaning_31 : decode cX0_addCleaning 31 = .ok (.dup, 1) := by decide +kernel
theorem dX0_addCleaning_32 : decode cX0_addCleaning 32 = .ok (.getfield 54, 3) := by decide +kernel
theorem dX0_addCleaning_35 : decode cX0_addCleaning 35 = .ok (.iconst 1, 1) := by decide +kernel
theorem dX0_addCleaning_36 : decode cX0_addCleaning 36 = .ok (.iadd, 1) := by decide +kernel
theorem dX0_addCleaning_37 : decode cX0_addCleaning 37 = .ok (.putfield 54, 3) := by decide +kernel
theorem dX0_addCleaning_40 : decode cX0_addCleaning 40 = .ok (.return_, 1) := by decide +kernel
theorem dX0_copyFrom_0 : decode cX0_copyFrom 0 = .ok (.aload_n 0, 1) := by decide +kernel
theorem dX0_copyFrom_1 : decode cX0_copyFrom 1 = .ok (.aload_n 1, 1) := by decide +kernel
theorem dX0_copyFrom_2 : decode cX0_copyFrom 2 = .ok (.getfield 57, 3) := by decide +kernel
theorem dX0_copyFrom_5 : decode cX0_copyFrom 5 = .ok (.putfield 57, 3) := by decide +kernel
theorem dX0_copyFrom_8 : decode cX0_copyFrom 8 = .ok (.aload_n 0, 1) := by decide +kernel
theorem dX0_copyFrom_9 : decode cX0_copyFrom 9 = .ok (.aload_n 1, 1) := by decide +kernel
theorem dX0_copyFrom_10 : decode cX0_copyFrom 10 = .ok (.getfield 54, 3) := by decide +kernel
theorem dX0_copyFrom_13 : decode cX0_copyFrom 13 = .ok (.putfield 54, 3) := by decide +kernel
theorem dX0_copyFrom_16 : decode cX0_copyFrom 16 = .ok (.aload_n 0, 1) := by decide +kernel
theorem dX0_copyFrom_17 : decode cX0_copyFrom 17 = .ok (.aload_n 1, 1) := by decide +kernel
theorem dX0_copyFrom_18 : decode cX0_copyFrom 18 = .ok (.getfield 9, 3) := by decide +kernel
theorem dX0_copyFrom_21 : decode cX0_copyFrom 21 = .ok (.putfield 9, 3) := by decide +kernel
theorem dX0_copyFrom_24 : decode cX0_copyFrom 24 = .ok (.aload_n 0, 1) := by decide +kernel
theorem dX0_copyFrom_25 : decode cX0_copyFrom 25 = .ok (.aload_n 1, 1) := by decide +kernel
theorem dX0_copyFrom_26 : decode cX0_copyFrom 26 = .ok (.getfield 15, 3) := by decide +kernel
theorem dX0_copyFrom_29 : decode cX0_copyFrom 29 = .ok (.putfield 15, 3) := by decide +kernel
theorem dX0_copyFrom_32 : decode cX0_copyFrom 32 = .ok (.aload_n 0, 1) := by decide +kernel
theorem dX0_copyFrom_33 : decode cX0_copyFrom 33 = .ok (.aload_n 1, 1) := by decide +kernel
theorem dX0_copyFrom_34 : decode cX0_copyFrom 34 = .ok (.getfield 18, 3) := by decide +kernel
theorem dX0_copyFrom_37 : decode cX0_copyFrom 37 = .ok (.putfield 18, 3) := by decide +kernel
theorem dX0_copyFrom_40 : decode cX0_copyFrom 40 = .ok (.aload_n 0, 1) := by decide +kernel
theorem dX0_copyFrom_41 : decode cX0_copyFrom 41 = .ok (.aload_n 1, 1) := by decide +kernel
theorem dX0_copyFrom_42 : decode cX0_copyFrom 42 = .ok (.getfield 60, 3) := by decide +kernel
theorem dX0_copyFrom_45 : decode cX0_copyFrom 45 = .ok (.putfield 60, 3) := by decide +kernel
theorem dX0_copyFrom_48 : decode cX0_copyFrom 48 = .ok (.aload_n 0, 1) := by decide +kernel
theorem dX0_copyFrom_49 : decode cX0_copyFrom 49 = .ok (.aload_n 1, 1) := by decide +kernel
theorem dX0_copyFrom_50 : decode cX0_copyFrom 50 = .ok (.getfield 64, 3) := by decide +kernel
theorem dX0_copyFrom_53 : decode cX0_copyFrom 53 = .ok (.putfield 64, 3) := by decide +kernel
theorem dX0_copyFrom_56 : decode cX0_copyFrom 56 = .ok (.aload_n 1, 1) := by decide +kernel
theorem dX0_copyFrom_57 : decode cX0_copyFrom 57 = .ok (.getfield 21, 3) := by decide +kernel
theorem dX0_copyFrom_60 : decode cX0_copyFrom 60 = .ok (.iconst 0, 1) := by decide +kernel
theorem dX0_copyFrom_61 : decode cX0_copyFrom 61 = .ok (.aload_n 0, 1) := by decide +kernel
theorem dX0_copyFrom_62 : decode cX0_copyFrom 62 = .ok (.getfield 21, 3) := by decide +kernel
theorem dX0_copyFrom_65 : decode cX0_copyFrom 65 = .ok (.iconst 0, 1) := by decide +kernel
theorem dX0_copyFrom_66 : decode cX0_copyFrom 66 = .ok (.iconst 3, 1) := by decide +kernel
theorem dX0_copyFrom_67 : decode cX0_copyFrom 67 = .ok (.invokestatic 67, 3) := by decide +kernel
theorem dX0_copyFrom_70 : decode cX0_copyFrom 70 = .ok (.aload_n 1, 1) := by decide +kernel
theorem dX0_copyFrom_71 : decode cX0_copyFrom 71 = .ok (.getfield 25, 3) := by decide +kernel
theorem dX0_copyFrom_74 : decode cX0_copyFrom 74 = .ok (.iconst 0, 1) := by decide +kernel
theorem dX0_copyFrom_75 : decode cX0_copyFrom 75 = .ok (.aload_n 0, 1) := by decide +kernel
theorem dX0_copyFrom_76 : decode cX0_copyFrom 76 = .ok (.getfield 25, 3) := by decide +kernel
theorem dX0_copyFrom_79 : decode cX0_copyFrom 79 = .ok (.iconst 0, 1) := by decide +kernel
theorem dX0_copyFrom_80 : decode cX0_copyFrom 80 = .ok (.bipush 10, 2) := by decide +kernel
theorem dX0_copyFrom_82 : decode cX0_copyFrom 82 = .ok (.invokestatic 67, 3) := by decide +kernel
theorem dX0_copyFrom_85 : decode cX0_copyFrom 85 = .ok (.aload_n 1, 1) := by decide +kernel
theorem dX0_copyFrom_86 : decode cX0_copyFrom 86 = .ok (.getfield 28, 3) := by decide +kernel
theorem dX0_copyFrom_89 : decode cX0_copyFrom 89 = .ok (.iconst 0, 1) := by decide +kernel
theorem dX0_copyFrom_90 : decode cX0_copyFrom 90 = .ok (.aload_n 0, 1) := by decide +kernel
theorem dX0_copyFrom_91 : decode cX0_copyFrom 91 = .ok (.getfield 28, 3) := by decide +kernel
theorem dX0_copyFrom_94 : decode cX0_copyFrom 94 = .ok (.iconst 0, 1) := by decide +kernel
theorem dX0_copyFrom_95 : decode cX0_copyFrom 95 = .ok (.bipush 10, 2) := by decide +kernel
theorem dX0_copyFrom_97 : decode cX0_copyFrom 97 = .ok (.invokestatic 67, 3) := by decide +kernel
theorem dX0_copyFrom_100 : decode cX0_copyFrom 100 = .ok (.aload_n 1, 1) := by decide +kernel
theorem dX0_copyFrom_101 : decode cX0_copyFrom 101 = .ok (.getfield 31, 3) := by decide +kernel
theorem dX0_copyFrom_104 : decode cX0_copyFrom 104 = .ok (.iconst 0, 1) := by decide +kernel
theorem dX0_copyFrom_105 : decode cX0_copyFrom 105 = .ok (.aload_n 0, 1) := by decide +kernel
theorem dX0_copyFrom_106 : decode cX0_copyFrom 106 = .ok (.getfield 31, 3) := by decide +kernel
theorem dX0_copyFrom_109 : decode cX0_copyFrom 109 = .ok (.iconst 0, 1) := by decide +kernel
theorem dX0_copyFrom_110 : decode cX0_copyFrom 110 = .ok (.bipush 40, 2) := by decide +kernel
theorem dX0_copyFrom_112 : decode cX0_copyFrom 112 = .ok (.invokestatic 67, 3) := by decide +kernel
theorem dX0_copyFrom_115 : decode cX0_copyFrom 115 = .ok (.aload_n 1, 1) := by decide +kernel
theorem dX0_copyFrom_116 : decode cX0_copyFrom 116 = .ok (.getfield 34, 3) := by decide +kernel
theorem dX0_copyFrom_119 : decode cX0_copyFrom 119 = .ok (.iconst 0, 1) := by decide +kernel
theorem dX0_copyFrom_120 : decode cX0_copyFrom 120 = .ok (.aload_n 0, 1) := by decide +kernel
theorem dX0_copyFrom_121 : decode cX0_copyFrom 121 = .ok (.getfield 34, 3) := by decide +kernel
theorem dX0_copyFrom_124 : decode cX0_copyFrom 124 = .ok (.iconst 0, 1) := by decide +kernel
theorem dX0_copyFrom_125 : decode cX0_copyFrom 125 = .ok (.bipush 40, 2) := by decide +kernel
theorem dX0_copyFrom_127 : decode cX0_copyFrom 127 = .ok (.invokestatic 67, 3) := by decide +kernel
theorem dX0_copyFrom_130 : decode cX0_copyFrom 130 = .ok (.aload_n 1, 1) := by decide +kernel
theorem dX0_copyFrom_131 : decode cX0_copyFrom 131 = .ok (.getfield 37, 3) := by decide +kernel
theorem dX0_copyFrom_134 : decode cX0_copyFrom 134 = .ok (.iconst 0, 1) := by decide +kernel
theorem dX0_copyFrom_135 : decode cX0_copyFrom 135 = .ok (.aload_n 0, 1) := by decide +kernel
theorem dX0_copyFrom_136 : decode cX0_copyFrom 136 = .ok (.getfield 37, 3) := by decide +kernel
theorem dX0_copyFrom_139 : decode cX0_copyFrom 139 = .ok (.iconst 0, 1) := by decide +kernel
theorem dX0_copyFrom_140 : decode cX0_copyFrom 140 = .ok (.bipush 40, 2) := by decide +kernel
theorem dX0_copyFrom_142 : decode cX0_copyFrom 142 = .ok (.invokestatic 67, 3) := by decide +kernel
theorem dX0_copyFrom_145 : decode cX0_copyFrom 145 = .ok (.aload_n 0, 1) := by decide +kernel
theorem dX0_copyFrom_146 : decode cX0_copyFrom 146 = .ok (.getfield 43, 3) := by decide +kernel
theorem dX0_copyFrom_149 : decode cX0_copyFrom 149 = .ok (.aload_n 1, 1) := by decide +kernel
theorem dX0_copyFrom_150 : decode cX0_copyFrom 150 = .ok (.getfield 43, 3) := by decide +kernel
theorem dX0_copyFrom_153 : decode cX0_copyFrom 153 = .ok (.invokevirtual 73, 3) := by decide +kernel
theorem dX0_copyFrom_156 : decode cX0_copyFrom 156 = .ok (.aload_n 0, 1) := by decide +kernel
theorem dX0_copyFrom_157 : decode cX0_copyFrom 157 = .ok (.getfield 50, 3) := by decide +kernel
theorem dX0_copyFrom_160 : decode cX0_copyFrom 160 = .ok (.aload_n 1, 1) := by decide +kernel
theorem dX0_copyFrom_161 : decode cX0_copyFrom 161 = .ok (.getfield 50, 3) := by decide +kernel
theorem dX0_copyFrom_164 : decode cX0_copyFrom 164 = .ok (.invokevirtual 77, 3) := by decide +kernel
theorem dX0_copyFrom_167 : decode cX0_copyFrom 167 = .ok (.return_, 1) := by decide +kernel
theorem dX1_init_0 : decode cX1_init 0 = .ok (.aload_n 0, 1) := by decide +kernel
theorem dX1_init_1 : decode cX1_init 1 = .ok (.invokespecial 3, 3) := by decide +kernel
theorem dX1_init_4 : decode cX1_init 4 = .ok (.aload_n 0, 1) := by decide +kernel
theorem dX1_init_5 : decode cX1_init 5 = .ok (.aload_n 1, 1) := by decide +kernel
theorem dX1_init_6 : decode cX1_init 6 = .ok (.putfield 9, 3) := by decide +kernel
theorem dX1_init_9 : decode cX1_init 9 = .ok (.return_, 1) := by decide +kernel
theorem dX1_choose_0 : decode cX1_choose 0 = .ok (.aload_n 0, 1) := by decide +kernel
theorem dX1_choose_1 : decode cX1_choose 1 = .ok (.ldc2_w 15, 3) := by decide +kernel
theorem dX1_choose_4 : decode cX1_choose 4 = .ok (.putfield 17, 3) := by decide +kernel
theorem dX1_choose_7 : decode cX1_choose 7 = .ok (.aload_n 0, 1) := by decide +kernel
theorem dX1_choose_8 : decode cX1_choose 8 = .ok (.iconst 0, 1) := by decide +kernel
theorem dX1_choose_9 : decode cX1_choose 9 = .ok (.putfield 21, 3) := by decide +kernel
theorem dX1_choose_12 : decode cX1_choose 12 = .ok (.aload_n 0, 1) := by decide +kernel
theorem dX1_choose_13 : decode cX1_choose 13 = .ok (.aload_n 0, 1) := by decide +kernel
theorem dX1_choose_14 : decode cX1_choose 14 = .ok (.getfield 9, 3) := by decide +kernel
theorem dX1_choose_17 : decode cX1_choose 17 = .ok (.getfield 25, 3) := by decide +kernel
theorem dX1_choose_20 : decode cX1_choose 20 = .ok (.iconst 0, 1) := by decide +kernel
theorem dX1_choose_21 : decode cX1_choose 21 = .ok (.lconst 0, 1) := by decide +kernel
theorem dX1_choose_22 : decode cX1_choose 22 = .ok (.iconst 0, 1) := by decide +kernel
theorem dX1_choose_23 : decode cX1_choose 23 = .ok (.invokevirtual 30, 3) := by decide +kernel
theorem dX1_choose_26 : decode cX1_choose 26 = .ok (.return_, 1) := by decide +kernel
theorem dX1_bestWorth_0 : decode cX1_bestWorth 0 = .ok (.aload_n 0, 1) := by decide +kernel
theorem dX1_bestWorth_1 : decode cX1_bestWorth 1 = .ok (.getfield 9, 3) := by decide +kernel
theorem dX1_bestWorth_4 : decode cX1_bestWorth 4 = .ok (.aload_n 0, 1) := by decide +kernel
theorem dX1_bestWorth_5 : decode cX1_bestWorth 5 = .ok (.getfield 21, 3) := by decide +kernel
theorem dX1_bestWorth_8 : decode cX1_bestWorth 8 = .ok (.invokevirtual 34, 3) := by decide +kernel
theorem dX1_bestWorth_11 : decode cX1_bestWorth 11 = .ok (.ireturn, 1) := by decide +kernel
theorem dX1_keyOf_0 : decode cX1_keyOf 0 = .ok (.aload_n 0, 1) := by decide +kernel
theorem dX1_keyOf_1 : decode cX1_keyOf 1 = .ok (.getfield 9, 3) := by decide +kernel
theorem dX1_keyOf_4 : decode cX1_keyOf 4 = .ok (.getfield 38, 3) := by decide +kernel
theorem dX1_keyOf_7 : decode cX1_keyOf 7 = .ok (.iload_n 1, 1) := by decide +kernel
theorem dX1_keyOf_8 : decode cX1_keyOf 8 = .ok (.iaload, 1) := by decide +kernel
theorem dX1_keyOf_9 : decode cX1_keyOf 9 = .ok (.i2l, 1) := by decide +kernel
theorem dX1_keyOf_10 : decode cX1_keyOf 10 = .ok (.bipush 30, 2) := by decide +kernel
theorem dX1_keyOf_12 : decode cX1_keyOf 12 = .ok (.lshl, 1) := by decide +kernel
theorem dX1_keyOf_13 : decode cX1_keyOf 13 = .ok (.ldc2_w 42, 3) := by decide +kernel
theorem dX1_keyOf_16 : decode cX1_keyOf 16 = .ok (.ladd, 1) := by decide +kernel
theorem dX1_keyOf_17 : decode cX1_keyOf 17 = .ok (.lconst 1, 1) := by decide +kernel
theorem dX1_keyOf_18 : decode cX1_keyOf 18 = .ok (.bipush 23, 2) := by decide +kernel
theorem dX1_keyOf_20 : decode cX1_keyOf 20 = .ok (.iload_n 1, 1) := by decide +kernel
theorem dX1_keyOf_21 : decode cX1_keyOf 21 = .ok (.isub, 1) := by decide +kernel
theorem dX1_keyOf_22 : decode cX1_keyOf 22 = .ok (.lshl, 1) := by decide +kernel
theorem dX1_keyOf_23 : decode cX1_keyOf 23 = .ok (.ladd, 1) := by decide +kernel
theorem dX1_keyOf_24 : decode cX1_keyOf 24 = .ok (.lreturn, 1) := by decide +kernel
theorem dX1_search_0 : decode cX1_search 0 = .ok (.iload 5, 2) := by decide +kernel
theorem dX1_search_2 : decode cX1_search 2 = .ok (.bipush 24, 2) := by decide +kernel
theorem dX1_search_4 : decode cX1_search 4 = .ok (.if_icmp .gt 18, 3) := by decide +kernel
theorem dX1_search_7 : decode cX1_search 7 = .ok (.lload_n 3, 1) := by decide +kernel
theorem dX1_search_8 : decode cX1_search 8 = .ok (.aload_n 0, 1) := by decide +kernel
theorem dX1_search_9 : decode cX1_search 9 = .ok (.iload_n 1, 1) := by decide +kernel
theorem dX1_search_10 : decode cX1_search 10 = .ok (.invokevirtual 44, 3) := by decide +kernel
theorem dX1_search_13 : decode cX1_search 13 = .ok (.ladd, 1) := by decide +kernel
theorem dX1_search_14 : decode cX1_search 14 = .ok (.aload_n 0, 1) := by decide +kernel
theorem dX1_search_15 : decode cX1_search 15 = .ok (.getfield 17, 3) := by decide +kernel
theorem dX1_search_18 : decode cX1_search 18 = .ok (.lcmp, 1) := by decide +kernel
theorem dX1_search_19 : decode cX1_search 19 = .ok (.ifCond .gt 4, 3) := by decide +kernel
theorem dX1_search_22 : decode cX1_search 22 = .ok (.return_, 1) := by decide +kernel
theorem dX1_search_23 : decode cX1_search 23 = .ok (.aload_n 0, 1) := by decide +kernel
theorem dX1_search_24 : decode cX1_search 24 = .ok (.getfield 9, 3) := by decide +kernel
theorem dX1_search_27 : decode cX1_search 27 = .ok (.iload_n 1, 1) := by decide +kernel
theorem dX1_search_28 : decode cX1_search 28 = .ok (.invokevirtual 48, 3) := by decide +kernel
theorem dX1_search_31 : decode cX1_search 31 = .ok (.istore 6, 2) := by decide +kernel
theorem dX1_search_33 : decode cX1_search 33 = .ok (.iload 6, 2) := by decide +kernel
theorem dX1_search_35 : decode cX1_search 35 = .ok (.iconst (-1), 1) := by decide +kernel
theorem dX1_search_36 : decode cX1_search 36 = .ok (.if_icmp .ne 22, 3) := by decide +kernel
theorem dX1_search_39 : decode cX1_search 39 = .ok (.aload_n 0, 1) := by decide +kernel
theorem dX1_search_40 : decode cX1_search 40 = .ok (.lload_n 3, 1) := by decide +kernel
theorem dX1_search_41 : decode cX1_search 41 = .ok (.aload_n 0, 1) := by decide +kernel
theorem dX1_search_42 : decode cX1_search 42 = .ok (.iload_n 1, 1) := by decide +kernel
theorem dX1_search_43 : decode cX1_search 43 = .ok (.invokevirtual 51, 3) := by decide +kernel
theorem dX1_search_46 : decode cX1_search 46 = .ok (.ladd, 1) := by decide +kernel
theorem dX1_search_47 : decode cX1_search 47 = .ok (.putfield 17, 3) := by decide +kernel
theorem dX1_search_50 : decode cX1_search 50 = .ok (.aload_n 0, 1) := by decide +kernel
theorem dX1_search_51 : decode cX1_search 51 = .ok (.iload_n 2, 1) := by decide +kernel
theorem dX1_search_52 : decode cX1_search 52 = .ok (.iload_n 1, 1) := by decide +kernel
theorem dX1_search_53 : decode cX1_search 53 = .ok (.ior, 1) := by decide +kernel
theorem dX1_search_54 : decode cX1_search 54 = .ok (.putfield 21, 3) := by decide +kernel
theorem dX1_search_57 : decode cX1_search 57 = .ok (.return_, 1) := by decide +kernel
theorem dX1_search_58 : decode cX1_search 58 = .ok (.iload_n 1, 1) := by decide +kernel
theorem dX1_search_59 : decode cX1_search 59 = .ok (.iconst 1, 1) := by decide +kernel
theorem dX1_search_60 : decode cX1_search 60 = .ok (.iload 6, 2) := by decide +kernel
theorem dX1_search_62 : decode cX1_search 62 = .ok (.ishl, 1) := by decide +kernel
theorem dX1_search_63 : decode cX1_search 63 = .ok (.iconst (-1), 1) := by decide +kernel
theorem dX1_search_64 : decode cX1_search 64 = .ok (.ixor, 1) := by decide +kernel
theorem dX1_search_65 : decode cX1_search 65 = .ok (.iand, 1) := by decide +kernel
theorem dX1_search_66 : decode cX1_search 66 = .ok (.istore 7, 2) := by decide +kernel
theorem dX1_search_68 : decode cX1_search 68 = .ok (.aload_n 0, 1) := by decide +kernel
theorem dX1_search_69 : decode cX1_search 69 = .ok (.iload 7, 2) := by decide +kernel
theorem dX1_search_71 : decode cX1_search 71 = .ok (.aload_n 0, 1) := by decide +kernel
theorem dX1_search_72 : decode cX1_search 72 = .ok (.getfield 9, 3) := by decide +kernel
theorem dX1_search_75 : decode cX1_search 75 = .ok (.getfield 54, 3) := by decide +kernel
theorem dX1_search_78 : decode cX1_search 78 = .ok (.iload 6, 2) := by decide +kernel
theorem dX1_search_80 : decode cX1_search 80 = .ok (.iaload, 1) := by decide +kernel
theorem dX1_search_81 : decode cX1_search 81 = .ok (.iconst (-1), 1) := by decide +kernel
theorem dX1_search_82 : decode cX1_search 82 = .ok (.ixor, 1) := by decide +kernel
theorem dX1_search_83 : decode cX1_search 83 = .ok (.iand, 1) := by decide +kernel
theorem dX1_search_84 : decode cX1_search 84 = .ok (.iload_n 2, 1) := by decide +kernel
theorem dX1_search_85 : decode cX1_search 85 = .ok (.iconst 1, 1) := by decide +kernel
theorem dX1_search_86 : decode cX1_search 86 = .ok (.iload 6, 2) := by decide +kernel
theorem dX1_search_88 : decode cX1_search 88 = .ok (.ishl, 1) := by decide +kernel
theorem dX1_search_89 : decode cX1_search 89 = .ok (.ior, 1) := by decide +kernel
theorem dX1_search_90 : decode cX1_search 90 = .ok (.lload_n 3, 1) := by decide +kernel
theorem dX1_search_91 : decode cX1_search 91 = .ok (.aload_n 0, 1) := by decide +kernel
theorem dX1_search_92 : decode cX1_search 92 = .ok (.iload 6, 2) := by decide +kernel
theorem dX1_search_94 : decode cX1_search 94 = .ok (.invokevirtual 57, 3) := by decide +kernel
theorem dX1_search_97 : decode cX1_search 97 = .ok (.ladd, 1) := by decide +kernel
theorem dX1_search_98 : decode cX1_search 98 = .ok (.iload 5, 2) := by decide +kernel
theorem dX1_search_100 : decode cX1_search 100 = .ok (.iconst 1, 1) := by decide +kernel
theorem dX1_search_101 : decode cX1_search 101 = .ok (.iadd, 1) := by decide +kernel
theorem dX1_search_102 : decode cX1_search 102 = .ok (.invokevirtual 30, 3) := by decide +kernel
theorem dX1_search_105 : decode cX1_search 105 = .ok (.aload_n 0, 1) := by decide +kernel
theorem dX1_search_106 : decode cX1_search 106 = .ok (.iload 7, 2) := by decide +kernel
theorem dX1_search_108 : decode cX1_search 108 = .ok (.iload_n 2, 1) := by decide +kernel
theorem dX1_search_109 : decode cX1_search 109 = .ok (.lload_n 3, 1) := by decide +kernel
theorem dX1_search_110 : decode cX1_search 110 = .ok (.iload 5, 2) := by decide +kernel
theorem dX1_search_112 : decode cX1_search 112 = .ok (.iconst 1, 1) := by decide +kernel
theorem dX1_search_113 : decode cX1_search 113 = .ok (.iadd, 1) := by decide +kernel
theorem dX1_search_114 : decode cX1_search 114 = .ok (.invokevirtual 30, 3) := by decide +kernel
theorem dX1_search_117 : decode cX1_search 117 = .ok (.return_, 1) := by decide +kernel
theorem dX1_bound_0 : decode cX1_bound 0 = .ok (.iload_n 1, 1) := by decide +kernel
theorem dX1_bound_1 : decode cX1_bound 1 = .ok (.istore_n 2, 1) := by decide +kernel
theorem dX1_bound_2 : decode cX1_bound 2 = .ok (.lconst 0, 1) := by decide +kernel
theorem dX1_bound_3 : decode cX1_bound 3 = .ok (.lstore_n 3, 1) := by decide +kernel
theorem dX1_bound_4 : decode cX1_bound 4 = .ok (.iconst 0, 1) := by decide +kernel
theorem dX1_bound_5 : decode cX1_bound 5 = .ok (.istore 5, 2) := by decide +kernel
theorem dX1_bound_7 : decode cX1_bound 7 = .ok (.iload 5, 2) := by decide +kernel
theorem dX1_bound_9 : decode cX1_bound 9 = .ok (.bipush 24, 2) := by decide +kernel
theorem dX1_bound_11 : decode cX1_bound 11 = .ok (.if_icmp .ge 47, 3) := by decide +kernel
theorem dX1_bound_14 : decode cX1_bound 14 = .ok (.iload_n 2, 1) := by decide +kernel
theorem dX1_bound_15 : decode cX1_bound 15 = .ok (.iload 5, 2) := by decide +kernel
theorem dX1_bound_17 : decode cX1_bound 17 = .ok (.ishr, 1) := by decide +kernel
theorem dX1_bound_18 : decode cX1_bound 18 = .ok (.iconst 1, 1) := by decide +kernel
theorem dX1_bound_19 : decode cX1_bound 19 = .ok (.iand, 1) := by decide +kernel
theorem dX1_bound_20 : decode cX1_bound 20 = .ok (.iconst 1, 1) := by decide +kernel
theorem dX1_bound_21 : decode cX1_bound 21 = .ok (.if_icmp .ne 31, 3) := by decide +kernel
theorem dX1_bound_24 : decode cX1_bound 24 = .ok (.aload_n 0, 1) := by decide +kernel
theorem dX1_bound_25 : decode cX1_bound 25 = .ok (.getfield 9, 3) := by decide +kernel
theorem dX1_bound_28 : decode cX1_bound 28 = .ok (.iload 5, 2) := by decide +kernel
theorem dX1_bound_30 : decode cX1_bound 30 = .ok (.iload_n 2, 1) := by decide +kernel
theorem dX1_bound_31 : decode cX1_bound 31 = .ok (.invokevirtual 60, 3) := by decide +kernel
theorem dX1_bound_34 : decode cX1_bound 34 = .ok (.istore 6, 2) := by decide +kernel
theorem dX1_bound_36 : decode cX1_bound 36 = .ok (.iload_n 2, 1) := by decide +kernel
theorem dX1_bound_37 : decode cX1_bound 37 = .ok (.iload 6, 2) := by decide +kernel
theorem dX1_bound_39 : decode cX1_bound 39 = .ok (.iconst (-1), 1) := by decide +kernel
theorem dX1_bound_40 : decode cX1_bound 40 = .ok (.ixor, 1) := by decide +kernel
theorem dX1_bound_41 : decode cX1_bound 41 = .ok (.iand, 1) := by decide +kernel
theorem dX1_bound_42 : decode cX1_bound 42 = .ok (.istore_n 2, 1) := by decide +kernel
theorem dX1_bound_43 : decode cX1_bound 43 = .ok (.lload_n 3, 1) := by decide +kernel
theorem dX1_bound_44 : decode cX1_bound 44 = .ok (.aload_n 0, 1) := by decide +kernel
theorem dX1_bound_45 : decode cX1_bound 45 = .ok (.iload 6, 2) := by decide +kernel
theorem dX1_bound_47 : decode cX1_bound 47 = .ok (.invokevirtual 64, 3) := by decide +kernel
theorem dX1_bound_50 : decode cX1_bound 50 = .ok (.ladd, 1) := by decide +kernel
theorem dX1_bound_51 : decode cX1_bound 51 = .ok (.lstore_n 3, 1) := by decide +kernel
theorem dX1_bound_52 : decode cX1_bound 52 = .ok (.iinc 5 1, 3) := by decide +kernel
theorem dX1_bound_55 : decode cX1_bound 55 = .ok (.goto (-48), 3) := by decide +kernel
theorem dX1_bound_58 : decode cX1_bound 58 = .ok (.lload_n 3, 1) := by decide +kernel
theorem dX1_bound_59 : decode cX1_bound 59 = .ok (.lreturn, 1) := by decide +kernel
theorem dX1_greatestKey_0 : decode cX1_greatestKey 0 = .ok (.lconst 0, 1) := by decide +kernel
theorem dX1_greatestKey_1 : decode cX1_greatestKey 1 = .ok (.lstore_n 2, 1) := by decide +kernel
theorem dX1_greatestKey_2 : decode cX1_greatestKey 2 = .ok (.iconst 0, 1) := by decide +kernel
theorem dX1_greatestKey_3 : decode cX1_greatestKey 3 = .ok (.istore 4, 2) := by decide +kernel
theorem dX1_greatestKey_5 : decode cX1_greatestKey 5 = .ok (.iload 4, 2) := by decide +kernel
theorem dX1_greatestKey_7 : decode cX1_greatestKey 7 = .ok (.bipush 24, 2) := by decide +kernel
theorem dX1_greatestKey_9 : decode cX1_greatestKey 9 = .ok (.if_icmp .ge 30, 3) := by decide +kernel
theorem dX1_greatestKey_12 : decode cX1_greatestKey 12 = .ok (.iload_n 1, 1) := by decide +kernel
theorem dX1_greatestKey_13 : decode cX1_greatestKey 13 = .ok (.iload 4, 2) := by decide +kernel
theorem dX1_greatestKey_15 : decode cX1_greatestKey 15 = .ok (.ishr, 1) := by decide +kernel
theorem dX1_greatestKey_16 : decode cX1_greatestKey 16 = .ok (.iconst 1, 1) := by decide +kernel
theorem dX1_greatestKey_17 : decode cX1_greatestKey 17 = .ok (.iand, 1) := by decide +kernel
theorem dX1_greatestKey_18 : decode cX1_greatestKey 18 = .ok (.iconst 1, 1) := by decide +kernel
theorem dX1_greatestKey_19 : decode cX1_greatestKey 19 = .ok (.if_icmp .ne 14, 3) := by decide +kernel
theorem dX1_greatestKey_22 : decode cX1_greatestKey 22 = .ok (.lload_n 2, 1) := by decide +kernel
theorem dX1_greatestKey_23 : decode cX1_greatestKey 23 = .ok (.aload_n 0, 1) := by decide +kernel
theorem dX1_greatestKey_24 : decode cX1_greatestKey 24 = .ok (.iload 4, 2) := by decide +kernel
theorem dX1_greatestKey_26 : decode cX1_greatestKey 26 = .ok (.invokevirtual 57, 3) := by decide +kernel
theorem dX1_greatestKey_29 : decode cX1_greatestKey 29 = .ok (.invokestatic 67, 3) := by decide +kernel
theorem dX1_greatestKey_32 : decode cX1_greatestKey 32 = .ok (.lstore_n 2, 1) := by decide +kernel
theorem dX1_greatestKey_33 : decode cX1_greatestKey 33 = .ok (.iinc 4 1, 3) := by decide +kernel
theorem dX1_greatestKey_36 : decode cX1_greatestKey 36 = .ok (.goto (-31), 3) := by decide +kernel
theorem dX1_greatestKey_39 : decode cX1_greatestKey 39 = .ok (.lload_n 2, 1) := by decide +kernel
theorem dX1_greatestKey_40 : decode cX1_greatestKey 40 = .ok (.lreturn, 1) := by decide +kernel
theorem dX1_allKeys_0 : decode cX1_allKeys 0 = .ok (.lconst 0, 1) := by decide +kernel
theorem dX1_allKeys_1 : decode cX1_allKeys 1 = .ok (.lstore_n 2, 1) := by decide +kernel
theorem dX1_allKeys_2 : decode cX1_allKeys 2 = .ok (.iconst 0, 1) := by decide +kernel
theorem dX1_allKeys_3 : decode cX1_allKeys 3 = .ok (.istore 4, 2) := by decide +kernel
theorem dX1_allKeys_5 : decode cX1_allKeys 5 = .ok (.iload 4, 2) := by decide +kernel
theorem dX1_allKeys_7 : decode cX1_allKeys 7 = .ok (.bipush 24, 2) := by decide +kernel
theorem dX1_allKeys_9 : decode cX1_allKeys 9 = .ok (.if_icmp .ge 28, 3) := by decide +kernel
theorem dX1_allKeys_12 : decode cX1_allKeys 12 = .ok (.iload_n 1, 1) := by decide +kernel
theorem dX1_allKeys_13 : decode cX1_allKeys 13 = .ok (.iload 4, 2) := by decide +kernel
theorem dX1_allKeys_15 : decode cX1_allKeys 15 = .ok (.ishr, 1) := by decide +kernel
theorem dX1_allKeys_16 : decode cX1_allKeys 16 = .ok (.iconst 1, 1) := by decide +kernel
theorem dX1_allKeys_17 : decode cX1_allKeys 17 = .ok (.iand, 1) := by decide +kernel
theorem dX1_allKeys_18 : decode cX1_allKeys 18 = .ok (.iconst 1, 1) := by decide +kernel
theorem dX1_allKeys_19 : decode cX1_allKeys 19 = .ok (.if_icmp .ne 12, 3) := by decide +kernel
theorem dX1_allKeys_22 : decode cX1_allKeys 22 = .ok (.lload_n 2, 1) := by decide +kernel
theorem dX1_allKeys_23 : decode cX1_allKeys 23 = .ok (.aload_n 0, 1) := by decide +kernel
theorem dX1_allKeys_24 : decode cX1_allKeys 24 = .ok (.iload 4, 2) := by decide +kernel
theorem dX1_allKeys_26 : decode cX1_allKeys 26 = .ok (.invokevirtual 57, 3) := by decide +kernel
theorem dX1_allKeys_29 : decode cX1_allKeys 29 = .ok (.ladd, 1) := by decide +kernel
theorem dX1_allKeys_30 : decode cX1_allKeys 30 = .ok (.lstore_n 2, 1) := by decide +kernel
theorem dX1_allKeys_31 : decode cX1_allKeys 31 = .ok (.iinc 4 1, 3) := by decide +kernel
theorem dX1_allKeys_34 : decode cX1_allKeys 34 = .ok (.goto (-29), 3) := by decide +kernel
theorem dX1_allKeys_37 : decode cX1_allKeys 37 = .ok (.lload_n 2, 1) := by decide +kernel
theorem dX1_allKeys_38 : decode cX1_allKeys 38 = .ok (.lreturn, 1) := by decide +kernel
theorem dX2_init_0 : decode cX2_init 0 = .ok (.aload_n 0, 1) := by decide +kernel
theorem dX2_init_1 : decode cX2_init 1 = .ok (.invokespecial 3, 3) := by decide +kernel
theorem dX2_init_4 : decode cX2_init 4 = .ok (.aload_n 0, 1) := by decide +kernel
theorem dX2_init_5 : decode cX2_init 5 = .ok (.bipush 24, 2) := by decide +kernel
theorem dX2_init_7 : decode cX2_init 7 = .ok (.newarray .int, 2) := by decide +kernel
theorem dX2_init_9 : decode cX2_init 9 = .ok (.putfield 9, 3) := by decide +kernel
theorem dX2_init_12 : decode cX2_init 12 = .ok (.aload_n 0, 1) := by decide +kernel
theorem dX2_init_13 : decode cX2_init 13 = .ok (.aload_n 1, 1) := by decide +kernel
theorem dX2_init_14 : decode cX2_init 14 = .ok (.putfield 15, 3) := by decide +kernel
theorem dX2_init_17 : decode cX2_init 17 = .ok (.aload_n 0, 1) := by decide +kernel
theorem dX2_init_18 : decode cX2_init 18 = .ok (.aload_n 1, 1) := by decide +kernel
theorem dX2_init_19 : decode cX2_init 19 = .ok (.getfield 19, 3) := by decide +kernel
theorem dX2_init_22 : decode cX2_init 22 = .ok (.getfield 25, 3) := by decide +kernel
theorem dX2_init_25 : decode cX2_init 25 = .ok (.getfield 31, 3) := by decide +kernel
theorem dX2_init_28 : decode cX2_init 28 = .ok (.putfield 36, 3) := by decide +kernel
theorem dX2_init_31 : decode cX2_init 31 = .ok (.return_, 1) := by decide +kernel
theorem dX2_load_0 : decode cX2_load 0 = .ok (.aload_n 0, 1) := by decide +kernel
theorem dX2_load_1 : decode cX2_load 1 = .ok (.getfield 15, 3) := by decide +kernel
theorem dX2_load_4 : decode cX2_load 4 = .ok (.iload_n 1, 1) := by decide +kernel
theorem dX2_load_5 : decode cX2_load 5 = .ok (.invokevirtual 37, 3) := by decide +kernel
theorem dX2_load_8 : decode cX2_load 8 = .ok (.aload_n 0, 1) := by decide +kernel
theorem dX2_load_9 : decode cX2_load 9 = .ok (.aload_n 0, 1) := by decide +kernel
theorem dX2_load_10 : decode cX2_load 10 = .ok (.getfield 15, 3) := by decide +kernel
theorem dX2_load_13 : decode cX2_load 13 = .ok (.iload_n 2, 1) := by decide +kernel
theorem dX2_load_14 : decode cX2_load 14 = .ok (.invokevirtual 41, 3) := by decide +kernel
theorem dX2_load_17 : decode cX2_load 17 = .ok (.putfield 45, 3) := by decide +kernel
theorem dX2_load_20 : decode cX2_load 20 = .ok (.aload_n 0, 1) := by decide +kernel
theorem dX2_load_21 : decode cX2_load 21 = .ok (.iconst 0, 1) := by decide +kernel
theorem dX2_load_22 : decode cX2_load 22 = .ok (.putfield 49, 3) := by decide +kernel
theorem dX2_load_25 : decode cX2_load 25 = .ok (.iconst 0, 1) := by decide +kernel
theorem dX2_load_26 : decode cX2_load 26 = .ok (.istore_n 3, 1) := by decide +kernel
theorem dX2_load_27 : decode cX2_load 27 = .ok (.iload_n 3, 1) := by decide +kernel
theorem dX2_load_28 : decode cX2_load 28 = .ok (.bipush 24, 2) := by decide +kernel
theorem dX2_load_30 : decode cX2_load 30 = .ok (.if_icmp .ge 33, 3) := by decide +kernel
theorem dX2_load_33 : decode cX2_load 33 = .ok (.aload_n 0, 1) := by decide +kernel
theorem dX2_load_34 : decode cX2_load 34 = .ok (.getfield 9, 3) := by decide +kernel
theorem dX2_load_37 : decode cX2_load 37 = .ok (.iload_n 3, 1) := by decide +kernel
theorem dX2_load_38 : decode cX2_load 38 = .ok (.iconst 0, 1) := by decide +kernel
theorem dX2_load_39 : decode cX2_load 39 = .ok (.iastore, 1) := by decide +kernel
theorem dX2_load_40 : decode cX2_load 40 = .ok (.aload_n 0, 1) := by decide +kernel
theorem dX2_load_41 : decode cX2_load 41 = .ok (.getfield 45, 3) := by decide +kernel
theorem dX2_load_44 : decode cX2_load 44 = .ok (.iload_n 3, 1) := by decide +kernel
theorem dX2_load_45 : decode cX2_load 45 = .ok (.ishr, 1) := by decide +kernel
theorem dX2_load_46 : decode cX2_load 46 = .ok (.iconst 1, 1) := by decide +kernel
theorem dX2_load_47 : decode cX2_load 47 = .ok (.iand, 1) := by decide +kernel
theorem dX2_load_48 : decode cX2_load 48 = .ok (.iconst 1, 1) := by decide +kernel
theorem dX2_load_49 : decode cX2_load 49 = .ok (.if_icmp .ne 8, 3) := by decide +kernel
theorem dX2_load_52 : decode cX2_load 52 = .ok (.aload_n 0, 1) := by decide +kernel
theorem dX2_load_53 : decode cX2_load 53 = .ok (.iload_n 3, 1) := by decide +kernel
theorem dX2_load_54 : decode cX2_load 54 = .ok (.invokevirtual 52, 3) := by decide +kernel
theorem dX2_load_57 : decode cX2_load 57 = .ok (.iinc 3 1, 3) := by decide +kernel
theorem dX2_load_60 : decode cX2_load 60 = .ok (.goto (-33), 3) := by decide +kernel
theorem dX2_load_63 : decode cX2_load 63 = .ok (.return_, 1) := by decide +kernel
theorem dX2_findFoes_0 : decode cX2_findFoes 0 = .ok (.aload_n 0, 1) := by decide +kernel
theorem dX2_findFoes_1 : decode cX2_findFoes 1 = .ok (.getfield 15, 3) := by decide +kernel
theorem dX2_findFoes_4 : decode cX2_findFoes 4 = .ok (.iconst 1, 1) := by decide +kernel
theorem dX2_findFoes_5 : decode cX2_findFoes 5 = .ok (.iload_n 1, 1) := by decide +kernel
theorem dX2_findFoes_6 : decode cX2_findFoes 6 = .ok (.ishl, 1) := by decide +kernel
theorem dX2_findFoes_7 : decode cX2_findFoes 7 = .ok (.invokevirtual 55, 3) := by decide +kernel
theorem dX2_findFoes_10 : decode cX2_findFoes 10 = .ok (.ifCond .ne 14, 3) := by decide +kernel
theorem dX2_findFoes_13 : decode cX2_findFoes 13 = .ok (.aload_n 0, 1) := by decide +kernel
theorem dX2_findFoes_14 : decode cX2_findFoes 14 = .ok (.getfield 9, 3) := by decide +kernel
theorem dX2_findFoes_17 : decode cX2_findFoes 17 = .ok (.iload_n 1, 1) := by decide +kernel
theorem dX2_findFoes_18 : decode cX2_findFoes 18 = .ok (.aload_n 0, 1) := by decide +kernel
theorem dX2_findFoes_19 : decode cX2_findFoes 19 = .ok (.getfield 45, 3) := by decide +kernel
theorem dX2_findFoes_22 : decode cX2_findFoes 22 = .ok (.iastore, 1) := by decide +kernel
theorem dX2_findFoes_23 : decode cX2_findFoes 23 = .ok (.return_, 1) := by decide +kernel
theorem dX2_findFoes_24 : decode cX2_findFoes 24 = .ok (.aload_n 0, 1) := by decide +kernel
theorem dX2_findFoes_25 : decode cX2_findFoes 25 = .ok (.dup, 1) := by decide +kernel
theorem dX2_findFoes_26 : decode cX2_findFoes 26 = .ok (.getfield 49, 3) := by decide +kernel
theorem dX2_findFoes_29 : decode cX2_findFoes 29 = .ok (.iconst 1, 1) := by decide +kernel
theorem dX2_findFoes_30 : decode cX2_findFoes 30 = .ok (.iload_n 1, 1) := by decide +kernel
theorem dX2_findFoes_31 : decode cX2_findFoes 31 = .ok (.ishl, 1) := by decide +kernel
theorem dX2_findFoes_32 : decode cX2_findFoes 32 = .ok (.ior, 1) := by decide +kernel
theorem dX2_findFoes_33 : decode cX2_findFoes 33 = .ok (.putfield 49, 3) := by decide +kernel
theorem dX2_findFoes_36 : decode cX2_findFoes 36 = .ok (.aload_n 0, 1) := by decide +kernel
theorem dX2_findFoes_37 : decode cX2_findFoes 37 = .ok (.getfield 15, 3) := by decide +kernel
theorem dX2_findFoes_40 : decode cX2_findFoes 40 = .ok (.getfield 19, 3) := by decide +kernel
theorem dX2_findFoes_43 : decode cX2_findFoes 43 = .ok (.getfield 25, 3) := by decide +kernel
theorem dX2_findFoes_46 : decode cX2_findFoes 46 = .ok (.getfield 59, 3) := by decide +kernel
theorem dX2_findFoes_49 : decode cX2_findFoes 49 = .ok (.astore_n 2, 1) := by decide +kernel
theorem dX2_findFoes_50 : decode cX2_findFoes 50 = .ok (.iconst 0, 1) := by decide +kernel
theorem dX2_findFoes_51 : decode cX2_findFoes 51 = .ok (.istore_n 3, 1) := by decide +kernel
theorem dX2_findFoes_52 : decode cX2_findFoes 52 = .ok (.iload_n 3, 1) := by decide +kernel
theorem dX2_findFoes_53 : decode cX2_findFoes 53 = .ok (.bipush 24, 2) := by decide +kernel
theorem dX2_findFoes_55 : decode cX2_findFoes 55 = .ok (.if_icmp .ge 95, 3) := by decide +kernel
theorem dX2_findFoes_58 : decode cX2_findFoes 58 = .ok (.aload_n 0, 1) := by decide +kernel
theorem dX2_findFoes_59 : decode cX2_findFoes 59 = .ok (.getfield 45, 3) := by decide +kernel
theorem dX2_findFoes_62 : decode cX2_findFoes 62 = .ok (.iload_n 3, 1) := by decide +kernel
theorem dX2_findFoes_63 : decode cX2_findFoes 63 = .ok (.ishr, 1) := by decide +kernel
theorem dX2_findFoes_64 : decode cX2_findFoes 64 = .ok (.iconst 1, 1) := by decide +kernel
theorem dX2_findFoes_65 : decode cX2_findFoes 65 = .ok (.iand, 1) := by decide +kernel
theorem dX2_findFoes_66 : decode cX2_findFoes 66 = .ok (.iconst 1, 1) := by decide +kernel
theorem dX2_findFoes_67 : decode cX2_findFoes 67 = .ok (.if_icmp .ne 77, 3) := by decide +kernel
theorem dX2_findFoes_70 : decode cX2_findFoes 70 = .ok (.aload_n 0, 1) := by decide +kernel
theorem dX2_findFoes_71 : decode cX2_findFoes 71 = .ok (.getfield 15, 3) := by decide +kernel
theorem dX2_findFoes_74 : decode cX2_findFoes 74 = .ok (.getfield 62, 3) := by decide +kernel
theorem dX2_findFoes_77 : decode cX2_findFoes 77 = .ok (.iload_n 3, 1) := by decide +kernel
theorem dX2_findFoes_78 : decode cX2_findFoes 78 = .ok (.iaload, 1) := by decide +kernel
theorem dX2_findFoes_79 : decode cX2_findFoes 79 = .ok (.aload_n 0, 1) := by decide +kernel
theorem dX2_findFoes_80 : decode cX2_findFoes 80 = .ok (.getfield 15, 3) := by decide +kernel
theorem dX2_findFoes_83 : decode cX2_findFoes 83 = .ok (.getfield 65, 3) := by decide +kernel
theorem dX2_findFoes_86 : decode cX2_findFoes 86 = .ok (.aload_n 2, 1) := by decide +kernel
theorem dX2_findFoes_87 : decode cX2_findFoes 87 = .ok (.iload_n 3, 1) := by decide +kernel
theorem dX2_findFoes_88 : decode cX2_findFoes 88 = .ok (.iaload, 1) := by decide +kernel
theorem dX2_findFoes_89 : decode cX2_findFoes 89 = .ok (.iaload, 1) := by decide +kernel
theorem dX2_findFoes_90 : decode cX2_findFoes 90 = .ok (.if_icmp .gt 26, 3) := by decide +kernel
theorem dX2_findFoes_93 : decode cX2_findFoes 93 = .ok (.aload_n 0, 1) := by decide +kernel
theorem dX2_findFoes_94 : decode cX2_findFoes 94 = .ok (.getfield 15, 3) := by decide +kernel
theorem dX2_findFoes_97 : decode cX2_findFoes 97 = .ok (.getfield 68, 3) := by decide +kernel
theorem dX2_findFoes_100 : decode cX2_findFoes 100 = .ok (.iload_n 3, 1) := by decide +kernel
theorem dX2_findFoes_101 : decode cX2_findFoes 101 = .ok (.iaload, 1) := by decide +kernel
theorem dX2_findFoes_102 : decode cX2_findFoes 102 = .ok (.aload_n 0, 1) := by decide +kernel
theorem dX2_findFoes_103 : decode cX2_findFoes 103 = .ok (.getfield 15, 3) := by decide +kernel
theorem dX2_findFoes_106 : decode cX2_findFoes 106 = .ok (.getfield 71, 3) := by decide +kernel
theorem dX2_findFoes_109 : decode cX2_findFoes 109 = .ok (.aload_n 2, 1) := by decide +kernel
theorem dX2_findFoes_110 : decode cX2_findFoes 110 = .ok (.iload_n 3, 1) := by decide +kernel
theorem dX2_findFoes_111 : decode cX2_findFoes 111 = .ok (.iaload, 1) := by decide +kernel
theorem dX2_findFoes_112 : decode cX2_findFoes 112 = .ok (.iaload, 1) := by decide +kernel
theorem dX2_findFoes_113 : decode cX2_findFoes 113 = .ok (.if_icmp .ge 7, 3) := by decide +kernel
theorem dX2_findFoes_116 : decode cX2_findFoes 116 = .ok (.iconst 1, 1) := by decide +kernel
theorem dX2_findFoes_117 : decode cX2_findFoes 117 = .ok (.goto 4, 3) := by decide +kernel
theorem dX2_findFoes_120 : decode cX2_findFoes 120 = .ok (.iconst 0, 1) := by decide +kernel
theorem dX2_findFoes_121 : decode cX2_findFoes 121 = .ok (.istore 4, 2) := by decide +kernel
theorem dX2_findFoes_123 : decode cX2_findFoes 123 = .ok (.aload_n 0, 1) := by decide +kernel
theorem dX2_findFoes_124 : decode cX2_findFoes 124 = .ok (.getfield 9, 3) := by decide +kernel
theorem dX2_findFoes_127 : decode cX2_findFoes 127 = .ok (.iload_n 1, 1) := by decide +kernel
theorem dX2_findFoes_128 : decode cX2_findFoes 128 = .ok (.dup2, 1) := by decide +kernel
theorem dX2_findFoes_129 : decode cX2_findFoes 129 = .ok (.iaload, 1) := by decide +kernel
theorem dX2_findFoes_130 : decode cX2_findFoes 130 = .ok (.iload 4, 2) := by decide +kernel
theorem dX2_findFoes_132 : decode cX2_findFoes 132 = .ok (.ifCond .eq 9, 3) := by decide +kernel
theorem dX2_findFoes_135 : decode cX2_findFoes 135 = .ok (.iconst 1, 1) := by decide +kernel
theorem dX2_findFoes_136 : decode cX2_findFoes 136 = .ok (.iload_n 3, 1) := by decide +kernel
theorem dX2_findFoes_137 : decode cX2_findFoes 137 = .ok (.ishl, 1) := by decide +kernel
theorem dX2_findFoes_138 : decode cX2_findFoes 138 = .ok (.goto 4, 3) := by decide +kernel
theorem dX2_findFoes_141 : decode cX2_findFoes 141 = .ok (.iconst 0, 1) := by decide +kernel
theorem dX2_findFoes_142 : decode cX2_findFoes 142 = .ok (.ior, 1) := by decide +kernel
theorem dX2_findFoes_143 : decode cX2_findFoes 143 = .ok (.iastore, 1) := by decide +kernel
theorem dX2_findFoes_144 : decode cX2_findFoes 144 = .ok (.iinc 3 1, 3) := by decide +kernel
theorem dX2_findFoes_147 : decode cX2_findFoes 147 = .ok (.goto (-95), 3) := by decide +kernel
theorem dX2_findFoes_150 : decode cX2_findFoes 150 = .ok (.return_, 1) := by decide +kernel
theorem dX2_pairs_0 : decode cX2_pairs 0 = .ok (.iconst 0, 1) := by decide +kernel
theorem dX2_pairs_1 : decode cX2_pairs 1 = .ok (.istore_n 1, 1) := by decide +kernel
theorem dX2_pairs_2 : decode cX2_pairs 2 = .ok (.iconst 0, 1) := by decide +kernel
theorem dX2_pairs_3 : decode cX2_pairs 3 = .ok (.istore_n 2, 1) := by decide +kernel
theorem dX2_pairs_4 : decode cX2_pairs 4 = .ok (.iload_n 2, 1) := by decide +kernel
theorem dX2_pairs_5 : decode cX2_pairs 5 = .ok (.bipush 24, 2) := by decide +kernel
theorem dX2_pairs_7 : decode cX2_pairs 7 = .ok (.if_icmp .ge 23, 3) := by decide +kernel
theorem dX2_pairs_10 : decode cX2_pairs 10 = .ok (.iload_n 1, 1) := by decide +kernel
theorem dX2_pairs_11 : decode cX2_pairs 11 = .ok (.aload_n 0, 1) := by decide +kernel
theorem dX2_pairs_12 : decode cX2_pairs 12 = .ok (.getfield 9, 3) := by decide +kernel
theorem dX2_pairs_15 : decode cX2_pairs 15 = .ok (.iload_n 2, 1) := by decide +kernel
theorem dX2_pairs_16 : decode cX2_pairs 16 = .ok (.iaload, 1) := by decide +kernel
theorem dX2_pairs_17 : decode cX2_pairs 17 = .ok (.iload_n 2, 1) := by decide +kernel
theorem dX2_pairs_18 : decode cX2_pairs 18 = .ok (.ishr, 1) := by decide +kernel
theorem dX2_pairs_19 : decode cX2_pairs 19 = .ok (.invokestatic 74, 3) := by decide +kernel
theorem dX2_pairs_22 : decode cX2_pairs 22 = .ok (.iadd, 1) := by decide +kernel
theorem dX2_pairs_23 : decode cX2_pairs 23 = .ok (.istore_n 1, 1) := by decide +kernel
theorem dX2_pairs_24 : decode cX2_pairs 24 = .ok (.iinc 2 1, 3) := by decide +kernel
theorem dX2_pairs_27 : decode cX2_pairs 27 = .ok (.goto (-23), 3) := by decide +kernel
theorem dX2_pairs_30 : decode cX2_pairs 30 = .ok (.iload_n 1, 1) := by decide +kernel
theorem dX2_pairs_31 : decode cX2_pairs 31 = .ok (.ireturn, 1) := by decide +kernel
theorem dX2_pairAt_0 : decode cX2_pairAt 0 = .ok (.iconst 0, 1) := by decide +kernel
theorem dX2_pairAt_1 : decode cX2_pairAt 1 = .ok (.istore_n 2, 1) := by decide +kernel
theorem dX2_pairAt_2 : decode cX2_pairAt 2 = .ok (.iconst 0, 1) := by decide +kernel
theorem dX2_pairAt_3 : decode cX2_pairAt 3 = .ok (.istore_n 3, 1) := by decide +kernel
theorem dX2_pairAt_4 : decode cX2_pairAt 4 = .ok (.iload_n 3, 1) := by decide +kernel
theorem dX2_pairAt_5 : decode cX2_pairAt 5 = .ok (.bipush 24, 2) := by decide +kernel
theorem dX2_pairAt_7 : decode cX2_pairAt 7 = .ok (.if_icmp .ge 56, 3) := by decide +kernel
theorem dX2_pairAt_10 : decode cX2_pairAt 10 = .ok (.iload_n 3, 1) := by decide +kernel
theorem dX2_pairAt_11 : decode cX2_pairAt 11 = .ok (.istore 4, 2) := by decide +kernel
theorem dX2_pairAt_13 : decode cX2_pairAt 13 = .ok (.iload 4, 2) := by decide +kernel
theorem dX2_pairAt_15 : decode cX2_pairAt 15 = .ok (.bipush 24, 2) := by decide +kernel
theorem dX2_pairAt_17 : decode cX2_pairAt 17 = .ok (.if_icmp .ge 40, 3) := by decide +kernel
theorem dX2_pairAt_20 : decode cX2_pairAt 20 = .ok (.aload_n 0, 1) := by decide +kernel
theorem dX2_pairAt_21 : decode cX2_pairAt 21 = .ok (.getfield 9, 3) := by decide +kernel
theorem dX2_pairAt_24 : decode cX2_pairAt 24 = .ok (.iload_n 3, 1) := by decide +kernel
theorem dX2_pairAt_25 : decode cX2_pairAt 25 = .ok (.iaload, 1) := by decide +kernel
theorem dX2_pairAt_26 : decode cX2_pairAt 26 = .ok (.iload 4, 2) := by decide +kernel
theorem dX2_pairAt_28 : decode cX2_pairAt 28 = .ok (.ishr, 1) := by decide +kernel
theorem dX2_pairAt_29 : decode cX2_pairAt 29 = .ok (.iconst 1, 1) := by decide +kernel
theorem dX2_pairAt_30 : decode cX2_pairAt 30 = .ok (.iand, 1) := by decide +kernel
theorem dX2_pairAt_31 : decode cX2_pairAt 31 = .ok (.iconst 1, 1) := by decide +kernel
theorem dX2_pairAt_32 : decode cX2_pairAt 32 = .ok (.if_icmp .ne 19, 3) := by decide +kernel
theorem dX2_pairAt_35 : decode cX2_pairAt 35 = .ok (.iload_n 2, 1) := by decide +kernel
theorem dX2_pairAt_36 : decode cX2_pairAt 36 = .ok (.iload_n 1, 1) := by decide +kernel
theorem dX2_pairAt_37 : decode cX2_pairAt 37 = .ok (.if_icmp .ne 11, 3) := by decide +kernel
theorem dX2_pairAt_40 : decode cX2_pairAt 40 = .ok (.iload_n 3, 1) := by decide +kernel
theorem dX2_pairAt_41 : decode cX2_pairAt 41 = .ok (.bipush 24, 2) := by decide +kernel
theorem dX2_pairAt_43 : decode cX2_pairAt 43 = .ok (.imul, 1) := by decide +kernel
theorem dX2_pairAt_44 : decode cX2_pairAt 44 = .ok (.iload 4, 2) := by decide +kernel
theorem dX2_pairAt_46 : decode cX2_pairAt 46 = .ok (.iadd, 1) := by decide +kernel
theorem dX2_pairAt_47 : decode cX2_pairAt 47 = .ok (.ireturn, 1) := by decide +kernel
theorem dX2_pairAt_48 : decode cX2_pairAt 48 = .ok (.iinc 2 1, 3) := by decide +kernel
theorem dX2_pairAt_51 : decode cX2_pairAt 51 = .ok (.iinc 4 1, 3) := by decide +kernel
theorem dX2_pairAt_54 : decode cX2_pairAt 54 = .ok (.goto (-41), 3) := by decide +kernel
theorem dX2_pairAt_57 : decode cX2_pairAt 57 = .ok (.iinc 3 1, 3) := by decide +kernel
theorem dX2_pairAt_60 : decode cX2_pairAt 60 = .ok (.goto (-56), 3) := by decide +kernel
theorem dX2_pairAt_63 : decode cX2_pairAt 63 = .ok (.iconst (-1), 1) := by decide +kernel
theorem dX2_pairAt_64 : decode cX2_pairAt 64 = .ok (.ireturn, 1) := by decide +kernel
theorem dX2_groupFrom_0 : decode cX2_groupFrom 0 = .ok (.iconst 1, 1) := by decide +kernel
theorem dX2_groupFrom_1 : decode cX2_groupFrom 1 = .ok (.iload_n 1, 1) := by decide +kernel
theorem dX2_groupFrom_2 : decode cX2_groupFrom 2 = .ok (.ishl, 1) := by decide +kernel
theorem dX2_groupFrom_3 : decode cX2_groupFrom 3 = .ok (.istore_n 3, 1) := by decide +kernel
theorem dX2_groupFrom_4 : decode cX2_groupFrom 4 = .ok (.iload_n 1, 1) := by decide +kernel
theorem dX2_groupFrom_5 : decode cX2_groupFrom 5 = .ok (.iconst 1, 1) := by decide +kernel
theorem dX2_groupFrom_6 : decode cX2_groupFrom 6 = .ok (.iadd, 1) := by decide +kernel
theorem dX2_groupFrom_7 : decode cX2_groupFrom 7 = .ok (.istore 4, 2) := by decide +kernel
theorem dX2_groupFrom_9 : decode cX2_groupFrom 9 = .ok (.iload 4, 2) := by decide +kernel
theorem dX2_groupFrom_11 : decode cX2_groupFrom 11 = .ok (.bipush 24, 2) := by decide +kernel
theorem dX2_groupFrom_13 : decode cX2_groupFrom 13 = .ok (.if_icmp .ge 40, 3) := by decide +kernel
theorem dX2_groupFrom_16 : decode cX2_groupFrom 16 = .ok (.iload_n 2, 1) := by decide +kernel
theorem dX2_groupFrom_17 : decode cX2_groupFrom 17 = .ok (.iload 4, 2) := by decide +kernel
theorem dX2_groupFrom_19 : decode cX2_groupFrom 19 = .ok (.ishr, 1) := by decide +kernel
theorem dX2_groupFrom_20 : decode cX2_groupFrom 20 = .ok (.iconst 1, 1) := by decide +kernel
theorem dX2_groupFrom_21 : decode cX2_groupFrom 21 = .ok (.iand, 1) := by decide +kernel
theorem dX2_groupFrom_22 : decode cX2_groupFrom 22 = .ok (.iconst 1, 1) := by decide +kernel
theorem dX2_groupFrom_23 : decode cX2_groupFrom 23 = .ok (.if_icmp .ne 24, 3) := by decide +kernel
theorem dX2_groupFrom_26 : decode cX2_groupFrom 26 = .ok (.iload_n 3, 1) := by decide +kernel
theorem dX2_groupFrom_27 : decode cX2_groupFrom 27 = .ok (.aload_n 0, 1) := by decide +kernel
theorem dX2_groupFrom_28 : decode cX2_groupFrom 28 = .ok (.getfield 9, 3) := by decide +kernel
theorem dX2_groupFrom_31 : decode cX2_groupFrom 31 = .ok (.iload 4, 2) := by decide +kernel
theorem dX2_groupFrom_33 : decode cX2_groupFrom 33 = .ok (.iaload, 1) := by decide +kernel
theorem dX2_groupFrom_34 : decode cX2_groupFrom 34 = .ok (.iconst (-1), 1) := by decide +kernel
theorem dX2_groupFrom_35 : decode cX2_groupFrom 35 = .ok (.ixor, 1) := by decide +kernel
theorem dX2_groupFrom_36 : decode cX2_groupFrom 36 = .ok (.iand, 1) := by decide +kernel
theorem dX2_groupFrom_37 : decode cX2_groupFrom 37 = .ok (.ifCond .ne 10, 3) := by decide +kernel
theorem dX2_groupFrom_40 : decode cX2_groupFrom 40 = .ok (.iload_n 3, 1) := by decide +kernel
theorem dX2_groupFrom_41 : decode cX2_groupFrom 41 = .ok (.iconst 1, 1) := by decide +kernel
theorem dX2_groupFrom_42 : decode cX2_groupFrom 42 = .ok (.iload 4, 2) := by decide +kernel
theorem dX2_groupFrom_44 : decode cX2_groupFrom 44 = .ok (.ishl, 1) := by decide +kernel
theorem dX2_groupFrom_45 : decode cX2_groupFrom 45 = .ok (.ior, 1) := by decide +kernel
theorem dX2_groupFrom_46 : decode cX2_groupFrom 46 = .ok (.istore_n 3, 1) := by decide +kernel
theorem dX2_groupFrom_47 : decode cX2_groupFrom 47 = .ok (.iinc 4 1, 3) := by decide +kernel
theorem dX2_groupFrom_50 : decode cX2_groupFrom 50 = .ok (.goto (-41), 3) := by decide +kernel
theorem dX2_groupFrom_53 : decode cX2_groupFrom 53 = .ok (.iload_n 3, 1) := by decide +kernel
theorem dX2_groupFrom_54 : decode cX2_groupFrom 54 = .ok (.ireturn, 1) := by decide +kernel
theorem dX2_busiest_0 : decode cX2_busiest 0 = .ok (.iconst (-1), 1) := by decide +kernel
theorem dX2_busiest_1 : decode cX2_busiest 1 = .ok (.istore_n 2, 1) := by decide +kernel
theorem dX2_busiest_2 : decode cX2_busiest 2 = .ok (.iconst 0, 1) := by decide +kernel
theorem dX2_busiest_3 : decode cX2_busiest 3 = .ok (.istore_n 3, 1) := by decide +kernel
theorem dX2_busiest_4 : decode cX2_busiest 4 = .ok (.iconst 0, 1) := by decide +kernel
theorem dX2_busiest_5 : decode cX2_busiest 5 = .ok (.istore 4, 2) := by decide +kernel
theorem dX2_busiest_7 : decode cX2_busiest 7 = .ok (.iload 4, 2) := by decide +kernel
theorem dX2_busiest_9 : decode cX2_busiest 9 = .ok (.bipush 24, 2) := by decide +kernel
theorem dX2_busiest_11 : decode cX2_busiest 11 = .ok (.if_icmp .ge 49, 3) := by decide +kernel
theorem dX2_busiest_14 : decode cX2_busiest 14 = .ok (.iload_n 1, 1) := by decide +kernel
theorem dX2_busiest_15 : decode cX2_busiest 15 = .ok (.iload 4, 2) := by decide +kernel
theorem dX2_busiest_17 : decode cX2_busiest 17 = .ok (.ishr, 1) := by decide +kernel
theorem dX2_busiest_18 : decode cX2_busiest 18 = .ok (.iconst 1, 1) := by decide +kernel
theorem dX2_busiest_19 : decode cX2_busiest 19 = .ok (.iand, 1) := by decide +kernel
theorem dX2_busiest_20 : decode cX2_busiest 20 = .ok (.iconst 1, 1) := by decide +kernel
theorem dX2_busiest_21 : decode cX2_busiest 21 = .ok (.if_icmp .ne 18, 3) := by decide +kernel
theorem dX2_busiest_24 : decode cX2_busiest 24 = .ok (.aload_n 0, 1) := by decide +kernel
theorem dX2_busiest_25 : decode cX2_busiest 25 = .ok (.getfield 9, 3) := by decide +kernel
theorem dX2_busiest_28 : decode cX2_busiest 28 = .ok (.iload 4, 2) := by decide +kernel
theorem dX2_busiest_30 : decode cX2_busiest 30 = .ok (.iaload, 1) := by decide +kernel
theorem dX2_busiest_31 : decode cX2_busiest 31 = .ok (.iload_n 1, 1) := by decide +kernel
theorem dX2_busiest_32 : decode cX2_busiest 32 = .ok (.iand, 1) := by decide +kernel
theorem dX2_busiest_33 : decode cX2_busiest 33 = .ok (.invokestatic 74, 3) := by decide +kernel
theorem dX2_busiest_36 : decode cX2_busiest 36 = .ok (.goto 4, 3) := by decide +kernel
theorem dX2_busiest_39 : decode cX2_busiest 39 = .ok (.iconst 0, 1) := by decide +kernel
theorem dX2_busiest_40 : decode cX2_busiest 40 = .ok (.istore 5, 2) := by decide +kernel
theorem dX2_busiest_42 : decode cX2_busiest 42 = .ok (.iload 5, 2) := by decide +kernel
theorem dX2_busiest_44 : decode cX2_busiest 44 = .ok (.iload_n 3, 1) := by decide +kernel
theorem dX2_busiest_45 : decode cX2_busiest 45 = .ok (.if_icmp .le 9, 3) := by decide +kernel
theorem dX2_busiest_48 : decode cX2_busiest 48 = .ok (.iload 4, 2) := by decide +kernel
theorem dX2_busiest_50 : decode cX2_busiest 50 = .ok (.istore_n 2, 1) := by decide +kernel
theorem dX2_busiest_51 : decode cX2_busiest 51 = .ok (.iload 5, 2) := by decide +kernel
theorem dX2_busiest_53 : decode cX2_busiest 53 = .ok (.istore_n 3, 1) := by decide +kernel
theorem dX2_busiest_54 : decode cX2_busiest 54 = .ok (.iinc 4 1, 3) := by decide +kernel
theorem dX2_busiest_57 : decode cX2_busiest 57 = .ok (.goto (-50), 3) := by decide +kernel
theorem dX2_busiest_60 : decode cX2_busiest 60 = .ok (.iload_n 2, 1) := by decide +kernel
theorem dX2_busiest_61 : decode cX2_busiest 61 = .ok (.ireturn, 1) := by decide +kernel
theorem dX2_greatestWorth_0 : decode cX2_greatestWorth 0 = .ok (.iconst 0, 1) := by decide +kernel
theorem dX2_greatestWorth_1 : decode cX2_greatestWorth 1 = .ok (.istore_n 2, 1) := by decide +kernel
theorem dX2_greatestWorth_2 : decode cX2_greatestWorth 2 = .ok (.iconst 0, 1) := by decide +kernel
theorem dX2_greatestWorth_3 : decode cX2_greatestWorth 3 = .ok (.istore_n 3, 1) := by decide +kernel
theorem dX2_greatestWorth_4 : decode cX2_greatestWorth 4 = .ok (.iload_n 3, 1) := by decide +kernel
theorem dX2_greatestWorth_5 : decode cX2_greatestWorth 5 = .ok (.bipush 24, 2) := by decide +kernel
theorem dX2_greatestWorth_7 : decode cX2_greatestWorth 7 = .ok (.if_icmp .ge 29, 3) := by decide +kernel
theorem dX2_greatestWorth_10 : decode cX2_greatestWorth 10 = .ok (.iload_n 1, 1) := by decide +kernel
theorem dX2_greatestWorth_11 : decode cX2_greatestWorth 11 = .ok (.iload_n 3, 1) := by decide +kernel
theorem dX2_greatestWorth_12 : decode cX2_greatestWorth 12 = .ok (.ishr, 1) := by decide +kernel
theorem dX2_greatestWorth_13 : decode cX2_greatestWorth 13 = .ok (.iconst 1, 1) := by decide +kernel
theorem dX2_greatestWorth_14 : decode cX2_greatestWorth 14 = .ok (.iand, 1) := by decide +kernel
theorem dX2_greatestWorth_15 : decode cX2_greatestWorth 15 = .ok (.iconst 1, 1) := by decide +kernel
theorem dX2_greatestWorth_16 : decode cX2_greatestWorth 16 = .ok (.if_icmp .ne 14, 3) := by decide +kernel
theorem dX2_greatestWorth_19 : decode cX2_greatestWorth 19 = .ok (.iload_n 2, 1) := by decide +kernel
theorem dX2_greatestWorth_20 : decode cX2_greatestWorth 20 = .ok (.aload_n 0, 1) := by decide +kernel
theorem dX2_greatestWorth_21 : decode cX2_greatestWorth 21 = .ok (.getfield 36, 3) := by decide +kernel
theorem dX2_greatestWorth_24 : decode cX2_greatestWorth 24 = .ok (.iload_n 3, 1) := by decide +kernel
theorem dX2_greatestWorth_25 : decode cX2_greatestWorth 25 = .ok (.iaload, 1) := by decide +kernel
theorem dX2_greatestWorth_26 : decode cX2_greatestWorth 26 = .ok (.invokestatic 79, 3) := by decide +kernel
theorem dX2_greatestWorth_29 : decode cX2_greatestWorth 29 = .ok (.istore_n 2, 1) := by decide +kernel
theorem dX2_greatestWorth_30 : decode cX2_greatestWorth 30 = .ok (.iinc 3 1, 3) := by decide +kernel
theorem dX2_greatestWorth_33 : decode cX2_greatestWorth 33 = .ok (.goto (-29), 3) := by decide +kernel
theorem dX2_greatestWorth_36 : decode cX2_greatestWorth 36 = .ok (.iload_n 2, 1) := by decide +kernel
theorem dX2_greatestWorth_37 : decode cX2_greatestWorth 37 = .ok (.ireturn, 1) := by decide +kernel
theorem dX2_allWorth_0 : decode cX2_allWorth 0 = .ok (.iconst 0, 1) := by decide +kernel
theorem dX2_allWorth_1 : decode cX2_allWorth 1 = .ok (.istore_n 2, 1) := by decide +kernel
theorem dX2_allWorth_2 : decode cX2_allWorth 2 = .ok (.iconst 0, 1) := by decide +kernel
theorem dX2_allWorth_3 : decode cX2_allWorth 3 = .ok (.istore_n 3, 1) := by decide +kernel
theorem dX2_allWorth_4 : decode cX2_allWorth 4 = .ok (.iload_n 3, 1) := by decide +kernel
theorem dX2_allWorth_5 : decode cX2_allWorth 5 = .ok (.bipush 24, 2) := by decide +kernel
theorem dX2_allWorth_7 : decode cX2_allWorth 7 = .ok (.if_icmp .ge 27, 3) := by decide +kernel
theorem dX2_allWorth_10 : decode cX2_allWorth 10 = .ok (.iload_n 1, 1) := by decide +kernel
theorem dX2_allWorth_11 : decode cX2_allWorth 11 = .ok (.iload_n 3, 1) := by decide +kernel
theorem dX2_allWorth_12 : decode cX2_allWorth 12 = .ok (.ishr, 1) := by decide +kernel
theorem dX2_allWorth_13 : decode cX2_allWorth 13 = .ok (.iconst 1, 1) := by decide +kernel
theorem dX2_allWorth_14 : decode cX2_allWorth 14 = .ok (.iand, 1) := by decide +kernel
theorem dX2_allWorth_15 : decode cX2_allWorth 15 = .ok (.iconst 1, 1) := by decide +kernel
theorem dX2_allWorth_16 : decode cX2_allWorth 16 = .ok (.if_icmp .ne 12, 3) := by decide +kernel
theorem dX2_allWorth_19 : decode cX2_allWorth 19 = .ok (.iload_n 2, 1) := by decide +kernel
theorem dX2_allWorth_20 : decode cX2_allWorth 20 = .ok (.aload_n 0, 1) := by decide +kernel
theorem dX2_allWorth_21 : decode cX2_allWorth 21 = .ok (.getfield 36, 3) := by decide +kernel
theorem dX2_allWorth_24 : decode cX2_allWorth 24 = .ok (.iload_n 3, 1) := by decide +kernel
theorem dX2_allWorth_25 : decode cX2_allWorth 25 = .ok (.iaload, 1) := by decide +kernel
theorem dX2_allWorth_26 : decode cX2_allWorth 26 = .ok (.iadd, 1) := by decide +kernel
theorem dX2_allWorth_27 : decode cX2_allWorth 27 = .ok (.istore_n 2, 1) := by decide +kernel
theorem dX2_allWorth_28 : decode cX2_allWorth 28 = .ok (.iinc 3 1, 3) := by decide +kernel
theorem dX2_allWorth_31 : decode cX2_allWorth 31 = .ok (.goto (-27), 3) := by decide +kernel
theorem dX2_allWorth_34 : decode cX2_allWorth 34 = .ok (.iload_n 2, 1) := by decide +kernel
theorem dX2_allWorth_35 : decode cX2_allWorth 35 = .ok (.ireturn, 1) := by decide +kernel
theorem dX3_init_0 : decode cX3_init 0 = .ok (.aload_n 0, 1) := by decide +kernel
theorem dX3_init_1 : decode cX3_init 1 = .ok (.invokespecial 3, 3) := by decide +kernel
theorem dX3_init_4 : decode cX3_init 4 = .ok (.aload_n 0, 1) := by decide +kernel
theorem dX3_init_5 : decode cX3_init 5 = .ok (.bipush 60, 2) := by decide +kernel
theorem dX3_init_7 : decode cX3_init 7 = .ok (.newarray .int, 2) := by decide +kernel
theorem dX3_init_9 : decode cX3_init 9 = .ok (.putfield 9, 3) := by decide +kernel
theorem dX3_init_12 : decode cX3_init 12 = .ok (.aload_n 0, 1) := by decide +kernel
theorem dX3_init_13 : decode cX3_init 13 = .ok (.bipush 60, 2) := by decide +kernel
theorem dX3_init_15 : decode cX3_init 15 = .ok (.newarray .int, 2) := by decide +kernel
theorem dX3_init_17 : decode cX3_init 17 = .ok (.putfield 15, 3) := by decide +kernel
theorem dX3_init_20 : decode cX3_init 20 = .ok (.aload_n 0, 1) := by decide +kernel
theorem dX3_init_21 : decode cX3_init 21 = .ok (.bipush 60, 2) := by decide +kernel
theorem dX3_init_23 : decode cX3_init 23 = .ok (.newarray .int, 2) := by decide +kernel
theorem dX3_init_25 : decode cX3_init 25 = .ok (.putfield 18, 3) := by decide +kernel
theorem dX3_init_28 : decode cX3_init 28 = .ok (.aload_n 0, 1) := by decide +kernel
theorem dX3_init_29 : decode cX3_init 29 = .ok (.bipush 60, 2) := by decide +kernel
theorem dX3_init_31 : decode cX3_init 31 = .ok (.newarray .int, 2) := by decide +kernel
theorem dX3_init_33 : decode cX3_init 33 = .ok (.putfield 21, 3) := by decide +kernel
theorem dX3_init_36 : decode cX3_init 36 = .ok (.aload_n 0, 1) := by decide +kernel
theorem dX3_init_37 : decode cX3_init 37 = .ok (.bipush 60, 2) := by decide +kernel
theorem dX3_init_39 : decode cX3_init 39 = .ok (.newarray .int, 2) := by decide +kernel
theorem dX3_init_41 : decode cX3_init 41 = .ok (.putfield 24, 3) := by decide +kernel
theorem dX3_init_44 : decode cX3_init 44 = .ok (.aload_n 0, 1) := by decide +kernel
theorem dX3_init_45 : decode cX3_init 45 = .ok (.bipush 60, 2) := by decide +kernel
theorem dX3_init_47 : decode cX3_init 47 = .ok (.newarray .int, 2) := by decide +kernel
theorem dX3_init_49 : decode cX3_init 49 = .ok (.putfield 27, 3) := by decide +kernel
theorem dX3_init_52 : decode cX3_init 52 = .ok (.return_, 1) := by decide +kernel
theorem dX3_append_0 : decode cX3_append 0 = .ok (.aload_n 0, 1) := by decide +kernel
theorem dX3_append_1 : decode cX3_append 1 = .ok (.getfield 9, 3) := by decide +kernel
theorem dX3_append_4 : decode cX3_append 4 = .ok (.aload_n 0, 1) := by decide +kernel
theorem dX3_append_5 : decode cX3_append 5 = .ok (.getfield 30, 3) := by decide +kernel
theorem dX3_append_8 : decode cX3_append 8 = .ok (.iload_n 1, 1) := by decide +kernel
theorem dX3_append_9 : decode cX3_append 9 = .ok (.iastore, 1) := by decide +kernel
theorem dX3_append_10 : decode cX3_append 10 = .ok (.aload_n 0, 1) := by decide +kernel
theorem dX3_append_11 : decode cX3_append 11 = .ok (.getfield 15, 3) := by decide +kernel
theorem dX3_append_14 : decode cX3_append 14 = .ok (.aload_n 0, 1) := by decide +kernel
theorem dX3_append_15 : decode cX3_append 15 = .ok (.getfield 30, 3) := by decide +kernel
theorem dX3_append_18 : decode cX3_append 18 = .ok (.iload_n 2, 1) := by decide +kernel
theorem dX3_append_19 : decode cX3_append 19 = .ok (.iastore, 1) := by decide +kernel
theorem dX3_append_20 : decode cX3_append 20 = .ok (.aload_n 0, 1) := by decide +kernel
theorem dX3_append_21 : decode cX3_append 21 = .ok (.getfield 18, 3) := by decide +kernel
theorem dX3_append_24 : decode cX3_append 24 = .ok (.aload_n 0, 1) := by decide +kernel
theorem dX3_append_25 : decode cX3_append 25 = .ok (.getfield 30, 3) := by decide +kernel
theorem dX3_append_28 : decode cX3_append 28 = .ok (.iload_n 3, 1) := by decide +kernel
theorem dX3_append_29 : decode cX3_append 29 = .ok (.iastore, 1) := by decide +kernel
theorem dX3_append_30 : decode cX3_append 30 = .ok (.aload_n 0, 1) := by decide +kernel
theorem dX3_append_31 : decode cX3_append 31 = .ok (.getfield 21, 3) := by decide +kernel
theorem dX3_append_34 : decode cX3_append 34 = .ok (.aload_n 0, 1) := by decide +kernel
theorem dX3_append_35 : decode cX3_append 35 = .ok (.getfield 30, 3) := by decide +kernel
theorem dX3_append_38 : decode cX3_append 38 = .ok (.iload 4, 2) := by decide +kernel
theorem dX3_append_40 : decode cX3_append 40 = .ok (.iastore, 1) := by decide +kernel
theorem dX3_append_41 : decode cX3_append 41 = .ok (.aload_n 0, 1) := by decide +kernel
theorem dX3_append_42 : decode cX3_append 42 = .ok (.getfield 24, 3) := by decide +kernel
theorem dX3_append_45 : decode cX3_append 45 = .ok (.aload_n 0, 1) := by decide +kernel
theorem dX3_append_46 : decode cX3_append 46 = .ok (.getfield 30, 3) := by decide +kernel
theorem dX3_append_49 : decode cX3_append 49 = .ok (.iload 5, 2) := by decide +kernel
theorem dX3_append_51 : decode cX3_append 51 = .ok (.iastore, 1) := by decide +kernel
theorem dX3_append_52 : decode cX3_append 52 = .ok (.aload_n 0, 1) := by decide +kernel
theorem dX3_append_53 : decode cX3_append 53 = .ok (.getfield 27, 3) := by decide +kernel
theorem dX3_append_56 : decode cX3_append 56 = .ok (.aload_n 0, 1) := by decide +kernel
theorem dX3_append_57 : decode cX3_append 57 = .ok (.getfield 30, 3) := by decide +kernel
theorem dX3_append_60 : decode cX3_append 60 = .ok (.iload 6, 2) := by decide +kernel
theorem dX3_append_62 : decode cX3_append 62 = .ok (.iastore, 1) := by decide +kernel
theorem dX3_append_63 : decode cX3_append 63 = .ok (.aload_n 0, 1) := by decide +kernel
theorem dX3_append_64 : decode cX3_append 64 = .ok (.dup, 1) := by decide +kernel
theorem dX3_append_65 : decode cX3_append 65 = .ok (.getfield 30, 3) := by decide +kernel
theorem dX3_append_68 : decode cX3_append 68 = .ok (.iconst 1, 1) := by decide +kernel
theorem dX3_append_69 : decode cX3_append 69 = .ok (.iadd, 1) := by decide +kernel
theorem dX3_append_70 : decode cX3_append 70 = .ok (.putfield 30, 3) := by decide +kernel
theorem dX3_append_73 : decode cX3_append 73 = .ok (.return_, 1) := by decide +kernel
theorem dX3_copyFrom_0 : decode cX3_copyFrom 0 = .ok (.aload_n 0, 1) := by decide +kernel
theorem dX3_copyFrom_1 : decode cX3_copyFrom 1 = .ok (.aload_n 1, 1) := by decide +kernel
theorem dX3_copyFrom_2 : decode cX3_copyFrom 2 = .ok (.getfield 30, 3) := by decide +kernel
theorem dX3_copyFrom_5 : decode cX3_copyFrom 5 = .ok (.putfield 30, 3) := by decide +kernel
theorem dX3_copyFrom_8 : decode cX3_copyFrom 8 = .ok (.aload_n 1, 1) := by decide +kernel
theorem dX3_copyFrom_9 : decode cX3_copyFrom 9 = .ok (.getfield 9, 3) := by decide +kernel
theorem dX3_copyFrom_12 : decode cX3_copyFrom 12 = .ok (.iconst 0, 1) := by decide +kernel
theorem dX3_copyFrom_13 : decode cX3_copyFrom 13 = .ok (.aload_n 0, 1) := by decide +kernel
theorem dX3_copyFrom_14 : decode cX3_copyFrom 14 = .ok (.getfield 9, 3) := by decide +kernel
theorem dX3_copyFrom_17 : decode cX3_copyFrom 17 = .ok (.iconst 0, 1) := by decide +kernel
theorem dX3_copyFrom_18 : decode cX3_copyFrom 18 = .ok (.bipush 60, 2) := by decide +kernel
theorem dX3_copyFrom_20 : decode cX3_copyFrom 20 = .ok (.invokestatic 34, 3) := by decide +kernel
theorem dX3_copyFrom_23 : decode cX3_copyFrom 23 = .ok (.aload_n 1, 1) := by decide +kernel
theorem dX3_copyFrom_24 : decode cX3_copyFrom 24 = .ok (.getfield 15, 3) := by decide +kernel
theorem dX3_copyFrom_27 : decode cX3_copyFrom 27 = .ok (.iconst 0, 1) := by decide +kernel
theorem dX3_copyFrom_28 : decode cX3_copyFrom 28 = .ok (.aload_n 0, 1) := by decide +kernel
theorem dX3_copyFrom_29 : decode cX3_copyFrom 29 = .ok (.getfield 15, 3) := by decide +kernel
theorem dX3_copyFrom_32 : decode cX3_copyFrom 32 = .ok (.iconst 0, 1) := by decide +kernel
theorem dX3_copyFrom_33 : decode cX3_copyFrom 33 = .ok (.bipush 60, 2) := by decide +kernel
theorem dX3_copyFrom_35 : decode cX3_copyFrom 35 = .ok (.invokestatic 34, 3) := by decide +kernel
theorem dX3_copyFrom_38 : decode cX3_copyFrom 38 = .ok (.aload_n 1, 1) := by decide +kernel
theorem dX3_copyFrom_39 : decode cX3_copyFrom 39 = .ok (.getfield 18, 3) := by decide +kernel
theorem dX3_copyFrom_42 : decode cX3_copyFrom 42 = .ok (.iconst 0, 1) := by decide +kernel
theorem dX3_copyFrom_43 : decode cX3_copyFrom 43 = .ok (.aload_n 0, 1) := by decide +kernel
theorem dX3_copyFrom_44 : decode cX3_copyFrom 44 = .ok (.getfield 18, 3) := by decide +kernel
theorem dX3_copyFrom_47 : decode cX3_copyFrom 47 = .ok (.iconst 0, 1) := by decide +kernel
theorem dX3_copyFrom_48 : decode cX3_copyFrom 48 = .ok (.bipush 60, 2) := by decide +kernel
theorem dX3_copyFrom_50 : decode cX3_copyFrom 50 = .ok (.invokestatic 34, 3) := by decide +kernel
theorem dX3_copyFrom_53 : decode cX3_copyFrom 53 = .ok (.aload_n 1, 1) := by decide +kernel
theorem dX3_copyFrom_54 : decode cX3_copyFrom 54 = .ok (.getfield 21, 3) := by decide +kernel
theorem dX3_copyFrom_57 : decode cX3_copyFrom 57 = .ok (.iconst 0, 1) := by decide +kernel
theorem dX3_copyFrom_58 : decode cX3_copyFrom 58 = .ok (.aload_n 0, 1) := by decide +kernel
theorem dX3_copyFrom_59 : decode cX3_copyFrom 59 = .ok (.getfield 21, 3) := by decide +kernel
theorem dX3_copyFrom_62 : decode cX3_copyFrom 62 = .ok (.iconst 0, 1) := by decide +kernel
theorem dX3_copyFrom_63 : decode cX3_copyFrom 63 = .ok (.bipush 60, 2) := by decide +kernel
theorem dX3_copyFrom_65 : decode cX3_copyFrom 65 = .ok (.invokestatic 34, 3) := by decide +kernel
theorem dX3_copyFrom_68 : decode cX3_copyFrom 68 = .ok (.aload_n 1, 1) := by decide +kernel
theorem dX3_copyFrom_69 : decode cX3_copyFrom 69 = .ok (.getfield 24, 3) := by decide +kernel
theorem dX3_copyFrom_72 : decode cX3_copyFrom 72 = .ok (.iconst 0, 1) := by decide +kernel
theorem dX3_copyFrom_73 : decode cX3_copyFrom 73 = .ok (.aload_n 0, 1) := by decide +kernel
theorem dX3_copyFrom_74 : decode cX3_copyFrom 74 = .ok (.getfield 24, 3) := by decide +kernel
theorem dX3_copyFrom_77 : decode cX3_copyFrom 77 = .ok (.iconst 0, 1) := by decide +kernel
theorem dX3_copyFrom_78 : decode cX3_copyFrom 78 = .ok (.bipush 60, 2) := by decide +kernel
theorem dX3_copyFrom_80 : decode cX3_copyFrom 80 = .ok (.invokestatic 34, 3) := by decide +kernel
theorem dX3_copyFrom_83 : decode cX3_copyFrom 83 = .ok (.aload_n 1, 1) := by decide +kernel
theorem dX3_copyFrom_84 : decode cX3_copyFrom 84 = .ok (.getfield 27, 3) := by decide +kernel
theorem dX3_copyFrom_87 : decode cX3_copyFrom 87 = .ok (.iconst 0, 1) := by decide +kernel
theorem dX3_copyFrom_88 : decode cX3_copyFrom 88 = .ok (.aload_n 0, 1) := by decide +kernel
theorem dX3_copyFrom_89 : decode cX3_copyFrom 89 = .ok (.getfield 27, 3) := by decide +kernel
theorem dX3_copyFrom_92 : decode cX3_copyFrom 92 = .ok (.iconst 0, 1) := by decide +kernel
theorem dX3_copyFrom_93 : decode cX3_copyFrom 93 = .ok (.bipush 60, 2) := by decide +kernel
theorem dX3_copyFrom_95 : decode cX3_copyFrom 95 = .ok (.invokestatic 34, 3) := by decide +kernel
theorem dX3_copyFrom_98 : decode cX3_copyFrom 98 = .ok (.return_, 1) := by decide +kernel
theorem dX4_init_0 : decode cX4_init 0 = .ok (.aload_n 0, 1) := by decide +kernel
theorem dX4_init_1 : decode cX4_init 1 = .ok (.invokespecial 3, 3) := by decide +kernel
theorem dX4_init_4 : decode cX4_init 4 = .ok (.aload_n 0, 1) := by decide +kernel
theorem dX4_init_5 : decode cX4_init 5 = .ok (.bipush 24, 2) := by decide +kernel
theorem dX4_init_7 : decode cX4_init 7 = .ok (.newarray .int, 2) := by decide +kernel
theorem dX4_init_9 : decode cX4_init 9 = .ok (.putfield 9, 3) := by decide +kernel
theorem dX4_init_12 : decode cX4_init 12 = .ok (.aload_n 0, 1) := by decide +kernel
theorem dX4_init_13 : decode cX4_init 13 = .ok (.bipush 24, 2) := by decide +kernel
theorem dX4_init_15 : decode cX4_init 15 = .ok (.newarray .int, 2) := by decide +kernel
theorem dX4_init_17 : decode cX4_init 17 = .ok (.putfield 15, 3) := by decide +kernel
theorem dX4_init_20 : decode cX4_init 20 = .ok (.aload_n 0, 1) := by decide +kernel
theorem dX4_init_21 : decode cX4_init 21 = .ok (.bipush 24, 2) := by decide +kernel
theorem dX4_init_23 : decode cX4_init 23 = .ok (.newarray .int, 2) := by decide +kernel
theorem dX4_init_25 : decode cX4_init 25 = .ok (.putfield 18, 3) := by decide +kernel
theorem dX4_init_28 : decode cX4_init 28 = .ok (.aload_n 0, 1) := by decide +kernel
theorem dX4_init_29 : decode cX4_init 29 = .ok (.bipush 24, 2) := by decide +kernel
theorem dX4_init_31 : decode cX4_init 31 = .ok (.newarray .int, 2) := by decide +kernel
theorem dX4_init_33 : decode cX4_init 33 = .ok (.putfield 21, 3) := by decide +kernel
theorem dX4_init_36 : decode cX4_init 36 = .ok (.aload_n 0, 1) := by decide +kernel
theorem dX4_init_37 : decode cX4_init 37 = .ok (.bipush 24, 2) := by decide +kernel
theorem dX4_init_39 : decode cX4_init 39 = .ok (.newarray .int, 2) := by decide +kernel
theorem dX4_init_41 : decode cX4_init 41 = .ok (.putfield 24, 3) := by decide +kernel
theorem dX4_init_44 : decode cX4_init 44 = .ok (.aload_n 0, 1) := by decide +kernel
theorem dX4_init_45 : decode cX4_init 45 = .ok (.bipush 24, 2) := by decide +kernel
theorem dX4_init_47 : decode cX4_init 47 = .ok (.newarray .int, 2) := by decide +kernel
theorem dX4_init_49 : decode cX4_init 49 = .ok (.putfield 27, 3) := by decide +kernel
theorem dX4_init_52 : decode cX4_init 52 = .ok (.aload_n 0, 1) := by decide +kernel
theorem dX4_init_53 : decode cX4_init 53 = .ok (.bipush 24, 2) := by decide +kernel
theorem dX4_init_55 : decode cX4_init 55 = .ok (.newarray .boolean, 2) := by decide +kernel
theorem dX4_init_57 : decode cX4_init 57 = .ok (.putfield 30, 3) := by decide +kernel
theorem dX4_init_60 : decode cX4_init 60 = .ok (.aload_n 0, 1) := by decide +kernel
theorem dX4_init_61 : decode cX4_init 61 = .ok (.bipush 24, 2) := by decide +kernel
theorem dX4_init_63 : decode cX4_init 63 = .ok (.newarray .boolean, 2) := by decide +kernel
theorem dX4_init_65 : decode cX4_init 65 = .ok (.putfield 34, 3) := by decide +kernel
theorem dX4_init_68 : decode cX4_init 68 = .ok (.return_, 1) := by decide +kernel
theorem dX4_sum_0 : decode cX4_sum 0 = .ok (.lconst 0, 1) := by decide +kernel
theorem dX4_sum_1 : decode cX4_sum 1 = .ok (.lstore_n 1, 1) := by decide +kernel
theorem dX4_sum_2 : decode cX4_sum 2 = .ok (.iconst 0, 1) := by decide +kernel
theorem dX4_sum_3 : decode cX4_sum 3 = .ok (.istore_n 3, 1) := by decide +kernel
theorem dX4_sum_4 : decode cX4_sum 4 = .ok (.iload_n 3, 1) := by decide +kernel
theorem dX4_sum_5 : decode cX4_sum 5 = .ok (.aload_n 0, 1) := by decide +kernel
theorem dX4_sum_6 : decode cX4_sum 6 = .ok (.getfield 37, 3) := by decide +kernel
theorem dX4_sum_9 : decode cX4_sum 9 = .ok (.if_icmp .ge 19, 3) := by decide +kernel
theorem dX4_sum_12 : decode cX4_sum 12 = .ok (.lload_n 1, 1) := by decide +kernel
theorem dX4_sum_13 : decode cX4_sum 13 = .ok (.aload_n 0, 1) := by decide +kernel
theorem dX4_sum_14 : decode cX4_sum 14 = .ok (.getfield 18, 3) := by decide +kernel
theorem dX4_sum_17 : decode cX4_sum 17 = .ok (.iload_n 3, 1) := by decide +kernel
theorem dX4_sum_18 : decode cX4_sum 18 = .ok (.iaload, 1) := by decide +kernel
theorem dX4_sum_19 : decode cX4_sum 19 = .ok (.i2l, 1) := by decide +kernel
theorem dX4_sum_20 : decode cX4_sum 20 = .ok (.ladd, 1) := by decide +kernel
theorem dX4_sum_21 : decode cX4_sum 21 = .ok (.lstore_n 1, 1) := by decide +kernel
theorem dX4_sum_22 : decode cX4_sum 22 = .ok (.iinc 3 1, 3) := by decide +kernel
theorem dX4_sum_25 : decode cX4_sum 25 = .ok (.goto (-21), 3) := by decide +kernel
theorem dX4_sum_28 : decode cX4_sum 28 = .ok (.lload_n 1, 1) := by decide +kernel
theorem dX4_sum_29 : decode cX4_sum 29 = .ok (.lreturn, 1) := by decide +kernel
theorem dX4_placedSum_0 : decode cX4_placedSum 0 = .ok (.lconst 0, 1) := by decide +kernel
theorem dX4_placedSum_1 : decode cX4_placedSum 1 = .ok (.lstore_n 1, 1) := by decide +kernel
theorem dX4_placedSum_2 : decode cX4_placedSum 2 = .ok (.iconst 0, 1) := by decide +kernel
theorem dX4_placedSum_3 : decode cX4_placedSum 3 = .ok (.istore_n 3, 1) := by decide +kernel
theorem dX4_placedSum_4 : decode cX4_placedSum 4 = .ok (.iload_n 3, 1) := by decide +kernel
theorem dX4_placedSum_5 : decode cX4_placedSum 5 = .ok (.aload_n 0, 1) := by decide +kernel
theorem dX4_placedSum_6 : decode cX4_placedSum 6 = .ok (.getfield 37, 3) := by decide +kernel
theorem dX4_placedSum_9 : decode cX4_placedSum 9 = .ok (.if_icmp .ge 24, 3) := by decide +kernel
theorem dX4_placedSum_12 : decode cX4_placedSum 12 = .ok (.lload_n 1, 1) := by decide +kernel
theorem dX4_placedSum_13 : decode cX4_placedSum 13 = .ok (.aload_n 0, 1) := by decide +kernel
theorem dX4_placedSum_14 : decode cX4_placedSum 14 = .ok (.getfield 18, 3) := by decide +kernel
theorem dX4_placedSum_17 : decode cX4_placedSum 17 = .ok (.iload_n 3, 1) := by decide +kernel
theorem dX4_placedSum_18 : decode cX4_placedSum 18 = .ok (.iaload, 1) := by decide +kernel
theorem dX4_placedSum_19 : decode cX4_placedSum 19 = .ok (.i2l, 1) := by decide +kernel
theorem dX4_placedSum_20 : decode cX4_placedSum 20 = .ok (.iload_n 3, 1) := by decide +kernel
theorem dX4_placedSum_21 : decode cX4_placedSum 21 = .ok (.iconst 1, 1) := by decide +kernel
theorem dX4_placedSum_22 : decode cX4_placedSum 22 = .ok (.iadd, 1) := by decide +kernel
theorem dX4_placedSum_23 : decode cX4_placedSum 23 = .ok (.i2l, 1) := by decide +kernel
theorem dX4_placedSum_24 : decode cX4_placedSum 24 = .ok (.lmul, 1) := by decide +kernel
theorem dX4_placedSum_25 : decode cX4_placedSum 25 = .ok (.ladd, 1) := by decide +kernel
theorem dX4_placedSum_26 : decode cX4_placedSum 26 = .ok (.lstore_n 1, 1) := by decide +kernel
theorem dX4_placedSum_27 : decode cX4_placedSum 27 = .ok (.iinc 3 1, 3) := by decide +kernel
theorem dX4_placedSum_30 : decode cX4_placedSum 30 = .ok (.goto (-26), 3) := by decide +kernel
theorem dX4_placedSum_33 : decode cX4_placedSum 33 = .ok (.lload_n 1, 1) := by decide +kernel
theorem dX4_placedSum_34 : decode cX4_placedSum 34 = .ok (.lreturn, 1) := by decide +kernel
theorem dX4_copyFrom_0 : decode cX4_copyFrom 0 = .ok (.aload_n 0, 1) := by decide +kernel
theorem dX4_copyFrom_1 : decode cX4_copyFrom 1 = .ok (.aload_n 1, 1) := by decide +kernel
theorem dX4_copyFrom_2 : decode cX4_copyFrom 2 = .ok (.getfield 37, 3) := by decide +kernel
theorem dX4_copyFrom_5 : decode cX4_copyFrom 5 = .ok (.putfield 37, 3) := by decide +kernel
theorem dX4_copyFrom_8 : decode cX4_copyFrom 8 = .ok (.aload_n 1, 1) := by decide +kernel
theorem dX4_copyFrom_9 : decode cX4_copyFrom 9 = .ok (.getfield 9, 3) := by decide +kernel
theorem dX4_copyFrom_12 : decode cX4_copyFrom 12 = .ok (.iconst 0, 1) := by decide +kernel
theorem dX4_copyFrom_13 : decode cX4_copyFrom 13 = .ok (.aload_n 0, 1) := by decide +kernel
theorem dX4_copyFrom_14 : decode cX4_copyFrom 14 = .ok (.getfield 9, 3) := by decide +kernel
theorem dX4_copyFrom_17 : decode cX4_copyFrom 17 = .ok (.iconst 0, 1) := by decide +kernel
theorem dX4_copyFrom_18 : decode cX4_copyFrom 18 = .ok (.bipush 24, 2) := by decide +kernel
theorem dX4_copyFrom_20 : decode cX4_copyFrom 20 = .ok (.invokestatic 41, 3) := by decide +kernel
theorem dX4_copyFrom_23 : decode cX4_copyFrom 23 = .ok (.aload_n 1, 1) := by decide +kernel
theorem dX4_copyFrom_24 : decode cX4_copyFrom 24 = .ok (.getfield 15, 3) := by decide +kernel
theorem dX4_copyFrom_27 : decode cX4_copyFrom 27 = .ok (.iconst 0, 1) := by decide +kernel
theorem dX4_copyFrom_28 : decode cX4_copyFrom 28 = .ok (.aload_n 0, 1) := by decide +kernel
theorem dX4_copyFrom_29 : decode cX4_copyFrom 29 = .ok (.getfield 15, 3) := by decide +kernel
theorem dX4_copyFrom_32 : decode cX4_copyFrom 32 = .ok (.iconst 0, 1) := by decide +kernel
theorem dX4_copyFrom_33 : decode cX4_copyFrom 33 = .ok (.bipush 24, 2) := by decide +kernel
theorem dX4_copyFrom_35 : decode cX4_copyFrom 35 = .ok (.invokestatic 41, 3) := by decide +kernel
theorem dX4_copyFrom_38 : decode cX4_copyFrom 38 = .ok (.aload_n 1, 1) := by decide +kernel
theorem dX4_copyFrom_39 : decode cX4_copyFrom 39 = .ok (.getfield 18, 3) := by decide +kernel
theorem dX4_copyFrom_42 : decode cX4_copyFrom 42 = .ok (.iconst 0, 1) := by decide +kernel
theorem dX4_copyFrom_43 : decode cX4_copyFrom 43 = .ok (.aload_n 0, 1) := by decide +kernel
theorem dX4_copyFrom_44 : decode cX4_copyFrom 44 = .ok (.getfield 18, 3) := by decide +kernel
theorem dX4_copyFrom_47 : decode cX4_copyFrom 47 = .ok (.iconst 0, 1) := by decide +kernel
theorem dX4_copyFrom_48 : decode cX4_copyFrom 48 = .ok (.bipush 24, 2) := by decide +kernel
theorem dX4_copyFrom_50 : decode cX4_copyFrom 50 = .ok (.invokestatic 41, 3) := by decide +kernel
theorem dX4_copyFrom_53 : decode cX4_copyFrom 53 = .ok (.aload_n 1, 1) := by decide +kernel
theorem dX4_copyFrom_54 : decode cX4_copyFrom 54 = .ok (.getfield 21, 3) := by decide +kernel
theorem dX4_copyFrom_57 : decode cX4_copyFrom 57 = .ok (.iconst 0, 1) := by decide +kernel
theorem dX4_copyFrom_58 : decode cX4_copyFrom 58 = .ok (.aload_n 0, 1) := by decide +kernel
theorem dX4_copyFrom_59 : decode cX4_copyFrom 59 = .ok (.getfield 21, 3) := by decide +kernel
theorem dX4_copyFrom_62 : decode cX4_copyFrom 62 = .ok (.iconst 0, 1) := by decide +kernel
theorem dX4_copyFrom_63 : decode cX4_copyFrom 63 = .ok (.bipush 24, 2) := by decide +kernel
theorem dX4_copyFrom_65 : decode cX4_copyFrom 65 = .ok (.invokestatic 41, 3) := by decide +kernel
theorem dX4_copyFrom_68 : decode cX4_copyFrom 68 = .ok (.aload_n 1, 1) := by decide +kernel
theorem dX4_copyFrom_69 : decode cX4_copyFrom 69 = .ok (.getfield 24, 3) := by decide +kernel
theorem dX4_copyFrom_72 : decode cX4_copyFrom 72 = .ok (.iconst 0, 1) := by decide +kernel
theorem dX4_copyFrom_73 : decode cX4_copyFrom 73 = .ok (.aload_n 0, 1) := by decide +kernel
theorem dX4_copyFrom_74 : decode cX4_copyFrom 74 = .ok (.getfield 24, 3) := by decide +kernel
theorem dX4_copyFrom_77 : decode cX4_copyFrom 77 = .ok (.iconst 0, 1) := by decide +kernel
theorem dX4_copyFrom_78 : decode cX4_copyFrom 78 = .ok (.bipush 24, 2) := by decide +kernel
theorem dX4_copyFrom_80 : decode cX4_copyFrom 80 = .ok (.invokestatic 41, 3) := by decide +kernel
theorem dX4_copyFrom_83 : decode cX4_copyFrom 83 = .ok (.aload_n 1, 1) := by decide +kernel
theorem dX4_copyFrom_84 : decode cX4_copyFrom 84 = .ok (.getfield 27, 3) := by decide +kernel
theorem dX4_copyFrom_87 : decode cX4_copyFrom 87 = .ok (.iconst 0, 1) := by decide +kernel
theorem dX4_copyFrom_88 : decode cX4_copyFrom 88 = .ok (.aload_n 0, 1) := by decide +kernel
theorem dX4_copyFrom_89 : decode cX4_copyFrom 89 = .ok (.getfield 27, 3) := by decide +kernel
theorem dX4_copyFrom_92 : decode cX4_copyFrom 92 = .ok (.iconst 0, 1) := by decide +kernel
theorem dX4_copyFrom_93 : decode cX4_copyFrom 93 = .ok (.bipush 24, 2) := by decide +kernel
theorem dX4_copyFrom_95 : decode cX4_copyFrom 95 = .ok (.invokestatic 41, 3) := by decide +kernel
theorem dX4_copyFrom_98 : decode cX4_copyFrom 98 = .ok (.iconst 0, 1) := by decide +kernel
theorem dX4_copyFrom_99 : decode cX4_copyFrom 99 = .ok (.istore_n 2, 1) := by decide +kernel
theorem dX4_copyFrom_100 : decode cX4_copyFrom 100 = .ok (.iload_n 2, 1) := by decide +kernel
theorem dX4_copyFrom_101 : decode cX4_copyFrom 101 = .ok (.bipush 24, 2) := by decide +kernel
theorem dX4_copyFrom_103 : decode cX4_copyFrom 103 = .ok (.if_icmp .ge 33, 3) := by decide +kernel
theorem dX4_copyFrom_106 : decode cX4_copyFrom 106 = .ok (.aload_n 0, 1) := by decide +kernel
theorem dX4_copyFrom_107 : decode cX4_copyFrom 107 = .ok (.getfield 30, 3) := by decide +kernel
theorem dX4_copyFrom_110 : decode cX4_copyFrom 110 = .ok (.iload_n 2, 1) := by decide +kernel
theorem dX4_copyFrom_111 : decode cX4_copyFrom 111 = .ok (.aload_n 1, 1) := by decide +kernel
theorem dX4_copyFrom_112 : decode cX4_copyFrom 112 = .ok (.getfield 30, 3) := by decide +kernel
theorem dX4_copyFrom_115 : decode cX4_copyFrom 115 = .ok (.iload_n 2, 1) := by decide +kernel
theorem dX4_copyFrom_116 : decode cX4_copyFrom 116 = .ok (.baload, 1) := by decide +kernel
theorem dX4_copyFrom_117 : decode cX4_copyFrom 117 = .ok (.bastore, 1) := by decide +kernel
theorem dX4_copyFrom_118 : decode cX4_copyFrom 118 = .ok (.aload_n 0, 1) := by decide +kernel
theorem dX4_copyFrom_119 : decode cX4_copyFrom 119 = .ok (.getfield 34, 3) := by decide +kernel
theorem dX4_copyFrom_122 : decode cX4_copyFrom 122 = .ok (.iload_n 2, 1) := by decide +kernel
theorem dX4_copyFrom_123 : decode cX4_copyFrom 123 = .ok (.aload_n 1, 1) := by decide +kernel
theorem dX4_copyFrom_124 : decode cX4_copyFrom 124 = .ok (.getfield 34, 3) := by decide +kernel
theorem dX4_copyFrom_127 : decode cX4_copyFrom 127 = .ok (.iload_n 2, 1) := by decide +kernel
theorem dX4_copyFrom_128 : decode cX4_copyFrom 128 = .ok (.baload, 1) := by decide +kernel
theorem dX4_copyFrom_129 : decode cX4_copyFrom 129 = .ok (.bastore, 1) := by decide +kernel
theorem dX4_copyFrom_130 : decode cX4_copyFrom 130 = .ok (.iinc 2 1, 3) := by decide +kernel
theorem dX4_copyFrom_133 : decode cX4_copyFrom 133 = .ok (.goto (-33), 3) := by decide +kernel
theorem dX4_copyFrom_136 : decode cX4_copyFrom 136 = .ok (.return_, 1) := by decide +kernel
theorem dX5_init_0 : decode cX5_init 0 = .ok (.aload_n 0, 1) := by decide +kernel
theorem dX5_init_1 : decode cX5_init 1 = .ok (.invokespecial 3, 3) := by decide +kernel
theorem dX5_init_4 : decode cX5_init 4 = .ok (.aload_n 0, 1) := by decide +kernel
theorem dX5_init_5 : decode cX5_init 5 = .ok (.new 9, 3) := by decide +kernel
theorem dX5_init_8 : decode cX5_init 8 = .ok (.dup, 1) := by decide +kernel
theorem dX5_init_9 : decode cX5_init 9 = .ok (.invokespecial 11, 3) := by decide +kernel
theorem dX5_init_12 : decode cX5_init 12 = .ok (.putfield 12, 3) := by decide +kernel
theorem dX5_init_15 : decode cX5_init 15 = .ok (.aload_n 0, 1) := by decide +kernel
theorem dX5_init_16 : decode cX5_init 16 = .ok (.bipush 120, 2) := by decide +kernel
theorem dX5_init_18 : decode cX5_init 18 = .ok (.newarray .int, 2) := by decide +kernel
theorem dX5_init_20 : decode cX5_init 20 = .ok (.putfield 18, 3) := by decide +kernel
theorem dX5_init_23 : decode cX5_init 23 = .ok (.aload_n 0, 1) := by decide +kernel
theorem dX5_init_24 : decode cX5_init 24 = .ok (.bipush 120, 2) := by decide +kernel
theorem dX5_init_26 : decode cX5_init 26 = .ok (.newarray .int, 2) := by decide +kernel
theorem dX5_init_28 : decode cX5_init 28 = .ok (.putfield 22, 3) := by decide +kernel
theorem dX5_init_31 : decode cX5_init 31 = .ok (.aload_n 0, 1) := by decide +kernel
theorem dX5_init_32 : decode cX5_init 32 = .ok (.bipush 120, 2) := by decide +kernel
theorem dX5_init_34 : decode cX5_init 34 = .ok (.newarray .int, 2) := by decide +kernel
theorem dX5_init_36 : decode cX5_init 36 = .ok (.putfield 25, 3) := by decide +kernel
theorem dX5_init_39 : decode cX5_init 39 = .ok (.aload_n 0, 1) := by decide +kernel
theorem dX5_init_40 : decode cX5_init 40 = .ok (.bipush 120, 2) := by decide +kernel
theorem dX5_init_42 : decode cX5_init 42 = .ok (.newarray .int, 2) := by decide +kernel
theorem dX5_init_44 : decode cX5_init 44 = .ok (.putfield 28, 3) := by decide +kernel
theorem dX5_init_47 : decode cX5_init 47 = .ok (.aload_n 0, 1) := by decide +kernel
theorem dX5_init_48 : decode cX5_init 48 = .ok (.bipush 120, 2) := by decide +kernel
theorem dX5_init_50 : decode cX5_init 50 = .ok (.newarray .int, 2) := by decide +kernel
theorem dX5_init_52 : decode cX5_init 52 = .ok (.putfield 31, 3) := by decide +kernel
theorem dX5_init_55 : decode cX5_init 55 = .ok (.aload_n 0, 1) := by decide +kernel
theorem dX5_init_56 : decode cX5_init 56 = .ok (.iconst 2, 1) := by decide +kernel
theorem dX5_init_57 : decode cX5_init 57 = .ok (.newarray .int, 2) := by decide +kernel
theorem dX5_init_59 : decode cX5_init 59 = .ok (.putfield 34, 3) := by decide +kernel
theorem dX5_init_62 : decode cX5_init 62 = .ok (.aload_n 0, 1) := by decide +kernel
theorem dX5_init_63 : decode cX5_init 63 = .ok (.aload_n 1, 1) := by decide +kernel
theorem dX5_init_64 : decode cX5_init 64 = .ok (.putfield 37, 3) := by decide +kernel
theorem dX5_init_67 : decode cX5_init 67 = .ok (.return_, 1) := by decide +kernel
theorem dX5_leastMiss_0 : decode cX5_leastMiss 0 = .ok (.aload_n 0, 1) := by decide +kernel
theorem dX5_leastMiss_1 : decode cX5_leastMiss 1 = .ok (.iload_n 1, 1) := by decide +kernel
theorem dX5_leastMiss_2 : decode cX5_leastMiss 2 = .ok (.invokevirtual 41, 3) := by decide +kernel
theorem dX5_leastMiss_5 : decode cX5_leastMiss 5 = .ok (.aload_n 0, 1) := by decide +kernel
theorem dX5_leastMiss_6 : decode cX5_leastMiss 6 = .ok (.invokevirtual 45, 3) := by decide +kernel
theorem dX5_leastMiss_9 : decode cX5_leastMiss 9 = .ok (.istore_n 2, 1) := by decide +kernel
theorem dX5_leastMiss_10 : decode cX5_leastMiss 10 = .ok (.iload_n 2, 1) := by decide +kernel
theorem dX5_leastMiss_11 : decode cX5_leastMiss 11 = .ok (.ldc 49, 2) := by decide +kernel
theorem dX5_leastMiss_13 : decode cX5_leastMiss 13 = .ok (.if_icmp .lt 5, 3) := by decide +kernel
theorem dX5_leastMiss_16 : decode cX5_leastMiss 16 = .ok (.iconst (-1), 1) := by decide +kernel
theorem dX5_leastMiss_17 : decode cX5_leastMiss 17 = .ok (.ireturn, 1) := by decide +kernel
theorem dX5_leastMiss_18 : decode cX5_leastMiss 18 = .ok (.aload_n 0, 1) := by decide +kernel
theorem dX5_leastMiss_19 : decode cX5_leastMiss 19 = .ok (.invokevirtual 50, 3) := by decide +kernel
theorem dX5_leastMiss_22 : decode cX5_leastMiss 22 = .ok (.aload_n 0, 1) := by decide +kernel
theorem dX5_leastMiss_23 : decode cX5_leastMiss 23 = .ok (.iconst 1, 1) := by decide +kernel
theorem dX5_leastMiss_24 : decode cX5_leastMiss 24 = .ok (.putfield 53, 3) := by decide +kernel
theorem dX5_leastMiss_27 : decode cX5_leastMiss 27 = .ok (.iload_n 2, 1) := by decide +kernel
theorem dX5_leastMiss_28 : decode cX5_leastMiss 28 = .ok (.ireturn, 1) := by decide +kernel
theorem dX5_sortByDay_0 : decode cX5_sortByDay 0 = .ok (.iconst 0, 1) := by decide +kernel
theorem dX5_sortByDay_1 : decode cX5_sortByDay 1 = .ok (.istore_n 2, 1) := by decide +kernel
theorem dX5_sortByDay_2 : decode cX5_sortByDay 2 = .ok (.iload_n 2, 1) := by decide +kernel
theorem dX5_sortByDay_3 : decode cX5_sortByDay 3 = .ok (.bipush 120, 2) := by decide +kernel
theorem dX5_sortByDay_5 : decode cX5_sortByDay 5 = .ok (.if_icmp .ge 16, 3) := by decide +kernel
theorem dX5_sortByDay_8 : decode cX5_sortByDay 8 = .ok (.aload_n 0, 1) := by decide +kernel
theorem dX5_sortByDay_9 : decode cX5_sortByDay 9 = .ok (.getfield 18, 3) := by decide +kernel
theorem dX5_sortByDay_12 : decode cX5_sortByDay 12 = .ok (.iload_n 2, 1) := by decide +kernel
theorem dX5_sortByDay_13 : decode cX5_sortByDay 13 = .ok (.iconst 0, 1) := by decide +kernel
theorem dX5_sortByDay_14 : decode cX5_sortByDay 14 = .ok (.iastore, 1) := by decide +kernel
theorem dX5_sortByDay_15 : decode cX5_sortByDay 15 = .ok (.iinc 2 1, 3) := by decide +kernel
theorem dX5_sortByDay_18 : decode cX5_sortByDay 18 = .ok (.goto (-16), 3) := by decide +kernel
theorem dX5_sortByDay_21 : decode cX5_sortByDay 21 = .ok (.aload_n 0, 1) := by decide +kernel
theorem dX5_sortByDay_22 : decode cX5_sortByDay 22 = .ok (.getfield 37, 3) := by decide +kernel
theorem dX5_sortByDay_25 : decode cX5_sortByDay 25 = .ok (.getfield 57, 3) := by decide +kernel
theorem dX5_sortByDay_28 : decode cX5_sortByDay 28 = .ok (.getfield 63, 3) := by decide +kernel
theorem dX5_sortByDay_31 : decode cX5_sortByDay 31 = .ok (.astore_n 2, 1) := by decide +kernel
theorem dX5_sortByDay_32 : decode cX5_sortByDay 32 = .ok (.iconst 0, 1) := by decide +kernel
theorem dX5_sortByDay_33 : decode cX5_sortByDay 33 = .ok (.istore_n 3, 1) := by decide +kernel
theorem dX5_sortByDay_34 : decode cX5_sortByDay 34 = .ok (.iload_n 3, 1) := by decide +kernel
theorem dX5_sortByDay_35 : decode cX5_sortByDay 35 = .ok (.aload_n 2, 1) := by decide +kernel
theorem dX5_sortByDay_36 : decode cX5_sortByDay 36 = .ok (.getfield 69, 3) := by decide +kernel
theorem dX5_sortByDay_39 : decode cX5_sortByDay 39 = .ok (.if_icmp .ge 35, 3) := by decide +kernel
theorem dX5_sortByDay_42 : decode cX5_sortByDay 42 = .ok (.iload_n 1, 1) := by decide +kernel
theorem dX5_sortByDay_43 : decode cX5_sortByDay 43 = .ok (.iload_n 3, 1) := by decide +kernel
theorem dX5_sortByDay_44 : decode cX5_sortByDay 44 = .ok (.ishr, 1) := by decide +kernel
theorem dX5_sortByDay_45 : decode cX5_sortByDay 45 = .ok (.iconst 1, 1) := by decide +kernel
theorem dX5_sortByDay_46 : decode cX5_sortByDay 46 = .ok (.iand, 1) := by decide +kernel
theorem dX5_sortByDay_47 : decode cX5_sortByDay 47 = .ok (.iconst 1, 1) := by decide +kernel
theorem dX5_sortByDay_48 : decode cX5_sortByDay 48 = .ok (.if_icmp .ne 20, 3) := by decide +kernel
theorem dX5_sortByDay_51 : decode cX5_sortByDay 51 = .ok (.aload_n 0, 1) := by decide +kernel
theorem dX5_sortByDay_52 : decode cX5_sortByDay 52 = .ok (.getfield 18, 3) := by decide +kernel
theorem dX5_sortByDay_55 : decode cX5_sortByDay 55 = .ok (.aload_n 2, 1) := by decide +kernel
theorem dX5_sortByDay_56 : decode cX5_sortByDay 56 = .ok (.getfield 75, 3) := by decide +kernel
theorem dX5_sortByDay_59 : decode cX5_sortByDay 59 = .ok (.iload_n 3, 1) := by decide +kernel
theorem dX5_sortByDay_60 : decode cX5_sortByDay 60 = .ok (.iaload, 1) := by decide +kernel
theorem dX5_sortByDay_61 : decode cX5_sortByDay 61 = .ok (.dup2, 1) := by decide +kernel
theorem dX5_sortByDay_62 : decode cX5_sortByDay 62 = .ok (.iaload, 1) := by decide +kernel
theorem dX5_sortByDay_63 : decode cX5_sortByDay 63 = .ok (.iconst 1, 1) := by decide +kernel
theorem dX5_sortByDay_64 : decode cX5_sortByDay 64 = .ok (.iload_n 3, 1) := by decide +kernel
theorem dX5_sortByDay_65 : decode cX5_sortByDay 65 = .ok (.ishl, 1) := by decide +kernel
theorem dX5_sortByDay_66 : decode cX5_sortByDay 66 = .ok (.ior, 1) := by decide +kernel
theorem dX5_sortByDay_67 : decode cX5_sortByDay 67 = .ok (.iastore, 1) := by decide +kernel
theorem dX5_sortByDay_68 : decode cX5_sortByDay 68 = .ok (.iinc 3 1, 3) := by decide +kernel
theorem dX5_sortByDay_71 : decode cX5_sortByDay 71 = .ok (.goto (-37), 3) := by decide +kernel
theorem dX5_sortByDay_74 : decode cX5_sortByDay 74 = .ok (.return_, 1) := by decide +kernel
theorem dX5_sweepBack_0 : decode cX5_sweepBack 0 = .ok (.iconst 0, 1) := by decide +kernel
theorem dX5_sweepBack_1 : decode cX5_sweepBack 1 = .ok (.istore_n 1, 1) := by decide +kernel
theorem dX5_sweepBack_2 : decode cX5_sweepBack 2 = .ok (.iload_n 1, 1) := by decide +kernel
theorem dX5_sweepBack_3 : decode cX5_sweepBack 3 = .ok (.bipush 120, 2) := by decide +kernel
theorem dX5_sweepBack_5 : decode cX5_sweepBack 5 = .ok (.if_icmp .ge 17, 3) := by decide +kernel
theorem dX5_sweepBack_8 : decode cX5_sweepBack 8 = .ok (.aload_n 0, 1) := by decide +kernel
theorem dX5_sweepBack_9 : decode cX5_sweepBack 9 = .ok (.getfield 28, 3) := by decide +kernel
theorem dX5_sweepBack_12 : decode cX5_sweepBack 12 = .ok (.iload_n 1, 1) := by decide +kernel
theorem dX5_sweepBack_13 : decode cX5_sweepBack 13 = .ok (.ldc 49, 2) := by decide +kernel
theorem dX5_sweepBack_15 : decode cX5_sweepBack 15 = .ok (.iastore, 1) := by decide +kernel
theorem dX5_sweepBack_16 : decode cX5_sweepBack 16 = .ok (.iinc 1 1, 3) := by decide +kernel
theorem dX5_sweepBack_19 : decode cX5_sweepBack 19 = .ok (.goto (-17), 3) := by decide +kernel
theorem dX5_sweepBack_22 : decode cX5_sweepBack 22 = .ok (.aload_n 0, 1) := by decide +kernel
theorem dX5_sweepBack_23 : decode cX5_sweepBack 23 = .ok (.getfield 12, 3) := by decide +kernel
theorem dX5_sweepBack_26 : decode cX5_sweepBack 26 = .ok (.iconst 0, 1) := by decide +kernel
theorem dX5_sweepBack_27 : decode cX5_sweepBack 27 = .ok (.aload_n 0, 1) := by decide +kernel
theorem dX5_sweepBack_28 : decode cX5_sweepBack 28 = .ok (.getfield 37, 3) := by decide +kernel
theorem dX5_sweepBack_31 : decode cX5_sweepBack 31 = .ok (.getfield 78, 3) := by decide +kernel
theorem dX5_sweepBack_34 : decode cX5_sweepBack 34 = .ok (.bipush 119, 2) := by decide +kernel
theorem dX5_sweepBack_36 : decode cX5_sweepBack 36 = .ok (.iaload, 1) := by decide +kernel
theorem dX5_sweepBack_37 : decode cX5_sweepBack 37 = .ok (.iconst 0, 1) := by decide +kernel
theorem dX5_sweepBack_38 : decode cX5_sweepBack 38 = .ok (.invokevirtual 81, 3) := by decide +kernel
theorem dX5_sweepBack_41 : decode cX5_sweepBack 41 = .ok (.bipush 119, 2) := by decide +kernel
theorem dX5_sweepBack_43 : decode cX5_sweepBack 43 = .ok (.istore_n 1, 1) := by decide +kernel
theorem dX5_sweepBack_44 : decode cX5_sweepBack 44 = .ok (.iload_n 1, 1) := by decide +kernel
theorem dX5_sweepBack_45 : decode cX5_sweepBack 45 = .ok (.ifCond .lt 72, 3) := by decide +kernel
theorem dX5_sweepBack_48 : decode cX5_sweepBack 48 = .ok (.iload_n 1, 1) := by decide +kernel
theorem dX5_sweepBack_49 : decode cX5_sweepBack 49 = .ok (.bipush 119, 2) := by decide +kernel
theorem dX5_sweepBack_51 : decode cX5_sweepBack 51 = .ok (.if_icmp .ge 14, 3) := by decide +kernel
theorem dX5_sweepBack_54 : decode cX5_sweepBack 54 = .ok (.aload_n 0, 1) := by decide +kernel
theorem dX5_sweepBack_55 : decode cX5_sweepBack 55 = .ok (.iload_n 1, 1) := by decide +kernel
theorem dX5_sweepBack_56 : decode cX5_sweepBack 56 = .ok (.invokevirtual 85, 3) := by decide +kernel
theorem dX5_sweepBack_59 : decode cX5_sweepBack 59 = .ok (.ifCond .ne 6, 3) := by decide +kernel
theorem dX5_sweepBack_62 : decode cX5_sweepBack 62 = .ok (.ldc 49, 2) := by decide +kernel
theorem dX5_sweepBack_64 : decode cX5_sweepBack 64 = .ok (.ireturn, 1) := by decide +kernel
theorem dX5_sweepBack_65 : decode cX5_sweepBack 65 = .ok (.aload_n 0, 1) := by decide +kernel
theorem dX5_sweepBack_66 : decode cX5_sweepBack 66 = .ok (.iload_n 1, 1) := by decide +kernel
theorem dX5_sweepBack_67 : decode cX5_sweepBack 67 = .ok (.invokevirtual 89, 3) := by decide +kernel
theorem dX5_sweepBack_70 : decode cX5_sweepBack 70 = .ok (.aload_n 0, 1) := by decide +kernel
theorem dX5_sweepBack_71 : decode cX5_sweepBack 71 = .ok (.getfield 22, 3) := by decide +kernel
theorem dX5_sweepBack_74 : decode cX5_sweepBack 74 = .ok (.iload_n 1, 1) := by decide +kernel
theorem dX5_sweepBack_75 : decode cX5_sweepBack 75 = .ok (.aload_n 0, 1) := by decide +kernel
theorem dX5_sweepBack_76 : decode cX5_sweepBack 76 = .ok (.getfield 12, 3) := by decide +kernel
theorem dX5_sweepBack_79 : decode cX5_sweepBack 79 = .ok (.invokevirtual 92, 3) := by decide +kernel
theorem dX5_sweepBack_82 : decode cX5_sweepBack 82 = .ok (.iastore, 1) := by decide +kernel
theorem dX5_sweepBack_83 : decode cX5_sweepBack 83 = .ok (.aload_n 0, 1) := by decide +kernel
theorem dX5_sweepBack_84 : decode cX5_sweepBack 84 = .ok (.getfield 28, 3) := by decide +kernel
theorem dX5_sweepBack_87 : decode cX5_sweepBack 87 = .ok (.iload_n 1, 1) := by decide +kernel
theorem dX5_sweepBack_88 : decode cX5_sweepBack 88 = .ok (.aload_n 0, 1) := by decide +kernel
theorem dX5_sweepBack_89 : decode cX5_sweepBack 89 = .ok (.getfield 12, 3) := by decide +kernel
theorem dX5_sweepBack_92 : decode cX5_sweepBack 92 = .ok (.getfield 94, 3) := by decide +kernel
theorem dX5_sweepBack_95 : decode cX5_sweepBack 95 = .ok (.ifCond .ne 13, 3) := by decide +kernel
theorem dX5_sweepBack_98 : decode cX5_sweepBack 98 = .ok (.aload_n 0, 1) := by decide +kernel
theorem dX5_sweepBack_99 : decode cX5_sweepBack 99 = .ok (.getfield 12, 3) := by decide +kernel
theorem dX5_sweepBack_102 : decode cX5_sweepBack 102 = .ok (.getfield 97, 3) := by decide +kernel
theorem dX5_sweepBack_105 : decode cX5_sweepBack 105 = .ok (.goto 5, 3) := by decide +kernel
theorem dX5_sweepBack_108 : decode cX5_sweepBack 108 = .ok (.ldc 49, 2) := by decide +kernel
theorem dX5_sweepBack_110 : decode cX5_sweepBack 110 = .ok (.iastore, 1) := by decide +kernel
theorem dX5_sweepBack_111 : decode cX5_sweepBack 111 = .ok (.iinc 1 (-1), 3) := by decide +kernel
theorem dX5_sweepBack_114 : decode cX5_sweepBack 114 = .ok (.goto (-70), 3) := by decide +kernel
theorem dX5_sweepBack_117 : decode cX5_sweepBack 117 = .ok (.aload_n 0, 1) := by decide +kernel
theorem dX5_sweepBack_118 : decode cX5_sweepBack 118 = .ok (.getfield 12, 3) := by decide +kernel
theorem dX5_sweepBack_121 : decode cX5_sweepBack 121 = .ok (.invokevirtual 100, 3) := by decide +kernel
theorem dX5_sweepBack_124 : decode cX5_sweepBack 124 = .ok (.ireturn, 1) := by decide +kernel
theorem dX5_stepBack_0 : decode cX5_stepBack 0 = .ok (.aload_n 0, 1) := by decide +kernel
theorem dX5_stepBack_1 : decode cX5_stepBack 1 = .ok (.getfield 37, 3) := by decide +kernel
theorem dX5_stepBack_4 : decode cX5_stepBack 4 = .ok (.getfield 103, 3) := by decide +kernel
theorem dX5_stepBack_7 : decode cX5_stepBack 7 = .ok (.iload_n 1, 1) := by decide +kernel
theorem dX5_stepBack_8 : decode cX5_stepBack 8 = .ok (.iconst 1, 1) := by decide +kernel
theorem dX5_stepBack_9 : decode cX5_stepBack 9 = .ok (.iadd, 1) := by decide +kernel
theorem dX5_stepBack_10 : decode cX5_stepBack 10 = .ok (.baload, 1) := by decide +kernel
theorem dX5_stepBack_11 : decode cX5_stepBack 11 = .ok (.ifCond .eq 29, 3) := by decide +kernel
theorem dX5_stepBack_14 : decode cX5_stepBack 14 = .ok (.aload_n 0, 1) := by decide +kernel
theorem dX5_stepBack_15 : decode cX5_stepBack 15 = .ok (.getfield 12, 3) := by decide +kernel
theorem dX5_stepBack_18 : decode cX5_stepBack 18 = .ok (.iconst 0, 1) := by decide +kernel
theorem dX5_stepBack_19 : decode cX5_stepBack 19 = .ok (.aload_n 0, 1) := by decide +kernel
theorem dX5_stepBack_20 : decode cX5_stepBack 20 = .ok (.getfield 37, 3) := by decide +kernel
theorem dX5_stepBack_23 : decode cX5_stepBack 23 = .ok (.getfield 78, 3) := by decide +kernel
theorem dX5_stepBack_26 : decode cX5_stepBack 26 = .ok (.iload_n 1, 1) := by decide +kernel
theorem dX5_stepBack_27 : decode cX5_stepBack 27 = .ok (.iaload, 1) := by decide +kernel
theorem dX5_stepBack_28 : decode cX5_stepBack 28 = .ok (.aload_n 0, 1) := by decide +kernel
theorem dX5_stepBack_29 : decode cX5_stepBack 29 = .ok (.getfield 12, 3) := by decide +kernel
theorem dX5_stepBack_32 : decode cX5_stepBack 32 = .ok (.invokevirtual 100, 3) := by decide +kernel
theorem dX5_stepBack_35 : decode cX5_stepBack 35 = .ok (.invokevirtual 81, 3) := by decide +kernel
theorem dX5_stepBack_38 : decode cX5_stepBack 38 = .ok (.iconst 1, 1) := by decide +kernel
theorem dX5_stepBack_39 : decode cX5_stepBack 39 = .ok (.ireturn, 1) := by decide +kernel
theorem dX5_stepBack_40 : decode cX5_stepBack 40 = .ok (.aload_n 0, 1) := by decide +kernel
theorem dX5_stepBack_41 : decode cX5_stepBack 41 = .ok (.getfield 12, 3) := by decide +kernel
theorem dX5_stepBack_44 : decode cX5_stepBack 44 = .ok (.aload_n 0, 1) := by decide +kernel
theorem dX5_stepBack_45 : decode cX5_stepBack 45 = .ok (.getfield 37, 3) := by decide +kernel
theorem dX5_stepBack_48 : decode cX5_stepBack 48 = .ok (.getfield 107, 3) := by decide +kernel
theorem dX5_stepBack_51 : decode cX5_stepBack 51 = .ok (.iload_n 1, 1) := by decide +kernel
theorem dX5_stepBack_52 : decode cX5_stepBack 52 = .ok (.iaload, 1) := by decide +kernel
theorem dX5_stepBack_53 : decode cX5_stepBack 53 = .ok (.ineg, 1) := by decide +kernel
theorem dX5_stepBack_54 : decode cX5_stepBack 54 = .ok (.aload_n 0, 1) := by decide +kernel
theorem dX5_stepBack_55 : decode cX5_stepBack 55 = .ok (.getfield 37, 3) := by decide +kernel
theorem dX5_stepBack_58 : decode cX5_stepBack 58 = .ok (.getfield 110, 3) := by decide +kernel
theorem dX5_stepBack_61 : decode cX5_stepBack 61 = .ok (.iload_n 1, 1) := by decide +kernel
theorem dX5_stepBack_62 : decode cX5_stepBack 62 = .ok (.iaload, 1) := by decide +kernel
theorem dX5_stepBack_63 : decode cX5_stepBack 63 = .ok (.ineg, 1) := by decide +kernel
theorem dX5_stepBack_64 : decode cX5_stepBack 64 = .ok (.invokevirtual 113, 3) := by decide +kernel
theorem dX5_stepBack_67 : decode cX5_stepBack 67 = .ok (.aload_n 0, 1) := by decide +kernel
theorem dX5_stepBack_68 : decode cX5_stepBack 68 = .ok (.getfield 12, 3) := by decide +kernel
theorem dX5_stepBack_71 : decode cX5_stepBack 71 = .ok (.aload_n 0, 1) := by decide +kernel
theorem dX5_stepBack_72 : decode cX5_stepBack 72 = .ok (.getfield 37, 3) := by decide +kernel
theorem dX5_stepBack_75 : decode cX5_stepBack 75 = .ok (.getfield 78, 3) := by decide +kernel
theorem dX5_stepBack_78 : decode cX5_stepBack 78 = .ok (.iload_n 1, 1) := by decide +kernel
theorem dX5_stepBack_79 : decode cX5_stepBack 79 = .ok (.iaload, 1) := by decide +kernel
theorem dX5_stepBack_80 : decode cX5_stepBack 80 = .ok (.invokevirtual 117, 3) := by decide +kernel
theorem dX5_stepBack_83 : decode cX5_stepBack 83 = .ok (.ireturn, 1) := by decide +kernel
theorem dX5_stepAhead_0 : decode cX5_stepAhead 0 = .ok (.aload_n 0, 1) := by decide +kernel
theorem dX5_stepAhead_1 : decode cX5_stepAhead 1 = .ok (.getfield 37, 3) := by decide +kernel
theorem dX5_stepAhead_4 : decode cX5_stepAhead 4 = .ok (.getfield 103, 3) := by decide +kernel
theorem dX5_stepAhead_7 : decode cX5_stepAhead 7 = .ok (.iload_n 1, 1) := by decide +kernel
theorem dX5_stepAhead_8 : decode cX5_stepAhead 8 = .ok (.baload, 1) := by decide +kernel
theorem dX5_stepAhead_9 : decode cX5_stepAhead 9 = .ok (.ifCond .eq 29, 3) := by decide +kernel
theorem dX5_stepAhead_12 : decode cX5_stepAhead 12 = .ok (.aload_n 0, 1) := by decide +kernel
theorem dX5_stepAhead_13 : decode cX5_stepAhead 13 = .ok (.getfield 12, 3) := by decide +kernel
theorem dX5_stepAhead_16 : decode cX5_stepAhead 16 = .ok (.iconst 0, 1) := by decide +kernel
theorem dX5_stepAhead_17 : decode cX5_stepAhead 17 = .ok (.aload_n 0, 1) := by decide +kernel
theorem dX5_stepAhead_18 : decode cX5_stepAhead 18 = .ok (.getfield 37, 3) := by decide +kernel
theorem dX5_stepAhead_21 : decode cX5_stepAhead 21 = .ok (.getfield 78, 3) := by decide +kernel
theorem dX5_stepAhead_24 : decode cX5_stepAhead 24 = .ok (.iload_n 1, 1) := by decide +kernel
theorem dX5_stepAhead_25 : decode cX5_stepAhead 25 = .ok (.iaload, 1) := by decide +kernel
theorem dX5_stepAhead_26 : decode cX5_stepAhead 26 = .ok (.aload_n 0, 1) := by decide +kernel
theorem dX5_stepAhead_27 : decode cX5_stepAhead 27 = .ok (.getfield 12, 3) := by decide +kernel
theorem dX5_stepAhead_30 : decode cX5_stepAhead 30 = .ok (.invokevirtual 100, 3) := by decide +kernel
theorem dX5_stepAhead_33 : decode cX5_stepAhead 33 = .ok (.invokevirtual 81, 3) := by decide +kernel
theorem dX5_stepAhead_36 : decode cX5_stepAhead 36 = .ok (.iconst 1, 1) := by decide +kernel
theorem dX5_stepAhead_37 : decode cX5_stepAhead 37 = .ok (.ireturn, 1) := by decide +kernel
theorem dX5_stepAhead_38 : decode cX5_stepAhead 38 = .ok (.aload_n 0, 1) := by decide +kernel
theorem dX5_stepAhead_39 : decode cX5_stepAhead 39 = .ok (.getfield 12, 3) := by decide +kernel
theorem dX5_stepAhead_42 : decode cX5_stepAhead 42 = .ok (.aload_n 0, 1) := by decide +kernel
theorem dX5_stepAhead_43 : decode cX5_stepAhead 43 = .ok (.getfield 37, 3) := by decide +kernel
theorem dX5_stepAhead_46 : decode cX5_stepAhead 46 = .ok (.getfield 110, 3) := by decide +kernel
theorem dX5_stepAhead_49 : decode cX5_stepAhead 49 = .ok (.iload_n 1, 1) := by decide +kernel
theorem dX5_stepAhead_50 : decode cX5_stepAhead 50 = .ok (.iconst 1, 1) := by decide +kernel
theorem dX5_stepAhead_51 : decode cX5_stepAhead 51 = .ok (.isub, 1) := by decide +kernel
theorem dX5_stepAhead_52 : decode cX5_stepAhead 52 = .ok (.iaload, 1) := by decide +kernel
theorem dX5_stepAhead_53 : decode cX5_stepAhead 53 = .ok (.aload_n 0, 1) := by decide +kernel
theorem dX5_stepAhead_54 : decode cX5_stepAhead 54 = .ok (.getfield 37, 3) := by decide +kernel
theorem dX5_stepAhead_57 : decode cX5_stepAhead 57 = .ok (.getfield 107, 3) := by decide +kernel
theorem dX5_stepAhead_60 : decode cX5_stepAhead 60 = .ok (.iload_n 1, 1) := by decide +kernel
theorem dX5_stepAhead_61 : decode cX5_stepAhead 61 = .ok (.iconst 1, 1) := by decide +kernel
theorem dX5_stepAhead_62 : decode cX5_stepAhead 62 = .ok (.isub, 1) := by decide +kernel
theorem dX5_stepAhead_63 : decode cX5_stepAhead 63 = .ok (.iaload, 1) := by decide +kernel
theorem dX5_stepAhead_64 : decode cX5_stepAhead 64 = .ok (.invokevirtual 113, 3) := by decide +kernel
theorem dX5_stepAhead_67 : decode cX5_stepAhead 67 = .ok (.aload_n 0, 1) := by decide +kernel
theorem dX5_stepAhead_68 : decode cX5_stepAhead 68 = .ok (.getfield 12, 3) := by decide +kernel
theorem dX5_stepAhead_71 : decode cX5_stepAhead 71 = .ok (.aload_n 0, 1) := by decide +kernel
theorem dX5_stepAhead_72 : decode cX5_stepAhead 72 = .ok (.getfield 37, 3) := by decide +kernel
theorem dX5_stepAhead_75 : decode cX5_stepAhead 75 = .ok (.getfield 78, 3) := by decide +kernel
theorem dX5_stepAhead_78 : decode cX5_stepAhead 78 = .ok (.iload_n 1, 1) := by decide +kernel
theorem dX5_stepAhead_79 : decode cX5_stepAhead 79 = .ok (.iaload, 1) := by decide +kernel
theorem dX5_stepAhead_80 : decode cX5_stepAhead 80 = .ok (.invokevirtual 117, 3) := by decide +kernel
theorem dX5_stepAhead_83 : decode cX5_stepAhead 83 = .ok (.ireturn, 1) := by decide +kernel
theorem dX5_addLogs_0 : decode cX5_addLogs 0 = .ok (.aload_n 0, 1) := by decide +kernel
theorem dX5_addLogs_1 : decode cX5_addLogs 1 = .ok (.getfield 18, 3) := by decide +kernel
theorem dX5_addLogs_4 : decode cX5_addLogs 4 = .ok (.iload_n 1, 1) := by decide +kernel
theorem dX5_addLogs_5 : decode cX5_addLogs 5 = .ok (.iaload, 1) := by decide +kernel
theorem dX5_addLogs_6 : decode cX5_addLogs 6 = .ok (.ifCond .ne 4, 3) := by decide +kernel
theorem dX5_addLogs_9 : decode cX5_addLogs 9 = .ok (.return_, 1) := by decide +kernel
theorem dX5_addLogs_10 : decode cX5_addLogs 10 = .ok (.iconst 0, 1) := by decide +kernel
theorem dX5_addLogs_11 : decode cX5_addLogs 11 = .ok (.istore_n 2, 1) := by decide +kernel
theorem dX5_addLogs_12 : decode cX5_addLogs 12 = .ok (.iload_n 2, 1) := by decide +kernel
theorem dX5_addLogs_13 : decode cX5_addLogs 13 = .ok (.bipush 24, 2) := by decide +kernel
theorem dX5_addLogs_15 : decode cX5_addLogs 15 = .ok (.if_icmp .ge 63, 3) := by decide +kernel
theorem dX5_addLogs_18 : decode cX5_addLogs 18 = .ok (.aload_n 0, 1) := by decide +kernel
theorem dX5_addLogs_19 : decode cX5_addLogs 19 = .ok (.getfield 18, 3) := by decide +kernel
theorem dX5_addLogs_22 : decode cX5_addLogs 22 = .ok (.iload_n 1, 1) := by decide +kernel
theorem dX5_addLogs_23 : decode cX5_addLogs 23 = .ok (.iaload, 1) := by decide +kernel
theorem dX5_addLogs_24 : decode cX5_addLogs 24 = .ok (.iload_n 2, 1) := by decide +kernel
theorem dX5_addLogs_25 : decode cX5_addLogs 25 = .ok (.ishr, 1) := by decide +kernel
theorem dX5_addLogs_26 : decode cX5_addLogs 26 = .ok (.iconst 1, 1) := by decide +kernel
theorem dX5_addLogs_27 : decode cX5_addLogs 27 = .ok (.iand, 1) := by decide +kernel
theorem dX5_addLogs_28 : decode cX5_addLogs 28 = .ok (.iconst 1, 1) := by decide +kernel
theorem dX5_addLogs_29 : decode cX5_addLogs 29 = .ok (.if_icmp .ne 43, 3) := by decide +kernel
theorem dX5_addLogs_32 : decode cX5_addLogs 32 = .ok (.aload_n 0, 1) := by decide +kernel
theorem dX5_addLogs_33 : decode cX5_addLogs 33 = .ok (.getfield 12, 3) := by decide +kernel
theorem dX5_addLogs_36 : decode cX5_addLogs 36 = .ok (.aload_n 0, 1) := by decide +kernel
theorem dX5_addLogs_37 : decode cX5_addLogs 37 = .ok (.getfield 37, 3) := by decide +kernel
theorem dX5_addLogs_40 : decode cX5_addLogs 40 = .ok (.getfield 120, 3) := by decide +kernel
theorem dX5_addLogs_43 : decode cX5_addLogs 43 = .ok (.iload_n 2, 1) := by decide +kernel
theorem dX5_addLogs_44 : decode cX5_addLogs 44 = .ok (.iaload, 1) := by decide +kernel
theorem dX5_addLogs_45 : decode cX5_addLogs 45 = .ok (.aload_n 0, 1) := by decide +kernel
theorem dX5_addLogs_46 : decode cX5_addLogs 46 = .ok (.getfield 37, 3) := by decide +kernel
theorem dX5_addLogs_49 : decode cX5_addLogs 49 = .ok (.getfield 123, 3) := by decide +kernel
theorem dX5_addLogs_52 : decode cX5_addLogs 52 = .ok (.iload_n 2, 1) := by decide +kernel
theorem dX5_addLogs_53 : decode cX5_addLogs 53 = .ok (.iaload, 1) := by decide +kernel
theorem dX5_addLogs_54 : decode cX5_addLogs 54 = .ok (.aload_n 0, 1) := by decide +kernel
theorem dX5_addLogs_55 : decode cX5_addLogs 55 = .ok (.getfield 37, 3) := by decide +kernel
theorem dX5_addLogs_58 : decode cX5_addLogs 58 = .ok (.getfield 57, 3) := by decide +kernel
theorem dX5_addLogs_61 : decode cX5_addLogs 61 = .ok (.getfield 63, 3) := by decide +kernel
theorem dX5_addLogs_64 : decode cX5_addLogs 64 = .ok (.getfield 126, 3) := by decide +kernel
theorem dX5_addLogs_67 : decode cX5_addLogs 67 = .ok (.iload_n 2, 1) := by decide +kernel
theorem dX5_addLogs_68 : decode cX5_addLogs 68 = .ok (.iaload, 1) := by decide +kernel
theorem dX5_addLogs_69 : decode cX5_addLogs 69 = .ok (.invokevirtual 129, 3) := by decide +kernel
theorem dX5_addLogs_72 : decode cX5_addLogs 72 = .ok (.iinc 2 1, 3) := by decide +kernel
theorem dX5_addLogs_75 : decode cX5_addLogs 75 = .ok (.goto (-63), 3) := by decide +kernel
theorem dX5_addLogs_78 : decode cX5_addLogs 78 = .ok (.return_, 1) := by decide +kernel
theorem dX5_followBottoms_0 : decode cX5_followBottoms 0 = .ok (.aload_n 0, 1) := by decide +kernel
theorem dX5_followBottoms_1 : decode cX5_followBottoms 1 = .ok (.getfield 31, 3) := by decide +kernel
theorem dX5_followBottoms_4 : decode cX5_followBottoms 4 = .ok (.iconst 0, 1) := by decide +kernel
theorem dX5_followBottoms_5 : decode cX5_followBottoms 5 = .ok (.aload_n 0, 1) := by decide +kernel
theorem dX5_followBottoms_6 : decode cX5_followBottoms 6 = .ok (.getfield 22, 3) := by decide +kernel
theorem dX5_followBottoms_9 : decode cX5_followBottoms 9 = .ok (.iconst 0, 1) := by decide +kernel
theorem dX5_followBottoms_10 : decode cX5_followBottoms 10 = .ok (.iaload, 1) := by decide +kernel
theorem dX5_followBottoms_11 : decode cX5_followBottoms 11 = .ok (.iastore, 1) := by decide +kernel
theorem dX5_followBottoms_12 : decode cX5_followBottoms 12 = .ok (.iconst 1, 1) := by decide +kernel
theorem dX5_followBottoms_13 : decode cX5_followBottoms 13 = .ok (.istore_n 1, 1) := by decide +kernel
theorem dX5_followBottoms_14 : decode cX5_followBottoms 14 = .ok (.iload_n 1, 1) := by decide +kernel
theorem dX5_followBottoms_15 : decode cX5_followBottoms 15 = .ok (.bipush 120, 2) := by decide +kernel
theorem dX5_followBottoms_17 : decode cX5_followBottoms 17 = .ok (.if_icmp .ge 85, 3) := by decide +kernel
theorem dX5_followBottoms_20 : decode cX5_followBottoms 20 = .ok (.aload_n 0, 1) := by decide +kernel
theorem dX5_followBottoms_21 : decode cX5_followBottoms 21 = .ok (.getfield 22, 3) := by decide +kernel
theorem dX5_followBottoms_24 : decode cX5_followBottoms 24 = .ok (.iload_n 1, 1) := by decide +kernel
theorem dX5_followBottoms_25 : decode cX5_followBottoms 25 = .ok (.iaload, 1) := by decide +kernel
theorem dX5_followBottoms_26 : decode cX5_followBottoms 26 = .ok (.istore_n 2, 1) := by decide +kernel
theorem dX5_followBottoms_27 : decode cX5_followBottoms 27 = .ok (.aload_n 0, 1) := by decide +kernel
theorem dX5_followBottoms_28 : decode cX5_followBottoms 28 = .ok (.getfield 37, 3) := by decide +kernel
theorem dX5_followBottoms_31 : decode cX5_followBottoms 31 = .ok (.getfield 103, 3) := by decide +kernel
theorem dX5_followBottoms_34 : decode cX5_followBottoms 34 = .ok (.iload_n 1, 1) := by decide +kernel
theorem dX5_followBottoms_35 : decode cX5_followBottoms 35 = .ok (.baload, 1) := by decide +kernel
theorem dX5_followBottoms_36 : decode cX5_followBottoms 36 = .ok (.ifCond .ne 53, 3) := by decide +kernel
theorem dX5_followBottoms_39 : decode cX5_followBottoms 39 = .ok (.iload_n 2, 1) := by decide +kernel
theorem dX5_followBottoms_40 : decode cX5_followBottoms 40 = .ok (.aload_n 0, 1) := by decide +kernel
theorem dX5_followBottoms_41 : decode cX5_followBottoms 41 = .ok (.getfield 31, 3) := by decide +kernel
theorem dX5_followBottoms_44 : decode cX5_followBottoms 44 = .ok (.iload_n 1, 1) := by decide +kernel
theorem dX5_followBottoms_45 : decode cX5_followBottoms 45 = .ok (.iconst 1, 1) := by decide +kernel
theorem dX5_followBottoms_46 : decode cX5_followBottoms 46 = .ok (.isub, 1) := by decide +kernel
theorem dX5_followBottoms_47 : decode cX5_followBottoms 47 = .ok (.iaload, 1) := by decide +kernel
theorem dX5_followBottoms_48 : decode cX5_followBottoms 48 = .ok (.aload_n 0, 1) := by decide +kernel
theorem dX5_followBottoms_49 : decode cX5_followBottoms 49 = .ok (.getfield 37, 3) := by decide +kernel
theorem dX5_followBottoms_52 : decode cX5_followBottoms 52 = .ok (.getfield 110, 3) := by decide +kernel
theorem dX5_followBottoms_55 : decode cX5_followBottoms 55 = .ok (.iload_n 1, 1) := by decide +kernel
theorem dX5_followBottoms_56 : decode cX5_followBottoms 56 = .ok (.iconst 1, 1) := by decide +kernel
theorem dX5_followBottoms_57 : decode cX5_followBottoms 57 = .ok (.isub, 1) := by decide +kernel
theorem dX5_followBottoms_58 : decode cX5_followBottoms 58 = .ok (.iaload, 1) := by decide +kernel
theorem dX5_followBottoms_59 : decode cX5_followBottoms 59 = .ok (.iadd, 1) := by decide +kernel
theorem dX5_followBottoms_60 : decode cX5_followBottoms 60 = .ok (.invokestatic 132, 3) := by decide +kernel
theorem dX5_followBottoms_63 : decode cX5_followBottoms 63 = .ok (.istore_n 2, 1) := by decide +kernel
theorem dX5_followBottoms_64 : decode cX5_followBottoms 64 = .ok (.iload_n 2, 1) := by decide +kernel
theorem dX5_followBottoms_65 : decode cX5_followBottoms 65 = .ok (.aload_n 0, 1) := by decide +kernel
theorem dX5_followBottoms_66 : decode cX5_followBottoms 66 = .ok (.getfield 31, 3) := by decide +kernel
theorem dX5_followBottoms_69 : decode cX5_followBottoms 69 = .ok (.iload_n 1, 1) := by decide +kernel
theorem dX5_followBottoms_70 : decode cX5_followBottoms 70 = .ok (.iconst 1, 1) := by decide +kernel
theorem dX5_followBottoms_71 : decode cX5_followBottoms 71 = .ok (.isub, 1) := by decide +kernel
theorem dX5_followBottoms_72 : decode cX5_followBottoms 72 = .ok (.iaload, 1) := by decide +kernel
theorem dX5_followBottoms_73 : decode cX5_followBottoms 73 = .ok (.aload_n 0, 1) := by decide +kernel
theorem dX5_followBottoms_74 : decode cX5_followBottoms 74 = .ok (.getfield 37, 3) := by decide +kernel
theorem dX5_followBottoms_77 : decode cX5_followBottoms 77 = .ok (.getfield 107, 3) := by decide +kernel
theorem dX5_followBottoms_80 : decode cX5_followBottoms 80 = .ok (.iload_n 1, 1) := by decide +kernel
theorem dX5_followBottoms_81 : decode cX5_followBottoms 81 = .ok (.iconst 1, 1) := by decide +kernel
theorem dX5_followBottoms_82 : decode cX5_followBottoms 82 = .ok (.isub, 1) := by decide +kernel
theorem dX5_followBottoms_83 : decode cX5_followBottoms 83 = .ok (.iaload, 1) := by decide +kernel
theorem dX5_followBottoms_84 : decode cX5_followBottoms 84 = .ok (.iadd, 1) := by decide +kernel
theorem dX5_followBottoms_85 : decode cX5_followBottoms 85 = .ok (.invokestatic 138, 3) := by decide +kernel
theorem dX5_followBottoms_88 : decode cX5_followBottoms 88 = .ok (.istore_n 2, 1) := by decide +kernel
theorem dX5_followBottoms_89 : decode cX5_followBottoms 89 = .ok (.aload_n 0, 1) := by decide +kernel
theorem dX5_followBottoms_90 : decode cX5_followBottoms 90 = .ok (.getfield 31, 3) := by decide +kernel
theorem dX5_followBottoms_93 : decode cX5_followBottoms 93 = .ok (.iload_n 1, 1) := by decide +kernel
theorem dX5_followBottoms_94 : decode cX5_followBottoms 94 = .ok (.iload_n 2, 1) := by decide +kernel
theorem dX5_followBottoms_95 : decode cX5_followBottoms 95 = .ok (.iastore, 1) := by decide +kernel
theorem dX5_followBottoms_96 : decode cX5_followBottoms 96 = .ok (.iinc 1 1, 3) := by decide +kernel
theorem dX5_followBottoms_99 : decode cX5_followBottoms 99 = .ok (.goto (-85), 3) := by decide +kernel
theorem dX5_followBottoms_102 : decode cX5_followBottoms 102 = .ok (.return_, 1) := by decide +kernel
theorem dX5_leastWithHidden_0 : decode cX5_leastWithHidden 0 = .ok (.aload_n 0, 1) := by decide +kernel
theorem dX5_leastWithHidden_1 : decode cX5_leastWithHidden 1 = .ok (.iload_n 1, 1) := by decide +kernel
theorem dX5_leastWithHidden_2 : decode cX5_leastWithHidden 2 = .ok (.invokevirtual 41, 3) := by decide +kernel
theorem dX5_leastWithHidden_5 : decode cX5_leastWithHidden 5 = .ok (.aload_n 0, 1) := by decide +kernel
theorem dX5_leastWithHidden_6 : decode cX5_leastWithHidden 6 = .ok (.aload_n 0, 1) := by decide +kernel
theorem dX5_leastWithHidden_7 : decode cX5_leastWithHidden 7 = .ok (.invokevirtual 45, 3) := by decide +kernel
theorem dX5_leastWithHidden_10 : decode cX5_leastWithHidden 10 = .ok (.putfield 141, 3) := by decide +kernel
theorem dX5_leastWithHidden_13 : decode cX5_leastWithHidden 13 = .ok (.aload_n 0, 1) := by decide +kernel
theorem dX5_leastWithHidden_14 : decode cX5_leastWithHidden 14 = .ok (.iconst 0, 1) := by decide +kernel
theorem dX5_leastWithHidden_15 : decode cX5_leastWithHidden 15 = .ok (.putfield 144, 3) := by decide +kernel
theorem dX5_leastWithHidden_18 : decode cX5_leastWithHidden 18 = .ok (.aload_n 0, 1) := by decide +kernel
theorem dX5_leastWithHidden_19 : decode cX5_leastWithHidden 19 = .ok (.iconst (-1), 1) := by decide +kernel
theorem dX5_leastWithHidden_20 : decode cX5_leastWithHidden 20 = .ok (.putfield 147, 3) := by decide +kernel
theorem dX5_leastWithHidden_23 : decode cX5_leastWithHidden 23 = .ok (.aload_n 0, 1) := by decide +kernel
theorem dX5_leastWithHidden_24 : decode cX5_leastWithHidden 24 = .ok (.iconst (-1), 1) := by decide +kernel
theorem dX5_leastWithHidden_25 : decode cX5_leastWithHidden 25 = .ok (.putfield 150, 3) := by decide +kernel
theorem dX5_leastWithHidden_28 : decode cX5_leastWithHidden 28 = .ok (.aload_n 0, 1) := by decide +kernel
theorem dX5_leastWithHidden_29 : decode cX5_leastWithHidden 29 = .ok (.invokevirtual 153, 3) := by decide +kernel
theorem dX5_leastWithHidden_32 : decode cX5_leastWithHidden 32 = .ok (.aload_n 0, 1) := by decide +kernel
theorem dX5_leastWithHidden_33 : decode cX5_leastWithHidden 33 = .ok (.iload_n 2, 1) := by decide +kernel
theorem dX5_leastWithHidden_34 : decode cX5_leastWithHidden 34 = .ok (.invokevirtual 156, 3) := by decide +kernel
theorem dX5_leastWithHidden_37 : decode cX5_leastWithHidden 37 = .ok (.iconst 1, 1) := by decide +kernel
theorem dX5_leastWithHidden_38 : decode cX5_leastWithHidden 38 = .ok (.istore_n 3, 1) := by decide +kernel
theorem dX5_leastWithHidden_39 : decode cX5_leastWithHidden 39 = .ok (.iload_n 3, 1) := by decide +kernel
theorem dX5_leastWithHidden_40 : decode cX5_leastWithHidden 40 = .ok (.bipush 119, 2) := by decide +kernel
theorem dX5_leastWithHidden_42 : decode cX5_leastWithHidden 42 = .ok (.if_icmp .ge 15, 3) := by decide +kernel
theorem dX5_leastWithHidden_45 : decode cX5_leastWithHidden 45 = .ok (.aload_n 0, 1) := by decide +kernel
theorem dX5_leastWithHidden_46 : decode cX5_leastWithHidden 46 = .ok (.iload_n 3, 1) := by decide +kernel
theorem dX5_leastWithHidden_47 : decode cX5_leastWithHidden 47 = .ok (.iload_n 2, 1) := by decide +kernel
theorem dX5_leastWithHidden_48 : decode cX5_leastWithHidden 48 = .ok (.invokevirtual 159, 3) := by decide +kernel
theorem dX5_leastWithHidden_51 : decode cX5_leastWithHidden 51 = .ok (.iinc 3 1, 3) := by decide +kernel
theorem dX5_leastWithHidden_54 : decode cX5_leastWithHidden 54 = .ok (.goto (-15), 3) := by decide +kernel
theorem dX5_leastWithHidden_57 : decode cX5_leastWithHidden 57 = .ok (.aload_n 0, 1) := by decide +kernel
theorem dX5_leastWithHidden_58 : decode cX5_leastWithHidden 58 = .ok (.getfield 141, 3) := by decide +kernel
theorem dX5_leastWithHidden_61 : decode cX5_leastWithHidden 61 = .ok (.ldc 49, 2) := by decide +kernel
theorem dX5_leastWithHidden_63 : decode cX5_leastWithHidden 63 = .ok (.if_icmp .lt 5, 3) := by decide +kernel
theorem dX5_leastWithHidden_66 : decode cX5_leastWithHidden 66 = .ok (.iconst (-1), 1) := by decide +kernel
theorem dX5_leastWithHidden_67 : decode cX5_leastWithHidden 67 = .ok (.ireturn, 1) := by decide +kernel
theorem dX5_leastWithHidden_68 : decode cX5_leastWithHidden 68 = .ok (.aload_n 0, 1) := by decide +kernel
theorem dX5_leastWithHidden_69 : decode cX5_leastWithHidden 69 = .ok (.aload_n 0, 1) := by decide +kernel
theorem dX5_leastWithHidden_70 : decode cX5_leastWithHidden 70 = .ok (.getfield 144, 3) := by decide +kernel
theorem dX5_leastWithHidden_73 : decode cX5_leastWithHidden 73 = .ok (.putfield 162, 3) := by decide +kernel
theorem dX5_leastWithHidden_76 : decode cX5_leastWithHidden 76 = .ok (.aload_n 0, 1) := by decide +kernel
theorem dX5_leastWithHidden_77 : decode cX5_leastWithHidden 77 = .ok (.getfield 34, 3) := by decide +kernel
theorem dX5_leastWithHidden_80 : decode cX5_leastWithHidden 80 = .ok (.iconst 0, 1) := by decide +kernel
theorem dX5_leastWithHidden_81 : decode cX5_leastWithHidden 81 = .ok (.aload_n 0, 1) := by decide +kernel
theorem dX5_leastWithHidden_82 : decode cX5_leastWithHidden 82 = .ok (.getfield 147, 3) := by decide +kernel
theorem dX5_leastWithHidden_85 : decode cX5_leastWithHidden 85 = .ok (.iastore, 1) := by decide +kernel
theorem dX5_leastWithHidden_86 : decode cX5_leastWithHidden 86 = .ok (.aload_n 0, 1) := by decide +kernel
theorem dX5_leastWithHidden_87 : decode cX5_leastWithHidden 87 = .ok (.getfield 34, 3) := by decide +kernel
theorem dX5_leastWithHidden_90 : decode cX5_leastWithHidden 90 = .ok (.iconst 1, 1) := by decide +kernel
theorem dX5_leastWithHidden_91 : decode cX5_leastWithHidden 91 = .ok (.aload_n 0, 1) := by decide +kernel
theorem dX5_leastWithHidden_92 : decode cX5_leastWithHidden 92 = .ok (.getfield 150, 3) := by decide +kernel
theorem dX5_leastWithHidden_95 : decode cX5_leastWithHidden 95 = .ok (.iastore, 1) := by decide +kernel
theorem dX5_leastWithHidden_96 : decode cX5_leastWithHidden 96 = .ok (.aload_n 0, 1) := by decide +kernel
theorem dX5_leastWithHidden_97 : decode cX5_leastWithHidden 97 = .ok (.getfield 141, 3) := by decide +kernel
theorem dX5_leastWithHidden_100 : decode cX5_leastWithHidden 100 = .ok (.ireturn, 1) := by decide +kernel
theorem dX5_sweepAhead_0 : decode cX5_sweepAhead 0 = .ok (.iconst 0, 1) := by decide +kernel
theorem dX5_sweepAhead_1 : decode cX5_sweepAhead 1 = .ok (.istore_n 1, 1) := by decide +kernel
theorem dX5_sweepAhead_2 : decode cX5_sweepAhead 2 = .ok (.iload_n 1, 1) := by decide +kernel
theorem dX5_sweepAhead_3 : decode cX5_sweepAhead 3 = .ok (.bipush 120, 2) := by decide +kernel
theorem dX5_sweepAhead_5 : decode cX5_sweepAhead 5 = .ok (.if_icmp .ge 17, 3) := by decide +kernel
theorem dX5_sweepAhead_8 : decode cX5_sweepAhead 8 = .ok (.aload_n 0, 1) := by decide +kernel
theorem dX5_sweepAhead_9 : decode cX5_sweepAhead 9 = .ok (.getfield 25, 3) := by decide +kernel
theorem dX5_sweepAhead_12 : decode cX5_sweepAhead 12 = .ok (.iload_n 1, 1) := by decide +kernel
theorem dX5_sweepAhead_13 : decode cX5_sweepAhead 13 = .ok (.ldc 49, 2) := by decide +kernel
theorem dX5_sweepAhead_15 : decode cX5_sweepAhead 15 = .ok (.iastore, 1) := by decide +kernel
theorem dX5_sweepAhead_16 : decode cX5_sweepAhead 16 = .ok (.iinc 1 1, 3) := by decide +kernel
theorem dX5_sweepAhead_19 : decode cX5_sweepAhead 19 = .ok (.goto (-17), 3) := by decide +kernel
theorem dX5_sweepAhead_22 : decode cX5_sweepAhead 22 = .ok (.aload_n 0, 1) := by decide +kernel
theorem dX5_sweepAhead_23 : decode cX5_sweepAhead 23 = .ok (.getfield 12, 3) := by decide +kernel
theorem dX5_sweepAhead_26 : decode cX5_sweepAhead 26 = .ok (.iconst 0, 1) := by decide +kernel
theorem dX5_sweepAhead_27 : decode cX5_sweepAhead 27 = .ok (.aload_n 0, 1) := by decide +kernel
theorem dX5_sweepAhead_28 : decode cX5_sweepAhead 28 = .ok (.getfield 37, 3) := by decide +kernel
theorem dX5_sweepAhead_31 : decode cX5_sweepAhead 31 = .ok (.getfield 78, 3) := by decide +kernel
theorem dX5_sweepAhead_34 : decode cX5_sweepAhead 34 = .ok (.iconst 0, 1) := by decide +kernel
theorem dX5_sweepAhead_35 : decode cX5_sweepAhead 35 = .ok (.iaload, 1) := by decide +kernel
theorem dX5_sweepAhead_36 : decode cX5_sweepAhead 36 = .ok (.iconst 0, 1) := by decide +kernel
theorem dX5_sweepAhead_37 : decode cX5_sweepAhead 37 = .ok (.invokevirtual 81, 3) := by decide +kernel
theorem dX5_sweepAhead_40 : decode cX5_sweepAhead 40 = .ok (.aload_n 0, 1) := by decide +kernel
theorem dX5_sweepAhead_41 : decode cX5_sweepAhead 41 = .ok (.iconst 0, 1) := by decide +kernel
theorem dX5_sweepAhead_42 : decode cX5_sweepAhead 42 = .ok (.invokevirtual 89, 3) := by decide +kernel
theorem dX5_sweepAhead_45 : decode cX5_sweepAhead 45 = .ok (.iconst 1, 1) := by decide +kernel
theorem dX5_sweepAhead_46 : decode cX5_sweepAhead 46 = .ok (.istore_n 1, 1) := by decide +kernel
theorem dX5_sweepAhead_47 : decode cX5_sweepAhead 47 = .ok (.iload_n 1, 1) := by decide +kernel
theorem dX5_sweepAhead_48 : decode cX5_sweepAhead 48 = .ok (.bipush 120, 2) := by decide +kernel
theorem dX5_sweepAhead_50 : decode cX5_sweepAhead 50 = .ok (.if_icmp .ge 36, 3) := by decide +kernel
theorem dX5_sweepAhead_53 : decode cX5_sweepAhead 53 = .ok (.aload_n 0, 1) := by decide +kernel
theorem dX5_sweepAhead_54 : decode cX5_sweepAhead 54 = .ok (.getfield 25, 3) := by decide +kernel
theorem dX5_sweepAhead_57 : decode cX5_sweepAhead 57 = .ok (.iload_n 1, 1) := by decide +kernel
theorem dX5_sweepAhead_58 : decode cX5_sweepAhead 58 = .ok (.aload_n 0, 1) := by decide +kernel
theorem dX5_sweepAhead_59 : decode cX5_sweepAhead 59 = .ok (.getfield 12, 3) := by decide +kernel
theorem dX5_sweepAhead_62 : decode cX5_sweepAhead 62 = .ok (.invokevirtual 100, 3) := by decide +kernel
theorem dX5_sweepAhead_65 : decode cX5_sweepAhead 65 = .ok (.iastore, 1) := by decide +kernel
theorem dX5_sweepAhead_66 : decode cX5_sweepAhead 66 = .ok (.aload_n 0, 1) := by decide +kernel
theorem dX5_sweepAhead_67 : decode cX5_sweepAhead 67 = .ok (.iload_n 1, 1) := by decide +kernel
theorem dX5_sweepAhead_68 : decode cX5_sweepAhead 68 = .ok (.invokevirtual 165, 3) := by decide +kernel
theorem dX5_sweepAhead_71 : decode cX5_sweepAhead 71 = .ok (.ifCond .ne 4, 3) := by decide +kernel
theorem dX5_sweepAhead_74 : decode cX5_sweepAhead 74 = .ok (.return_, 1) := by decide +kernel
theorem dX5_sweepAhead_75 : decode cX5_sweepAhead 75 = .ok (.aload_n 0, 1) := by decide +kernel
theorem dX5_sweepAhead_76 : decode cX5_sweepAhead 76 = .ok (.iload_n 1, 1) := by decide +kernel
theorem dX5_sweepAhead_77 : decode cX5_sweepAhead 77 = .ok (.invokevirtual 89, 3) := by decide +kernel
theorem dX5_sweepAhead_80 : decode cX5_sweepAhead 80 = .ok (.iinc 1 1, 3) := by decide +kernel
theorem dX5_sweepAhead_83 : decode cX5_sweepAhead 83 = .ok (.goto (-36), 3) := by decide +kernel
theorem dX5_sweepAhead_86 : decode cX5_sweepAhead 86 = .ok (.return_, 1) := by decide +kernel
theorem dX5_tryOne_0 : decode cX5_tryOne 0 = .ok (.iconst 1, 1) := by decide +kernel
theorem dX5_tryOne_1 : decode cX5_tryOne 1 = .ok (.istore_n 2, 1) := by decide +kernel
theorem dX5_tryOne_2 : decode cX5_tryOne 2 = .ok (.iload_n 2, 1) := by decide +kernel
theorem dX5_tryOne_3 : decode cX5_tryOne 3 = .ok (.bipush 120, 2) := by decide +kernel
theorem dX5_tryOne_5 : decode cX5_tryOne 5 = .ok (.if_icmp .ge 43, 3) := by decide +kernel
theorem dX5_tryOne_8 : decode cX5_tryOne 8 = .ok (.aload_n 0, 1) := by decide +kernel
theorem dX5_tryOne_9 : decode cX5_tryOne 9 = .ok (.getfield 37, 3) := by decide +kernel
theorem dX5_tryOne_12 : decode cX5_tryOne 12 = .ok (.getfield 103, 3) := by decide +kernel
theorem dX5_tryOne_15 : decode cX5_tryOne 15 = .ok (.iload_n 2, 1) := by decide +kernel
theorem dX5_tryOne_16 : decode cX5_tryOne 16 = .ok (.baload, 1) := by decide +kernel
theorem dX5_tryOne_17 : decode cX5_tryOne 17 = .ok (.ifCond .ne 25, 3) := by decide +kernel
theorem dX5_tryOne_20 : decode cX5_tryOne 20 = .ok (.aload_n 0, 1) := by decide +kernel
theorem dX5_tryOne_21 : decode cX5_tryOne 21 = .ok (.aload_n 0, 1) := by decide +kernel
theorem dX5_tryOne_22 : decode cX5_tryOne 22 = .ok (.getfield 25, 3) := by decide +kernel
theorem dX5_tryOne_25 : decode cX5_tryOne 25 = .ok (.iload_n 2, 1) := by decide +kernel
theorem dX5_tryOne_26 : decode cX5_tryOne 26 = .ok (.iaload, 1) := by decide +kernel
theorem dX5_tryOne_27 : decode cX5_tryOne 27 = .ok (.aload_n 0, 1) := by decide +kernel
theorem dX5_tryOne_28 : decode cX5_tryOne 28 = .ok (.getfield 28, 3) := by decide +kernel
theorem dX5_tryOne_31 : decode cX5_tryOne 31 = .ok (.iload_n 2, 1) := by decide +kernel
theorem dX5_tryOne_32 : decode cX5_tryOne 32 = .ok (.iaload, 1) := by decide +kernel
theorem dX5_tryOne_33 : decode cX5_tryOne 33 = .ok (.iadd, 1) := by decide +kernel
theorem dX5_tryOne_34 : decode cX5_tryOne 34 = .ok (.iload_n 1, 1) := by decide +kernel
theorem dX5_tryOne_35 : decode cX5_tryOne 35 = .ok (.iadd, 1) := by decide +kernel
theorem dX5_tryOne_36 : decode cX5_tryOne 36 = .ok (.iconst 1, 1) := by decide +kernel
theorem dX5_tryOne_37 : decode cX5_tryOne 37 = .ok (.iload_n 2, 1) := by decide +kernel
theorem dX5_tryOne_38 : decode cX5_tryOne 38 = .ok (.iconst (-1), 1) := by decide +kernel
theorem dX5_tryOne_39 : decode cX5_tryOne 39 = .ok (.invokevirtual 168, 3) := by decide +kernel
theorem dX5_tryOne_42 : decode cX5_tryOne 42 = .ok (.iinc 2 1, 3) := by decide +kernel
theorem dX5_tryOne_45 : decode cX5_tryOne 45 = .ok (.goto (-43), 3) := by decide +kernel
theorem dX5_tryOne_48 : decode cX5_tryOne 48 = .ok (.return_, 1) := by decide +kernel
theorem dX5_tryTwo_0 : decode cX5_tryTwo 0 = .ok (.aload_n 0, 1) := by decide +kernel
theorem dX5_tryTwo_1 : decode cX5_tryTwo 1 = .ok (.getfield 25, 3) := by decide +kernel
theorem dX5_tryTwo_4 : decode cX5_tryTwo 4 = .ok (.iload_n 1, 1) := by decide +kernel
theorem dX5_tryTwo_5 : decode cX5_tryTwo 5 = .ok (.iaload, 1) := by decide +kernel
theorem dX5_tryTwo_6 : decode cX5_tryTwo 6 = .ok (.iconst 2, 1) := by decide +kernel
theorem dX5_tryTwo_7 : decode cX5_tryTwo 7 = .ok (.iload_n 2, 1) := by decide +kernel
theorem dX5_tryTwo_8 : decode cX5_tryTwo 8 = .ok (.imul, 1) := by decide +kernel
theorem dX5_tryTwo_9 : decode cX5_tryTwo 9 = .ok (.iadd, 1) := by decide +kernel
theorem dX5_tryTwo_10 : decode cX5_tryTwo 10 = .ok (.istore_n 3, 1) := by decide +kernel
theorem dX5_tryTwo_11 : decode cX5_tryTwo 11 = .ok (.aload_n 0, 1) := by decide +kernel
theorem dX5_tryTwo_12 : decode cX5_tryTwo 12 = .ok (.getfield 37, 3) := by decide +kernel
theorem dX5_tryTwo_15 : decode cX5_tryTwo 15 = .ok (.getfield 103, 3) := by decide +kernel
theorem dX5_tryTwo_18 : decode cX5_tryTwo 18 = .ok (.iload_n 1, 1) := by decide +kernel
theorem dX5_tryTwo_19 : decode cX5_tryTwo 19 = .ok (.baload, 1) := by decide +kernel
theorem dX5_tryTwo_20 : decode cX5_tryTwo 20 = .ok (.ifCond .ne 11, 3) := by decide +kernel
theorem dX5_tryTwo_23 : decode cX5_tryTwo 23 = .ok (.iload_n 3, 1) := by decide +kernel
theorem dX5_tryTwo_24 : decode cX5_tryTwo 24 = .ok (.aload_n 0, 1) := by decide +kernel
theorem dX5_tryTwo_25 : decode cX5_tryTwo 25 = .ok (.getfield 141, 3) := by decide +kernel
theorem dX5_tryTwo_28 : decode cX5_tryTwo 28 = .ok (.if_icmp .lt 4, 3) := by decide +kernel
theorem dX5_tryTwo_31 : decode cX5_tryTwo 31 = .ok (.return_, 1) := by decide +kernel
theorem dX5_tryTwo_32 : decode cX5_tryTwo 32 = .ok (.aload_n 0, 1) := by decide +kernel
theorem dX5_tryTwo_33 : decode cX5_tryTwo 33 = .ok (.getfield 12, 3) := by decide +kernel
theorem dX5_tryTwo_36 : decode cX5_tryTwo 36 = .ok (.iconst 0, 1) := by decide +kernel
theorem dX5_tryTwo_37 : decode cX5_tryTwo 37 = .ok (.iconst 0, 1) := by decide +kernel
theorem dX5_tryTwo_38 : decode cX5_tryTwo 38 = .ok (.iconst 0, 1) := by decide +kernel
theorem dX5_tryTwo_39 : decode cX5_tryTwo 39 = .ok (.invokevirtual 81, 3) := by decide +kernel
theorem dX5_tryTwo_42 : decode cX5_tryTwo 42 = .ok (.aload_n 0, 1) := by decide +kernel
theorem dX5_tryTwo_43 : decode cX5_tryTwo 43 = .ok (.iload_n 1, 1) := by decide +kernel
theorem dX5_tryTwo_44 : decode cX5_tryTwo 44 = .ok (.invokevirtual 89, 3) := by decide +kernel
theorem dX5_tryTwo_47 : decode cX5_tryTwo 47 = .ok (.iload_n 1, 1) := by decide +kernel
theorem dX5_tryTwo_48 : decode cX5_tryTwo 48 = .ok (.iconst 1, 1) := by decide +kernel
theorem dX5_tryTwo_49 : decode cX5_tryTwo 49 = .ok (.iadd, 1) := by decide +kernel
theorem dX5_tryTwo_50 : decode cX5_tryTwo 50 = .ok (.istore 4, 2) := by decide +kernel
theorem dX5_tryTwo_52 : decode cX5_tryTwo 52 = .ok (.iload 4, 2) := by decide +kernel
theorem dX5_tryTwo_54 : decode cX5_tryTwo 54 = .ok (.bipush 120, 2) := by decide +kernel
theorem dX5_tryTwo_56 : decode cX5_tryTwo 56 = .ok (.if_icmp .ge 77, 3) := by decide +kernel
theorem dX5_tryTwo_59 : decode cX5_tryTwo 59 = .ok (.iload_n 3, 1) := by decide +kernel
theorem dX5_tryTwo_60 : decode cX5_tryTwo 60 = .ok (.aload_n 0, 1) := by decide +kernel
theorem dX5_tryTwo_61 : decode cX5_tryTwo 61 = .ok (.getfield 12, 3) := by decide +kernel
theorem dX5_tryTwo_64 : decode cX5_tryTwo 64 = .ok (.invokevirtual 100, 3) := by decide +kernel
theorem dX5_tryTwo_67 : decode cX5_tryTwo 67 = .ok (.iadd, 1) := by decide +kernel
theorem dX5_tryTwo_68 : decode cX5_tryTwo 68 = .ok (.istore 5, 2) := by decide +kernel
theorem dX5_tryTwo_70 : decode cX5_tryTwo 70 = .ok (.iload 5, 2) := by decide +kernel
theorem dX5_tryTwo_72 : decode cX5_tryTwo 72 = .ok (.aload_n 0, 1) := by decide +kernel
theorem dX5_tryTwo_73 : decode cX5_tryTwo 73 = .ok (.getfield 141, 3) := by decide +kernel
theorem dX5_tryTwo_76 : decode cX5_tryTwo 76 = .ok (.if_icmp .lt 4, 3) := by decide +kernel
theorem dX5_tryTwo_79 : decode cX5_tryTwo 79 = .ok (.return_, 1) := by decide +kernel
theorem dX5_tryTwo_80 : decode cX5_tryTwo 80 = .ok (.aload_n 0, 1) := by decide +kernel
theorem dX5_tryTwo_81 : decode cX5_tryTwo 81 = .ok (.getfield 37, 3) := by decide +kernel
theorem dX5_tryTwo_84 : decode cX5_tryTwo 84 = .ok (.getfield 103, 3) := by decide +kernel
theorem dX5_tryTwo_87 : decode cX5_tryTwo 87 = .ok (.iload 4, 2) := by decide +kernel
theorem dX5_tryTwo_89 : decode cX5_tryTwo 89 = .ok (.baload, 1) := by decide +kernel
theorem dX5_tryTwo_90 : decode cX5_tryTwo 90 = .ok (.ifCond .ne 21, 3) := by decide +kernel
theorem dX5_tryTwo_93 : decode cX5_tryTwo 93 = .ok (.aload_n 0, 1) := by decide +kernel
theorem dX5_tryTwo_94 : decode cX5_tryTwo 94 = .ok (.iload 5, 2) := by decide +kernel
theorem dX5_tryTwo_96 : decode cX5_tryTwo 96 = .ok (.aload_n 0, 1) := by decide +kernel
theorem dX5_tryTwo_97 : decode cX5_tryTwo 97 = .ok (.getfield 28, 3) := by decide +kernel
theorem dX5_tryTwo_100 : decode cX5_tryTwo 100 = .ok (.iload 4, 2) := by decide +kernel
theorem dX5_tryTwo_102 : decode cX5_tryTwo 102 = .ok (.iaload, 1) := by decide +kernel
theorem dX5_tryTwo_103 : decode cX5_tryTwo 103 = .ok (.iadd, 1) := by decide +kernel
theorem dX5_tryTwo_104 : decode cX5_tryTwo 104 = .ok (.iconst 2, 1) := by decide +kernel
theorem dX5_tryTwo_105 : decode cX5_tryTwo 105 = .ok (.iload_n 1, 1) := by decide +kernel
theorem dX5_tryTwo_106 : decode cX5_tryTwo 106 = .ok (.iload 4, 2) := by decide +kernel
theorem dX5_tryTwo_108 : decode cX5_tryTwo 108 = .ok (.invokevirtual 168, 3) := by decide +kernel
theorem dX5_tryTwo_111 : decode cX5_tryTwo 111 = .ok (.aload_n 0, 1) := by decide +kernel
theorem dX5_tryTwo_112 : decode cX5_tryTwo 112 = .ok (.iload 4, 2) := by decide +kernel
theorem dX5_tryTwo_114 : decode cX5_tryTwo 114 = .ok (.invokevirtual 165, 3) := by decide +kernel
theorem dX5_tryTwo_117 : decode cX5_tryTwo 117 = .ok (.ifCond .ne 4, 3) := by decide +kernel
theorem dX5_tryTwo_120 : decode cX5_tryTwo 120 = .ok (.return_, 1) := by decide +kernel
theorem dX5_tryTwo_121 : decode cX5_tryTwo 121 = .ok (.aload_n 0, 1) := by decide +kernel
theorem dX5_tryTwo_122 : decode cX5_tryTwo 122 = .ok (.iload 4, 2) := by decide +kernel
theorem dX5_tryTwo_124 : decode cX5_tryTwo 124 = .ok (.invokevirtual 89, 3) := by decide +kernel
theorem dX5_tryTwo_127 : decode cX5_tryTwo 127 = .ok (.iinc 4 1, 3) := by decide +kernel
theorem dX5_tryTwo_130 : decode cX5_tryTwo 130 = .ok (.goto (-78), 3) := by decide +kernel
theorem dX5_tryTwo_133 : decode cX5_tryTwo 133 = .ok (.return_, 1) := by decide +kernel
theorem dX5_offer_0 : decode cX5_offer 0 = .ok (.iload_n 1, 1) := by decide +kernel
theorem dX5_offer_1 : decode cX5_offer 1 = .ok (.aload_n 0, 1) := by decide +kernel
theorem dX5_offer_2 : decode cX5_offer 2 = .ok (.getfield 141, 3) := by decide +kernel
theorem dX5_offer_5 : decode cX5_offer 5 = .ok (.if_icmp .ge 24, 3) := by decide +kernel
theorem dX5_offer_8 : decode cX5_offer 8 = .ok (.aload_n 0, 1) := by decide +kernel
theorem dX5_offer_9 : decode cX5_offer 9 = .ok (.iload_n 1, 1) := by decide +kernel
theorem dX5_offer_10 : decode cX5_offer 10 = .ok (.putfield 141, 3) := by decide +kernel
theorem dX5_offer_13 : decode cX5_offer 13 = .ok (.aload_n 0, 1) := by decide +kernel
theorem dX5_offer_14 : decode cX5_offer 14 = .ok (.iload_n 2, 1) := by decide +kernel
theorem dX5_offer_15 : decode cX5_offer 15 = .ok (.putfield 144, 3) := by decide +kernel
theorem dX5_offer_18 : decode cX5_offer 18 = .ok (.aload_n 0, 1) := by decide +kernel
theorem dX5_offer_19 : decode cX5_offer 19 = .ok (.iload_n 3, 1) := by decide +kernel
theorem dX5_offer_20 : decode cX5_offer 20 = .ok (.putfield 147, 3) := by decide +kernel
theorem dX5_offer_23 : decode cX5_offer 23 = .ok (.aload_n 0, 1) := by decide +kernel
theorem dX5_offer_24 : decode cX5_offer 24 = .ok (.iload 4, 2) := by decide +kernel
theorem dX5_offer_26 : decode cX5_offer 26 = .ok (.putfield 150, 3) := by decide +kernel
theorem dX5_offer_29 : decode cX5_offer 29 = .ok (.return_, 1) := by decide +kernel
theorem dX6_init_0 : decode cX6_init 0 = .ok (.aload_n 0, 1) := by decide +kernel
theorem dX6_init_1 : decode cX6_init 1 = .ok (.invokespecial 3, 3) := by decide +kernel
theorem dX6_init_4 : decode cX6_init 4 = .ok (.aload_n 0, 1) := by decide +kernel
theorem dX6_init_5 : decode cX6_init 5 = .ok (.bipush 120, 2) := by decide +kernel
theorem dX6_init_7 : decode cX6_init 7 = .ok (.newarray .int, 2) := by decide +kernel
theorem dX6_init_9 : decode cX6_init 9 = .ok (.putfield 9, 3) := by decide +kernel
theorem dX6_init_12 : decode cX6_init 12 = .ok (.aload_n 0, 1) := by decide +kernel
theorem dX6_init_13 : decode cX6_init 13 = .ok (.bipush 120, 2) := by decide +kernel
theorem dX6_init_15 : decode cX6_init 15 = .ok (.newarray .int, 2) := by decide +kernel
theorem dX6_init_17 : decode cX6_init 17 = .ok (.putfield 15, 3) := by decide +kernel
theorem dX6_init_20 : decode cX6_init 20 = .ok (.aload_n 0, 1) := by decide +kernel
theorem dX6_init_21 : decode cX6_init 21 = .ok (.bipush 120, 2) := by decide +kernel
theorem dX6_init_23 : decode cX6_init 23 = .ok (.newarray .int, 2) := by decide +kernel
theorem dX6_init_25 : decode cX6_init 25 = .ok (.putfield 18, 3) := by decide +kernel
theorem dX6_init_28 : decode cX6_init 28 = .ok (.aload_n 0, 1) := by decide +kernel
theorem dX6_init_29 : decode cX6_init 29 = .ok (.bipush 120, 2) := by decide +kernel
theorem dX6_init_31 : decode cX6_init 31 = .ok (.newarray .int, 2) := by decide +kernel
theorem dX6_init_33 : decode cX6_init 33 = .ok (.putfield 21, 3) := by decide +kernel
theorem dX6_init_36 : decode cX6_init 36 = .ok (.aload_n 0, 1) := by decide +kernel
theorem dX6_init_37 : decode cX6_init 37 = .ok (.bipush 120, 2) := by decide +kernel
theorem dX6_init_39 : decode cX6_init 39 = .ok (.newarray .int, 2) := by decide +kernel
theorem dX6_init_41 : decode cX6_init 41 = .ok (.putfield 24, 3) := by decide +kernel
theorem dX6_init_44 : decode cX6_init 44 = .ok (.aload_n 0, 1) := by decide +kernel
theorem dX6_init_45 : decode cX6_init 45 = .ok (.bipush 120, 2) := by decide +kernel
theorem dX6_init_47 : decode cX6_init 47 = .ok (.newarray .boolean, 2) := by decide +kernel
theorem dX6_init_49 : decode cX6_init 49 = .ok (.putfield 27, 3) := by decide +kernel
theorem dX6_init_52 : decode cX6_init 52 = .ok (.aload_n 0, 1) := by decide +kernel
theorem dX6_init_53 : decode cX6_init 53 = .ok (.bipush 24, 2) := by decide +kernel
theorem dX6_init_55 : decode cX6_init 55 = .ok (.newarray .int, 2) := by decide +kernel
theorem dX6_init_57 : decode cX6_init 57 = .ok (.putfield 31, 3) := by decide +kernel
theorem dX6_init_60 : decode cX6_init 60 = .ok (.aload_n 0, 1) := by decide +kernel
theorem dX6_init_61 : decode cX6_init 61 = .ok (.bipush 24, 2) := by decide +kernel
theorem dX6_init_63 : decode cX6_init 63 = .ok (.newarray .int, 2) := by decide +kernel
theorem dX6_init_65 : decode cX6_init 65 = .ok (.putfield 34, 3) := by decide +kernel
theorem dX6_init_68 : decode cX6_init 68 = .ok (.aload_n 0, 1) := by decide +kernel
theorem dX6_init_69 : decode cX6_init 69 = .ok (.bipush 120, 2) := by decide +kernel
theorem dX6_init_71 : decode cX6_init 71 = .ok (.newarray .int, 2) := by decide +kernel
theorem dX6_init_73 : decode cX6_init 73 = .ok (.putfield 37, 3) := by decide +kernel
theorem dX6_init_76 : decode cX6_init 76 = .ok (.aload_n 0, 1) := by decide +kernel
theorem dX6_init_77 : decode cX6_init 77 = .ok (.bipush 120, 2) := by decide +kernel
theorem dX6_init_79 : decode cX6_init 79 = .ok (.newarray .int, 2) := by decide +kernel
theorem dX6_init_81 : decode cX6_init 81 = .ok (.putfield 40, 3) := by decide +kernel
theorem dX6_init_84 : decode cX6_init 84 = .ok (.aload_n 0, 1) := by decide +kernel
theorem dX6_init_85 : decode cX6_init 85 = .ok (.aload_n 1, 1) := by decide +kernel
theorem dX6_init_86 : decode cX6_init 86 = .ok (.putfield 43, 3) := by decide +kernel
theorem dX6_init_89 : decode cX6_init 89 = .ok (.return_, 1) := by decide +kernel
theorem dX6_load_0 : decode cX6_load 0 = .ok (.aload_n 0, 1) := by decide +kernel
theorem dX6_load_1 : decode cX6_load 1 = .ok (.iload_n 1, 1) := by decide +kernel
theorem dX6_load_2 : decode cX6_load 2 = .ok (.putfield 47, 3) := by decide +kernel
theorem dX6_load_5 : decode cX6_load 5 = .ok (.aload_n 0, 1) := by decide +kernel
theorem dX6_load_6 : decode cX6_load 6 = .ok (.invokevirtual 51, 3) := by decide +kernel
theorem dX6_load_9 : decode cX6_load 9 = .ok (.aload_n 0, 1) := by decide +kernel
theorem dX6_load_10 : decode cX6_load 10 = .ok (.invokevirtual 54, 3) := by decide +kernel
theorem dX6_load_13 : decode cX6_load 13 = .ok (.aload_n 0, 1) := by decide +kernel
theorem dX6_load_14 : decode cX6_load 14 = .ok (.invokevirtual 57, 3) := by decide +kernel
theorem dX6_load_17 : decode cX6_load 17 = .ok (.aload_n 0, 1) := by decide +kernel
theorem dX6_load_18 : decode cX6_load 18 = .ok (.invokevirtual 60, 3) := by decide +kernel
theorem dX6_load_21 : decode cX6_load 21 = .ok (.return_, 1) := by decide +kernel
theorem dX6_findLegs_0 : decode cX6_findLegs 0 = .ok (.iconst 0, 1) := by decide +kernel
theorem dX6_findLegs_1 : decode cX6_findLegs 1 = .ok (.istore_n 1, 1) := by decide +kernel
theorem dX6_findLegs_2 : decode cX6_findLegs 2 = .ok (.iload_n 1, 1) := by decide +kernel
theorem dX6_findLegs_3 : decode cX6_findLegs 3 = .ok (.bipush 120, 2) := by decide +kernel
theorem dX6_findLegs_5 : decode cX6_findLegs 5 = .ok (.if_icmp .ge 16, 3) := by decide +kernel
theorem dX6_findLegs_8 : decode cX6_findLegs 8 = .ok (.aload_n 0, 1) := by decide +kernel
theorem dX6_findLegs_9 : decode cX6_findLegs 9 = .ok (.getfield 9, 3) := by decide +kernel
theorem dX6_findLegs_12 : decode cX6_findLegs 12 = .ok (.iload_n 1, 1) := by decide +kernel
theorem dX6_findLegs_13 : decode cX6_findLegs 13 = .ok (.iconst (-1), 1) := by decide +kernel
theorem dX6_findLegs_14 : decode cX6_findLegs 14 = .ok (.iastore, 1) := by decide +kernel
theorem dX6_findLegs_15 : decode cX6_findLegs 15 = .ok (.iinc 1 1, 3) := by decide +kernel
theorem dX6_findLegs_18 : decode cX6_findLegs 18 = .ok (.goto (-16), 3) := by decide +kernel
theorem dX6_findLegs_21 : decode cX6_findLegs 21 = .ok (.aload_n 0, 1) := by decide +kernel
theorem dX6_findLegs_22 : decode cX6_findLegs 22 = .ok (.getfield 43, 3) := by decide +kernel
theorem dX6_findLegs_25 : decode cX6_findLegs 25 = .ok (.getfield 63, 3) := by decide +kernel
theorem dX6_findLegs_28 : decode cX6_findLegs 28 = .ok (.astore_n 1, 1) := by decide +kernel
theorem dX6_findLegs_29 : decode cX6_findLegs 29 = .ok (.iconst 0, 1) := by decide +kernel
theorem dX6_findLegs_30 : decode cX6_findLegs 30 = .ok (.istore_n 2, 1) := by decide +kernel
theorem dX6_findLegs_31 : decode cX6_findLegs 31 = .ok (.iload_n 2, 1) := by decide +kernel
theorem dX6_findLegs_32 : decode cX6_findLegs 32 = .ok (.aload_n 1, 1) := by decide +kernel
theorem dX6_findLegs_33 : decode cX6_findLegs 33 = .ok (.getfield 69, 3) := by decide +kernel
theorem dX6_findLegs_36 : decode cX6_findLegs 36 = .ok (.if_icmp .ge 34, 3) := by decide +kernel
theorem dX6_findLegs_39 : decode cX6_findLegs 39 = .ok (.aload_n 1, 1) := by decide +kernel
theorem dX6_findLegs_40 : decode cX6_findLegs 40 = .ok (.getfield 74, 3) := by decide +kernel
theorem dX6_findLegs_43 : decode cX6_findLegs 43 = .ok (.iload_n 2, 1) := by decide +kernel
theorem dX6_findLegs_44 : decode cX6_findLegs 44 = .ok (.iaload, 1) := by decide +kernel
theorem dX6_findLegs_45 : decode cX6_findLegs 45 = .ok (.aload_n 0, 1) := by decide +kernel
theorem dX6_findLegs_46 : decode cX6_findLegs 46 = .ok (.getfield 47, 3) := by decide +kernel
theorem dX6_findLegs_49 : decode cX6_findLegs 49 = .ok (.if_icmp .ne 15, 3) := by decide +kernel
theorem dX6_findLegs_52 : decode cX6_findLegs 52 = .ok (.aload_n 0, 1) := by decide +kernel
theorem dX6_findLegs_53 : decode cX6_findLegs 53 = .ok (.getfield 9, 3) := by decide +kernel
theorem dX6_findLegs_56 : decode cX6_findLegs 56 = .ok (.aload_n 1, 1) := by decide +kernel
theorem dX6_findLegs_57 : decode cX6_findLegs 57 = .ok (.getfield 76, 3) := by decide +kernel
theorem dX6_findLegs_60 : decode cX6_findLegs 60 = .ok (.iload_n 2, 1) := by decide +kernel
theorem dX6_findLegs_61 : decode cX6_findLegs 61 = .ok (.iaload, 1) := by decide +kernel
theorem dX6_findLegs_62 : decode cX6_findLegs 62 = .ok (.iload_n 2, 1) := by decide +kernel
theorem dX6_findLegs_63 : decode cX6_findLegs 63 = .ok (.iastore, 1) := by decide +kernel
theorem dX6_findLegs_64 : decode cX6_findLegs 64 = .ok (.iinc 2 1, 3) := by decide +kernel
theorem dX6_findLegs_67 : decode cX6_findLegs 67 = .ok (.goto (-36), 3) := by decide +kernel
theorem dX6_findLegs_70 : decode cX6_findLegs 70 = .ok (.iconst 1, 1) := by decide +kernel
theorem dX6_findLegs_71 : decode cX6_findLegs 71 = .ok (.istore_n 2, 1) := by decide +kernel
theorem dX6_findLegs_72 : decode cX6_findLegs 72 = .ok (.iload_n 2, 1) := by decide +kernel
theorem dX6_findLegs_73 : decode cX6_findLegs 73 = .ok (.bipush 120, 2) := by decide +kernel
theorem dX6_findLegs_75 : decode cX6_findLegs 75 = .ok (.if_icmp .ge 33, 3) := by decide +kernel
theorem dX6_findLegs_78 : decode cX6_findLegs 78 = .ok (.aload_n 0, 1) := by decide +kernel
theorem dX6_findLegs_79 : decode cX6_findLegs 79 = .ok (.getfield 9, 3) := by decide +kernel
theorem dX6_findLegs_82 : decode cX6_findLegs 82 = .ok (.iload_n 2, 1) := by decide +kernel
theorem dX6_findLegs_83 : decode cX6_findLegs 83 = .ok (.iaload, 1) := by decide +kernel
theorem dX6_findLegs_84 : decode cX6_findLegs 84 = .ok (.iconst (-1), 1) := by decide +kernel
theorem dX6_findLegs_85 : decode cX6_findLegs 85 = .ok (.if_icmp .ne 17, 3) := by decide +kernel
theorem dX6_findLegs_88 : decode cX6_findLegs 88 = .ok (.aload_n 0, 1) := by decide +kernel
theorem dX6_findLegs_89 : decode cX6_findLegs 89 = .ok (.getfield 9, 3) := by decide +kernel
theorem dX6_findLegs_92 : decode cX6_findLegs 92 = .ok (.iload_n 2, 1) := by decide +kernel
theorem dX6_findLegs_93 : decode cX6_findLegs 93 = .ok (.aload_n 0, 1) := by decide +kernel
theorem dX6_findLegs_94 : decode cX6_findLegs 94 = .ok (.getfield 9, 3) := by decide +kernel
theorem dX6_findLegs_97 : decode cX6_findLegs 97 = .ok (.iload_n 2, 1) := by decide +kernel
theorem dX6_findLegs_98 : decode cX6_findLegs 98 = .ok (.iconst 1, 1) := by decide +kernel
theorem dX6_findLegs_99 : decode cX6_findLegs 99 = .ok (.isub, 1) := by decide +kernel
theorem dX6_findLegs_100 : decode cX6_findLegs 100 = .ok (.iaload, 1) := by decide +kernel
theorem dX6_findLegs_101 : decode cX6_findLegs 101 = .ok (.iastore, 1) := by decide +kernel
theorem dX6_findLegs_102 : decode cX6_findLegs 102 = .ok (.iinc 2 1, 3) := by decide +kernel
theorem dX6_findLegs_105 : decode cX6_findLegs 105 = .ok (.goto (-33), 3) := by decide +kernel
theorem dX6_findLegs_108 : decode cX6_findLegs 108 = .ok (.return_, 1) := by decide +kernel
theorem dX6_findLaws_0 : decode cX6_findLaws 0 = .ok (.iconst 0, 1) := by decide +kernel
theorem dX6_findLaws_1 : decode cX6_findLaws 1 = .ok (.istore_n 1, 1) := by decide +kernel
theorem dX6_findLaws_2 : decode cX6_findLaws 2 = .ok (.iload_n 1, 1) := by decide +kernel
theorem dX6_findLaws_3 : decode cX6_findLaws 3 = .ok (.bipush 120, 2) := by decide +kernel
theorem dX6_findLaws_5 : decode cX6_findLaws 5 = .ok (.if_icmp .ge 124, 3) := by decide +kernel
theorem dX6_findLaws_8 : decode cX6_findLaws 8 = .ok (.aload_n 0, 1) := by decide +kernel
theorem dX6_findLaws_9 : decode cX6_findLaws 9 = .ok (.getfield 9, 3) := by decide +kernel
theorem dX6_findLaws_12 : decode cX6_findLaws 12 = .ok (.iload_n 1, 1) := by decide +kernel
theorem dX6_findLaws_13 : decode cX6_findLaws 13 = .ok (.iaload, 1) := by decide +kernel
theorem dX6_findLaws_14 : decode cX6_findLaws 14 = .ok (.istore_n 2, 1) := by decide +kernel
theorem dX6_findLaws_15 : decode cX6_findLaws 15 = .ok (.aload_n 0, 1) := by decide +kernel
theorem dX6_findLaws_16 : decode cX6_findLaws 16 = .ok (.getfield 15, 3) := by decide +kernel
theorem dX6_findLaws_19 : decode cX6_findLaws 19 = .ok (.iload_n 1, 1) := by decide +kernel
theorem dX6_findLaws_20 : decode cX6_findLaws 20 = .ok (.iload_n 2, 1) := by decide +kernel
theorem dX6_findLaws_21 : decode cX6_findLaws 21 = .ok (.iconst (-1), 1) := by decide +kernel
theorem dX6_findLaws_22 : decode cX6_findLaws 22 = .ok (.if_icmp .ne 7, 3) := by decide +kernel
theorem dX6_findLaws_25 : decode cX6_findLaws 25 = .ok (.iconst 0, 1) := by decide +kernel
theorem dX6_findLaws_26 : decode cX6_findLaws 26 = .ok (.goto 15, 3) := by decide +kernel
theorem dX6_findLaws_29 : decode cX6_findLaws 29 = .ok (.aload_n 0, 1) := by decide +kernel
theorem dX6_findLaws_30 : decode cX6_findLaws 30 = .ok (.getfield 43, 3) := by decide +kernel
theorem dX6_findLaws_33 : decode cX6_findLaws 33 = .ok (.getfield 63, 3) := by decide +kernel
theorem dX6_findLaws_36 : decode cX6_findLaws 36 = .ok (.getfield 79, 3) := by decide +kernel
theorem dX6_findLaws_39 : decode cX6_findLaws 39 = .ok (.iload_n 2, 1) := by decide +kernel
theorem dX6_findLaws_40 : decode cX6_findLaws 40 = .ok (.iaload, 1) := by decide +kernel
theorem dX6_findLaws_41 : decode cX6_findLaws 41 = .ok (.iastore, 1) := by decide +kernel
theorem dX6_findLaws_42 : decode cX6_findLaws 42 = .ok (.iload_n 2, 1) := by decide +kernel
theorem dX6_findLaws_43 : decode cX6_findLaws 43 = .ok (.iconst (-1), 1) := by decide +kernel
theorem dX6_findLaws_44 : decode cX6_findLaws 44 = .ok (.if_icmp .ne 7, 3) := by decide +kernel
theorem dX6_findLaws_47 : decode cX6_findLaws 47 = .ok (.iconst 0, 1) := by decide +kernel
theorem dX6_findLaws_48 : decode cX6_findLaws 48 = .ok (.goto 15, 3) := by decide +kernel
theorem dX6_findLaws_51 : decode cX6_findLaws 51 = .ok (.aload_n 0, 1) := by decide +kernel
theorem dX6_findLaws_52 : decode cX6_findLaws 52 = .ok (.getfield 43, 3) := by decide +kernel
theorem dX6_findLaws_55 : decode cX6_findLaws 55 = .ok (.getfield 63, 3) := by decide +kernel
theorem dX6_findLaws_58 : decode cX6_findLaws 58 = .ok (.getfield 80, 3) := by decide +kernel
theorem dX6_findLaws_61 : decode cX6_findLaws 61 = .ok (.iload_n 2, 1) := by decide +kernel
theorem dX6_findLaws_62 : decode cX6_findLaws 62 = .ok (.iaload, 1) := by decide +kernel
theorem dX6_findLaws_63 : decode cX6_findLaws 63 = .ok (.istore_n 3, 1) := by decide +kernel
theorem dX6_findLaws_64 : decode cX6_findLaws 64 = .ok (.aload_n 0, 1) := by decide +kernel
theorem dX6_findLaws_65 : decode cX6_findLaws 65 = .ok (.getfield 15, 3) := by decide +kernel
theorem dX6_findLaws_68 : decode cX6_findLaws 68 = .ok (.iload_n 1, 1) := by decide +kernel
theorem dX6_findLaws_69 : decode cX6_findLaws 69 = .ok (.iaload, 1) := by decide +kernel
theorem dX6_findLaws_70 : decode cX6_findLaws 70 = .ok (.ifCond .ne 7, 3) := by decide +kernel
theorem dX6_findLaws_73 : decode cX6_findLaws 73 = .ok (.iload_n 3, 1) := by decide +kernel
theorem dX6_findLaws_74 : decode cX6_findLaws 74 = .ok (.goto 15, 3) := by decide +kernel
theorem dX6_findLaws_77 : decode cX6_findLaws 77 = .ok (.bipush 6, 2) := by decide +kernel
theorem dX6_findLaws_79 : decode cX6_findLaws 79 = .ok (.aload_n 0, 1) := by decide +kernel
theorem dX6_findLaws_80 : decode cX6_findLaws 80 = .ok (.getfield 15, 3) := by decide +kernel
theorem dX6_findLaws_83 : decode cX6_findLaws 83 = .ok (.iload_n 1, 1) := by decide +kernel
theorem dX6_findLaws_84 : decode cX6_findLaws 84 = .ok (.iaload, 1) := by decide +kernel
theorem dX6_findLaws_85 : decode cX6_findLaws 85 = .ok (.bipush 8, 2) := by decide +kernel
theorem dX6_findLaws_87 : decode cX6_findLaws 87 = .ok (.idiv, 1) := by decide +kernel
theorem dX6_findLaws_88 : decode cX6_findLaws 88 = .ok (.iadd, 1) := by decide +kernel
theorem dX6_findLaws_89 : decode cX6_findLaws 89 = .ok (.istore 4, 2) := by decide +kernel
theorem dX6_findLaws_91 : decode cX6_findLaws 91 = .ok (.aload_n 0, 1) := by decide +kernel
theorem dX6_findLaws_92 : decode cX6_findLaws 92 = .ok (.getfield 18, 3) := by decide +kernel
theorem dX6_findLaws_95 : decode cX6_findLaws 95 = .ok (.iload_n 1, 1) := by decide +kernel
theorem dX6_findLaws_96 : decode cX6_findLaws 96 = .ok (.aload_n 0, 1) := by decide +kernel
theorem dX6_findLaws_97 : decode cX6_findLaws 97 = .ok (.getfield 43, 3) := by decide +kernel
theorem dX6_findLaws_100 : decode cX6_findLaws 100 = .ok (.getfield 83, 3) := by decide +kernel
theorem dX6_findLaws_103 : decode cX6_findLaws 103 = .ok (.iload 4, 2) := by decide +kernel
theorem dX6_findLaws_105 : decode cX6_findLaws 105 = .ok (.iaload, 1) := by decide +kernel
theorem dX6_findLaws_106 : decode cX6_findLaws 106 = .ok (.iastore, 1) := by decide +kernel
theorem dX6_findLaws_107 : decode cX6_findLaws 107 = .ok (.aload_n 0, 1) := by decide +kernel
theorem dX6_findLaws_108 : decode cX6_findLaws 108 = .ok (.getfield 21, 3) := by decide +kernel
theorem dX6_findLaws_111 : decode cX6_findLaws 111 = .ok (.iload_n 1, 1) := by decide +kernel
theorem dX6_findLaws_112 : decode cX6_findLaws 112 = .ok (.aload_n 0, 1) := by decide +kernel
theorem dX6_findLaws_113 : decode cX6_findLaws 113 = .ok (.getfield 43, 3) := by decide +kernel
theorem dX6_findLaws_116 : decode cX6_findLaws 116 = .ok (.getfield 86, 3) := by decide +kernel
theorem dX6_findLaws_119 : decode cX6_findLaws 119 = .ok (.iload 4, 2) := by decide +kernel
theorem dX6_findLaws_121 : decode cX6_findLaws 121 = .ok (.iaload, 1) := by decide +kernel
theorem dX6_findLaws_122 : decode cX6_findLaws 122 = .ok (.iastore, 1) := by decide +kernel
theorem dX6_findLaws_123 : decode cX6_findLaws 123 = .ok (.iinc 1 1, 3) := by decide +kernel
theorem dX6_findLaws_126 : decode cX6_findLaws 126 = .ok (.goto (-124), 3) := by decide +kernel
theorem dX6_findLaws_129 : decode cX6_findLaws 129 = .ok (.return_, 1) := by decide +kernel
theorem dX6_findCleanings_0 : decode cX6_findCleanings 0 = .ok (.iconst 0, 1) := by decide +kernel
theorem dX6_findCleanings_1 : decode cX6_findCleanings 1 = .ok (.istore_n 1, 1) := by decide +kernel
theorem dX6_findCleanings_2 : decode cX6_findCleanings 2 = .ok (.iload_n 1, 1) := by decide +kernel
theorem dX6_findCleanings_3 : decode cX6_findCleanings 3 = .ok (.bipush 120, 2) := by decide +kernel
theorem dX6_findCleanings_5 : decode cX6_findCleanings 5 = .ok (.if_icmp .ge 25, 3) := by decide +kernel
theorem dX6_findCleanings_8 : decode cX6_findCleanings 8 = .ok (.aload_n 0, 1) := by decide +kernel
theorem dX6_findCleanings_9 : decode cX6_findCleanings 9 = .ok (.getfield 27, 3) := by decide +kernel
theorem dX6_findCleanings_12 : decode cX6_findCleanings 12 = .ok (.iload_n 1, 1) := by decide +kernel
theorem dX6_findCleanings_13 : decode cX6_findCleanings 13 = .ok (.iconst 0, 1) := by decide +kernel
theorem dX6_findCleanings_14 : decode cX6_findCleanings 14 = .ok (.bastore, 1) := by decide +kernel
theorem dX6_findCleanings_15 : decode cX6_findCleanings 15 = .ok (.aload_n 0, 1) := by decide +kernel
theorem dX6_findCleanings_16 : decode cX6_findCleanings 16 = .ok (.getfield 24, 3) := by decide +kernel
theorem dX6_findCleanings_19 : decode cX6_findCleanings 19 = .ok (.iload_n 1, 1) := by decide +kernel
theorem dX6_findCleanings_20 : decode cX6_findCleanings 20 = .ok (.sipush 1000, 3) := by decide +kernel
theorem dX6_findCleanings_23 : decode cX6_findCleanings 23 = .ok (.iastore, 1) := by decide +kernel
theorem dX6_findCleanings_24 : decode cX6_findCleanings 24 = .ok (.iinc 1 1, 3) := by decide +kernel
theorem dX6_findCleanings_27 : decode cX6_findCleanings 27 = .ok (.goto (-25), 3) := by decide +kernel
theorem dX6_findCleanings_30 : decode cX6_findCleanings 30 = .ok (.iconst 0, 1) := by decide +kernel
theorem dX6_findCleanings_31 : decode cX6_findCleanings 31 = .ok (.istore_n 1, 1) := by decide +kernel
theorem dX6_findCleanings_32 : decode cX6_findCleanings 32 = .ok (.iload_n 1, 1) := by decide +kernel
theorem dX6_findCleanings_33 : decode cX6_findCleanings 33 = .ok (.aload_n 0, 1) := by decide +kernel
theorem dX6_findCleanings_34 : decode cX6_findCleanings 34 = .ok (.getfield 43, 3) := by decide +kernel
theorem dX6_findCleanings_37 : decode cX6_findCleanings 37 = .ok (.getfield 89, 3) := by decide +kernel
theorem dX6_findCleanings_40 : decode cX6_findCleanings 40 = .ok (.if_icmp .ge 63, 3) := by decide +kernel
theorem dX6_findCleanings_43 : decode cX6_findCleanings 43 = .ok (.aload_n 0, 1) := by decide +kernel
theorem dX6_findCleanings_44 : decode cX6_findCleanings 44 = .ok (.getfield 43, 3) := by decide +kernel
theorem dX6_findCleanings_47 : decode cX6_findCleanings 47 = .ok (.getfield 92, 3) := by decide +kernel
theorem dX6_findCleanings_50 : decode cX6_findCleanings 50 = .ok (.iload_n 1, 1) := by decide +kernel
theorem dX6_findCleanings_51 : decode cX6_findCleanings 51 = .ok (.iaload, 1) := by decide +kernel
theorem dX6_findCleanings_52 : decode cX6_findCleanings 52 = .ok (.aload_n 0, 1) := by decide +kernel
theorem dX6_findCleanings_53 : decode cX6_findCleanings 53 = .ok (.getfield 47, 3) := by decide +kernel
theorem dX6_findCleanings_56 : decode cX6_findCleanings 56 = .ok (.if_icmp .ne 41, 3) := by decide +kernel
theorem dX6_findCleanings_59 : decode cX6_findCleanings 59 = .ok (.aload_n 0, 1) := by decide +kernel
theorem dX6_findCleanings_60 : decode cX6_findCleanings 60 = .ok (.getfield 27, 3) := by decide +kernel
theorem dX6_findCleanings_63 : decode cX6_findCleanings 63 = .ok (.aload_n 0, 1) := by decide +kernel
theorem dX6_findCleanings_64 : decode cX6_findCleanings 64 = .ok (.getfield 43, 3) := by decide +kernel
theorem dX6_findCleanings_67 : decode cX6_findCleanings 67 = .ok (.getfield 95, 3) := by decide +kernel
theorem dX6_findCleanings_70 : decode cX6_findCleanings 70 = .ok (.iload_n 1, 1) := by decide +kernel
theorem dX6_findCleanings_71 : decode cX6_findCleanings 71 = .ok (.iaload, 1) := by decide +kernel
theorem dX6_findCleanings_72 : decode cX6_findCleanings 72 = .ok (.iconst 1, 1) := by decide +kernel
theorem dX6_findCleanings_73 : decode cX6_findCleanings 73 = .ok (.bastore, 1) := by decide +kernel
theorem dX6_findCleanings_74 : decode cX6_findCleanings 74 = .ok (.aload_n 0, 1) := by decide +kernel
theorem dX6_findCleanings_75 : decode cX6_findCleanings 75 = .ok (.getfield 24, 3) := by decide +kernel
theorem dX6_findCleanings_78 : decode cX6_findCleanings 78 = .ok (.aload_n 0, 1) := by decide +kernel
theorem dX6_findCleanings_79 : decode cX6_findCleanings 79 = .ok (.getfield 43, 3) := by decide +kernel
theorem dX6_findCleanings_82 : decode cX6_findCleanings 82 = .ok (.getfield 95, 3) := by decide +kernel
theorem dX6_findCleanings_85 : decode cX6_findCleanings 85 = .ok (.iload_n 1, 1) := by decide +kernel
theorem dX6_findCleanings_86 : decode cX6_findCleanings 86 = .ok (.iaload, 1) := by decide +kernel
theorem dX6_findCleanings_87 : decode cX6_findCleanings 87 = .ok (.aload_n 0, 1) := by decide +kernel
theorem dX6_findCleanings_88 : decode cX6_findCleanings 88 = .ok (.getfield 43, 3) := by decide +kernel
theorem dX6_findCleanings_91 : decode cX6_findCleanings 91 = .ok (.getfield 98, 3) := by decide +kernel
theorem dX6_findCleanings_94 : decode cX6_findCleanings 94 = .ok (.iload_n 1, 1) := by decide +kernel
theorem dX6_findCleanings_95 : decode cX6_findCleanings 95 = .ok (.iaload, 1) := by decide +kernel
theorem dX6_findCleanings_96 : decode cX6_findCleanings 96 = .ok (.iastore, 1) := by decide +kernel
theorem dX6_findCleanings_97 : decode cX6_findCleanings 97 = .ok (.iinc 1 1, 3) := by decide +kernel
theorem dX6_findCleanings_100 : decode cX6_findCleanings 100 = .ok (.goto (-68), 3) := by decide +kernel
theorem dX6_findCleanings_103 : decode cX6_findCleanings 103 = .ok (.return_, 1) := by decide +kernel
theorem dX6_readLogs_0 : decode cX6_readLogs 0 = .ok (.aload_n 0, 1) := by decide +kernel
theorem dX6_readLogs_1 : decode cX6_readLogs 1 = .ok (.getfield 43, 3) := by decide +kernel
theorem dX6_readLogs_4 : decode cX6_readLogs 4 = .ok (.getfield 101, 3) := by decide +kernel
theorem dX6_readLogs_7 : decode cX6_readLogs 7 = .ok (.astore_n 1, 1) := by decide +kernel
theorem dX6_readLogs_8 : decode cX6_readLogs 8 = .ok (.aload_n 0, 1) := by decide +kernel
theorem dX6_readLogs_9 : decode cX6_readLogs 9 = .ok (.iconst 0, 1) := by decide +kernel
theorem dX6_readLogs_10 : decode cX6_readLogs 10 = .ok (.putfield 105, 3) := by decide +kernel
theorem dX6_readLogs_13 : decode cX6_readLogs 13 = .ok (.iconst 0, 1) := by decide +kernel
theorem dX6_readLogs_14 : decode cX6_readLogs 14 = .ok (.istore_n 2, 1) := by decide +kernel
theorem dX6_readLogs_15 : decode cX6_readLogs 15 = .ok (.iload_n 2, 1) := by decide +kernel
theorem dX6_readLogs_16 : decode cX6_readLogs 16 = .ok (.aload_n 1, 1) := by decide +kernel
theorem dX6_readLogs_17 : decode cX6_readLogs 17 = .ok (.getfield 108, 3) := by decide +kernel
theorem dX6_readLogs_20 : decode cX6_readLogs 20 = .ok (.if_icmp .ge 77, 3) := by decide +kernel
theorem dX6_readLogs_23 : decode cX6_readLogs 23 = .ok (.aload_n 1, 1) := by decide +kernel
theorem dX6_readLogs_24 : decode cX6_readLogs 24 = .ok (.getfield 111, 3) := by decide +kernel
theorem dX6_readLogs_27 : decode cX6_readLogs 27 = .ok (.iload_n 2, 1) := by decide +kernel
theorem dX6_readLogs_28 : decode cX6_readLogs 28 = .ok (.iaload, 1) := by decide +kernel
theorem dX6_readLogs_29 : decode cX6_readLogs 29 = .ok (.aload_n 0, 1) := by decide +kernel
theorem dX6_readLogs_30 : decode cX6_readLogs 30 = .ok (.getfield 47, 3) := by decide +kernel
theorem dX6_readLogs_33 : decode cX6_readLogs 33 = .ok (.if_icmp .eq 6, 3) := by decide +kernel
theorem dX6_readLogs_36 : decode cX6_readLogs 36 = .ok (.goto 55, 3) := by decide +kernel
theorem dX6_readLogs_39 : decode cX6_readLogs 39 = .ok (.aload_n 1, 1) := by decide +kernel
theorem dX6_readLogs_40 : decode cX6_readLogs 40 = .ok (.getfield 112, 3) := by decide +kernel
theorem dX6_readLogs_43 : decode cX6_readLogs 43 = .ok (.iload_n 2, 1) := by decide +kernel
theorem dX6_readLogs_44 : decode cX6_readLogs 44 = .ok (.baload, 1) := by decide +kernel
theorem dX6_readLogs_45 : decode cX6_readLogs 45 = .ok (.ifCond .eq 23, 3) := by decide +kernel
theorem dX6_readLogs_48 : decode cX6_readLogs 48 = .ok (.aload_n 0, 1) := by decide +kernel
theorem dX6_readLogs_49 : decode cX6_readLogs 49 = .ok (.iload_n 2, 1) := by decide +kernel
theorem dX6_readLogs_50 : decode cX6_readLogs 50 = .ok (.aload_n 1, 1) := by decide +kernel
theorem dX6_readLogs_51 : decode cX6_readLogs 51 = .ok (.getfield 115, 3) := by decide +kernel
theorem dX6_readLogs_54 : decode cX6_readLogs 54 = .ok (.iload_n 2, 1) := by decide +kernel
theorem dX6_readLogs_55 : decode cX6_readLogs 55 = .ok (.iaload, 1) := by decide +kernel
theorem dX6_readLogs_56 : decode cX6_readLogs 56 = .ok (.aload_n 1, 1) := by decide +kernel
theorem dX6_readLogs_57 : decode cX6_readLogs 57 = .ok (.getfield 118, 3) := by decide +kernel
theorem dX6_readLogs_60 : decode cX6_readLogs 60 = .ok (.iload_n 2, 1) := by decide +kernel
theorem dX6_readLogs_61 : decode cX6_readLogs 61 = .ok (.iaload, 1) := by decide +kernel
theorem dX6_readLogs_62 : decode cX6_readLogs 62 = .ok (.invokevirtual 121, 3) := by decide +kernel
theorem dX6_readLogs_65 : decode cX6_readLogs 65 = .ok (.goto 26, 3) := by decide +kernel
theorem dX6_readLogs_68 : decode cX6_readLogs 68 = .ok (.aload_n 0, 1) := by decide +kernel
theorem dX6_readLogs_69 : decode cX6_readLogs 69 = .ok (.iload_n 2, 1) := by decide +kernel
theorem dX6_readLogs_70 : decode cX6_readLogs 70 = .ok (.aload_n 1, 1) := by decide +kernel
theorem dX6_readLogs_71 : decode cX6_readLogs 71 = .ok (.getfield 125, 3) := by decide +kernel
theorem dX6_readLogs_74 : decode cX6_readLogs 74 = .ok (.iload_n 2, 1) := by decide +kernel
theorem dX6_readLogs_75 : decode cX6_readLogs 75 = .ok (.iaload, 1) := by decide +kernel
theorem dX6_readLogs_76 : decode cX6_readLogs 76 = .ok (.aload_n 1, 1) := by decide +kernel
theorem dX6_readLogs_77 : decode cX6_readLogs 77 = .ok (.getfield 115, 3) := by decide +kernel
theorem dX6_readLogs_80 : decode cX6_readLogs 80 = .ok (.iload_n 2, 1) := by decide +kernel
theorem dX6_readLogs_81 : decode cX6_readLogs 81 = .ok (.iaload, 1) := by decide +kernel
theorem dX6_readLogs_82 : decode cX6_readLogs 82 = .ok (.aload_n 1, 1) := by decide +kernel
theorem dX6_readLogs_83 : decode cX6_readLogs 83 = .ok (.getfield 118, 3) := by decide +kernel
theorem dX6_readLogs_86 : decode cX6_readLogs 86 = .ok (.iload_n 2, 1) := by decide +kernel
theorem dX6_readLogs_87 : decode cX6_readLogs 87 = .ok (.iaload, 1) := by decide +kernel
theorem dX6_readLogs_88 : decode cX6_readLogs 88 = .ok (.invokevirtual 126, 3) := by decide +kernel
theorem dX6_readLogs_91 : decode cX6_readLogs 91 = .ok (.iinc 2 1, 3) := by decide +kernel
theorem dX6_readLogs_94 : decode cX6_readLogs 94 = .ok (.goto (-79), 3) := by decide +kernel
theorem dX6_readLogs_97 : decode cX6_readLogs 97 = .ok (.return_, 1) := by decide +kernel
theorem dX6_readFuel_0 : decode cX6_readFuel 0 = .ok (.aload_n 0, 1) := by decide +kernel
theorem dX6_readFuel_1 : decode cX6_readFuel 1 = .ok (.getfield 15, 3) := by decide +kernel
theorem dX6_readFuel_4 : decode cX6_readFuel 4 = .ok (.iload_n 2, 1) := by decide +kernel
theorem dX6_readFuel_5 : decode cX6_readFuel 5 = .ok (.iaload, 1) := by decide +kernel
theorem dX6_readFuel_6 : decode cX6_readFuel 6 = .ok (.aload_n 0, 1) := by decide +kernel
theorem dX6_readFuel_7 : decode cX6_readFuel 7 = .ok (.getfield 15, 3) := by decide +kernel
theorem dX6_readFuel_10 : decode cX6_readFuel 10 = .ok (.iload_n 2, 1) := by decide +kernel
theorem dX6_readFuel_11 : decode cX6_readFuel 11 = .ok (.iaload, 1) := by decide +kernel
theorem dX6_readFuel_12 : decode cX6_readFuel 12 = .ok (.imul, 1) := by decide +kernel
theorem dX6_readFuel_13 : decode cX6_readFuel 13 = .ok (.istore 5, 2) := by decide +kernel
theorem dX6_readFuel_15 : decode cX6_readFuel 15 = .ok (.iload 5, 2) := by decide +kernel
theorem dX6_readFuel_17 : decode cX6_readFuel 17 = .ok (.ifCond .ne 11, 3) := by decide +kernel
theorem dX6_readFuel_20 : decode cX6_readFuel 20 = .ok (.aload_n 0, 1) := by decide +kernel
theorem dX6_readFuel_21 : decode cX6_readFuel 21 = .ok (.iload_n 1, 1) := by decide +kernel
theorem dX6_readFuel_22 : decode cX6_readFuel 22 = .ok (.iconst 1, 1) := by decide +kernel
theorem dX6_readFuel_23 : decode cX6_readFuel 23 = .ok (.iconst 0, 1) := by decide +kernel
theorem dX6_readFuel_24 : decode cX6_readFuel 24 = .ok (.invokevirtual 121, 3) := by decide +kernel
theorem dX6_readFuel_27 : decode cX6_readFuel 27 = .ok (.return_, 1) := by decide +kernel
theorem dX6_readFuel_28 : decode cX6_readFuel 28 = .ok (.aload_n 0, 1) := by decide +kernel
theorem dX6_readFuel_29 : decode cX6_readFuel 29 = .ok (.iconst 0, 1) := by decide +kernel
theorem dX6_readFuel_30 : decode cX6_readFuel 30 = .ok (.iload_n 2, 1) := by decide +kernel
theorem dX6_readFuel_31 : decode cX6_readFuel 31 = .ok (.iconst 0, 1) := by decide +kernel
theorem dX6_readFuel_32 : decode cX6_readFuel 32 = .ok (.invokevirtual 130, 3) := by decide +kernel
theorem dX6_readFuel_35 : decode cX6_readFuel 35 = .ok (.aload_n 0, 1) := by decide +kernel
theorem dX6_readFuel_36 : decode cX6_readFuel 36 = .ok (.iconst 1, 1) := by decide +kernel
theorem dX6_readFuel_37 : decode cX6_readFuel 37 = .ok (.iload_n 2, 1) := by decide +kernel
theorem dX6_readFuel_38 : decode cX6_readFuel 38 = .ok (.iconst 0, 1) := by decide +kernel
theorem dX6_readFuel_39 : decode cX6_readFuel 39 = .ok (.invokevirtual 130, 3) := by decide +kernel
theorem dX6_readFuel_42 : decode cX6_readFuel 42 = .ok (.iadd, 1) := by decide +kernel
theorem dX6_readFuel_43 : decode cX6_readFuel 43 = .ok (.aload_n 0, 1) := by decide +kernel
theorem dX6_readFuel_44 : decode cX6_readFuel 44 = .ok (.iconst 2, 1) := by decide +kernel
theorem dX6_readFuel_45 : decode cX6_readFuel 45 = .ok (.iload_n 2, 1) := by decide +kernel
theorem dX6_readFuel_46 : decode cX6_readFuel 46 = .ok (.iconst 0, 1) := by decide +kernel
theorem dX6_readFuel_47 : decode cX6_readFuel 47 = .ok (.invokevirtual 130, 3) := by decide +kernel
theorem dX6_readFuel_50 : decode cX6_readFuel 50 = .ok (.iadd, 1) := by decide +kernel
theorem dX6_readFuel_51 : decode cX6_readFuel 51 = .ok (.istore 6, 2) := by decide +kernel
theorem dX6_readFuel_53 : decode cX6_readFuel 53 = .ok (.iload 6, 2) := by decide +kernel
theorem dX6_readFuel_55 : decode cX6_readFuel 55 = .ok (.bipush 100, 2) := by decide +kernel
theorem dX6_readFuel_57 : decode cX6_readFuel 57 = .ok (.iload_n 3, 1) := by decide +kernel
theorem dX6_readFuel_58 : decode cX6_readFuel 58 = .ok (.iload 4, 2) := by decide +kernel
theorem dX6_readFuel_60 : decode cX6_readFuel 60 = .ok (.isub, 1) := by decide +kernel
theorem dX6_readFuel_61 : decode cX6_readFuel 61 = .ok (.imul, 1) := by decide +kernel
theorem dX6_readFuel_62 : decode cX6_readFuel 62 = .ok (.isub, 1) := by decide +kernel
theorem dX6_readFuel_63 : decode cX6_readFuel 63 = .ok (.iload 5, 2) := by decide +kernel
theorem dX6_readFuel_65 : decode cX6_readFuel 65 = .ok (.invokestatic 134, 3) := by decide +kernel
theorem dX6_readFuel_68 : decode cX6_readFuel 68 = .ok (.ineg, 1) := by decide +kernel
theorem dX6_readFuel_69 : decode cX6_readFuel 69 = .ok (.istore 7, 2) := by decide +kernel
theorem dX6_readFuel_71 : decode cX6_readFuel 71 = .ok (.bipush 100, 2) := by decide +kernel
theorem dX6_readFuel_73 : decode cX6_readFuel 73 = .ok (.iload_n 3, 1) := by decide +kernel
theorem dX6_readFuel_74 : decode cX6_readFuel 74 = .ok (.iload 4, 2) := by decide +kernel
theorem dX6_readFuel_76 : decode cX6_readFuel 76 = .ok (.iadd, 1) := by decide +kernel
theorem dX6_readFuel_77 : decode cX6_readFuel 77 = .ok (.imul, 1) := by decide +kernel
theorem dX6_readFuel_78 : decode cX6_readFuel 78 = .ok (.bipush 99, 2) := by decide +kernel
theorem dX6_readFuel_80 : decode cX6_readFuel 80 = .ok (.iadd, 1) := by decide +kernel
theorem dX6_readFuel_81 : decode cX6_readFuel 81 = .ok (.iload 6, 2) := by decide +kernel
theorem dX6_readFuel_83 : decode cX6_readFuel 83 = .ok (.isub, 1) := by decide +kernel
theorem dX6_readFuel_84 : decode cX6_readFuel 84 = .ok (.iload 5, 2) := by decide +kernel
theorem dX6_readFuel_86 : decode cX6_readFuel 86 = .ok (.invokestatic 134, 3) := by decide +kernel
theorem dX6_readFuel_89 : decode cX6_readFuel 89 = .ok (.istore 8, 2) := by decide +kernel
theorem dX6_readFuel_91 : decode cX6_readFuel 91 = .ok (.aload_n 0, 1) := by decide +kernel
theorem dX6_readFuel_92 : decode cX6_readFuel 92 = .ok (.iload_n 1, 1) := by decide +kernel
theorem dX6_readFuel_93 : decode cX6_readFuel 93 = .ok (.iload 7, 2) := by decide +kernel
theorem dX6_readFuel_95 : decode cX6_readFuel 95 = .ok (.iconst 0, 1) := by decide +kernel
theorem dX6_readFuel_96 : decode cX6_readFuel 96 = .ok (.invokestatic 140, 3) := by decide +kernel
theorem dX6_readFuel_99 : decode cX6_readFuel 99 = .ok (.iload 8, 2) := by decide +kernel
theorem dX6_readFuel_101 : decode cX6_readFuel 101 = .ok (.sipush 1000, 3) := by decide +kernel
theorem dX6_readFuel_104 : decode cX6_readFuel 104 = .ok (.invokestatic 143, 3) := by decide +kernel
theorem dX6_readFuel_107 : decode cX6_readFuel 107 = .ok (.invokevirtual 121, 3) := by decide +kernel
theorem dX6_readFuel_110 : decode cX6_readFuel 110 = .ok (.return_, 1) := by decide +kernel
theorem dX6_keepReading_0 : decode cX6_keepReading 0 = .ok (.iload_n 2, 1) := by decide +kernel
theorem dX6_keepReading_1 : decode cX6_keepReading 1 = .ok (.iload_n 3, 1) := by decide +kernel
theorem dX6_keepReading_2 : decode cX6_keepReading 2 = .ok (.if_icmp .gt 7, 3) := by decide +kernel
theorem dX6_keepReading_5 : decode cX6_keepReading 5 = .ok (.iconst 1, 1) := by decide +kernel
theorem dX6_keepReading_6 : decode cX6_keepReading 6 = .ok (.goto 4, 3) := by decide +kernel
theorem dX6_keepReading_9 : decode cX6_keepReading 9 = .ok (.iconst 0, 1) := by decide +kernel
theorem dX6_keepReading_10 : decode cX6_keepReading 10 = .ok (.istore 4, 2) := by decide +kernel
theorem dX6_keepReading_12 : decode cX6_keepReading 12 = .ok (.aload_n 0, 1) := by decide +kernel
theorem dX6_keepReading_13 : decode cX6_keepReading 13 = .ok (.getfield 31, 3) := by decide +kernel
theorem dX6_keepReading_16 : decode cX6_keepReading 16 = .ok (.iload_n 1, 1) := by decide +kernel
theorem dX6_keepReading_17 : decode cX6_keepReading 17 = .ok (.iload 4, 2) := by decide +kernel
theorem dX6_keepReading_19 : decode cX6_keepReading 19 = .ok (.ifCond .eq 7, 3) := by decide +kernel
theorem dX6_keepReading_22 : decode cX6_keepReading 22 = .ok (.iload_n 2, 1) := by decide +kernel
theorem dX6_keepReading_23 : decode cX6_keepReading 23 = .ok (.goto 4, 3) := by decide +kernel
theorem dX6_keepReading_26 : decode cX6_keepReading 26 = .ok (.iconst (-1), 1) := by decide +kernel
theorem dX6_keepReading_27 : decode cX6_keepReading 27 = .ok (.iastore, 1) := by decide +kernel
theorem dX6_keepReading_28 : decode cX6_keepReading 28 = .ok (.aload_n 0, 1) := by decide +kernel
theorem dX6_keepReading_29 : decode cX6_keepReading 29 = .ok (.getfield 34, 3) := by decide +kernel
theorem dX6_keepReading_32 : decode cX6_keepReading 32 = .ok (.iload_n 1, 1) := by decide +kernel
theorem dX6_keepReading_33 : decode cX6_keepReading 33 = .ok (.iload 4, 2) := by decide +kernel
theorem dX6_keepReading_35 : decode cX6_keepReading 35 = .ok (.ifCond .eq 7, 3) := by decide +kernel
theorem dX6_keepReading_38 : decode cX6_keepReading 38 = .ok (.iload_n 3, 1) := by decide +kernel
theorem dX6_keepReading_39 : decode cX6_keepReading 39 = .ok (.goto 4, 3) := by decide +kernel
theorem dX6_keepReading_42 : decode cX6_keepReading 42 = .ok (.iconst (-1), 1) := by decide +kernel
theorem dX6_keepReading_43 : decode cX6_keepReading 43 = .ok (.iastore, 1) := by decide +kernel
theorem dX6_keepReading_44 : decode cX6_keepReading 44 = .ok (.iload 4, 2) := by decide +kernel
theorem dX6_keepReading_46 : decode cX6_keepReading 46 = .ok (.ifCond .eq 15, 3) := by decide +kernel
theorem dX6_keepReading_49 : decode cX6_keepReading 49 = .ok (.aload_n 0, 1) := by decide +kernel
theorem dX6_keepReading_50 : decode cX6_keepReading 50 = .ok (.dup, 1) := by decide +kernel
theorem dX6_keepReading_51 : decode cX6_keepReading 51 = .ok (.getfield 105, 3) := by decide +kernel
theorem dX6_keepReading_54 : decode cX6_keepReading 54 = .ok (.iconst 1, 1) := by decide +kernel
theorem dX6_keepReading_55 : decode cX6_keepReading 55 = .ok (.iload_n 1, 1) := by decide +kernel
theorem dX6_keepReading_56 : decode cX6_keepReading 56 = .ok (.ishl, 1) := by decide +kernel
theorem dX6_keepReading_57 : decode cX6_keepReading 57 = .ok (.ior, 1) := by decide +kernel
theorem dX6_keepReading_58 : decode cX6_keepReading 58 = .ok (.putfield 105, 3) := by decide +kernel
theorem dX6_keepReading_61 : decode cX6_keepReading 61 = .ok (.return_, 1) := by decide +kernel
theorem dX6_counting_0 : decode cX6_counting 0 = .ok (.aload_n 0, 1) := by decide +kernel
theorem dX6_counting_1 : decode cX6_counting 1 = .ok (.getfield 43, 3) := by decide +kernel
theorem dX6_counting_4 : decode cX6_counting 4 = .ok (.getfield 101, 3) := by decide +kernel
theorem dX6_counting_7 : decode cX6_counting 7 = .ok (.astore_n 2, 1) := by decide +kernel
theorem dX6_counting_8 : decode cX6_counting 8 = .ok (.iconst 0, 1) := by decide +kernel
theorem dX6_counting_9 : decode cX6_counting 9 = .ok (.istore_n 3, 1) := by decide +kernel
theorem dX6_counting_10 : decode cX6_counting 10 = .ok (.iconst 0, 1) := by decide +kernel
theorem dX6_counting_11 : decode cX6_counting 11 = .ok (.istore 4, 2) := by decide +kernel
theorem dX6_counting_13 : decode cX6_counting 13 = .ok (.iload 4, 2) := by decide +kernel
theorem dX6_counting_15 : decode cX6_counting 15 = .ok (.aload_n 2, 1) := by decide +kernel
theorem dX6_counting_16 : decode cX6_counting 16 = .ok (.getfield 108, 3) := by decide +kernel
theorem dX6_counting_19 : decode cX6_counting 19 = .ok (.if_icmp .ge 37, 3) := by decide +kernel
theorem dX6_counting_22 : decode cX6_counting 22 = .ok (.aload_n 2, 1) := by decide +kernel
theorem dX6_counting_23 : decode cX6_counting 23 = .ok (.getfield 146, 3) := by decide +kernel
theorem dX6_counting_26 : decode cX6_counting 26 = .ok (.iload 4, 2) := by decide +kernel
theorem dX6_counting_28 : decode cX6_counting 28 = .ok (.iaload, 1) := by decide +kernel
theorem dX6_counting_29 : decode cX6_counting 29 = .ok (.iload_n 1, 1) := by decide +kernel
theorem dX6_counting_30 : decode cX6_counting 30 = .ok (.if_icmp .gt 20, 3) := by decide +kernel
theorem dX6_counting_33 : decode cX6_counting 33 = .ok (.aload_n 2, 1) := by decide +kernel
theorem dX6_counting_34 : decode cX6_counting 34 = .ok (.getfield 149, 3) := by decide +kernel
theorem dX6_counting_37 : decode cX6_counting 37 = .ok (.iload 4, 2) := by decide +kernel
theorem dX6_counting_39 : decode cX6_counting 39 = .ok (.baload, 1) := by decide +kernel
theorem dX6_counting_40 : decode cX6_counting 40 = .ok (.ifCond .ne 10, 3) := by decide +kernel
theorem dX6_counting_43 : decode cX6_counting 43 = .ok (.iload_n 3, 1) := by decide +kernel
theorem dX6_counting_44 : decode cX6_counting 44 = .ok (.iconst 1, 1) := by decide +kernel
theorem dX6_counting_45 : decode cX6_counting 45 = .ok (.iload 4, 2) := by decide +kernel
theorem dX6_counting_47 : decode cX6_counting 47 = .ok (.ishl, 1) := by decide +kernel
theorem dX6_counting_48 : decode cX6_counting 48 = .ok (.ior, 1) := by decide +kernel
theorem dX6_counting_49 : decode cX6_counting 49 = .ok (.istore_n 3, 1) := by decide +kernel
theorem dX6_counting_50 : decode cX6_counting 50 = .ok (.iinc 4 1, 3) := by decide +kernel
theorem dX6_counting_53 : decode cX6_counting 53 = .ok (.goto (-40), 3) := by decide +kernel
theorem dX6_counting_56 : decode cX6_counting 56 = .ok (.iload_n 3, 1) := by decide +kernel
theorem dX6_counting_57 : decode cX6_counting 57 = .ok (.aload_n 0, 1) := by decide +kernel
theorem dX6_counting_58 : decode cX6_counting 58 = .ok (.getfield 105, 3) := by decide +kernel
theorem dX6_counting_61 : decode cX6_counting 61 = .ok (.iand, 1) := by decide +kernel
theorem dX6_counting_62 : decode cX6_counting 62 = .ok (.ireturn, 1) := by decide +kernel
theorem dX6_portion_0 : decode cX6_portion 0 = .ok (.aload_n 0, 1) := by decide +kernel
theorem dX6_portion_1 : decode cX6_portion 1 = .ok (.getfield 15, 3) := by decide +kernel
theorem dX6_portion_4 : decode cX6_portion 4 = .ok (.iload_n 2, 1) := by decide +kernel
theorem dX6_portion_5 : decode cX6_portion 5 = .ok (.iaload, 1) := by decide +kernel
theorem dX6_portion_6 : decode cX6_portion 6 = .ok (.istore 4, 2) := by decide +kernel
theorem dX6_portion_8 : decode cX6_portion 8 = .ok (.aload_n 0, 1) := by decide +kernel
theorem dX6_portion_9 : decode cX6_portion 9 = .ok (.getfield 9, 3) := by decide +kernel
theorem dX6_portion_12 : decode cX6_portion 12 = .ok (.iload_n 2, 1) := by decide +kernel
theorem dX6_portion_13 : decode cX6_portion 13 = .ok (.iaload, 1) := by decide +kernel
theorem dX6_portion_14 : decode cX6_portion 14 = .ok (.istore 5, 2) := by decide +kernel
theorem dX6_portion_16 : decode cX6_portion 16 = .ok (.iload 4, 2) := by decide +kernel
theorem dX6_portion_18 : decode cX6_portion 18 = .ok (.ifCond .eq 9, 3) := by decide +kernel
theorem dX6_portion_21 : decode cX6_portion 21 = .ok (.iload 5, 2) := by decide +kernel
theorem dX6_portion_23 : decode cX6_portion 23 = .ok (.iconst (-1), 1) := by decide +kernel
theorem dX6_portion_24 : decode cX6_portion 24 = .ok (.if_icmp .ne 5, 3) := by decide +kernel
theorem dX6_portion_27 : decode cX6_portion 27 = .ok (.iconst 0, 1) := by decide +kernel
theorem dX6_portion_28 : decode cX6_portion 28 = .ok (.ireturn, 1) := by decide +kernel
theorem dX6_portion_29 : decode cX6_portion 29 = .ok (.iload_n 1, 1) := by decide +kernel
theorem dX6_portion_30 : decode cX6_portion 30 = .ok (.tableswitch 93 0 2 #[26, 45, 76], 26) := by decide +kernel
theorem dX6_portion_56 : decode cX6_portion 56 = .ok (.iload 4, 2) := by decide +kernel
theorem dX6_portion_58 : decode cX6_portion 58 = .ok (.iload 4, 2) := by decide +kernel
theorem dX6_portion_60 : decode cX6_portion 60 = .ok (.imul, 1) := by decide +kernel
theorem dX6_portion_61 : decode cX6_portion 61 = .ok (.aload_n 0, 1) := by decide +kernel
theorem dX6_portion_62 : decode cX6_portion 62 = .ok (.getfield 43, 3) := by decide +kernel
theorem dX6_portion_65 : decode cX6_portion 65 = .ok (.getfield 152, 3) := by decide +kernel
theorem dX6_portion_68 : decode cX6_portion 68 = .ok (.aload_n 0, 1) := by decide +kernel
theorem dX6_portion_69 : decode cX6_portion 69 = .ok (.getfield 47, 3) := by decide +kernel
theorem dX6_portion_72 : decode cX6_portion 72 = .ok (.iaload, 1) := by decide +kernel
theorem dX6_portion_73 : decode cX6_portion 73 = .ok (.imul, 1) := by decide +kernel
theorem dX6_portion_74 : decode cX6_portion 74 = .ok (.ireturn, 1) := by decide +kernel
theorem dX6_portion_75 : decode cX6_portion 75 = .ok (.aload_n 0, 1) := by decide +kernel
theorem dX6_portion_76 : decode cX6_portion 76 = .ok (.getfield 43, 3) := by decide +kernel
theorem dX6_portion_79 : decode cX6_portion 79 = .ok (.getfield 63, 3) := by decide +kernel
theorem dX6_portion_82 : decode cX6_portion 82 = .ok (.getfield 155, 3) := by decide +kernel
theorem dX6_portion_85 : decode cX6_portion 85 = .ok (.iload 5, 2) := by decide +kernel
theorem dX6_portion_87 : decode cX6_portion 87 = .ok (.iaload, 1) := by decide +kernel
theorem dX6_portion_88 : decode cX6_portion 88 = .ok (.aload_n 0, 1) := by decide +kernel
theorem dX6_portion_89 : decode cX6_portion 89 = .ok (.getfield 43, 3) := by decide +kernel
theorem dX6_portion_92 : decode cX6_portion 92 = .ok (.getfield 63, 3) := by decide +kernel
theorem dX6_portion_95 : decode cX6_portion 95 = .ok (.getfield 155, 3) := by decide +kernel
theorem dX6_portion_98 : decode cX6_portion 98 = .ok (.iload 5, 2) := by decide +kernel
theorem dX6_portion_100 : decode cX6_portion 100 = .ok (.iaload, 1) := by decide +kernel
theorem dX6_portion_101 : decode cX6_portion 101 = .ok (.imul, 1) := by decide +kernel
theorem dX6_portion_102 : decode cX6_portion 102 = .ok (.iload 4, 2) := by decide +kernel
theorem dX6_portion_104 : decode cX6_portion 104 = .ok (.imul, 1) := by decide +kernel
theorem dX6_portion_105 : decode cX6_portion 105 = .ok (.ireturn, 1) := by decide +kernel
theorem dX6_portion_106 : decode cX6_portion 106 = .ok (.aload_n 0, 1) := by decide +kernel
theorem dX6_portion_107 : decode cX6_portion 107 = .ok (.getfield 43, 3) := by decide +kernel
theorem dX6_portion_110 : decode cX6_portion 110 = .ok (.getfield 63, 3) := by decide +kernel
theorem dX6_portion_113 : decode cX6_portion 113 = .ok (.getfield 158, 3) := by decide +kernel
theorem dX6_portion_116 : decode cX6_portion 116 = .ok (.iload 5, 2) := by decide +kernel
theorem dX6_portion_118 : decode cX6_portion 118 = .ok (.iaload, 1) := by decide +kernel
theorem dX6_portion_119 : decode cX6_portion 119 = .ok (.iload 4, 2) := by decide +kernel
theorem dX6_portion_121 : decode cX6_portion 121 = .ok (.imul, 1) := by decide +kernel
theorem dX6_portion_122 : decode cX6_portion 122 = .ok (.ireturn, 1) := by decide +kernel
theorem dX6_portion_123 : decode cX6_portion 123 = .ok (.iload 4, 2) := by decide +kernel
theorem dX6_portion_125 : decode cX6_portion 125 = .ok (.iload 4, 2) := by decide +kernel
theorem dX6_portion_127 : decode cX6_portion 127 = .ok (.imul, 1) := by decide +kernel
theorem dX6_portion_128 : decode cX6_portion 128 = .ok (.iload_n 3, 1) := by decide +kernel
theorem dX6_portion_129 : decode cX6_portion 129 = .ok (.imul, 1) := by decide +kernel
theorem dX6_portion_130 : decode cX6_portion 130 = .ok (.ireturn, 1) := by decide +kernel
theorem dX6_fuel_0 : decode cX6_fuel 0 = .ok (.iconst 0, 1) := by decide +kernel
theorem dX6_fuel_1 : decode cX6_fuel 1 = .ok (.istore_n 3, 1) := by decide +kernel
theorem dX6_fuel_2 : decode cX6_fuel 2 = .ok (.iconst 0, 1) := by decide +kernel
theorem dX6_fuel_3 : decode cX6_fuel 3 = .ok (.istore 4, 2) := by decide +kernel
theorem dX6_fuel_5 : decode cX6_fuel 5 = .ok (.iload 4, 2) := by decide +kernel
theorem dX6_fuel_7 : decode cX6_fuel 7 = .ok (.iconst 4, 1) := by decide +kernel
theorem dX6_fuel_8 : decode cX6_fuel 8 = .ok (.if_icmp .ge 20, 3) := by decide +kernel
theorem dX6_fuel_11 : decode cX6_fuel 11 = .ok (.iload_n 3, 1) := by decide +kernel
theorem dX6_fuel_12 : decode cX6_fuel 12 = .ok (.aload_n 0, 1) := by decide +kernel
theorem dX6_fuel_13 : decode cX6_fuel 13 = .ok (.iload 4, 2) := by decide +kernel
theorem dX6_fuel_15 : decode cX6_fuel 15 = .ok (.iload_n 1, 1) := by decide +kernel
theorem dX6_fuel_16 : decode cX6_fuel 16 = .ok (.iload_n 2, 1) := by decide +kernel
theorem dX6_fuel_17 : decode cX6_fuel 17 = .ok (.invokevirtual 130, 3) := by decide +kernel
theorem dX6_fuel_20 : decode cX6_fuel 20 = .ok (.iadd, 1) := by decide +kernel
theorem dX6_fuel_21 : decode cX6_fuel 21 = .ok (.istore_n 3, 1) := by decide +kernel
theorem dX6_fuel_22 : decode cX6_fuel 22 = .ok (.iinc 4 1, 3) := by decide +kernel
theorem dX6_fuel_25 : decode cX6_fuel 25 = .ok (.goto (-20), 3) := by decide +kernel
theorem dX6_fuel_28 : decode cX6_fuel 28 = .ok (.iload_n 3, 1) := by decide +kernel
theorem dX6_fuel_29 : decode cX6_fuel 29 = .ok (.bipush 100, 2) := by decide +kernel
theorem dX6_fuel_31 : decode cX6_fuel 31 = .ok (.idiv, 1) := by decide +kernel
theorem dX6_fuel_32 : decode cX6_fuel 32 = .ok (.ireturn, 1) := by decide +kernel
theorem dX6_skinFuel_0 : decode cX6_skinFuel 0 = .ok (.aload_n 0, 1) := by decide +kernel
theorem dX6_skinFuel_1 : decode cX6_skinFuel 1 = .ok (.iconst 3, 1) := by decide +kernel
theorem dX6_skinFuel_2 : decode cX6_skinFuel 2 = .ok (.iload_n 1, 1) := by decide +kernel
theorem dX6_skinFuel_3 : decode cX6_skinFuel 3 = .ok (.iload_n 2, 1) := by decide +kernel
theorem dX6_skinFuel_4 : decode cX6_skinFuel 4 = .ok (.invokevirtual 130, 3) := by decide +kernel
theorem dX6_skinFuel_7 : decode cX6_skinFuel 7 = .ok (.bipush 100, 2) := by decide +kernel
theorem dX6_skinFuel_9 : decode cX6_skinFuel 9 = .ok (.idiv, 1) := by decide +kernel
theorem dX6_skinFuel_10 : decode cX6_skinFuel 10 = .ok (.ireturn, 1) := by decide +kernel
theorem dX6_shareOf_0 : decode cX6_shareOf 0 = .ok (.aload_n 0, 1) := by decide +kernel
theorem dX6_shareOf_1 : decode cX6_shareOf 1 = .ok (.iload_n 1, 1) := by decide +kernel
theorem dX6_shareOf_2 : decode cX6_shareOf 2 = .ok (.iload_n 2, 1) := by decide +kernel
theorem dX6_shareOf_3 : decode cX6_shareOf 3 = .ok (.iload_n 3, 1) := by decide +kernel
theorem dX6_shareOf_4 : decode cX6_shareOf 4 = .ok (.invokevirtual 130, 3) := by decide +kernel
theorem dX6_shareOf_7 : decode cX6_shareOf 7 = .ok (.istore 4, 2) := by decide +kernel
theorem dX6_shareOf_9 : decode cX6_shareOf 9 = .ok (.aload_n 0, 1) := by decide +kernel
theorem dX6_shareOf_10 : decode cX6_shareOf 10 = .ok (.iload_n 2, 1) := by decide +kernel
theorem dX6_shareOf_11 : decode cX6_shareOf 11 = .ok (.iload_n 3, 1) := by decide +kernel
theorem dX6_shareOf_12 : decode cX6_shareOf 12 = .ok (.invokevirtual 161, 3) := by decide +kernel
theorem dX6_shareOf_15 : decode cX6_shareOf 15 = .ok (.istore 5, 2) := by decide +kernel
theorem dX6_shareOf_17 : decode cX6_shareOf 17 = .ok (.iconst 0, 1) := by decide +kernel
theorem dX6_shareOf_18 : decode cX6_shareOf 18 = .ok (.istore 6, 2) := by decide +kernel
theorem dX6_shareOf_20 : decode cX6_shareOf 20 = .ok (.iconst 0, 1) := by decide +kernel
theorem dX6_shareOf_21 : decode cX6_shareOf 21 = .ok (.istore 7, 2) := by decide +kernel
theorem dX6_shareOf_23 : decode cX6_shareOf 23 = .ok (.iload 7, 2) := by decide +kernel
theorem dX6_shareOf_25 : decode cX6_shareOf 25 = .ok (.iconst 4, 1) := by decide +kernel
theorem dX6_shareOf_26 : decode cX6_shareOf 26 = .ok (.if_icmp .ge 64, 3) := by decide +kernel
theorem dX6_shareOf_29 : decode cX6_shareOf 29 = .ok (.aload_n 0, 1) := by decide +kernel
theorem dX6_shareOf_30 : decode cX6_shareOf 30 = .ok (.iload 7, 2) := by decide +kernel
theorem dX6_shareOf_32 : decode cX6_shareOf 32 = .ok (.iload_n 2, 1) := by decide +kernel
theorem dX6_shareOf_33 : decode cX6_shareOf 33 = .ok (.iload_n 3, 1) := by decide +kernel
theorem dX6_shareOf_34 : decode cX6_shareOf 34 = .ok (.invokevirtual 130, 3) := by decide +kernel
theorem dX6_shareOf_37 : decode cX6_shareOf 37 = .ok (.istore 8, 2) := by decide +kernel
theorem dX6_shareOf_39 : decode cX6_shareOf 39 = .ok (.iload 5, 2) := by decide +kernel
theorem dX6_shareOf_41 : decode cX6_shareOf 41 = .ok (.iload 8, 2) := by decide +kernel
theorem dX6_shareOf_43 : decode cX6_shareOf 43 = .ok (.bipush 100, 2) := by decide +kernel
theorem dX6_shareOf_45 : decode cX6_shareOf 45 = .ok (.idiv, 1) := by decide +kernel
theorem dX6_shareOf_46 : decode cX6_shareOf 46 = .ok (.isub, 1) := by decide +kernel
theorem dX6_shareOf_47 : decode cX6_shareOf 47 = .ok (.istore 5, 2) := by decide +kernel
theorem dX6_shareOf_49 : decode cX6_shareOf 49 = .ok (.iload 8, 2) := by decide +kernel
theorem dX6_shareOf_51 : decode cX6_shareOf 51 = .ok (.bipush 100, 2) := by decide +kernel
theorem dX6_shareOf_53 : decode cX6_shareOf 53 = .ok (.irem, 1) := by decide +kernel
theorem dX6_shareOf_54 : decode cX6_shareOf 54 = .ok (.iload 4, 2) := by decide +kernel
theorem dX6_shareOf_56 : decode cX6_shareOf 56 = .ok (.bipush 100, 2) := by decide +kernel
theorem dX6_shareOf_58 : decode cX6_shareOf 58 = .ok (.irem, 1) := by decide +kernel
theorem dX6_shareOf_59 : decode cX6_shareOf 59 = .ok (.if_icmp .gt 22, 3) := by decide +kernel
theorem dX6_shareOf_62 : decode cX6_shareOf 62 = .ok (.iload 8, 2) := by decide +kernel
theorem dX6_shareOf_64 : decode cX6_shareOf 64 = .ok (.bipush 100, 2) := by decide +kernel
theorem dX6_shareOf_66 : decode cX6_shareOf 66 = .ok (.irem, 1) := by decide +kernel
theorem dX6_shareOf_67 : decode cX6_shareOf 67 = .ok (.iload 4, 2) := by decide +kernel
theorem dX6_shareOf_69 : decode cX6_shareOf 69 = .ok (.bipush 100, 2) := by decide +kernel
theorem dX6_shareOf_71 : decode cX6_shareOf 71 = .ok (.irem, 1) := by decide +kernel
theorem dX6_shareOf_72 : decode cX6_shareOf 72 = .ok (.if_icmp .ne 12, 3) := by decide +kernel
theorem dX6_shareOf_75 : decode cX6_shareOf 75 = .ok (.iload 7, 2) := by decide +kernel
theorem dX6_shareOf_77 : decode cX6_shareOf 77 = .ok (.iload_n 1, 1) := by decide +kernel
theorem dX6_shareOf_78 : decode cX6_shareOf 78 = .ok (.if_icmp .ge 6, 3) := by decide +kernel
theorem dX6_shareOf_81 : decode cX6_shareOf 81 = .ok (.iinc 6 1, 3) := by decide +kernel
theorem dX6_shareOf_84 : decode cX6_shareOf 84 = .ok (.iinc 7 1, 3) := by decide +kernel
theorem dX6_shareOf_87 : decode cX6_shareOf 87 = .ok (.goto (-64), 3) := by decide +kernel
theorem dX6_shareOf_90 : decode cX6_shareOf 90 = .ok (.iload 4, 2) := by decide +kernel
theorem dX6_shareOf_92 : decode cX6_shareOf 92 = .ok (.bipush 100, 2) := by decide +kernel
theorem dX6_shareOf_94 : decode cX6_shareOf 94 = .ok (.idiv, 1) := by decide +kernel
theorem dX6_shareOf_95 : decode cX6_shareOf 95 = .ok (.iload 6, 2) := by decide +kernel
theorem dX6_shareOf_97 : decode cX6_shareOf 97 = .ok (.iload 5, 2) := by decide +kernel
theorem dX6_shareOf_99 : decode cX6_shareOf 99 = .ok (.if_icmp .ge 7, 3) := by decide +kernel
theorem dX6_shareOf_102 : decode cX6_shareOf 102 = .ok (.iconst 1, 1) := by decide +kernel
theorem dX6_shareOf_103 : decode cX6_shareOf 103 = .ok (.goto 4, 3) := by decide +kernel
theorem dX6_shareOf_106 : decode cX6_shareOf 106 = .ok (.iconst 0, 1) := by decide +kernel
theorem dX6_shareOf_107 : decode cX6_shareOf 107 = .ok (.iadd, 1) := by decide +kernel
theorem dX6_shareOf_108 : decode cX6_shareOf 108 = .ok (.ireturn, 1) := by decide +kernel
theorem dX6_bind_0 : decode cX6_bind 0 = .ok (.iconst 0, 1) := by decide +kernel
theorem dX6_bind_1 : decode cX6_bind 1 = .ok (.istore_n 2, 1) := by decide +kernel
theorem dX6_bind_2 : decode cX6_bind 2 = .ok (.iload_n 2, 1) := by decide +kernel
theorem dX6_bind_3 : decode cX6_bind 3 = .ok (.bipush 120, 2) := by decide +kernel
theorem dX6_bind_5 : decode cX6_bind 5 = .ok (.if_icmp .ge 28, 3) := by decide +kernel
theorem dX6_bind_8 : decode cX6_bind 8 = .ok (.aload_n 0, 1) := by decide +kernel
theorem dX6_bind_9 : decode cX6_bind 9 = .ok (.getfield 37, 3) := by decide +kernel
theorem dX6_bind_12 : decode cX6_bind 12 = .ok (.iload_n 2, 1) := by decide +kernel
theorem dX6_bind_13 : decode cX6_bind 13 = .ok (.iconst 0, 1) := by decide +kernel
theorem dX6_bind_14 : decode cX6_bind 14 = .ok (.iastore, 1) := by decide +kernel
theorem dX6_bind_15 : decode cX6_bind 15 = .ok (.aload_n 0, 1) := by decide +kernel
theorem dX6_bind_16 : decode cX6_bind 16 = .ok (.getfield 40, 3) := by decide +kernel
theorem dX6_bind_19 : decode cX6_bind 19 = .ok (.iload_n 2, 1) := by decide +kernel
theorem dX6_bind_20 : decode cX6_bind 20 = .ok (.aload_n 0, 1) := by decide +kernel
theorem dX6_bind_21 : decode cX6_bind 21 = .ok (.getfield 24, 3) := by decide +kernel
theorem dX6_bind_24 : decode cX6_bind 24 = .ok (.iload_n 2, 1) := by decide +kernel
theorem dX6_bind_25 : decode cX6_bind 25 = .ok (.iaload, 1) := by decide +kernel
theorem dX6_bind_26 : decode cX6_bind 26 = .ok (.iastore, 1) := by decide +kernel
theorem dX6_bind_27 : decode cX6_bind 27 = .ok (.iinc 2 1, 3) := by decide +kernel
theorem dX6_bind_30 : decode cX6_bind 30 = .ok (.goto (-28), 3) := by decide +kernel
theorem dX6_bind_33 : decode cX6_bind 33 = .ok (.aload_n 0, 1) := by decide +kernel
theorem dX6_bind_34 : decode cX6_bind 34 = .ok (.getfield 43, 3) := by decide +kernel
theorem dX6_bind_37 : decode cX6_bind 37 = .ok (.getfield 101, 3) := by decide +kernel
theorem dX6_bind_40 : decode cX6_bind 40 = .ok (.astore_n 2, 1) := by decide +kernel
theorem dX6_bind_41 : decode cX6_bind 41 = .ok (.iconst 0, 1) := by decide +kernel
theorem dX6_bind_42 : decode cX6_bind 42 = .ok (.istore_n 3, 1) := by decide +kernel
theorem dX6_bind_43 : decode cX6_bind 43 = .ok (.iload_n 3, 1) := by decide +kernel
theorem dX6_bind_44 : decode cX6_bind 44 = .ok (.aload_n 2, 1) := by decide +kernel
theorem dX6_bind_45 : decode cX6_bind 45 = .ok (.getfield 108, 3) := by decide +kernel
theorem dX6_bind_48 : decode cX6_bind 48 = .ok (.if_icmp .ge 40, 3) := by decide +kernel
theorem dX6_bind_51 : decode cX6_bind 51 = .ok (.iload_n 1, 1) := by decide +kernel
theorem dX6_bind_52 : decode cX6_bind 52 = .ok (.iload_n 3, 1) := by decide +kernel
theorem dX6_bind_53 : decode cX6_bind 53 = .ok (.ishr, 1) := by decide +kernel
theorem dX6_bind_54 : decode cX6_bind 54 = .ok (.iconst 1, 1) := by decide +kernel
theorem dX6_bind_55 : decode cX6_bind 55 = .ok (.iand, 1) := by decide +kernel
theorem dX6_bind_56 : decode cX6_bind 56 = .ok (.iconst 1, 1) := by decide +kernel
theorem dX6_bind_57 : decode cX6_bind 57 = .ok (.if_icmp .ne 25, 3) := by decide +kernel
theorem dX6_bind_60 : decode cX6_bind 60 = .ok (.aload_n 0, 1) := by decide +kernel
theorem dX6_bind_61 : decode cX6_bind 61 = .ok (.aload_n 2, 1) := by decide +kernel
theorem dX6_bind_62 : decode cX6_bind 62 = .ok (.getfield 125, 3) := by decide +kernel
theorem dX6_bind_65 : decode cX6_bind 65 = .ok (.iload_n 3, 1) := by decide +kernel
theorem dX6_bind_66 : decode cX6_bind 66 = .ok (.iaload, 1) := by decide +kernel
theorem dX6_bind_67 : decode cX6_bind 67 = .ok (.aload_n 0, 1) := by decide +kernel
theorem dX6_bind_68 : decode cX6_bind 68 = .ok (.getfield 31, 3) := by decide +kernel
theorem dX6_bind_71 : decode cX6_bind 71 = .ok (.iload_n 3, 1) := by decide +kernel
theorem dX6_bind_72 : decode cX6_bind 72 = .ok (.iaload, 1) := by decide +kernel
theorem dX6_bind_73 : decode cX6_bind 73 = .ok (.aload_n 0, 1) := by decide +kernel
theorem dX6_bind_74 : decode cX6_bind 74 = .ok (.getfield 34, 3) := by decide +kernel
theorem dX6_bind_77 : decode cX6_bind 77 = .ok (.iload_n 3, 1) := by decide +kernel
theorem dX6_bind_78 : decode cX6_bind 78 = .ok (.iaload, 1) := by decide +kernel
theorem dX6_bind_79 : decode cX6_bind 79 = .ok (.invokevirtual 164, 3) := by decide +kernel
theorem dX6_bind_82 : decode cX6_bind 82 = .ok (.iinc 3 1, 3) := by decide +kernel
theorem dX6_bind_85 : decode cX6_bind 85 = .ok (.goto (-42), 3) := by decide +kernel
theorem dX6_bind_88 : decode cX6_bind 88 = .ok (.iconst 1, 1) := by decide +kernel
theorem dX6_bind_89 : decode cX6_bind 89 = .ok (.istore_n 3, 1) := by decide +kernel
theorem dX6_bind_90 : decode cX6_bind 90 = .ok (.iload_n 3, 1) := by decide +kernel
theorem dX6_bind_91 : decode cX6_bind 91 = .ok (.bipush 120, 2) := by decide +kernel
theorem dX6_bind_93 : decode cX6_bind 93 = .ok (.if_icmp .ge 57, 3) := by decide +kernel
theorem dX6_bind_96 : decode cX6_bind 96 = .ok (.aload_n 0, 1) := by decide +kernel
theorem dX6_bind_97 : decode cX6_bind 97 = .ok (.getfield 27, 3) := by decide +kernel
theorem dX6_bind_100 : decode cX6_bind 100 = .ok (.iload_n 3, 1) := by decide +kernel
theorem dX6_bind_101 : decode cX6_bind 101 = .ok (.baload, 1) := by decide +kernel
theorem dX6_bind_102 : decode cX6_bind 102 = .ok (.ifCond .ne 42, 3) := by decide +kernel
theorem dX6_bind_105 : decode cX6_bind 105 = .ok (.aload_n 0, 1) := by decide +kernel
theorem dX6_bind_106 : decode cX6_bind 106 = .ok (.iload_n 3, 1) := by decide +kernel
theorem dX6_bind_107 : decode cX6_bind 107 = .ok (.aload_n 0, 1) := by decide +kernel
theorem dX6_bind_108 : decode cX6_bind 108 = .ok (.getfield 37, 3) := by decide +kernel
theorem dX6_bind_111 : decode cX6_bind 111 = .ok (.iload_n 3, 1) := by decide +kernel
theorem dX6_bind_112 : decode cX6_bind 112 = .ok (.iconst 1, 1) := by decide +kernel
theorem dX6_bind_113 : decode cX6_bind 113 = .ok (.isub, 1) := by decide +kernel
theorem dX6_bind_114 : decode cX6_bind 114 = .ok (.iaload, 1) := by decide +kernel
theorem dX6_bind_115 : decode cX6_bind 115 = .ok (.aload_n 0, 1) := by decide +kernel
theorem dX6_bind_116 : decode cX6_bind 116 = .ok (.getfield 18, 3) := by decide +kernel
theorem dX6_bind_119 : decode cX6_bind 119 = .ok (.iload_n 3, 1) := by decide +kernel
theorem dX6_bind_120 : decode cX6_bind 120 = .ok (.iconst 1, 1) := by decide +kernel
theorem dX6_bind_121 : decode cX6_bind 121 = .ok (.isub, 1) := by decide +kernel
theorem dX6_bind_122 : decode cX6_bind 122 = .ok (.iaload, 1) := by decide +kernel
theorem dX6_bind_123 : decode cX6_bind 123 = .ok (.iadd, 1) := by decide +kernel
theorem dX6_bind_124 : decode cX6_bind 124 = .ok (.aload_n 0, 1) := by decide +kernel
theorem dX6_bind_125 : decode cX6_bind 125 = .ok (.getfield 40, 3) := by decide +kernel
theorem dX6_bind_128 : decode cX6_bind 128 = .ok (.iload_n 3, 1) := by decide +kernel
theorem dX6_bind_129 : decode cX6_bind 129 = .ok (.iconst 1, 1) := by decide +kernel
theorem dX6_bind_130 : decode cX6_bind 130 = .ok (.isub, 1) := by decide +kernel
theorem dX6_bind_131 : decode cX6_bind 131 = .ok (.iaload, 1) := by decide +kernel
theorem dX6_bind_132 : decode cX6_bind 132 = .ok (.aload_n 0, 1) := by decide +kernel
theorem dX6_bind_133 : decode cX6_bind 133 = .ok (.getfield 21, 3) := by decide +kernel
theorem dX6_bind_136 : decode cX6_bind 136 = .ok (.iload_n 3, 1) := by decide +kernel
theorem dX6_bind_137 : decode cX6_bind 137 = .ok (.iconst 1, 1) := by decide +kernel
theorem dX6_bind_138 : decode cX6_bind 138 = .ok (.isub, 1) := by decide +kernel
theorem dX6_bind_139 : decode cX6_bind 139 = .ok (.iaload, 1) := by decide +kernel
theorem dX6_bind_140 : decode cX6_bind 140 = .ok (.iadd, 1) := by decide +kernel
theorem dX6_bind_141 : decode cX6_bind 141 = .ok (.invokevirtual 164, 3) := by decide +kernel
theorem dX6_bind_144 : decode cX6_bind 144 = .ok (.iinc 3 1, 3) := by decide +kernel
theorem dX6_bind_147 : decode cX6_bind 147 = .ok (.goto (-57), 3) := by decide +kernel
theorem dX6_bind_150 : decode cX6_bind 150 = .ok (.bipush 118, 2) := by decide +kernel
theorem dX6_bind_152 : decode cX6_bind 152 = .ok (.istore_n 3, 1) := by decide +kernel
theorem dX6_bind_153 : decode cX6_bind 153 = .ok (.iload_n 3, 1) := by decide +kernel
theorem dX6_bind_154 : decode cX6_bind 154 = .ok (.ifCond .lt 55, 3) := by decide +kernel
theorem dX6_bind_157 : decode cX6_bind 157 = .ok (.aload_n 0, 1) := by decide +kernel
theorem dX6_bind_158 : decode cX6_bind 158 = .ok (.getfield 27, 3) := by decide +kernel
theorem dX6_bind_161 : decode cX6_bind 161 = .ok (.iload_n 3, 1) := by decide +kernel
theorem dX6_bind_162 : decode cX6_bind 162 = .ok (.iconst 1, 1) := by decide +kernel
theorem dX6_bind_163 : decode cX6_bind 163 = .ok (.iadd, 1) := by decide +kernel
theorem dX6_bind_164 : decode cX6_bind 164 = .ok (.baload, 1) := by decide +kernel
theorem dX6_bind_165 : decode cX6_bind 165 = .ok (.ifCond .ne 38, 3) := by decide +kernel
theorem dX6_bind_168 : decode cX6_bind 168 = .ok (.aload_n 0, 1) := by decide +kernel
theorem dX6_bind_169 : decode cX6_bind 169 = .ok (.iload_n 3, 1) := by decide +kernel
theorem dX6_bind_170 : decode cX6_bind 170 = .ok (.aload_n 0, 1) := by decide +kernel
theorem dX6_bind_171 : decode cX6_bind 171 = .ok (.getfield 37, 3) := by decide +kernel
theorem dX6_bind_174 : decode cX6_bind 174 = .ok (.iload_n 3, 1) := by decide +kernel
theorem dX6_bind_175 : decode cX6_bind 175 = .ok (.iconst 1, 1) := by decide +kernel
theorem dX6_bind_176 : decode cX6_bind 176 = .ok (.iadd, 1) := by decide +kernel
theorem dX6_bind_177 : decode cX6_bind 177 = .ok (.iaload, 1) := by decide +kernel
theorem dX6_bind_178 : decode cX6_bind 178 = .ok (.aload_n 0, 1) := by decide +kernel
theorem dX6_bind_179 : decode cX6_bind 179 = .ok (.getfield 21, 3) := by decide +kernel
theorem dX6_bind_182 : decode cX6_bind 182 = .ok (.iload_n 3, 1) := by decide +kernel
theorem dX6_bind_183 : decode cX6_bind 183 = .ok (.iaload, 1) := by decide +kernel
theorem dX6_bind_184 : decode cX6_bind 184 = .ok (.isub, 1) := by decide +kernel
theorem dX6_bind_185 : decode cX6_bind 185 = .ok (.aload_n 0, 1) := by decide +kernel
theorem dX6_bind_186 : decode cX6_bind 186 = .ok (.getfield 40, 3) := by decide +kernel
theorem dX6_bind_189 : decode cX6_bind 189 = .ok (.iload_n 3, 1) := by decide +kernel
theorem dX6_bind_190 : decode cX6_bind 190 = .ok (.iconst 1, 1) := by decide +kernel
theorem dX6_bind_191 : decode cX6_bind 191 = .ok (.iadd, 1) := by decide +kernel
theorem dX6_bind_192 : decode cX6_bind 192 = .ok (.iaload, 1) := by decide +kernel
theorem dX6_bind_193 : decode cX6_bind 193 = .ok (.aload_n 0, 1) := by decide +kernel
theorem dX6_bind_194 : decode cX6_bind 194 = .ok (.getfield 18, 3) := by decide +kernel
theorem dX6_bind_197 : decode cX6_bind 197 = .ok (.iload_n 3, 1) := by decide +kernel
theorem dX6_bind_198 : decode cX6_bind 198 = .ok (.iaload, 1) := by decide +kernel
theorem dX6_bind_199 : decode cX6_bind 199 = .ok (.isub, 1) := by decide +kernel
theorem dX6_bind_200 : decode cX6_bind 200 = .ok (.invokevirtual 164, 3) := by decide +kernel
theorem dX6_bind_203 : decode cX6_bind 203 = .ok (.iinc 3 (-1), 3) := by decide +kernel
theorem dX6_bind_206 : decode cX6_bind 206 = .ok (.goto (-53), 3) := by decide +kernel
theorem dX6_bind_209 : decode cX6_bind 209 = .ok (.aload_n 0, 1) := by decide +kernel
theorem dX6_bind_210 : decode cX6_bind 210 = .ok (.invokevirtual 167, 3) := by decide +kernel
theorem dX6_bind_213 : decode cX6_bind 213 = .ok (.ireturn, 1) := by decide +kernel
theorem dX6_narrow_0 : decode cX6_narrow 0 = .ok (.aload_n 0, 1) := by decide +kernel
theorem dX6_narrow_1 : decode cX6_narrow 1 = .ok (.getfield 37, 3) := by decide +kernel
theorem dX6_narrow_4 : decode cX6_narrow 4 = .ok (.iload_n 1, 1) := by decide +kernel
theorem dX6_narrow_5 : decode cX6_narrow 5 = .ok (.aload_n 0, 1) := by decide +kernel
theorem dX6_narrow_6 : decode cX6_narrow 6 = .ok (.getfield 37, 3) := by decide +kernel
theorem dX6_narrow_9 : decode cX6_narrow 9 = .ok (.iload_n 1, 1) := by decide +kernel
theorem dX6_narrow_10 : decode cX6_narrow 10 = .ok (.iaload, 1) := by decide +kernel
theorem dX6_narrow_11 : decode cX6_narrow 11 = .ok (.iload_n 2, 1) := by decide +kernel
theorem dX6_narrow_12 : decode cX6_narrow 12 = .ok (.invokestatic 140, 3) := by decide +kernel
theorem dX6_narrow_15 : decode cX6_narrow 15 = .ok (.iastore, 1) := by decide +kernel
theorem dX6_narrow_16 : decode cX6_narrow 16 = .ok (.aload_n 0, 1) := by decide +kernel
theorem dX6_narrow_17 : decode cX6_narrow 17 = .ok (.getfield 40, 3) := by decide +kernel
theorem dX6_narrow_20 : decode cX6_narrow 20 = .ok (.iload_n 1, 1) := by decide +kernel
theorem dX6_narrow_21 : decode cX6_narrow 21 = .ok (.aload_n 0, 1) := by decide +kernel
theorem dX6_narrow_22 : decode cX6_narrow 22 = .ok (.getfield 40, 3) := by decide +kernel
theorem dX6_narrow_25 : decode cX6_narrow 25 = .ok (.iload_n 1, 1) := by decide +kernel
theorem dX6_narrow_26 : decode cX6_narrow 26 = .ok (.iaload, 1) := by decide +kernel
theorem dX6_narrow_27 : decode cX6_narrow 27 = .ok (.iload_n 3, 1) := by decide +kernel
theorem dX6_narrow_28 : decode cX6_narrow 28 = .ok (.invokestatic 143, 3) := by decide +kernel
theorem dX6_narrow_31 : decode cX6_narrow 31 = .ok (.iastore, 1) := by decide +kernel
theorem dX6_narrow_32 : decode cX6_narrow 32 = .ok (.return_, 1) := by decide +kernel
theorem dX6_isBound_0 : decode cX6_isBound 0 = .ok (.iconst 0, 1) := by decide +kernel
theorem dX6_isBound_1 : decode cX6_isBound 1 = .ok (.istore_n 1, 1) := by decide +kernel
theorem dX6_isBound_2 : decode cX6_isBound 2 = .ok (.iload_n 1, 1) := by decide +kernel
theorem dX6_isBound_3 : decode cX6_isBound 3 = .ok (.bipush 120, 2) := by decide +kernel
theorem dX6_isBound_5 : decode cX6_isBound 5 = .ok (.if_icmp .ge 26, 3) := by decide +kernel
theorem dX6_isBound_8 : decode cX6_isBound 8 = .ok (.aload_n 0, 1) := by decide +kernel
theorem dX6_isBound_9 : decode cX6_isBound 9 = .ok (.getfield 37, 3) := by decide +kernel
theorem dX6_isBound_12 : decode cX6_isBound 12 = .ok (.iload_n 1, 1) := by decide +kernel
theorem dX6_isBound_13 : decode cX6_isBound 13 = .ok (.iaload, 1) := by decide +kernel
theorem dX6_isBound_14 : decode cX6_isBound 14 = .ok (.aload_n 0, 1) := by decide +kernel
theorem dX6_isBound_15 : decode cX6_isBound 15 = .ok (.getfield 40, 3) := by decide +kernel
theorem dX6_isBound_18 : decode cX6_isBound 18 = .ok (.iload_n 1, 1) := by decide +kernel
theorem dX6_isBound_19 : decode cX6_isBound 19 = .ok (.iaload, 1) := by decide +kernel
theorem dX6_isBound_20 : decode cX6_isBound 20 = .ok (.if_icmp .le 5, 3) := by decide +kernel
theorem dX6_isBound_23 : decode cX6_isBound 23 = .ok (.iconst 0, 1) := by decide +kernel
theorem dX6_isBound_24 : decode cX6_isBound 24 = .ok (.ireturn, 1) := by decide +kernel
theorem dX6_isBound_25 : decode cX6_isBound 25 = .ok (.iinc 1 1, 3) := by decide +kernel
theorem dX6_isBound_28 : decode cX6_isBound 28 = .ok (.goto (-26), 3) := by decide +kernel
theorem dX6_isBound_31 : decode cX6_isBound 31 = .ok (.iconst 1, 1) := by decide +kernel
theorem dX6_isBound_32 : decode cX6_isBound 32 = .ok (.ireturn, 1) := by decide +kernel
theorem dX6_endOf_0 : decode cX6_endOf 0 = .ok (.iload_n 2, 1) := by decide +kernel
theorem dX6_endOf_1 : decode cX6_endOf 1 = .ok (.ifCond .ne 12, 3) := by decide +kernel
theorem dX6_endOf_4 : decode cX6_endOf 4 = .ok (.aload_n 0, 1) := by decide +kernel
theorem dX6_endOf_5 : decode cX6_endOf 5 = .ok (.getfield 37, 3) := by decide +kernel
theorem dX6_endOf_8 : decode cX6_endOf 8 = .ok (.iload_n 1, 1) := by decide +kernel
theorem dX6_endOf_9 : decode cX6_endOf 9 = .ok (.iaload, 1) := by decide +kernel
theorem dX6_endOf_10 : decode cX6_endOf 10 = .ok (.goto 9, 3) := by decide +kernel
theorem dX6_endOf_13 : decode cX6_endOf 13 = .ok (.aload_n 0, 1) := by decide +kernel
theorem dX6_endOf_14 : decode cX6_endOf 14 = .ok (.getfield 40, 3) := by decide +kernel
theorem dX6_endOf_17 : decode cX6_endOf 17 = .ok (.iload_n 1, 1) := by decide +kernel
theorem dX6_endOf_18 : decode cX6_endOf 18 = .ok (.iaload, 1) := by decide +kernel
theorem dX6_endOf_19 : decode cX6_endOf 19 = .ok (.ireturn, 1) := by decide +kernel
theorem dX6_widthOf_0 : decode cX6_widthOf 0 = .ok (.aload_n 0, 1) := by decide +kernel
theorem dX6_widthOf_1 : decode cX6_widthOf 1 = .ok (.getfield 40, 3) := by decide +kernel
theorem dX6_widthOf_4 : decode cX6_widthOf 4 = .ok (.iload_n 1, 1) := by decide +kernel
theorem dX6_widthOf_5 : decode cX6_widthOf 5 = .ok (.iaload, 1) := by decide +kernel
theorem dX6_widthOf_6 : decode cX6_widthOf 6 = .ok (.aload_n 0, 1) := by decide +kernel
theorem dX6_widthOf_7 : decode cX6_widthOf 7 = .ok (.getfield 37, 3) := by decide +kernel
theorem dX6_widthOf_10 : decode cX6_widthOf 10 = .ok (.iload_n 1, 1) := by decide +kernel
theorem dX6_widthOf_11 : decode cX6_widthOf 11 = .ok (.iaload, 1) := by decide +kernel
theorem dX6_widthOf_12 : decode cX6_widthOf 12 = .ok (.isub, 1) := by decide +kernel
theorem dX6_widthOf_13 : decode cX6_widthOf 13 = .ok (.ireturn, 1) := by decide +kernel
theorem dX6_makerOf_0 : decode cX6_makerOf 0 = .ok (.aload_n 0, 1) := by decide +kernel
theorem dX6_makerOf_1 : decode cX6_makerOf 1 = .ok (.iload_n 1, 1) := by decide +kernel
theorem dX6_makerOf_2 : decode cX6_makerOf 2 = .ok (.iload_n 2, 1) := by decide +kernel
theorem dX6_makerOf_3 : decode cX6_makerOf 3 = .ok (.invokevirtual 171, 3) := by decide +kernel
theorem dX6_makerOf_6 : decode cX6_makerOf 6 = .ok (.istore 4, 2) := by decide +kernel
theorem dX6_makerOf_8 : decode cX6_makerOf 8 = .ok (.aload_n 0, 1) := by decide +kernel
theorem dX6_makerOf_9 : decode cX6_makerOf 9 = .ok (.iconst 0, 1) := by decide +kernel
theorem dX6_makerOf_10 : decode cX6_makerOf 10 = .ok (.invokevirtual 174, 3) := by decide +kernel
theorem dX6_makerOf_13 : decode cX6_makerOf 13 = .ok (.pop, 1) := by decide +kernel
theorem dX6_makerOf_14 : decode cX6_makerOf 14 = .ok (.aload_n 0, 1) := by decide +kernel
theorem dX6_makerOf_15 : decode cX6_makerOf 15 = .ok (.iload_n 1, 1) := by decide +kernel
theorem dX6_makerOf_16 : decode cX6_makerOf 16 = .ok (.iload_n 2, 1) := by decide +kernel
theorem dX6_makerOf_17 : decode cX6_makerOf 17 = .ok (.invokevirtual 171, 3) := by decide +kernel
theorem dX6_makerOf_20 : decode cX6_makerOf 20 = .ok (.iload 4, 2) := by decide +kernel
theorem dX6_makerOf_22 : decode cX6_makerOf 22 = .ok (.if_icmp .ne 5, 3) := by decide +kernel
theorem dX6_makerOf_25 : decode cX6_makerOf 25 = .ok (.iconst (-1), 1) := by decide +kernel
theorem dX6_makerOf_26 : decode cX6_makerOf 26 = .ok (.ireturn, 1) := by decide +kernel
theorem dX6_makerOf_27 : decode cX6_makerOf 27 = .ok (.iconst 0, 1) := by decide +kernel
theorem dX6_makerOf_28 : decode cX6_makerOf 28 = .ok (.istore 5, 2) := by decide +kernel
theorem dX6_makerOf_30 : decode cX6_makerOf 30 = .ok (.iload 5, 2) := by decide +kernel
theorem dX6_makerOf_32 : decode cX6_makerOf 32 = .ok (.bipush 24, 2) := by decide +kernel
theorem dX6_makerOf_34 : decode cX6_makerOf 34 = .ok (.if_icmp .ge 42, 3) := by decide +kernel
theorem dX6_makerOf_37 : decode cX6_makerOf 37 = .ok (.iload_n 3, 1) := by decide +kernel
theorem dX6_makerOf_38 : decode cX6_makerOf 38 = .ok (.iload 5, 2) := by decide +kernel
theorem dX6_makerOf_40 : decode cX6_makerOf 40 = .ok (.ishr, 1) := by decide +kernel
theorem dX6_makerOf_41 : decode cX6_makerOf 41 = .ok (.iconst 1, 1) := by decide +kernel
theorem dX6_makerOf_42 : decode cX6_makerOf 42 = .ok (.iand, 1) := by decide +kernel
theorem dX6_makerOf_43 : decode cX6_makerOf 43 = .ok (.iconst 1, 1) := by decide +kernel
theorem dX6_makerOf_44 : decode cX6_makerOf 44 = .ok (.if_icmp .ne 26, 3) := by decide +kernel
theorem dX6_makerOf_47 : decode cX6_makerOf 47 = .ok (.aload_n 0, 1) := by decide +kernel
theorem dX6_makerOf_48 : decode cX6_makerOf 48 = .ok (.iconst 1, 1) := by decide +kernel
theorem dX6_makerOf_49 : decode cX6_makerOf 49 = .ok (.iload 5, 2) := by decide +kernel
theorem dX6_makerOf_51 : decode cX6_makerOf 51 = .ok (.ishl, 1) := by decide +kernel
theorem dX6_makerOf_52 : decode cX6_makerOf 52 = .ok (.invokevirtual 174, 3) := by decide +kernel
theorem dX6_makerOf_55 : decode cX6_makerOf 55 = .ok (.pop, 1) := by decide +kernel
theorem dX6_makerOf_56 : decode cX6_makerOf 56 = .ok (.aload_n 0, 1) := by decide +kernel
theorem dX6_makerOf_57 : decode cX6_makerOf 57 = .ok (.iload_n 1, 1) := by decide +kernel
theorem dX6_makerOf_58 : decode cX6_makerOf 58 = .ok (.iload_n 2, 1) := by decide +kernel
theorem dX6_makerOf_59 : decode cX6_makerOf 59 = .ok (.invokevirtual 171, 3) := by decide +kernel
theorem dX6_makerOf_62 : decode cX6_makerOf 62 = .ok (.iload 4, 2) := by decide +kernel
theorem dX6_makerOf_64 : decode cX6_makerOf 64 = .ok (.if_icmp .ne 6, 3) := by decide +kernel
theorem dX6_makerOf_67 : decode cX6_makerOf 67 = .ok (.iload 5, 2) := by decide +kernel
theorem dX6_makerOf_69 : decode cX6_makerOf 69 = .ok (.ireturn, 1) := by decide +kernel
theorem dX6_makerOf_70 : decode cX6_makerOf 70 = .ok (.iinc 5 1, 3) := by decide +kernel
theorem dX6_makerOf_73 : decode cX6_makerOf 73 = .ok (.goto (-43), 3) := by decide +kernel
theorem dX6_makerOf_76 : decode cX6_makerOf 76 = .ok (.iconst (-1), 1) := by decide +kernel
theorem dX6_makerOf_77 : decode cX6_makerOf 77 = .ok (.ireturn, 1) := by decide +kernel
theorem dX7_init_0 : decode cX7_init 0 = .ok (.aload_n 0, 1) := by decide +kernel
theorem dX7_init_1 : decode cX7_init 1 = .ok (.invokespecial 3, 3) := by decide +kernel
theorem dX7_init_4 : decode cX7_init 4 = .ok (.aload_n 0, 1) := by decide +kernel
theorem dX7_init_5 : decode cX7_init 5 = .ok (.bipush 120, 2) := by decide +kernel
theorem dX7_init_7 : decode cX7_init 7 = .ok (.newarray .int, 2) := by decide +kernel
theorem dX7_init_9 : decode cX7_init 9 = .ok (.putfield 9, 3) := by decide +kernel
theorem dX7_init_12 : decode cX7_init 12 = .ok (.aload_n 0, 1) := by decide +kernel
theorem dX7_init_13 : decode cX7_init 13 = .ok (.aload_n 1, 1) := by decide +kernel
theorem dX7_init_14 : decode cX7_init 14 = .ok (.putfield 15, 3) := by decide +kernel
theorem dX7_init_17 : decode cX7_init 17 = .ok (.return_, 1) := by decide +kernel
theorem dX7_append_0 : decode cX7_append 0 = .ok (.aload_n 0, 1) := by decide +kernel
theorem dX7_append_1 : decode cX7_append 1 = .ok (.getfield 9, 3) := by decide +kernel
theorem dX7_append_4 : decode cX7_append 4 = .ok (.iload_n 1, 1) := by decide +kernel
theorem dX7_append_5 : decode cX7_append 5 = .ok (.iconst 1, 1) := by decide +kernel
theorem dX7_append_6 : decode cX7_append 6 = .ok (.aload_n 0, 1) := by decide +kernel
theorem dX7_append_7 : decode cX7_append 7 = .ok (.getfield 19, 3) := by decide +kernel
theorem dX7_append_10 : decode cX7_append 10 = .ok (.ishl, 1) := by decide +kernel
theorem dX7_append_11 : decode cX7_append 11 = .ok (.iastore, 1) := by decide +kernel
theorem dX7_append_12 : decode cX7_append 12 = .ok (.aload_n 0, 1) := by decide +kernel
theorem dX7_append_13 : decode cX7_append 13 = .ok (.dup, 1) := by decide +kernel
theorem dX7_append_14 : decode cX7_append 14 = .ok (.getfield 19, 3) := by decide +kernel
theorem dX7_append_17 : decode cX7_append 17 = .ok (.iconst 1, 1) := by decide +kernel
theorem dX7_append_18 : decode cX7_append 18 = .ok (.iadd, 1) := by decide +kernel
theorem dX7_append_19 : decode cX7_append 19 = .ok (.putfield 19, 3) := by decide +kernel
theorem dX7_append_22 : decode cX7_append 22 = .ok (.return_, 1) := by decide +kernel
theorem dX7_drop_0 : decode cX7_drop 0 = .ok (.aload_n 0, 1) := by decide +kernel
theorem dX7_drop_1 : decode cX7_drop 1 = .ok (.iconst 0, 1) := by decide +kernel
theorem dX7_drop_2 : decode cX7_drop 2 = .ok (.putfield 19, 3) := by decide +kernel
theorem dX7_drop_5 : decode cX7_drop 5 = .ok (.iconst 0, 1) := by decide +kernel
theorem dX7_drop_6 : decode cX7_drop 6 = .ok (.istore_n 1, 1) := by decide +kernel
theorem dX7_drop_7 : decode cX7_drop 7 = .ok (.iload_n 1, 1) := by decide +kernel
theorem dX7_drop_8 : decode cX7_drop 8 = .ok (.bipush 120, 2) := by decide +kernel
theorem dX7_drop_10 : decode cX7_drop 10 = .ok (.if_icmp .ge 16, 3) := by decide +kernel
theorem dX7_drop_13 : decode cX7_drop 13 = .ok (.aload_n 0, 1) := by decide +kernel
theorem dX7_drop_14 : decode cX7_drop 14 = .ok (.getfield 9, 3) := by decide +kernel
theorem dX7_drop_17 : decode cX7_drop 17 = .ok (.iload_n 1, 1) := by decide +kernel
theorem dX7_drop_18 : decode cX7_drop 18 = .ok (.iconst 0, 1) := by decide +kernel
theorem dX7_drop_19 : decode cX7_drop 19 = .ok (.iastore, 1) := by decide +kernel
theorem dX7_drop_20 : decode cX7_drop 20 = .ok (.iinc 1 1, 3) := by decide +kernel
theorem dX7_drop_23 : decode cX7_drop 23 = .ok (.goto (-16), 3) := by decide +kernel
theorem dX7_drop_26 : decode cX7_drop 26 = .ok (.return_, 1) := by decide +kernel
theorem dX7_cheapest_0 : decode cX7_cheapest 0 = .ok (.iconst 0, 1) := by decide +kernel
theorem dX7_cheapest_1 : decode cX7_cheapest 1 = .ok (.istore_n 3, 1) := by decide +kernel
theorem dX7_cheapest_2 : decode cX7_cheapest 2 = .ok (.aload_n 0, 1) := by decide +kernel
theorem dX7_cheapest_3 : decode cX7_cheapest 3 = .ok (.iconst 0, 1) := by decide +kernel
theorem dX7_cheapest_4 : decode cX7_cheapest 4 = .ok (.iload_n 1, 1) := by decide +kernel
theorem dX7_cheapest_5 : decode cX7_cheapest 5 = .ok (.iload_n 2, 1) := by decide +kernel
theorem dX7_cheapest_6 : decode cX7_cheapest 6 = .ok (.invokevirtual 23, 3) := by decide +kernel
theorem dX7_cheapest_9 : decode cX7_cheapest 9 = .ok (.lstore 4, 2) := by decide +kernel
theorem dX7_cheapest_11 : decode cX7_cheapest 11 = .ok (.iconst 1, 1) := by decide +kernel
theorem dX7_cheapest_12 : decode cX7_cheapest 12 = .ok (.istore 6, 2) := by decide +kernel
theorem dX7_cheapest_14 : decode cX7_cheapest 14 = .ok (.iload 6, 2) := by decide +kernel
theorem dX7_cheapest_16 : decode cX7_cheapest 16 = .ok (.iconst 1, 1) := by decide +kernel
theorem dX7_cheapest_17 : decode cX7_cheapest 17 = .ok (.aload_n 0, 1) := by decide +kernel
theorem dX7_cheapest_18 : decode cX7_cheapest 18 = .ok (.getfield 19, 3) := by decide +kernel
theorem dX7_cheapest_21 : decode cX7_cheapest 21 = .ok (.ishl, 1) := by decide +kernel
theorem dX7_cheapest_22 : decode cX7_cheapest 22 = .ok (.if_icmp .ge 66, 3) := by decide +kernel
theorem dX7_cheapest_25 : decode cX7_cheapest 25 = .ok (.aload_n 0, 1) := by decide +kernel
theorem dX7_cheapest_26 : decode cX7_cheapest 26 = .ok (.iload 6, 2) := by decide +kernel
theorem dX7_cheapest_28 : decode cX7_cheapest 28 = .ok (.iload_n 1, 1) := by decide +kernel
theorem dX7_cheapest_29 : decode cX7_cheapest 29 = .ok (.iload_n 2, 1) := by decide +kernel
theorem dX7_cheapest_30 : decode cX7_cheapest 30 = .ok (.invokevirtual 23, 3) := by decide +kernel
theorem dX7_cheapest_33 : decode cX7_cheapest 33 = .ok (.lstore 7, 2) := by decide +kernel
theorem dX7_cheapest_35 : decode cX7_cheapest 35 = .ok (.iload 6, 2) := by decide +kernel
theorem dX7_cheapest_37 : decode cX7_cheapest 37 = .ok (.invokestatic 27, 3) := by decide +kernel
theorem dX7_cheapest_40 : decode cX7_cheapest 40 = .ok (.iload_n 3, 1) := by decide +kernel
theorem dX7_cheapest_41 : decode cX7_cheapest 41 = .ok (.invokestatic 27, 3) := by decide +kernel
theorem dX7_cheapest_44 : decode cX7_cheapest 44 = .ok (.if_icmp .ge 7, 3) := by decide +kernel
theorem dX7_cheapest_47 : decode cX7_cheapest 47 = .ok (.iconst 1, 1) := by decide +kernel
theorem dX7_cheapest_48 : decode cX7_cheapest 48 = .ok (.goto 4, 3) := by decide +kernel
theorem dX7_cheapest_51 : decode cX7_cheapest 51 = .ok (.iconst 0, 1) := by decide +kernel
theorem dX7_cheapest_52 : decode cX7_cheapest 52 = .ok (.istore 9, 2) := by decide +kernel
theorem dX7_cheapest_54 : decode cX7_cheapest 54 = .ok (.lload 7, 2) := by decide +kernel
theorem dX7_cheapest_56 : decode cX7_cheapest 56 = .ok (.lload 4, 2) := by decide +kernel
theorem dX7_cheapest_58 : decode cX7_cheapest 58 = .ok (.lcmp, 1) := by decide +kernel
theorem dX7_cheapest_59 : decode cX7_cheapest 59 = .ok (.ifCond .lt 16, 3) := by decide +kernel
theorem dX7_cheapest_62 : decode cX7_cheapest 62 = .ok (.lload 7, 2) := by decide +kernel
theorem dX7_cheapest_64 : decode cX7_cheapest 64 = .ok (.lload 4, 2) := by decide +kernel
theorem dX7_cheapest_66 : decode cX7_cheapest 66 = .ok (.lcmp, 1) := by decide +kernel
theorem dX7_cheapest_67 : decode cX7_cheapest 67 = .ok (.ifCond .ne 15, 3) := by decide +kernel
theorem dX7_cheapest_70 : decode cX7_cheapest 70 = .ok (.iload 9, 2) := by decide +kernel
theorem dX7_cheapest_72 : decode cX7_cheapest 72 = .ok (.ifCond .eq 10, 3) := by decide +kernel
theorem dX7_cheapest_75 : decode cX7_cheapest 75 = .ok (.iload 6, 2) := by decide +kernel
theorem dX7_cheapest_77 : decode cX7_cheapest 77 = .ok (.istore_n 3, 1) := by decide +kernel
theorem dX7_cheapest_78 : decode cX7_cheapest 78 = .ok (.lload 7, 2) := by decide +kernel
theorem dX7_cheapest_80 : decode cX7_cheapest 80 = .ok (.lstore 4, 2) := by decide +kernel
theorem dX7_cheapest_82 : decode cX7_cheapest 82 = .ok (.iinc 6 1, 3) := by decide +kernel
theorem dX7_cheapest_85 : decode cX7_cheapest 85 = .ok (.goto (-71), 3) := by decide +kernel
theorem dX7_cheapest_88 : decode cX7_cheapest 88 = .ok (.iload_n 3, 1) := by decide +kernel
theorem dX7_cheapest_89 : decode cX7_cheapest 89 = .ok (.ireturn, 1) := by decide +kernel
theorem dX7_worstCost_0 : decode cX7_worstCost 0 = .ok (.aload_n 0, 1) := by decide +kernel
theorem dX7_worstCost_1 : decode cX7_worstCost 1 = .ok (.getfield 15, 3) := by decide +kernel
theorem dX7_worstCost_4 : decode cX7_worstCost 4 = .ok (.getfield 33, 3) := by decide +kernel
theorem dX7_worstCost_7 : decode cX7_worstCost 7 = .ok (.astore 4, 2) := by decide +kernel
theorem dX7_worstCost_9 : decode cX7_worstCost 9 = .ok (.lconst 0, 1) := by decide +kernel
theorem dX7_worstCost_10 : decode cX7_worstCost 10 = .ok (.lstore 5, 2) := by decide +kernel
theorem dX7_worstCost_12 : decode cX7_worstCost 12 = .ok (.aload_n 0, 1) := by decide +kernel
theorem dX7_worstCost_13 : decode cX7_worstCost 13 = .ok (.getfield 15, 3) := by decide +kernel
theorem dX7_worstCost_16 : decode cX7_worstCost 16 = .ok (.getfield 39, 3) := by decide +kernel
theorem dX7_worstCost_19 : decode cX7_worstCost 19 = .ok (.iload_n 2, 1) := by decide +kernel
theorem dX7_worstCost_20 : decode cX7_worstCost 20 = .ok (.iaload, 1) := by decide +kernel
theorem dX7_worstCost_21 : decode cX7_worstCost 21 = .ok (.istore 7, 2) := by decide +kernel
theorem dX7_worstCost_23 : decode cX7_worstCost 23 = .ok (.iload_n 2, 1) := by decide +kernel
theorem dX7_worstCost_24 : decode cX7_worstCost 24 = .ok (.istore 8, 2) := by decide +kernel
theorem dX7_worstCost_26 : decode cX7_worstCost 26 = .ok (.iload 8, 2) := by decide +kernel
theorem dX7_worstCost_28 : decode cX7_worstCost 28 = .ok (.iload_n 3, 1) := by decide +kernel
theorem dX7_worstCost_29 : decode cX7_worstCost 29 = .ok (.if_icmp .gt 118, 3) := by decide +kernel
theorem dX7_worstCost_32 : decode cX7_worstCost 32 = .ok (.iload 8, 2) := by decide +kernel
theorem dX7_worstCost_34 : decode cX7_worstCost 34 = .ok (.iload_n 2, 1) := by decide +kernel
theorem dX7_worstCost_35 : decode cX7_worstCost 35 = .ok (.if_icmp .le 56, 3) := by decide +kernel
theorem dX7_worstCost_38 : decode cX7_worstCost 38 = .ok (.aload_n 0, 1) := by decide +kernel
theorem dX7_worstCost_39 : decode cX7_worstCost 39 = .ok (.getfield 15, 3) := by decide +kernel
theorem dX7_worstCost_42 : decode cX7_worstCost 42 = .ok (.getfield 42, 3) := by decide +kernel
theorem dX7_worstCost_45 : decode cX7_worstCost 45 = .ok (.iload 8, 2) := by decide +kernel
theorem dX7_worstCost_47 : decode cX7_worstCost 47 = .ok (.baload, 1) := by decide +kernel
theorem dX7_worstCost_48 : decode cX7_worstCost 48 = .ok (.ifCond .eq 16, 3) := by decide +kernel
theorem dX7_worstCost_51 : decode cX7_worstCost 51 = .ok (.aload_n 0, 1) := by decide +kernel
theorem dX7_worstCost_52 : decode cX7_worstCost 52 = .ok (.getfield 15, 3) := by decide +kernel
theorem dX7_worstCost_55 : decode cX7_worstCost 55 = .ok (.getfield 46, 3) := by decide +kernel
theorem dX7_worstCost_58 : decode cX7_worstCost 58 = .ok (.iload 8, 2) := by decide +kernel
theorem dX7_worstCost_60 : decode cX7_worstCost 60 = .ok (.iaload, 1) := by decide +kernel
theorem dX7_worstCost_61 : decode cX7_worstCost 61 = .ok (.goto 28, 3) := by decide +kernel
theorem dX7_worstCost_64 : decode cX7_worstCost 64 = .ok (.iload 7, 2) := by decide +kernel
theorem dX7_worstCost_66 : decode cX7_worstCost 66 = .ok (.aload_n 0, 1) := by decide +kernel
theorem dX7_worstCost_67 : decode cX7_worstCost 67 = .ok (.getfield 15, 3) := by decide +kernel
theorem dX7_worstCost_70 : decode cX7_worstCost 70 = .ok (.getfield 49, 3) := by decide +kernel
theorem dX7_worstCost_73 : decode cX7_worstCost 73 = .ok (.iload 8, 2) := by decide +kernel
theorem dX7_worstCost_75 : decode cX7_worstCost 75 = .ok (.iconst 1, 1) := by decide +kernel
theorem dX7_worstCost_76 : decode cX7_worstCost 76 = .ok (.isub, 1) := by decide +kernel
theorem dX7_worstCost_77 : decode cX7_worstCost 77 = .ok (.iaload, 1) := by decide +kernel
theorem dX7_worstCost_78 : decode cX7_worstCost 78 = .ok (.iadd, 1) := by decide +kernel
theorem dX7_worstCost_79 : decode cX7_worstCost 79 = .ok (.iconst 0, 1) := by decide +kernel
theorem dX7_worstCost_80 : decode cX7_worstCost 80 = .ok (.invokestatic 52, 3) := by decide +kernel
theorem dX7_worstCost_83 : decode cX7_worstCost 83 = .ok (.sipush 1000, 3) := by decide +kernel
theorem dX7_worstCost_86 : decode cX7_worstCost 86 = .ok (.invokestatic 58, 3) := by decide +kernel
theorem dX7_worstCost_89 : decode cX7_worstCost 89 = .ok (.istore 7, 2) := by decide +kernel
theorem dX7_worstCost_91 : decode cX7_worstCost 91 = .ok (.aload_n 0, 1) := by decide +kernel
theorem dX7_worstCost_92 : decode cX7_worstCost 92 = .ok (.getfield 9, 3) := by decide +kernel
theorem dX7_worstCost_95 : decode cX7_worstCost 95 = .ok (.iload 8, 2) := by decide +kernel
theorem dX7_worstCost_97 : decode cX7_worstCost 97 = .ok (.iaload, 1) := by decide +kernel
theorem dX7_worstCost_98 : decode cX7_worstCost 98 = .ok (.iload_n 1, 1) := by decide +kernel
theorem dX7_worstCost_99 : decode cX7_worstCost 99 = .ok (.iand, 1) := by decide +kernel
theorem dX7_worstCost_100 : decode cX7_worstCost 100 = .ok (.ifCond .eq 17, 3) := by decide +kernel
theorem dX7_worstCost_103 : decode cX7_worstCost 103 = .ok (.iconst 0, 1) := by decide +kernel
theorem dX7_worstCost_104 : decode cX7_worstCost 104 = .ok (.istore 7, 2) := by decide +kernel
theorem dX7_worstCost_106 : decode cX7_worstCost 106 = .ok (.lload 5, 2) := by decide +kernel
theorem dX7_worstCost_108 : decode cX7_worstCost 108 = .ok (.aload 4, 2) := by decide +kernel
theorem dX7_worstCost_110 : decode cX7_worstCost 110 = .ok (.getfield 61, 3) := by decide +kernel
theorem dX7_worstCost_113 : decode cX7_worstCost 113 = .ok (.i2l, 1) := by decide +kernel
theorem dX7_worstCost_114 : decode cX7_worstCost 114 = .ok (.ladd, 1) := by decide +kernel
theorem dX7_worstCost_115 : decode cX7_worstCost 115 = .ok (.lstore 5, 2) := by decide +kernel
theorem dX7_worstCost_117 : decode cX7_worstCost 117 = .ok (.lload 5, 2) := by decide +kernel
theorem dX7_worstCost_119 : decode cX7_worstCost 119 = .ok (.aload_n 0, 1) := by decide +kernel
theorem dX7_worstCost_120 : decode cX7_worstCost 120 = .ok (.getfield 15, 3) := by decide +kernel
theorem dX7_worstCost_123 : decode cX7_worstCost 123 = .ok (.iload 8, 2) := by decide +kernel
theorem dX7_worstCost_125 : decode cX7_worstCost 125 = .ok (.iload 7, 2) := by decide +kernel
theorem dX7_worstCost_127 : decode cX7_worstCost 127 = .ok (.invokevirtual 66, 3) := by decide +kernel
theorem dX7_worstCost_130 : decode cX7_worstCost 130 = .ok (.i2l, 1) := by decide +kernel
theorem dX7_worstCost_131 : decode cX7_worstCost 131 = .ok (.aload 4, 2) := by decide +kernel
theorem dX7_worstCost_133 : decode cX7_worstCost 133 = .ok (.getfield 69, 3) := by decide +kernel
theorem dX7_worstCost_136 : decode cX7_worstCost 136 = .ok (.i2l, 1) := by decide +kernel
theorem dX7_worstCost_137 : decode cX7_worstCost 137 = .ok (.lmul, 1) := by decide +kernel
theorem dX7_worstCost_138 : decode cX7_worstCost 138 = .ok (.ladd, 1) := by decide +kernel
theorem dX7_worstCost_139 : decode cX7_worstCost 139 = .ok (.lstore 5, 2) := by decide +kernel
theorem dX7_worstCost_141 : decode cX7_worstCost 141 = .ok (.iinc 8 1, 3) := by decide +kernel
theorem dX7_worstCost_144 : decode cX7_worstCost 144 = .ok (.goto (-118), 3) := by decide +kernel
theorem dX7_worstCost_147 : decode cX7_worstCost 147 = .ok (.lload 5, 2) := by decide +kernel
theorem dX7_worstCost_149 : decode cX7_worstCost 149 = .ok (.lreturn, 1) := by decide +kernel
theorem dX8_init_0 : decode cX8_init 0 = .ok (.aload_n 0, 1) := by decide +kernel
theorem dX8_init_1 : decode cX8_init 1 = .ok (.invokespecial 3, 3) := by decide +kernel
theorem dX8_init_4 : decode cX8_init 4 = .ok (.aload_n 0, 1) := by decide +kernel
theorem dX8_init_5 : decode cX8_init 5 = .ok (.sipush 2000, 3) := by decide +kernel
theorem dX8_init_8 : decode cX8_init 8 = .ok (.newarray .int, 2) := by decide +kernel
theorem dX8_init_10 : decode cX8_init 10 = .ok (.putfield 11, 3) := by decide +kernel
theorem dX8_init_13 : decode cX8_init 13 = .ok (.aload_n 0, 1) := by decide +kernel
theorem dX8_init_14 : decode cX8_init 14 = .ok (.aload_n 1, 1) := by decide +kernel
theorem dX8_init_15 : decode cX8_init 15 = .ok (.putfield 15, 3) := by decide +kernel
theorem dX8_init_18 : decode cX8_init 18 = .ok (.return_, 1) := by decide +kernel
theorem dX8_writeAll_0 : decode cX8_writeAll 0 = .ok (.aload_n 0, 1) := by decide +kernel
theorem dX8_writeAll_1 : decode cX8_writeAll 1 = .ok (.iload_n 1, 1) := by decide +kernel
theorem dX8_writeAll_2 : decode cX8_writeAll 2 = .ok (.putfield 19, 3) := by decide +kernel
theorem dX8_writeAll_5 : decode cX8_writeAll 5 = .ok (.aload_n 0, 1) := by decide +kernel
theorem dX8_writeAll_6 : decode cX8_writeAll 6 = .ok (.iconst 0, 1) := by decide +kernel
theorem dX8_writeAll_7 : decode cX8_writeAll 7 = .ok (.putfield 23, 3) := by decide +kernel
theorem dX8_writeAll_10 : decode cX8_writeAll 10 = .ok (.aload_n 0, 1) := by decide +kernel
theorem dX8_writeAll_11 : decode cX8_writeAll 11 = .ok (.iconst 0, 1) := by decide +kernel
theorem dX8_writeAll_12 : decode cX8_writeAll 12 = .ok (.putfield 26, 3) := by decide +kernel
theorem dX8_writeAll_15 : decode cX8_writeAll 15 = .ok (.aload_n 0, 1) := by decide +kernel
theorem dX8_writeAll_16 : decode cX8_writeAll 16 = .ok (.aload_n 0, 1) := by decide +kernel
theorem dX8_writeAll_17 : decode cX8_writeAll 17 = .ok (.getfield 15, 3) := by decide +kernel
theorem dX8_writeAll_20 : decode cX8_writeAll 20 = .ok (.getfield 30, 3) := by decide +kernel
theorem dX8_writeAll_23 : decode cX8_writeAll 23 = .ok (.iconst 0, 1) := by decide +kernel
theorem dX8_writeAll_24 : decode cX8_writeAll 24 = .ok (.iconst 0, 1) := by decide +kernel
theorem dX8_writeAll_25 : decode cX8_writeAll 25 = .ok (.invokevirtual 35, 3) := by decide +kernel
theorem dX8_writeAll_28 : decode cX8_writeAll 28 = .ok (.aload_n 0, 1) := by decide +kernel
theorem dX8_writeAll_29 : decode cX8_writeAll 29 = .ok (.getfield 23, 3) := by decide +kernel
theorem dX8_writeAll_32 : decode cX8_writeAll 32 = .ok (.sipush 2000, 3) := by decide +kernel
theorem dX8_writeAll_35 : decode cX8_writeAll 35 = .ok (.if_icmp .le 5, 3) := by decide +kernel
theorem dX8_writeAll_38 : decode cX8_writeAll 38 = .ok (.iconst (-1), 1) := by decide +kernel
theorem dX8_writeAll_39 : decode cX8_writeAll 39 = .ok (.ireturn, 1) := by decide +kernel
theorem dX8_writeAll_40 : decode cX8_writeAll 40 = .ok (.aload_n 0, 1) := by decide +kernel
theorem dX8_writeAll_41 : decode cX8_writeAll 41 = .ok (.iconst 0, 1) := by decide +kernel
theorem dX8_writeAll_42 : decode cX8_writeAll 42 = .ok (.putfield 23, 3) := by decide +kernel
theorem dX8_writeAll_45 : decode cX8_writeAll 45 = .ok (.aload_n 0, 1) := by decide +kernel
theorem dX8_writeAll_46 : decode cX8_writeAll 46 = .ok (.iconst 1, 1) := by decide +kernel
theorem dX8_writeAll_47 : decode cX8_writeAll 47 = .ok (.putfield 26, 3) := by decide +kernel
theorem dX8_writeAll_50 : decode cX8_writeAll 50 = .ok (.aload_n 0, 1) := by decide +kernel
theorem dX8_writeAll_51 : decode cX8_writeAll 51 = .ok (.aload_n 0, 1) := by decide +kernel
theorem dX8_writeAll_52 : decode cX8_writeAll 52 = .ok (.getfield 15, 3) := by decide +kernel
theorem dX8_writeAll_55 : decode cX8_writeAll 55 = .ok (.getfield 30, 3) := by decide +kernel
theorem dX8_writeAll_58 : decode cX8_writeAll 58 = .ok (.iconst 0, 1) := by decide +kernel
theorem dX8_writeAll_59 : decode cX8_writeAll 59 = .ok (.iconst 0, 1) := by decide +kernel
theorem dX8_writeAll_60 : decode cX8_writeAll 60 = .ok (.invokevirtual 35, 3) := by decide +kernel
theorem dX8_writeAll_63 : decode cX8_writeAll 63 = .ok (.aload_n 0, 1) := by decide +kernel
theorem dX8_writeAll_64 : decode cX8_writeAll 64 = .ok (.aload_n 0, 1) := by decide +kernel
theorem dX8_writeAll_65 : decode cX8_writeAll 65 = .ok (.getfield 23, 3) := by decide +kernel
theorem dX8_writeAll_68 : decode cX8_writeAll 68 = .ok (.putfield 39, 3) := by decide +kernel
theorem dX8_writeAll_71 : decode cX8_writeAll 71 = .ok (.aload_n 0, 1) := by decide +kernel
theorem dX8_writeAll_72 : decode cX8_writeAll 72 = .ok (.getfield 39, 3) := by decide +kernel
theorem dX8_writeAll_75 : decode cX8_writeAll 75 = .ok (.ireturn, 1) := by decide +kernel
theorem dX8_write_0 : decode cX8_write 0 = .ok (.iload_n 3, 1) := by decide +kernel
theorem dX8_write_1 : decode cX8_write 1 = .ok (.bipush 24, 2) := by decide +kernel
theorem dX8_write_3 : decode cX8_write 3 = .ok (.if_icmp .gt 13, 3) := by decide +kernel
theorem dX8_write_6 : decode cX8_write 6 = .ok (.aload_n 0, 1) := by decide +kernel
theorem dX8_write_7 : decode cX8_write 7 = .ok (.getfield 23, 3) := by decide +kernel
theorem dX8_write_10 : decode cX8_write 10 = .ok (.sipush 2000, 3) := by decide +kernel
theorem dX8_write_13 : decode cX8_write 13 = .ok (.if_icmp .le 4, 3) := by decide +kernel
theorem dX8_write_16 : decode cX8_write 16 = .ok (.return_, 1) := by decide +kernel
theorem dX8_write_17 : decode cX8_write 17 = .ok (.aload_n 0, 1) := by decide +kernel
theorem dX8_write_18 : decode cX8_write 18 = .ok (.getfield 15, 3) := by decide +kernel
theorem dX8_write_21 : decode cX8_write 21 = .ok (.iload_n 1, 1) := by decide +kernel
theorem dX8_write_22 : decode cX8_write 22 = .ok (.invokevirtual 42, 3) := by decide +kernel
theorem dX8_write_25 : decode cX8_write 25 = .ok (.istore 4, 2) := by decide +kernel
theorem dX8_write_27 : decode cX8_write 27 = .ok (.iload 4, 2) := by decide +kernel
theorem dX8_write_29 : decode cX8_write 29 = .ok (.iconst (-1), 1) := by decide +kernel
theorem dX8_write_30 : decode cX8_write 30 = .ok (.if_icmp .eq 17, 3) := by decide +kernel
theorem dX8_write_33 : decode cX8_write 33 = .ok (.iload_n 2, 1) := by decide +kernel
theorem dX8_write_34 : decode cX8_write 34 = .ok (.aload_n 0, 1) := by decide +kernel
theorem dX8_write_35 : decode cX8_write 35 = .ok (.iload_n 1, 1) := by decide +kernel
theorem dX8_write_36 : decode cX8_write 36 = .ok (.invokevirtual 46, 3) := by decide +kernel
theorem dX8_write_39 : decode cX8_write 39 = .ok (.iadd, 1) := by decide +kernel
theorem dX8_write_40 : decode cX8_write 40 = .ok (.aload_n 0, 1) := by decide +kernel
theorem dX8_write_41 : decode cX8_write 41 = .ok (.getfield 19, 3) := by decide +kernel
theorem dX8_write_44 : decode cX8_write 44 = .ok (.if_icmp .gt 9, 3) := by decide +kernel
theorem dX8_write_47 : decode cX8_write 47 = .ok (.aload_n 0, 1) := by decide +kernel
theorem dX8_write_48 : decode cX8_write 48 = .ok (.iload_n 1, 1) := by decide +kernel
theorem dX8_write_49 : decode cX8_write 49 = .ok (.invokevirtual 49, 3) := by decide +kernel
theorem dX8_write_52 : decode cX8_write 52 = .ok (.return_, 1) := by decide +kernel
theorem dX8_write_53 : decode cX8_write 53 = .ok (.iload_n 1, 1) := by decide +kernel
theorem dX8_write_54 : decode cX8_write 54 = .ok (.iconst 1, 1) := by decide +kernel
theorem dX8_write_55 : decode cX8_write 55 = .ok (.iload 4, 2) := by decide +kernel
theorem dX8_write_57 : decode cX8_write 57 = .ok (.ishl, 1) := by decide +kernel
theorem dX8_write_58 : decode cX8_write 58 = .ok (.iconst (-1), 1) := by decide +kernel
theorem dX8_write_59 : decode cX8_write 59 = .ok (.ixor, 1) := by decide +kernel
theorem dX8_write_60 : decode cX8_write 60 = .ok (.iand, 1) := by decide +kernel
theorem dX8_write_61 : decode cX8_write 61 = .ok (.istore 5, 2) := by decide +kernel
theorem dX8_write_63 : decode cX8_write 63 = .ok (.aload_n 0, 1) := by decide +kernel
theorem dX8_write_64 : decode cX8_write 64 = .ok (.bipush 40, 2) := by decide +kernel
theorem dX8_write_66 : decode cX8_write 66 = .ok (.invokevirtual 53, 3) := by decide +kernel
theorem dX8_write_69 : decode cX8_write 69 = .ok (.aload_n 0, 1) := by decide +kernel
theorem dX8_write_70 : decode cX8_write 70 = .ok (.iload 4, 2) := by decide +kernel
theorem dX8_write_72 : decode cX8_write 72 = .ok (.invokevirtual 56, 3) := by decide +kernel
theorem dX8_write_75 : decode cX8_write 75 = .ok (.aload_n 0, 1) := by decide +kernel
theorem dX8_write_76 : decode cX8_write 76 = .ok (.iload 5, 2) := by decide +kernel
theorem dX8_write_78 : decode cX8_write 78 = .ok (.aload_n 0, 1) := by decide +kernel
theorem dX8_write_79 : decode cX8_write 79 = .ok (.getfield 15, 3) := by decide +kernel
theorem dX8_write_82 : decode cX8_write 82 = .ok (.getfield 59, 3) := by decide +kernel
theorem dX8_write_85 : decode cX8_write 85 = .ok (.iload 4, 2) := by decide +kernel
theorem dX8_write_87 : decode cX8_write 87 = .ok (.iaload, 1) := by decide +kernel
theorem dX8_write_88 : decode cX8_write 88 = .ok (.iconst (-1), 1) := by decide +kernel
theorem dX8_write_89 : decode cX8_write 89 = .ok (.ixor, 1) := by decide +kernel
theorem dX8_write_90 : decode cX8_write 90 = .ok (.iand, 1) := by decide +kernel
theorem dX8_write_91 : decode cX8_write 91 = .ok (.iload_n 2, 1) := by decide +kernel
theorem dX8_write_92 : decode cX8_write 92 = .ok (.aload_n 0, 1) := by decide +kernel
theorem dX8_write_93 : decode cX8_write 93 = .ok (.getfield 15, 3) := by decide +kernel
theorem dX8_write_96 : decode cX8_write 96 = .ok (.getfield 62, 3) := by decide +kernel
theorem dX8_write_99 : decode cX8_write 99 = .ok (.iload 4, 2) := by decide +kernel
theorem dX8_write_101 : decode cX8_write 101 = .ok (.iaload, 1) := by decide +kernel
theorem dX8_write_102 : decode cX8_write 102 = .ok (.iadd, 1) := by decide +kernel
theorem dX8_write_103 : decode cX8_write 103 = .ok (.iload_n 3, 1) := by decide +kernel
theorem dX8_write_104 : decode cX8_write 104 = .ok (.iconst 1, 1) := by decide +kernel
theorem dX8_write_105 : decode cX8_write 105 = .ok (.iadd, 1) := by decide +kernel
theorem dX8_write_106 : decode cX8_write 106 = .ok (.invokevirtual 35, 3) := by decide +kernel
theorem dX8_write_109 : decode cX8_write 109 = .ok (.aload_n 0, 1) := by decide +kernel
theorem dX8_write_110 : decode cX8_write 110 = .ok (.iload 5, 2) := by decide +kernel
theorem dX8_write_112 : decode cX8_write 112 = .ok (.iload_n 2, 1) := by decide +kernel
theorem dX8_write_113 : decode cX8_write 113 = .ok (.iload_n 3, 1) := by decide +kernel
theorem dX8_write_114 : decode cX8_write 114 = .ok (.iconst 1, 1) := by decide +kernel
theorem dX8_write_115 : decode cX8_write 115 = .ok (.iadd, 1) := by decide +kernel
theorem dX8_write_116 : decode cX8_write 116 = .ok (.invokevirtual 35, 3) := by decide +kernel
theorem dX8_write_119 : decode cX8_write 119 = .ok (.aload_n 0, 1) := by decide +kernel
theorem dX8_write_120 : decode cX8_write 120 = .ok (.bipush 41, 2) := by decide +kernel
theorem dX8_write_122 : decode cX8_write 122 = .ok (.invokevirtual 53, 3) := by decide +kernel
theorem dX8_write_125 : decode cX8_write 125 = .ok (.return_, 1) := by decide +kernel
theorem dX8_bound_0 : decode cX8_bound 0 = .ok (.iload_n 1, 1) := by decide +kernel
theorem dX8_bound_1 : decode cX8_bound 1 = .ok (.istore_n 2, 1) := by decide +kernel
theorem dX8_bound_2 : decode cX8_bound 2 = .ok (.iconst 0, 1) := by decide +kernel
theorem dX8_bound_3 : decode cX8_bound 3 = .ok (.istore_n 3, 1) := by decide +kernel
theorem dX8_bound_4 : decode cX8_bound 4 = .ok (.iconst 0, 1) := by decide +kernel
theorem dX8_bound_5 : decode cX8_bound 5 = .ok (.istore 4, 2) := by decide +kernel
theorem dX8_bound_7 : decode cX8_bound 7 = .ok (.iload 4, 2) := by decide +kernel
theorem dX8_bound_9 : decode cX8_bound 9 = .ok (.bipush 24, 2) := by decide +kernel
theorem dX8_bound_11 : decode cX8_bound 11 = .ok (.if_icmp .ge 50, 3) := by decide +kernel
theorem dX8_bound_14 : decode cX8_bound 14 = .ok (.iload_n 2, 1) := by decide +kernel
theorem dX8_bound_15 : decode cX8_bound 15 = .ok (.iload 4, 2) := by decide +kernel
theorem dX8_bound_17 : decode cX8_bound 17 = .ok (.ishr, 1) := by decide +kernel
theorem dX8_bound_18 : decode cX8_bound 18 = .ok (.iconst 1, 1) := by decide +kernel
theorem dX8_bound_19 : decode cX8_bound 19 = .ok (.iand, 1) := by decide +kernel
theorem dX8_bound_20 : decode cX8_bound 20 = .ok (.iconst 1, 1) := by decide +kernel
theorem dX8_bound_21 : decode cX8_bound 21 = .ok (.if_icmp .ne 34, 3) := by decide +kernel
theorem dX8_bound_24 : decode cX8_bound 24 = .ok (.aload_n 0, 1) := by decide +kernel
theorem dX8_bound_25 : decode cX8_bound 25 = .ok (.getfield 15, 3) := by decide +kernel
theorem dX8_bound_28 : decode cX8_bound 28 = .ok (.iload 4, 2) := by decide +kernel
theorem dX8_bound_30 : decode cX8_bound 30 = .ok (.iload_n 2, 1) := by decide +kernel
theorem dX8_bound_31 : decode cX8_bound 31 = .ok (.invokevirtual 65, 3) := by decide +kernel
theorem dX8_bound_34 : decode cX8_bound 34 = .ok (.istore 5, 2) := by decide +kernel
theorem dX8_bound_36 : decode cX8_bound 36 = .ok (.iload_n 2, 1) := by decide +kernel
theorem dX8_bound_37 : decode cX8_bound 37 = .ok (.iload 5, 2) := by decide +kernel
theorem dX8_bound_39 : decode cX8_bound 39 = .ok (.iconst (-1), 1) := by decide +kernel
theorem dX8_bound_40 : decode cX8_bound 40 = .ok (.ixor, 1) := by decide +kernel
theorem dX8_bound_41 : decode cX8_bound 41 = .ok (.iand, 1) := by decide +kernel
theorem dX8_bound_42 : decode cX8_bound 42 = .ok (.istore_n 2, 1) := by decide +kernel
theorem dX8_bound_43 : decode cX8_bound 43 = .ok (.iload_n 3, 1) := by decide +kernel
theorem dX8_bound_44 : decode cX8_bound 44 = .ok (.aload_n 0, 1) := by decide +kernel
theorem dX8_bound_45 : decode cX8_bound 45 = .ok (.getfield 15, 3) := by decide +kernel
theorem dX8_bound_48 : decode cX8_bound 48 = .ok (.iload 5, 2) := by decide +kernel
theorem dX8_bound_50 : decode cX8_bound 50 = .ok (.invokevirtual 69, 3) := by decide +kernel
theorem dX8_bound_53 : decode cX8_bound 53 = .ok (.iadd, 1) := by decide +kernel
theorem dX8_bound_54 : decode cX8_bound 54 = .ok (.istore_n 3, 1) := by decide +kernel
theorem dX8_bound_55 : decode cX8_bound 55 = .ok (.iinc 4 1, 3) := by decide +kernel
theorem dX8_bound_58 : decode cX8_bound 58 = .ok (.goto (-51), 3) := by decide +kernel
theorem dX8_bound_61 : decode cX8_bound 61 = .ok (.iload_n 3, 1) := by decide +kernel
theorem dX8_bound_62 : decode cX8_bound 62 = .ok (.ireturn, 1) := by decide +kernel
theorem dX8_writeGroups_0 : decode cX8_writeGroups 0 = .ok (.iload_n 1, 1) := by decide +kernel
theorem dX8_writeGroups_1 : decode cX8_writeGroups 1 = .ok (.istore_n 2, 1) := by decide +kernel
