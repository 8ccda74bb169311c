theorem dX8_writeGroups_2 : decode cX8_writeGroups 2 = .ok (.aload_n 0, 1) := by decide +kernel
theorem dX8_writeGroups_3 : decode cX8_writeGroups 3 = .ok (.bipush 91, 2) := by decide +kernel
theorem dX8_writeGroups_5 : decode cX8_writeGroups 5 = .ok (.invokevirtual 53, 3) := by decide +kernel
theorem dX8_writeGroups_8 : decode cX8_writeGroups 8 = .ok (.iconst 0, 1) := by decide +kernel
theorem dX8_writeGroups_9 : decode cX8_writeGroups 9 = .ok (.istore_n 3, 1) := by decide +kernel
theorem dX8_writeGroups_10 : decode cX8_writeGroups 10 = .ok (.iload_n 3, 1) := by decide +kernel
theorem dX8_writeGroups_11 : decode cX8_writeGroups 11 = .ok (.bipush 24, 2) := by decide +kernel
theorem dX8_writeGroups_13 : decode cX8_writeGroups 13 = .ok (.if_icmp .ge 52, 3) := by decide +kernel
theorem dX8_writeGroups_16 : decode cX8_writeGroups 16 = .ok (.iload_n 2, 1) := by decide +kernel
theorem dX8_writeGroups_17 : decode cX8_writeGroups 17 = .ok (.iload_n 3, 1) := by decide +kernel
theorem dX8_writeGroups_18 : decode cX8_writeGroups 18 = .ok (.ishr, 1) := by decide +kernel
theorem dX8_writeGroups_19 : decode cX8_writeGroups 19 = .ok (.iconst 1, 1) := by decide +kernel
theorem dX8_writeGroups_20 : decode cX8_writeGroups 20 = .ok (.iand, 1) := by decide +kernel
theorem dX8_writeGroups_21 : decode cX8_writeGroups 21 = .ok (.iconst 1, 1) := by decide +kernel
theorem dX8_writeGroups_22 : decode cX8_writeGroups 22 = .ok (.if_icmp .ne 37, 3) := by decide +kernel
theorem dX8_writeGroups_25 : decode cX8_writeGroups 25 = .ok (.aload_n 0, 1) := by decide +kernel
theorem dX8_writeGroups_26 : decode cX8_writeGroups 26 = .ok (.getfield 15, 3) := by decide +kernel
theorem dX8_writeGroups_29 : decode cX8_writeGroups 29 = .ok (.iload_n 3, 1) := by decide +kernel
theorem dX8_writeGroups_30 : decode cX8_writeGroups 30 = .ok (.iload_n 2, 1) := by decide +kernel
theorem dX8_writeGroups_31 : decode cX8_writeGroups 31 = .ok (.invokevirtual 65, 3) := by decide +kernel
theorem dX8_writeGroups_34 : decode cX8_writeGroups 34 = .ok (.istore 4, 2) := by decide +kernel
theorem dX8_writeGroups_36 : decode cX8_writeGroups 36 = .ok (.iload_n 2, 1) := by decide +kernel
theorem dX8_writeGroups_37 : decode cX8_writeGroups 37 = .ok (.iload 4, 2) := by decide +kernel
theorem dX8_writeGroups_39 : decode cX8_writeGroups 39 = .ok (.iconst (-1), 1) := by decide +kernel
theorem dX8_writeGroups_40 : decode cX8_writeGroups 40 = .ok (.ixor, 1) := by decide +kernel
theorem dX8_writeGroups_41 : decode cX8_writeGroups 41 = .ok (.iand, 1) := by decide +kernel
theorem dX8_writeGroups_42 : decode cX8_writeGroups 42 = .ok (.istore_n 2, 1) := by decide +kernel
theorem dX8_writeGroups_43 : decode cX8_writeGroups 43 = .ok (.iload 4, 2) := by decide +kernel
theorem dX8_writeGroups_45 : decode cX8_writeGroups 45 = .ok (.invokestatic 72, 3) := by decide +kernel
theorem dX8_writeGroups_48 : decode cX8_writeGroups 48 = .ok (.iconst 1, 1) := by decide +kernel
theorem dX8_writeGroups_49 : decode cX8_writeGroups 49 = .ok (.if_icmp .le 10, 3) := by decide +kernel
theorem dX8_writeGroups_52 : decode cX8_writeGroups 52 = .ok (.aload_n 0, 1) := by decide +kernel
theorem dX8_writeGroups_53 : decode cX8_writeGroups 53 = .ok (.iload_n 3, 1) := by decide +kernel
theorem dX8_writeGroups_54 : decode cX8_writeGroups 54 = .ok (.iload 4, 2) := by decide +kernel
theorem dX8_writeGroups_56 : decode cX8_writeGroups 56 = .ok (.invokevirtual 77, 3) := by decide +kernel
theorem dX8_writeGroups_59 : decode cX8_writeGroups 59 = .ok (.iinc 3 1, 3) := by decide +kernel
theorem dX8_writeGroups_62 : decode cX8_writeGroups 62 = .ok (.goto (-52), 3) := by decide +kernel
theorem dX8_writeGroups_65 : decode cX8_writeGroups 65 = .ok (.aload_n 0, 1) := by decide +kernel
theorem dX8_writeGroups_66 : decode cX8_writeGroups 66 = .ok (.bipush 93, 2) := by decide +kernel
theorem dX8_writeGroups_68 : decode cX8_writeGroups 68 = .ok (.invokevirtual 53, 3) := by decide +kernel
theorem dX8_writeGroups_71 : decode cX8_writeGroups 71 = .ok (.return_, 1) := by decide +kernel
theorem dX8_writeGroup_0 : decode cX8_writeGroup 0 = .ok (.iload_n 1, 1) := by decide +kernel
theorem dX8_writeGroup_1 : decode cX8_writeGroup 1 = .ok (.istore_n 3, 1) := by decide +kernel
theorem dX8_writeGroup_2 : decode cX8_writeGroup 2 = .ok (.iload_n 3, 1) := by decide +kernel
theorem dX8_writeGroup_3 : decode cX8_writeGroup 3 = .ok (.bipush 24, 2) := by decide +kernel
theorem dX8_writeGroup_5 : decode cX8_writeGroup 5 = .ok (.if_icmp .ge 34, 3) := by decide +kernel
theorem dX8_writeGroup_8 : decode cX8_writeGroup 8 = .ok (.iload_n 2, 1) := by decide +kernel
theorem dX8_writeGroup_9 : decode cX8_writeGroup 9 = .ok (.iload_n 3, 1) := by decide +kernel
theorem dX8_writeGroup_10 : decode cX8_writeGroup 10 = .ok (.ishr, 1) := by decide +kernel
theorem dX8_writeGroup_11 : decode cX8_writeGroup 11 = .ok (.iconst 1, 1) := by decide +kernel
theorem dX8_writeGroup_12 : decode cX8_writeGroup 12 = .ok (.iand, 1) := by decide +kernel
theorem dX8_writeGroup_13 : decode cX8_writeGroup 13 = .ok (.iconst 1, 1) := by decide +kernel
theorem dX8_writeGroup_14 : decode cX8_writeGroup 14 = .ok (.if_icmp .ne 19, 3) := by decide +kernel
theorem dX8_writeGroup_17 : decode cX8_writeGroup 17 = .ok (.iload_n 3, 1) := by decide +kernel
theorem dX8_writeGroup_18 : decode cX8_writeGroup 18 = .ok (.iload_n 1, 1) := by decide +kernel
theorem dX8_writeGroup_19 : decode cX8_writeGroup 19 = .ok (.if_icmp .le 9, 3) := by decide +kernel
theorem dX8_writeGroup_22 : decode cX8_writeGroup 22 = .ok (.aload_n 0, 1) := by decide +kernel
theorem dX8_writeGroup_23 : decode cX8_writeGroup 23 = .ok (.bipush 44, 2) := by decide +kernel
theorem dX8_writeGroup_25 : decode cX8_writeGroup 25 = .ok (.invokevirtual 53, 3) := by decide +kernel
theorem dX8_writeGroup_28 : decode cX8_writeGroup 28 = .ok (.aload_n 0, 1) := by decide +kernel
theorem dX8_writeGroup_29 : decode cX8_writeGroup 29 = .ok (.iload_n 3, 1) := by decide +kernel
theorem dX8_writeGroup_30 : decode cX8_writeGroup 30 = .ok (.invokevirtual 56, 3) := by decide +kernel
theorem dX8_writeGroup_33 : decode cX8_writeGroup 33 = .ok (.iinc 3 1, 3) := by decide +kernel
theorem dX8_writeGroup_36 : decode cX8_writeGroup 36 = .ok (.goto (-34), 3) := by decide +kernel
theorem dX8_writeGroup_39 : decode cX8_writeGroup 39 = .ok (.aload_n 0, 1) := by decide +kernel
theorem dX8_writeGroup_40 : decode cX8_writeGroup 40 = .ok (.bipush 59, 2) := by decide +kernel
theorem dX8_writeGroup_42 : decode cX8_writeGroup 42 = .ok (.invokevirtual 53, 3) := by decide +kernel
theorem dX8_writeGroup_45 : decode cX8_writeGroup 45 = .ok (.return_, 1) := by decide +kernel
theorem dX8_putNumber_0 : decode cX8_putNumber 0 = .ok (.iload_n 1, 1) := by decide +kernel
theorem dX8_putNumber_1 : decode cX8_putNumber 1 = .ok (.bipush 9, 2) := by decide +kernel
theorem dX8_putNumber_3 : decode cX8_putNumber 3 = .ok (.if_icmp .le 14, 3) := by decide +kernel
theorem dX8_putNumber_6 : decode cX8_putNumber 6 = .ok (.aload_n 0, 1) := by decide +kernel
theorem dX8_putNumber_7 : decode cX8_putNumber 7 = .ok (.bipush 48, 2) := by decide +kernel
theorem dX8_putNumber_9 : decode cX8_putNumber 9 = .ok (.iload_n 1, 1) := by decide +kernel
theorem dX8_putNumber_10 : decode cX8_putNumber 10 = .ok (.bipush 10, 2) := by decide +kernel
theorem dX8_putNumber_12 : decode cX8_putNumber 12 = .ok (.idiv, 1) := by decide +kernel
theorem dX8_putNumber_13 : decode cX8_putNumber 13 = .ok (.iadd, 1) := by decide +kernel
theorem dX8_putNumber_14 : decode cX8_putNumber 14 = .ok (.invokevirtual 53, 3) := by decide +kernel
theorem dX8_putNumber_17 : decode cX8_putNumber 17 = .ok (.aload_n 0, 1) := by decide +kernel
theorem dX8_putNumber_18 : decode cX8_putNumber 18 = .ok (.bipush 48, 2) := by decide +kernel
theorem dX8_putNumber_20 : decode cX8_putNumber 20 = .ok (.iload_n 1, 1) := by decide +kernel
theorem dX8_putNumber_21 : decode cX8_putNumber 21 = .ok (.bipush 10, 2) := by decide +kernel
theorem dX8_putNumber_23 : decode cX8_putNumber 23 = .ok (.irem, 1) := by decide +kernel
theorem dX8_putNumber_24 : decode cX8_putNumber 24 = .ok (.iadd, 1) := by decide +kernel
theorem dX8_putNumber_25 : decode cX8_putNumber 25 = .ok (.invokevirtual 53, 3) := by decide +kernel
theorem dX8_putNumber_28 : decode cX8_putNumber 28 = .ok (.return_, 1) := by decide +kernel
theorem dX8_put_0 : decode cX8_put 0 = .ok (.aload_n 0, 1) := by decide +kernel
theorem dX8_put_1 : decode cX8_put 1 = .ok (.getfield 26, 3) := by decide +kernel
theorem dX8_put_4 : decode cX8_put 4 = .ok (.ifCond .eq 23, 3) := by decide +kernel
theorem dX8_put_7 : decode cX8_put 7 = .ok (.aload_n 0, 1) := by decide +kernel
theorem dX8_put_8 : decode cX8_put 8 = .ok (.getfield 23, 3) := by decide +kernel
theorem dX8_put_11 : decode cX8_put 11 = .ok (.sipush 2000, 3) := by decide +kernel
theorem dX8_put_14 : decode cX8_put 14 = .ok (.if_icmp .ge 13, 3) := by decide +kernel
theorem dX8_put_17 : decode cX8_put 17 = .ok (.aload_n 0, 1) := by decide +kernel
theorem dX8_put_18 : decode cX8_put 18 = .ok (.getfield 11, 3) := by decide +kernel
theorem dX8_put_21 : decode cX8_put 21 = .ok (.aload_n 0, 1) := by decide +kernel
theorem dX8_put_22 : decode cX8_put 22 = .ok (.getfield 23, 3) := by decide +kernel
theorem dX8_put_25 : decode cX8_put 25 = .ok (.iload_n 1, 1) := by decide +kernel
theorem dX8_put_26 : decode cX8_put 26 = .ok (.iastore, 1) := by decide +kernel
theorem dX8_put_27 : decode cX8_put 27 = .ok (.aload_n 0, 1) := by decide +kernel
theorem dX8_put_28 : decode cX8_put 28 = .ok (.dup, 1) := by decide +kernel
theorem dX8_put_29 : decode cX8_put 29 = .ok (.getfield 23, 3) := by decide +kernel
theorem dX8_put_32 : decode cX8_put 32 = .ok (.iconst 1, 1) := by decide +kernel
theorem dX8_put_33 : decode cX8_put 33 = .ok (.iadd, 1) := by decide +kernel
theorem dX8_put_34 : decode cX8_put 34 = .ok (.putfield 23, 3) := by decide +kernel
theorem dX8_put_37 : decode cX8_put 37 = .ok (.return_, 1) := by decide +kernel
theorem dX9_init_0 : decode cX9_init 0 = .ok (.aload_n 0, 1) := by decide +kernel
theorem dX9_init_1 : decode cX9_init 1 = .ok (.invokespecial 3, 3) := by decide +kernel
theorem dX9_init_4 : decode cX9_init 4 = .ok (.aload_n 0, 1) := by decide +kernel
theorem dX9_init_5 : decode cX9_init 5 = .ok (.bipush 96, 2) := by decide +kernel
theorem dX9_init_7 : decode cX9_init 7 = .ok (.newarray .int, 2) := by decide +kernel
theorem dX9_init_9 : decode cX9_init 9 = .ok (.putfield 11, 3) := by decide +kernel
theorem dX9_init_12 : decode cX9_init 12 = .ok (.aload_n 0, 1) := by decide +kernel
theorem dX9_init_13 : decode cX9_init 13 = .ok (.bipush 96, 2) := by decide +kernel
theorem dX9_init_15 : decode cX9_init 15 = .ok (.newarray .int, 2) := by decide +kernel
theorem dX9_init_17 : decode cX9_init 17 = .ok (.putfield 15, 3) := by decide +kernel
theorem dX9_init_20 : decode cX9_init 20 = .ok (.return_, 1) := by decide +kernel
theorem dX9_begin_0 : decode cX9_begin 0 = .ok (.aload_n 0, 1) := by decide +kernel
theorem dX9_begin_1 : decode cX9_begin 1 = .ok (.iload_n 1, 1) := by decide +kernel
theorem dX9_begin_2 : decode cX9_begin 2 = .ok (.putfield 18, 3) := by decide +kernel
theorem dX9_begin_5 : decode cX9_begin 5 = .ok (.aload_n 0, 1) := by decide +kernel
theorem dX9_begin_6 : decode cX9_begin 6 = .ok (.iload_n 2, 1) := by decide +kernel
theorem dX9_begin_7 : decode cX9_begin 7 = .ok (.putfield 22, 3) := by decide +kernel
theorem dX9_begin_10 : decode cX9_begin 10 = .ok (.aload_n 0, 1) := by decide +kernel
theorem dX9_begin_11 : decode cX9_begin 11 = .ok (.iload_n 3, 1) := by decide +kernel
theorem dX9_begin_12 : decode cX9_begin 12 = .ok (.putfield 25, 3) := by decide +kernel
theorem dX9_begin_15 : decode cX9_begin 15 = .ok (.aload_n 0, 1) := by decide +kernel
theorem dX9_begin_16 : decode cX9_begin 16 = .ok (.iconst 0, 1) := by decide +kernel
theorem dX9_begin_17 : decode cX9_begin 17 = .ok (.putfield 28, 3) := by decide +kernel
theorem dX9_begin_20 : decode cX9_begin 20 = .ok (.aload_n 0, 1) := by decide +kernel
theorem dX9_begin_21 : decode cX9_begin 21 = .ok (.iconst 0, 1) := by decide +kernel
theorem dX9_begin_22 : decode cX9_begin 22 = .ok (.putfield 31, 3) := by decide +kernel
theorem dX9_begin_25 : decode cX9_begin 25 = .ok (.return_, 1) := by decide +kernel
theorem dX9_addMiss_0 : decode cX9_addMiss 0 = .ok (.aload_n 0, 1) := by decide +kernel
theorem dX9_addMiss_1 : decode cX9_addMiss 1 = .ok (.dup, 1) := by decide +kernel
theorem dX9_addMiss_2 : decode cX9_addMiss 2 = .ok (.getfield 25, 3) := by decide +kernel
theorem dX9_addMiss_5 : decode cX9_addMiss 5 = .ok (.iload_n 3, 1) := by decide +kernel
theorem dX9_addMiss_6 : decode cX9_addMiss 6 = .ok (.iconst 0, 1) := by decide +kernel
theorem dX9_addMiss_7 : decode cX9_addMiss 7 = .ok (.iload_n 1, 1) := by decide +kernel
theorem dX9_addMiss_8 : decode cX9_addMiss 8 = .ok (.aload_n 0, 1) := by decide +kernel
theorem dX9_addMiss_9 : decode cX9_addMiss 9 = .ok (.getfield 18, 3) := by decide +kernel
theorem dX9_addMiss_12 : decode cX9_addMiss 12 = .ok (.isub, 1) := by decide +kernel
theorem dX9_addMiss_13 : decode cX9_addMiss 13 = .ok (.aload_n 0, 1) := by decide +kernel
theorem dX9_addMiss_14 : decode cX9_addMiss 14 = .ok (.getfield 18, 3) := by decide +kernel
theorem dX9_addMiss_17 : decode cX9_addMiss 17 = .ok (.iload_n 2, 1) := by decide +kernel
theorem dX9_addMiss_18 : decode cX9_addMiss 18 = .ok (.isub, 1) := by decide +kernel
theorem dX9_addMiss_19 : decode cX9_addMiss 19 = .ok (.invokestatic 34, 3) := by decide +kernel
theorem dX9_addMiss_22 : decode cX9_addMiss 22 = .ok (.invokestatic 34, 3) := by decide +kernel
theorem dX9_addMiss_25 : decode cX9_addMiss 25 = .ok (.imul, 1) := by decide +kernel
theorem dX9_addMiss_26 : decode cX9_addMiss 26 = .ok (.iadd, 1) := by decide +kernel
theorem dX9_addMiss_27 : decode cX9_addMiss 27 = .ok (.putfield 25, 3) := by decide +kernel
theorem dX9_addMiss_30 : decode cX9_addMiss 30 = .ok (.aload_n 0, 1) := by decide +kernel
theorem dX9_addMiss_31 : decode cX9_addMiss 31 = .ok (.getfield 18, 3) := by decide +kernel
theorem dX9_addMiss_34 : decode cX9_addMiss 34 = .ok (.iload_n 1, 1) := by decide +kernel
theorem dX9_addMiss_35 : decode cX9_addMiss 35 = .ok (.if_icmp .ge 19, 3) := by decide +kernel
theorem dX9_addMiss_38 : decode cX9_addMiss 38 = .ok (.aload_n 0, 1) := by decide +kernel
theorem dX9_addMiss_39 : decode cX9_addMiss 39 = .ok (.dup, 1) := by decide +kernel
theorem dX9_addMiss_40 : decode cX9_addMiss 40 = .ok (.getfield 28, 3) := by decide +kernel
theorem dX9_addMiss_43 : decode cX9_addMiss 43 = .ok (.iload_n 3, 1) := by decide +kernel
theorem dX9_addMiss_44 : decode cX9_addMiss 44 = .ok (.isub, 1) := by decide +kernel
theorem dX9_addMiss_45 : decode cX9_addMiss 45 = .ok (.putfield 28, 3) := by decide +kernel
theorem dX9_addMiss_48 : decode cX9_addMiss 48 = .ok (.aload_n 0, 1) := by decide +kernel
theorem dX9_addMiss_49 : decode cX9_addMiss 49 = .ok (.iload_n 1, 1) := by decide +kernel
theorem dX9_addMiss_50 : decode cX9_addMiss 50 = .ok (.iload_n 3, 1) := by decide +kernel
theorem dX9_addMiss_51 : decode cX9_addMiss 51 = .ok (.invokevirtual 40, 3) := by decide +kernel
theorem dX9_addMiss_54 : decode cX9_addMiss 54 = .ok (.aload_n 0, 1) := by decide +kernel
theorem dX9_addMiss_55 : decode cX9_addMiss 55 = .ok (.getfield 18, 3) := by decide +kernel
theorem dX9_addMiss_58 : decode cX9_addMiss 58 = .ok (.iload_n 2, 1) := by decide +kernel
theorem dX9_addMiss_59 : decode cX9_addMiss 59 = .ok (.if_icmp .ge 12, 3) := by decide +kernel
theorem dX9_addMiss_62 : decode cX9_addMiss 62 = .ok (.aload_n 0, 1) := by decide +kernel
theorem dX9_addMiss_63 : decode cX9_addMiss 63 = .ok (.iload_n 2, 1) := by decide +kernel
theorem dX9_addMiss_64 : decode cX9_addMiss 64 = .ok (.iload_n 3, 1) := by decide +kernel
theorem dX9_addMiss_65 : decode cX9_addMiss 65 = .ok (.invokevirtual 40, 3) := by decide +kernel
theorem dX9_addMiss_68 : decode cX9_addMiss 68 = .ok (.goto 13, 3) := by decide +kernel
theorem dX9_addMiss_71 : decode cX9_addMiss 71 = .ok (.aload_n 0, 1) := by decide +kernel
theorem dX9_addMiss_72 : decode cX9_addMiss 72 = .ok (.dup, 1) := by decide +kernel
theorem dX9_addMiss_73 : decode cX9_addMiss 73 = .ok (.getfield 28, 3) := by decide +kernel
theorem dX9_addMiss_76 : decode cX9_addMiss 76 = .ok (.iload_n 3, 1) := by decide +kernel
theorem dX9_addMiss_77 : decode cX9_addMiss 77 = .ok (.iadd, 1) := by decide +kernel
theorem dX9_addMiss_78 : decode cX9_addMiss 78 = .ok (.putfield 28, 3) := by decide +kernel
theorem dX9_addMiss_81 : decode cX9_addMiss 81 = .ok (.return_, 1) := by decide +kernel
theorem dX9_insertByPlace_0 : decode cX9_insertByPlace 0 = .ok (.iload_n 1, 1) := by decide +kernel
theorem dX9_insertByPlace_1 : decode cX9_insertByPlace 1 = .ok (.aload_n 0, 1) := by decide +kernel
theorem dX9_insertByPlace_2 : decode cX9_insertByPlace 2 = .ok (.getfield 22, 3) := by decide +kernel
theorem dX9_insertByPlace_5 : decode cX9_insertByPlace 5 = .ok (.if_icmp .lt 4, 3) := by decide +kernel
theorem dX9_insertByPlace_8 : decode cX9_insertByPlace 8 = .ok (.return_, 1) := by decide +kernel
theorem dX9_insertByPlace_9 : decode cX9_insertByPlace 9 = .ok (.aload_n 0, 1) := by decide +kernel
theorem dX9_insertByPlace_10 : decode cX9_insertByPlace 10 = .ok (.getfield 31, 3) := by decide +kernel
theorem dX9_insertByPlace_13 : decode cX9_insertByPlace 13 = .ok (.istore_n 3, 1) := by decide +kernel
theorem dX9_insertByPlace_14 : decode cX9_insertByPlace 14 = .ok (.iload_n 3, 1) := by decide +kernel
theorem dX9_insertByPlace_15 : decode cX9_insertByPlace 15 = .ok (.ifCond .le 21, 3) := by decide +kernel
theorem dX9_insertByPlace_18 : decode cX9_insertByPlace 18 = .ok (.aload_n 0, 1) := by decide +kernel
theorem dX9_insertByPlace_19 : decode cX9_insertByPlace 19 = .ok (.getfield 11, 3) := by decide +kernel
theorem dX9_insertByPlace_22 : decode cX9_insertByPlace 22 = .ok (.iload_n 3, 1) := by decide +kernel
theorem dX9_insertByPlace_23 : decode cX9_insertByPlace 23 = .ok (.iconst 1, 1) := by decide +kernel
theorem dX9_insertByPlace_24 : decode cX9_insertByPlace 24 = .ok (.isub, 1) := by decide +kernel
theorem dX9_insertByPlace_25 : decode cX9_insertByPlace 25 = .ok (.iaload, 1) := by decide +kernel
theorem dX9_insertByPlace_26 : decode cX9_insertByPlace 26 = .ok (.iload_n 1, 1) := by decide +kernel
theorem dX9_insertByPlace_27 : decode cX9_insertByPlace 27 = .ok (.if_icmp .le 9, 3) := by decide +kernel
theorem dX9_insertByPlace_30 : decode cX9_insertByPlace 30 = .ok (.iinc 3 (-1), 3) := by decide +kernel
theorem dX9_insertByPlace_33 : decode cX9_insertByPlace 33 = .ok (.goto (-19), 3) := by decide +kernel
theorem dX9_insertByPlace_36 : decode cX9_insertByPlace 36 = .ok (.aload_n 0, 1) := by decide +kernel
theorem dX9_insertByPlace_37 : decode cX9_insertByPlace 37 = .ok (.iload_n 3, 1) := by decide +kernel
theorem dX9_insertByPlace_38 : decode cX9_insertByPlace 38 = .ok (.iload_n 1, 1) := by decide +kernel
theorem dX9_insertByPlace_39 : decode cX9_insertByPlace 39 = .ok (.iload_n 2, 1) := by decide +kernel
theorem dX9_insertByPlace_40 : decode cX9_insertByPlace 40 = .ok (.invokevirtual 44, 3) := by decide +kernel
theorem dX9_insertByPlace_43 : decode cX9_insertByPlace 43 = .ok (.return_, 1) := by decide +kernel
theorem dX9_insertAt_0 : decode cX9_insertAt 0 = .ok (.aload_n 0, 1) := by decide +kernel
theorem dX9_insertAt_1 : decode cX9_insertAt 1 = .ok (.getfield 31, 3) := by decide +kernel
theorem dX9_insertAt_4 : decode cX9_insertAt 4 = .ok (.bipush 96, 2) := by decide +kernel
theorem dX9_insertAt_6 : decode cX9_insertAt 6 = .ok (.if_icmp .ge 15, 3) := by decide +kernel
theorem dX9_insertAt_9 : decode cX9_insertAt 9 = .ok (.iload_n 1, 1) := by decide +kernel
theorem dX9_insertAt_10 : decode cX9_insertAt 10 = .ok (.ifCond .lt 11, 3) := by decide +kernel
theorem dX9_insertAt_13 : decode cX9_insertAt 13 = .ok (.iload_n 1, 1) := by decide +kernel
theorem dX9_insertAt_14 : decode cX9_insertAt 14 = .ok (.aload_n 0, 1) := by decide +kernel
theorem dX9_insertAt_15 : decode cX9_insertAt 15 = .ok (.getfield 31, 3) := by decide +kernel
theorem dX9_insertAt_18 : decode cX9_insertAt 18 = .ok (.if_icmp .le 4, 3) := by decide +kernel
theorem dX9_insertAt_21 : decode cX9_insertAt 21 = .ok (.return_, 1) := by decide +kernel
theorem dX9_insertAt_22 : decode cX9_insertAt 22 = .ok (.aload_n 0, 1) := by decide +kernel
theorem dX9_insertAt_23 : decode cX9_insertAt 23 = .ok (.getfield 31, 3) := by decide +kernel
theorem dX9_insertAt_26 : decode cX9_insertAt 26 = .ok (.istore 4, 2) := by decide +kernel
theorem dX9_insertAt_28 : decode cX9_insertAt 28 = .ok (.iload 4, 2) := by decide +kernel
theorem dX9_insertAt_30 : decode cX9_insertAt 30 = .ok (.iload_n 1, 1) := by decide +kernel
theorem dX9_insertAt_31 : decode cX9_insertAt 31 = .ok (.if_icmp .le 41, 3) := by decide +kernel
theorem dX9_insertAt_34 : decode cX9_insertAt 34 = .ok (.aload_n 0, 1) := by decide +kernel
theorem dX9_insertAt_35 : decode cX9_insertAt 35 = .ok (.getfield 11, 3) := by decide +kernel
theorem dX9_insertAt_38 : decode cX9_insertAt 38 = .ok (.iload 4, 2) := by decide +kernel
theorem dX9_insertAt_40 : decode cX9_insertAt 40 = .ok (.aload_n 0, 1) := by decide +kernel
theorem dX9_insertAt_41 : decode cX9_insertAt 41 = .ok (.getfield 11, 3) := by decide +kernel
theorem dX9_insertAt_44 : decode cX9_insertAt 44 = .ok (.iload 4, 2) := by decide +kernel
theorem dX9_insertAt_46 : decode cX9_insertAt 46 = .ok (.iconst 1, 1) := by decide +kernel
theorem dX9_insertAt_47 : decode cX9_insertAt 47 = .ok (.isub, 1) := by decide +kernel
theorem dX9_insertAt_48 : decode cX9_insertAt 48 = .ok (.iaload, 1) := by decide +kernel
theorem dX9_insertAt_49 : decode cX9_insertAt 49 = .ok (.iastore, 1) := by decide +kernel
theorem dX9_insertAt_50 : decode cX9_insertAt 50 = .ok (.aload_n 0, 1) := by decide +kernel
theorem dX9_insertAt_51 : decode cX9_insertAt 51 = .ok (.getfield 15, 3) := by decide +kernel
theorem dX9_insertAt_54 : decode cX9_insertAt 54 = .ok (.iload 4, 2) := by decide +kernel
theorem dX9_insertAt_56 : decode cX9_insertAt 56 = .ok (.aload_n 0, 1) := by decide +kernel
theorem dX9_insertAt_57 : decode cX9_insertAt 57 = .ok (.getfield 15, 3) := by decide +kernel
theorem dX9_insertAt_60 : decode cX9_insertAt 60 = .ok (.iload 4, 2) := by decide +kernel
theorem dX9_insertAt_62 : decode cX9_insertAt 62 = .ok (.iconst 1, 1) := by decide +kernel
theorem dX9_insertAt_63 : decode cX9_insertAt 63 = .ok (.isub, 1) := by decide +kernel
theorem dX9_insertAt_64 : decode cX9_insertAt 64 = .ok (.iaload, 1) := by decide +kernel
theorem dX9_insertAt_65 : decode cX9_insertAt 65 = .ok (.iastore, 1) := by decide +kernel
theorem dX9_insertAt_66 : decode cX9_insertAt 66 = .ok (.iinc 4 (-1), 3) := by decide +kernel
theorem dX9_insertAt_69 : decode cX9_insertAt 69 = .ok (.goto (-41), 3) := by decide +kernel
theorem dX9_insertAt_72 : decode cX9_insertAt 72 = .ok (.aload_n 0, 1) := by decide +kernel
theorem dX9_insertAt_73 : decode cX9_insertAt 73 = .ok (.getfield 11, 3) := by decide +kernel
theorem dX9_insertAt_76 : decode cX9_insertAt 76 = .ok (.iload_n 1, 1) := by decide +kernel
theorem dX9_insertAt_77 : decode cX9_insertAt 77 = .ok (.iload_n 2, 1) := by decide +kernel
theorem dX9_insertAt_78 : decode cX9_insertAt 78 = .ok (.iastore, 1) := by decide +kernel
theorem dX9_insertAt_79 : decode cX9_insertAt 79 = .ok (.aload_n 0, 1) := by decide +kernel
theorem dX9_insertAt_80 : decode cX9_insertAt 80 = .ok (.getfield 15, 3) := by decide +kernel
theorem dX9_insertAt_83 : decode cX9_insertAt 83 = .ok (.iload_n 1, 1) := by decide +kernel
theorem dX9_insertAt_84 : decode cX9_insertAt 84 = .ok (.iload_n 3, 1) := by decide +kernel
theorem dX9_insertAt_85 : decode cX9_insertAt 85 = .ok (.iastore, 1) := by decide +kernel
theorem dX9_insertAt_86 : decode cX9_insertAt 86 = .ok (.aload_n 0, 1) := by decide +kernel
theorem dX9_insertAt_87 : decode cX9_insertAt 87 = .ok (.dup, 1) := by decide +kernel
theorem dX9_insertAt_88 : decode cX9_insertAt 88 = .ok (.getfield 31, 3) := by decide +kernel
theorem dX9_insertAt_91 : decode cX9_insertAt 91 = .ok (.iconst 1, 1) := by decide +kernel
theorem dX9_insertAt_92 : decode cX9_insertAt 92 = .ok (.iadd, 1) := by decide +kernel
theorem dX9_insertAt_93 : decode cX9_insertAt 93 = .ok (.putfield 31, 3) := by decide +kernel
theorem dX9_insertAt_96 : decode cX9_insertAt 96 = .ok (.return_, 1) := by decide +kernel
theorem dX9_spread_0 : decode cX9_spread 0 = .ok (.aload_n 0, 1) := by decide +kernel
theorem dX9_spread_1 : decode cX9_spread 1 = .ok (.invokevirtual 48, 3) := by decide +kernel
theorem dX9_spread_4 : decode cX9_spread 4 = .ok (.istore_n 3, 1) := by decide +kernel
theorem dX9_spread_5 : decode cX9_spread 5 = .ok (.iconst 0, 1) := by decide +kernel
theorem dX9_spread_6 : decode cX9_spread 6 = .ok (.istore 4, 2) := by decide +kernel
theorem dX9_spread_8 : decode cX9_spread 8 = .ok (.iload 4, 2) := by decide +kernel
theorem dX9_spread_10 : decode cX9_spread 10 = .ok (.aload_n 0, 1) := by decide +kernel
theorem dX9_spread_11 : decode cX9_spread 11 = .ok (.getfield 31, 3) := by decide +kernel
theorem dX9_spread_14 : decode cX9_spread 14 = .ok (.if_icmp .ge 30, 3) := by decide +kernel
theorem dX9_spread_17 : decode cX9_spread 17 = .ok (.aload_n 0, 1) := by decide +kernel
theorem dX9_spread_18 : decode cX9_spread 18 = .ok (.getfield 11, 3) := by decide +kernel
theorem dX9_spread_21 : decode cX9_spread 21 = .ok (.iload 4, 2) := by decide +kernel
theorem dX9_spread_23 : decode cX9_spread 23 = .ok (.dup2, 1) := by decide +kernel
theorem dX9_spread_24 : decode cX9_spread 24 = .ok (.iaload, 1) := by decide +kernel
theorem dX9_spread_25 : decode cX9_spread 25 = .ok (.iload 4, 2) := by decide +kernel
theorem dX9_spread_27 : decode cX9_spread 27 = .ok (.iload_n 3, 1) := by decide +kernel
theorem dX9_spread_28 : decode cX9_spread 28 = .ok (.if_icmp .ge 7, 3) := by decide +kernel
theorem dX9_spread_31 : decode cX9_spread 31 = .ok (.iload_n 1, 1) := by decide +kernel
theorem dX9_spread_32 : decode cX9_spread 32 = .ok (.goto 4, 3) := by decide +kernel
theorem dX9_spread_35 : decode cX9_spread 35 = .ok (.iload_n 2, 1) := by decide +kernel
theorem dX9_spread_36 : decode cX9_spread 36 = .ok (.iadd, 1) := by decide +kernel
theorem dX9_spread_37 : decode cX9_spread 37 = .ok (.iastore, 1) := by decide +kernel
theorem dX9_spread_38 : decode cX9_spread 38 = .ok (.iinc 4 1, 3) := by decide +kernel
theorem dX9_spread_41 : decode cX9_spread 41 = .ok (.goto (-33), 3) := by decide +kernel
theorem dX9_spread_44 : decode cX9_spread 44 = .ok (.aload_n 0, 1) := by decide +kernel
theorem dX9_spread_45 : decode cX9_spread 45 = .ok (.dup, 1) := by decide +kernel
theorem dX9_spread_46 : decode cX9_spread 46 = .ok (.getfield 18, 3) := by decide +kernel
theorem dX9_spread_49 : decode cX9_spread 49 = .ok (.iload_n 1, 1) := by decide +kernel
theorem dX9_spread_50 : decode cX9_spread 50 = .ok (.iadd, 1) := by decide +kernel
theorem dX9_spread_51 : decode cX9_spread 51 = .ok (.putfield 18, 3) := by decide +kernel
theorem dX9_spread_54 : decode cX9_spread 54 = .ok (.aload_n 0, 1) := by decide +kernel
theorem dX9_spread_55 : decode cX9_spread 55 = .ok (.dup, 1) := by decide +kernel
theorem dX9_spread_56 : decode cX9_spread 56 = .ok (.getfield 22, 3) := by decide +kernel
theorem dX9_spread_59 : decode cX9_spread 59 = .ok (.iload_n 2, 1) := by decide +kernel
theorem dX9_spread_60 : decode cX9_spread 60 = .ok (.iadd, 1) := by decide +kernel
theorem dX9_spread_61 : decode cX9_spread 61 = .ok (.putfield 22, 3) := by decide +kernel
theorem dX9_spread_64 : decode cX9_spread 64 = .ok (.return_, 1) := by decide +kernel
theorem dX9_splitAtBottom_0 : decode cX9_splitAtBottom 0 = .ok (.aload_n 0, 1) := by decide +kernel
theorem dX9_splitAtBottom_1 : decode cX9_splitAtBottom 1 = .ok (.getfield 28, 3) := by decide +kernel
theorem dX9_splitAtBottom_4 : decode cX9_splitAtBottom 4 = .ok (.ifCond .le 21, 3) := by decide +kernel
theorem dX9_splitAtBottom_7 : decode cX9_splitAtBottom 7 = .ok (.aload_n 0, 1) := by decide +kernel
theorem dX9_splitAtBottom_8 : decode cX9_splitAtBottom 8 = .ok (.iconst 0, 1) := by decide +kernel
theorem dX9_splitAtBottom_9 : decode cX9_splitAtBottom 9 = .ok (.aload_n 0, 1) := by decide +kernel
theorem dX9_splitAtBottom_10 : decode cX9_splitAtBottom 10 = .ok (.getfield 18, 3) := by decide +kernel
theorem dX9_splitAtBottom_13 : decode cX9_splitAtBottom 13 = .ok (.aload_n 0, 1) := by decide +kernel
theorem dX9_splitAtBottom_14 : decode cX9_splitAtBottom 14 = .ok (.getfield 28, 3) := by decide +kernel
theorem dX9_splitAtBottom_17 : decode cX9_splitAtBottom 17 = .ok (.invokevirtual 44, 3) := by decide +kernel
theorem dX9_splitAtBottom_20 : decode cX9_splitAtBottom 20 = .ok (.aload_n 0, 1) := by decide +kernel
theorem dX9_splitAtBottom_21 : decode cX9_splitAtBottom 21 = .ok (.iconst 0, 1) := by decide +kernel
theorem dX9_splitAtBottom_22 : decode cX9_splitAtBottom 22 = .ok (.putfield 28, 3) := by decide +kernel
theorem dX9_splitAtBottom_25 : decode cX9_splitAtBottom 25 = .ok (.aload_n 0, 1) := by decide +kernel
theorem dX9_splitAtBottom_26 : decode cX9_splitAtBottom 26 = .ok (.getfield 28, 3) := by decide +kernel
theorem dX9_splitAtBottom_29 : decode cX9_splitAtBottom 29 = .ok (.istore_n 1, 1) := by decide +kernel
theorem dX9_splitAtBottom_30 : decode cX9_splitAtBottom 30 = .ok (.iconst 0, 1) := by decide +kernel
theorem dX9_splitAtBottom_31 : decode cX9_splitAtBottom 31 = .ok (.istore_n 2, 1) := by decide +kernel
theorem dX9_splitAtBottom_32 : decode cX9_splitAtBottom 32 = .ok (.iload_n 2, 1) := by decide +kernel
theorem dX9_splitAtBottom_33 : decode cX9_splitAtBottom 33 = .ok (.aload_n 0, 1) := by decide +kernel
theorem dX9_splitAtBottom_34 : decode cX9_splitAtBottom 34 = .ok (.getfield 31, 3) := by decide +kernel
theorem dX9_splitAtBottom_37 : decode cX9_splitAtBottom 37 = .ok (.if_icmp .ge 56, 3) := by decide +kernel
theorem dX9_splitAtBottom_40 : decode cX9_splitAtBottom 40 = .ok (.iload_n 1, 1) := by decide +kernel
theorem dX9_splitAtBottom_41 : decode cX9_splitAtBottom 41 = .ok (.ifCond .ne 5, 3) := by decide +kernel
theorem dX9_splitAtBottom_44 : decode cX9_splitAtBottom 44 = .ok (.iload_n 2, 1) := by decide +kernel
theorem dX9_splitAtBottom_45 : decode cX9_splitAtBottom 45 = .ok (.ireturn, 1) := by decide +kernel
theorem dX9_splitAtBottom_46 : decode cX9_splitAtBottom 46 = .ok (.iload_n 1, 1) := by decide +kernel
theorem dX9_splitAtBottom_47 : decode cX9_splitAtBottom 47 = .ok (.aload_n 0, 1) := by decide +kernel
theorem dX9_splitAtBottom_48 : decode cX9_splitAtBottom 48 = .ok (.getfield 15, 3) := by decide +kernel
theorem dX9_splitAtBottom_51 : decode cX9_splitAtBottom 51 = .ok (.iload_n 2, 1) := by decide +kernel
theorem dX9_splitAtBottom_52 : decode cX9_splitAtBottom 52 = .ok (.iaload, 1) := by decide +kernel
theorem dX9_splitAtBottom_53 : decode cX9_splitAtBottom 53 = .ok (.iadd, 1) := by decide +kernel
theorem dX9_splitAtBottom_54 : decode cX9_splitAtBottom 54 = .ok (.istore_n 1, 1) := by decide +kernel
theorem dX9_splitAtBottom_55 : decode cX9_splitAtBottom 55 = .ok (.iload_n 1, 1) := by decide +kernel
theorem dX9_splitAtBottom_56 : decode cX9_splitAtBottom 56 = .ok (.ifCond .le 31, 3) := by decide +kernel
theorem dX9_splitAtBottom_59 : decode cX9_splitAtBottom 59 = .ok (.aload_n 0, 1) := by decide +kernel
theorem dX9_splitAtBottom_60 : decode cX9_splitAtBottom 60 = .ok (.getfield 15, 3) := by decide +kernel
theorem dX9_splitAtBottom_63 : decode cX9_splitAtBottom 63 = .ok (.iload_n 2, 1) := by decide +kernel
theorem dX9_splitAtBottom_64 : decode cX9_splitAtBottom 64 = .ok (.dup2, 1) := by decide +kernel
theorem dX9_splitAtBottom_65 : decode cX9_splitAtBottom 65 = .ok (.iaload, 1) := by decide +kernel
theorem dX9_splitAtBottom_66 : decode cX9_splitAtBottom 66 = .ok (.iload_n 1, 1) := by decide +kernel
theorem dX9_splitAtBottom_67 : decode cX9_splitAtBottom 67 = .ok (.isub, 1) := by decide +kernel
theorem dX9_splitAtBottom_68 : decode cX9_splitAtBottom 68 = .ok (.iastore, 1) := by decide +kernel
theorem dX9_splitAtBottom_69 : decode cX9_splitAtBottom 69 = .ok (.aload_n 0, 1) := by decide +kernel
theorem dX9_splitAtBottom_70 : decode cX9_splitAtBottom 70 = .ok (.iload_n 2, 1) := by decide +kernel
theorem dX9_splitAtBottom_71 : decode cX9_splitAtBottom 71 = .ok (.iconst 1, 1) := by decide +kernel
theorem dX9_splitAtBottom_72 : decode cX9_splitAtBottom 72 = .ok (.iadd, 1) := by decide +kernel
theorem dX9_splitAtBottom_73 : decode cX9_splitAtBottom 73 = .ok (.aload_n 0, 1) := by decide +kernel
theorem dX9_splitAtBottom_74 : decode cX9_splitAtBottom 74 = .ok (.getfield 11, 3) := by decide +kernel
theorem dX9_splitAtBottom_77 : decode cX9_splitAtBottom 77 = .ok (.iload_n 2, 1) := by decide +kernel
theorem dX9_splitAtBottom_78 : decode cX9_splitAtBottom 78 = .ok (.iaload, 1) := by decide +kernel
theorem dX9_splitAtBottom_79 : decode cX9_splitAtBottom 79 = .ok (.iload_n 1, 1) := by decide +kernel
theorem dX9_splitAtBottom_80 : decode cX9_splitAtBottom 80 = .ok (.invokevirtual 44, 3) := by decide +kernel
theorem dX9_splitAtBottom_83 : decode cX9_splitAtBottom 83 = .ok (.iload_n 2, 1) := by decide +kernel
theorem dX9_splitAtBottom_84 : decode cX9_splitAtBottom 84 = .ok (.iconst 1, 1) := by decide +kernel
theorem dX9_splitAtBottom_85 : decode cX9_splitAtBottom 85 = .ok (.iadd, 1) := by decide +kernel
theorem dX9_splitAtBottom_86 : decode cX9_splitAtBottom 86 = .ok (.ireturn, 1) := by decide +kernel
theorem dX9_splitAtBottom_87 : decode cX9_splitAtBottom 87 = .ok (.iinc 2 1, 3) := by decide +kernel
theorem dX9_splitAtBottom_90 : decode cX9_splitAtBottom 90 = .ok (.goto (-58), 3) := by decide +kernel
theorem dX9_splitAtBottom_93 : decode cX9_splitAtBottom 93 = .ok (.iload_n 1, 1) := by decide +kernel
theorem dX9_splitAtBottom_94 : decode cX9_splitAtBottom 94 = .ok (.ifCond .ge 17, 3) := by decide +kernel
theorem dX9_splitAtBottom_97 : decode cX9_splitAtBottom 97 = .ok (.aload_n 0, 1) := by decide +kernel
theorem dX9_splitAtBottom_98 : decode cX9_splitAtBottom 98 = .ok (.aload_n 0, 1) := by decide +kernel
theorem dX9_splitAtBottom_99 : decode cX9_splitAtBottom 99 = .ok (.getfield 31, 3) := by decide +kernel
theorem dX9_splitAtBottom_102 : decode cX9_splitAtBottom 102 = .ok (.aload_n 0, 1) := by decide +kernel
theorem dX9_splitAtBottom_103 : decode cX9_splitAtBottom 103 = .ok (.getfield 22, 3) := by decide +kernel
theorem dX9_splitAtBottom_106 : decode cX9_splitAtBottom 106 = .ok (.iload_n 1, 1) := by decide +kernel
theorem dX9_splitAtBottom_107 : decode cX9_splitAtBottom 107 = .ok (.ineg, 1) := by decide +kernel
theorem dX9_splitAtBottom_108 : decode cX9_splitAtBottom 108 = .ok (.invokevirtual 44, 3) := by decide +kernel
theorem dX9_splitAtBottom_111 : decode cX9_splitAtBottom 111 = .ok (.aload_n 0, 1) := by decide +kernel
theorem dX9_splitAtBottom_112 : decode cX9_splitAtBottom 112 = .ok (.getfield 31, 3) := by decide +kernel
theorem dX9_splitAtBottom_115 : decode cX9_splitAtBottom 115 = .ok (.ireturn, 1) := by decide +kernel
theorem dX9_cutTo_0 : decode cX9_cutTo 0 = .ok (.aload_n 0, 1) := by decide +kernel
theorem dX9_cutTo_1 : decode cX9_cutTo 1 = .ok (.getfield 18, 3) := by decide +kernel
theorem dX9_cutTo_4 : decode cX9_cutTo 4 = .ok (.iconst 0, 1) := by decide +kernel
theorem dX9_cutTo_5 : decode cX9_cutTo 5 = .ok (.invokestatic 34, 3) := by decide +kernel
theorem dX9_cutTo_8 : decode cX9_cutTo 8 = .ok (.istore_n 2, 1) := by decide +kernel
theorem dX9_cutTo_9 : decode cX9_cutTo 9 = .ok (.aload_n 0, 1) := by decide +kernel
theorem dX9_cutTo_10 : decode cX9_cutTo 10 = .ok (.getfield 22, 3) := by decide +kernel
theorem dX9_cutTo_13 : decode cX9_cutTo 13 = .ok (.iload_n 1, 1) := by decide +kernel
theorem dX9_cutTo_14 : decode cX9_cutTo 14 = .ok (.invokestatic 52, 3) := by decide +kernel
theorem dX9_cutTo_17 : decode cX9_cutTo 17 = .ok (.istore_n 3, 1) := by decide +kernel
theorem dX9_cutTo_18 : decode cX9_cutTo 18 = .ok (.iload_n 2, 1) := by decide +kernel
theorem dX9_cutTo_19 : decode cX9_cutTo 19 = .ok (.iload_n 3, 1) := by decide +kernel
theorem dX9_cutTo_20 : decode cX9_cutTo 20 = .ok (.if_icmp .le 5, 3) := by decide +kernel
theorem dX9_cutTo_23 : decode cX9_cutTo 23 = .ok (.iconst 0, 1) := by decide +kernel
theorem dX9_cutTo_24 : decode cX9_cutTo 24 = .ok (.ireturn, 1) := by decide +kernel
theorem dX9_cutTo_25 : decode cX9_cutTo 25 = .ok (.iconst 0, 1) := by decide +kernel
theorem dX9_cutTo_26 : decode cX9_cutTo 26 = .ok (.istore 4, 2) := by decide +kernel
theorem dX9_cutTo_28 : decode cX9_cutTo 28 = .ok (.iload 4, 2) := by decide +kernel
theorem dX9_cutTo_30 : decode cX9_cutTo 30 = .ok (.aload_n 0, 1) := by decide +kernel
theorem dX9_cutTo_31 : decode cX9_cutTo 31 = .ok (.getfield 31, 3) := by decide +kernel
theorem dX9_cutTo_34 : decode cX9_cutTo 34 = .ok (.if_icmp .ge 73, 3) := by decide +kernel
theorem dX9_cutTo_37 : decode cX9_cutTo 37 = .ok (.aload_n 0, 1) := by decide +kernel
theorem dX9_cutTo_38 : decode cX9_cutTo 38 = .ok (.getfield 11, 3) := by decide +kernel
theorem dX9_cutTo_41 : decode cX9_cutTo 41 = .ok (.iload 4, 2) := by decide +kernel
theorem dX9_cutTo_43 : decode cX9_cutTo 43 = .ok (.iaload, 1) := by decide +kernel
theorem dX9_cutTo_44 : decode cX9_cutTo 44 = .ok (.iload_n 2, 1) := by decide +kernel
theorem dX9_cutTo_45 : decode cX9_cutTo 45 = .ok (.if_icmp .gt 62, 3) := by decide +kernel
theorem dX9_cutTo_48 : decode cX9_cutTo 48 = .ok (.aload_n 0, 1) := by decide +kernel
theorem dX9_cutTo_49 : decode cX9_cutTo 49 = .ok (.dup, 1) := by decide +kernel
theorem dX9_cutTo_50 : decode cX9_cutTo 50 = .ok (.getfield 25, 3) := by decide +kernel
theorem dX9_cutTo_53 : decode cX9_cutTo 53 = .ok (.aload_n 0, 1) := by decide +kernel
theorem dX9_cutTo_54 : decode cX9_cutTo 54 = .ok (.getfield 28, 3) := by decide +kernel
theorem dX9_cutTo_57 : decode cX9_cutTo 57 = .ok (.aload_n 0, 1) := by decide +kernel
theorem dX9_cutTo_58 : decode cX9_cutTo 58 = .ok (.getfield 11, 3) := by decide +kernel
theorem dX9_cutTo_61 : decode cX9_cutTo 61 = .ok (.iload 4, 2) := by decide +kernel
theorem dX9_cutTo_63 : decode cX9_cutTo 63 = .ok (.iaload, 1) := by decide +kernel
theorem dX9_cutTo_64 : decode cX9_cutTo 64 = .ok (.aload_n 0, 1) := by decide +kernel
theorem dX9_cutTo_65 : decode cX9_cutTo 65 = .ok (.getfield 18, 3) := by decide +kernel
theorem dX9_cutTo_68 : decode cX9_cutTo 68 = .ok (.isub, 1) := by decide +kernel
theorem dX9_cutTo_69 : decode cX9_cutTo 69 = .ok (.imul, 1) := by decide +kernel
theorem dX9_cutTo_70 : decode cX9_cutTo 70 = .ok (.iadd, 1) := by decide +kernel
theorem dX9_cutTo_71 : decode cX9_cutTo 71 = .ok (.putfield 25, 3) := by decide +kernel
theorem dX9_cutTo_74 : decode cX9_cutTo 74 = .ok (.aload_n 0, 1) := by decide +kernel
theorem dX9_cutTo_75 : decode cX9_cutTo 75 = .ok (.aload_n 0, 1) := by decide +kernel
theorem dX9_cutTo_76 : decode cX9_cutTo 76 = .ok (.getfield 11, 3) := by decide +kernel
theorem dX9_cutTo_79 : decode cX9_cutTo 79 = .ok (.iload 4, 2) := by decide +kernel
theorem dX9_cutTo_81 : decode cX9_cutTo 81 = .ok (.iaload, 1) := by decide +kernel
theorem dX9_cutTo_82 : decode cX9_cutTo 82 = .ok (.putfield 18, 3) := by decide +kernel
theorem dX9_cutTo_85 : decode cX9_cutTo 85 = .ok (.aload_n 0, 1) := by decide +kernel
theorem dX9_cutTo_86 : decode cX9_cutTo 86 = .ok (.dup, 1) := by decide +kernel
theorem dX9_cutTo_87 : decode cX9_cutTo 87 = .ok (.getfield 28, 3) := by decide +kernel
theorem dX9_cutTo_90 : decode cX9_cutTo 90 = .ok (.aload_n 0, 1) := by decide +kernel
theorem dX9_cutTo_91 : decode cX9_cutTo 91 = .ok (.getfield 15, 3) := by decide +kernel
theorem dX9_cutTo_94 : decode cX9_cutTo 94 = .ok (.iload 4, 2) := by decide +kernel
theorem dX9_cutTo_96 : decode cX9_cutTo 96 = .ok (.iaload, 1) := by decide +kernel
theorem dX9_cutTo_97 : decode cX9_cutTo 97 = .ok (.iadd, 1) := by decide +kernel
theorem dX9_cutTo_98 : decode cX9_cutTo 98 = .ok (.putfield 28, 3) := by decide +kernel
theorem dX9_cutTo_101 : decode cX9_cutTo 101 = .ok (.iinc 4 1, 3) := by decide +kernel
theorem dX9_cutTo_104 : decode cX9_cutTo 104 = .ok (.goto (-76), 3) := by decide +kernel
theorem dX9_cutTo_107 : decode cX9_cutTo 107 = .ok (.aload_n 0, 1) := by decide +kernel
theorem dX9_cutTo_108 : decode cX9_cutTo 108 = .ok (.dup, 1) := by decide +kernel
theorem dX9_cutTo_109 : decode cX9_cutTo 109 = .ok (.getfield 25, 3) := by decide +kernel
theorem dX9_cutTo_112 : decode cX9_cutTo 112 = .ok (.aload_n 0, 1) := by decide +kernel
theorem dX9_cutTo_113 : decode cX9_cutTo 113 = .ok (.getfield 28, 3) := by decide +kernel
theorem dX9_cutTo_116 : decode cX9_cutTo 116 = .ok (.iload_n 2, 1) := by decide +kernel
theorem dX9_cutTo_117 : decode cX9_cutTo 117 = .ok (.aload_n 0, 1) := by decide +kernel
theorem dX9_cutTo_118 : decode cX9_cutTo 118 = .ok (.getfield 18, 3) := by decide +kernel
theorem dX9_cutTo_121 : decode cX9_cutTo 121 = .ok (.isub, 1) := by decide +kernel
theorem dX9_cutTo_122 : decode cX9_cutTo 122 = .ok (.imul, 1) := by decide +kernel
theorem dX9_cutTo_123 : decode cX9_cutTo 123 = .ok (.iadd, 1) := by decide +kernel
theorem dX9_cutTo_124 : decode cX9_cutTo 124 = .ok (.putfield 25, 3) := by decide +kernel
theorem dX9_cutTo_127 : decode cX9_cutTo 127 = .ok (.aload_n 0, 1) := by decide +kernel
theorem dX9_cutTo_128 : decode cX9_cutTo 128 = .ok (.iload_n 2, 1) := by decide +kernel
theorem dX9_cutTo_129 : decode cX9_cutTo 129 = .ok (.putfield 18, 3) := by decide +kernel
theorem dX9_cutTo_132 : decode cX9_cutTo 132 = .ok (.aload_n 0, 1) := by decide +kernel
theorem dX9_cutTo_133 : decode cX9_cutTo 133 = .ok (.iload_n 3, 1) := by decide +kernel
theorem dX9_cutTo_134 : decode cX9_cutTo 134 = .ok (.putfield 22, 3) := by decide +kernel
theorem dX9_cutTo_137 : decode cX9_cutTo 137 = .ok (.aload_n 0, 1) := by decide +kernel
theorem dX9_cutTo_138 : decode cX9_cutTo 138 = .ok (.iload 4, 2) := by decide +kernel
theorem dX9_cutTo_140 : decode cX9_cutTo 140 = .ok (.invokevirtual 55, 3) := by decide +kernel
theorem dX9_cutTo_143 : decode cX9_cutTo 143 = .ok (.aload_n 0, 1) := by decide +kernel
theorem dX9_cutTo_144 : decode cX9_cutTo 144 = .ok (.getfield 31, 3) := by decide +kernel
theorem dX9_cutTo_147 : decode cX9_cutTo 147 = .ok (.ifCond .le 31, 3) := by decide +kernel
theorem dX9_cutTo_150 : decode cX9_cutTo 150 = .ok (.aload_n 0, 1) := by decide +kernel
theorem dX9_cutTo_151 : decode cX9_cutTo 151 = .ok (.getfield 11, 3) := by decide +kernel
theorem dX9_cutTo_154 : decode cX9_cutTo 154 = .ok (.aload_n 0, 1) := by decide +kernel
theorem dX9_cutTo_155 : decode cX9_cutTo 155 = .ok (.getfield 31, 3) := by decide +kernel
theorem dX9_cutTo_158 : decode cX9_cutTo 158 = .ok (.iconst 1, 1) := by decide +kernel
theorem dX9_cutTo_159 : decode cX9_cutTo 159 = .ok (.isub, 1) := by decide +kernel
theorem dX9_cutTo_160 : decode cX9_cutTo 160 = .ok (.iaload, 1) := by decide +kernel
theorem dX9_cutTo_161 : decode cX9_cutTo 161 = .ok (.iload_n 3, 1) := by decide +kernel
theorem dX9_cutTo_162 : decode cX9_cutTo 162 = .ok (.if_icmp .lt 16, 3) := by decide +kernel
theorem dX9_cutTo_165 : decode cX9_cutTo 165 = .ok (.aload_n 0, 1) := by decide +kernel
theorem dX9_cutTo_166 : decode cX9_cutTo 166 = .ok (.dup, 1) := by decide +kernel
theorem dX9_cutTo_167 : decode cX9_cutTo 167 = .ok (.getfield 31, 3) := by decide +kernel
theorem dX9_cutTo_170 : decode cX9_cutTo 170 = .ok (.iconst 1, 1) := by decide +kernel
theorem dX9_cutTo_171 : decode cX9_cutTo 171 = .ok (.isub, 1) := by decide +kernel
theorem dX9_cutTo_172 : decode cX9_cutTo 172 = .ok (.putfield 31, 3) := by decide +kernel
theorem dX9_cutTo_175 : decode cX9_cutTo 175 = .ok (.goto (-32), 3) := by decide +kernel
theorem dX9_cutTo_178 : decode cX9_cutTo 178 = .ok (.iconst 1, 1) := by decide +kernel
theorem dX9_cutTo_179 : decode cX9_cutTo 179 = .ok (.ireturn, 1) := by decide +kernel
theorem dX9_dropFirst_0 : decode cX9_dropFirst 0 = .ok (.iload_n 1, 1) := by decide +kernel
theorem dX9_dropFirst_1 : decode cX9_dropFirst 1 = .ok (.istore_n 2, 1) := by decide +kernel
theorem dX9_dropFirst_2 : decode cX9_dropFirst 2 = .ok (.iload_n 2, 1) := by decide +kernel
theorem dX9_dropFirst_3 : decode cX9_dropFirst 3 = .ok (.aload_n 0, 1) := by decide +kernel
theorem dX9_dropFirst_4 : decode cX9_dropFirst 4 = .ok (.getfield 31, 3) := by decide +kernel
theorem dX9_dropFirst_7 : decode cX9_dropFirst 7 = .ok (.if_icmp .ge 37, 3) := by decide +kernel
theorem dX9_dropFirst_10 : decode cX9_dropFirst 10 = .ok (.aload_n 0, 1) := by decide +kernel
theorem dX9_dropFirst_11 : decode cX9_dropFirst 11 = .ok (.getfield 11, 3) := by decide +kernel
theorem dX9_dropFirst_14 : decode cX9_dropFirst 14 = .ok (.iload_n 2, 1) := by decide +kernel
theorem dX9_dropFirst_15 : decode cX9_dropFirst 15 = .ok (.iload_n 1, 1) := by decide +kernel
theorem dX9_dropFirst_16 : decode cX9_dropFirst 16 = .ok (.isub, 1) := by decide +kernel
theorem dX9_dropFirst_17 : decode cX9_dropFirst 17 = .ok (.aload_n 0, 1) := by decide +kernel
theorem dX9_dropFirst_18 : decode cX9_dropFirst 18 = .ok (.getfield 11, 3) := by decide +kernel
theorem dX9_dropFirst_21 : decode cX9_dropFirst 21 = .ok (.iload_n 2, 1) := by decide +kernel
theorem dX9_dropFirst_22 : decode cX9_dropFirst 22 = .ok (.iaload, 1) := by decide +kernel
theorem dX9_dropFirst_23 : decode cX9_dropFirst 23 = .ok (.iastore, 1) := by decide +kernel
theorem dX9_dropFirst_24 : decode cX9_dropFirst 24 = .ok (.aload_n 0, 1) := by decide +kernel
theorem dX9_dropFirst_25 : decode cX9_dropFirst 25 = .ok (.getfield 15, 3) := by decide +kernel
theorem dX9_dropFirst_28 : decode cX9_dropFirst 28 = .ok (.iload_n 2, 1) := by decide +kernel
theorem dX9_dropFirst_29 : decode cX9_dropFirst 29 = .ok (.iload_n 1, 1) := by decide +kernel
theorem dX9_dropFirst_30 : decode cX9_dropFirst 30 = .ok (.isub, 1) := by decide +kernel
theorem dX9_dropFirst_31 : decode cX9_dropFirst 31 = .ok (.aload_n 0, 1) := by decide +kernel
theorem dX9_dropFirst_32 : decode cX9_dropFirst 32 = .ok (.getfield 15, 3) := by decide +kernel
theorem dX9_dropFirst_35 : decode cX9_dropFirst 35 = .ok (.iload_n 2, 1) := by decide +kernel
theorem dX9_dropFirst_36 : decode cX9_dropFirst 36 = .ok (.iaload, 1) := by decide +kernel
theorem dX9_dropFirst_37 : decode cX9_dropFirst 37 = .ok (.iastore, 1) := by decide +kernel
theorem dX9_dropFirst_38 : decode cX9_dropFirst 38 = .ok (.iinc 2 1, 3) := by decide +kernel
theorem dX9_dropFirst_41 : decode cX9_dropFirst 41 = .ok (.goto (-39), 3) := by decide +kernel
theorem dX9_dropFirst_44 : decode cX9_dropFirst 44 = .ok (.aload_n 0, 1) := by decide +kernel
theorem dX9_dropFirst_45 : decode cX9_dropFirst 45 = .ok (.dup, 1) := by decide +kernel
theorem dX9_dropFirst_46 : decode cX9_dropFirst 46 = .ok (.getfield 31, 3) := by decide +kernel
theorem dX9_dropFirst_49 : decode cX9_dropFirst 49 = .ok (.iload_n 1, 1) := by decide +kernel
theorem dX9_dropFirst_50 : decode cX9_dropFirst 50 = .ok (.isub, 1) := by decide +kernel
theorem dX9_dropFirst_51 : decode cX9_dropFirst 51 = .ok (.putfield 31, 3) := by decide +kernel
theorem dX9_dropFirst_54 : decode cX9_dropFirst 54 = .ok (.return_, 1) := by decide +kernel
theorem dX9_bottom_0 : decode cX9_bottom 0 = .ok (.aload_n 0, 1) := by decide +kernel
theorem dX9_bottom_1 : decode cX9_bottom 1 = .ok (.getfield 28, 3) := by decide +kernel
theorem dX9_bottom_4 : decode cX9_bottom 4 = .ok (.ifCond .lt 8, 3) := by decide +kernel
theorem dX9_bottom_7 : decode cX9_bottom 7 = .ok (.aload_n 0, 1) := by decide +kernel
theorem dX9_bottom_8 : decode cX9_bottom 8 = .ok (.getfield 18, 3) := by decide +kernel
theorem dX9_bottom_11 : decode cX9_bottom 11 = .ok (.ireturn, 1) := by decide +kernel
theorem dX9_bottom_12 : decode cX9_bottom 12 = .ok (.aload_n 0, 1) := by decide +kernel
theorem dX9_bottom_13 : decode cX9_bottom 13 = .ok (.getfield 28, 3) := by decide +kernel
theorem dX9_bottom_16 : decode cX9_bottom 16 = .ok (.istore_n 1, 1) := by decide +kernel
theorem dX9_bottom_17 : decode cX9_bottom 17 = .ok (.iconst 0, 1) := by decide +kernel
theorem dX9_bottom_18 : decode cX9_bottom 18 = .ok (.istore_n 2, 1) := by decide +kernel
theorem dX9_bottom_19 : decode cX9_bottom 19 = .ok (.iload_n 2, 1) := by decide +kernel
theorem dX9_bottom_20 : decode cX9_bottom 20 = .ok (.aload_n 0, 1) := by decide +kernel
theorem dX9_bottom_21 : decode cX9_bottom 21 = .ok (.getfield 31, 3) := by decide +kernel
theorem dX9_bottom_24 : decode cX9_bottom 24 = .ok (.if_icmp .ge 29, 3) := by decide +kernel
theorem dX9_bottom_27 : decode cX9_bottom 27 = .ok (.iload_n 1, 1) := by decide +kernel
theorem dX9_bottom_28 : decode cX9_bottom 28 = .ok (.aload_n 0, 1) := by decide +kernel
theorem dX9_bottom_29 : decode cX9_bottom 29 = .ok (.getfield 15, 3) := by decide +kernel
theorem dX9_bottom_32 : decode cX9_bottom 32 = .ok (.iload_n 2, 1) := by decide +kernel
theorem dX9_bottom_33 : decode cX9_bottom 33 = .ok (.iaload, 1) := by decide +kernel
theorem dX9_bottom_34 : decode cX9_bottom 34 = .ok (.iadd, 1) := by decide +kernel
theorem dX9_bottom_35 : decode cX9_bottom 35 = .ok (.istore_n 1, 1) := by decide +kernel
theorem dX9_bottom_36 : decode cX9_bottom 36 = .ok (.iload_n 1, 1) := by decide +kernel
theorem dX9_bottom_37 : decode cX9_bottom 37 = .ok (.ifCond .lt 10, 3) := by decide +kernel
theorem dX9_bottom_40 : decode cX9_bottom 40 = .ok (.aload_n 0, 1) := by decide +kernel
theorem dX9_bottom_41 : decode cX9_bottom 41 = .ok (.getfield 11, 3) := by decide +kernel
theorem dX9_bottom_44 : decode cX9_bottom 44 = .ok (.iload_n 2, 1) := by decide +kernel
theorem dX9_bottom_45 : decode cX9_bottom 45 = .ok (.iaload, 1) := by decide +kernel
theorem dX9_bottom_46 : decode cX9_bottom 46 = .ok (.ireturn, 1) := by decide +kernel
theorem dX9_bottom_47 : decode cX9_bottom 47 = .ok (.iinc 2 1, 3) := by decide +kernel
theorem dX9_bottom_50 : decode cX9_bottom 50 = .ok (.goto (-31), 3) := by decide +kernel
theorem dX9_bottom_53 : decode cX9_bottom 53 = .ok (.aload_n 0, 1) := by decide +kernel
theorem dX9_bottom_54 : decode cX9_bottom 54 = .ok (.getfield 22, 3) := by decide +kernel
theorem dX9_bottom_57 : decode cX9_bottom 57 = .ok (.ireturn, 1) := by decide +kernel
theorem dX9_bottomCost_0 : decode cX9_bottomCost 0 = .ok (.aload_n 0, 1) := by decide +kernel
theorem dX9_bottomCost_1 : decode cX9_bottomCost 1 = .ok (.getfield 25, 3) := by decide +kernel
theorem dX9_bottomCost_4 : decode cX9_bottomCost 4 = .ok (.istore_n 1, 1) := by decide +kernel
theorem dX9_bottomCost_5 : decode cX9_bottomCost 5 = .ok (.aload_n 0, 1) := by decide +kernel
theorem dX9_bottomCost_6 : decode cX9_bottomCost 6 = .ok (.getfield 18, 3) := by decide +kernel
theorem dX9_bottomCost_9 : decode cX9_bottomCost 9 = .ok (.istore_n 2, 1) := by decide +kernel
theorem dX9_bottomCost_10 : decode cX9_bottomCost 10 = .ok (.aload_n 0, 1) := by decide +kernel
theorem dX9_bottomCost_11 : decode cX9_bottomCost 11 = .ok (.getfield 28, 3) := by decide +kernel
theorem dX9_bottomCost_14 : decode cX9_bottomCost 14 = .ok (.istore_n 3, 1) := by decide +kernel
theorem dX9_bottomCost_15 : decode cX9_bottomCost 15 = .ok (.iconst 0, 1) := by decide +kernel
theorem dX9_bottomCost_16 : decode cX9_bottomCost 16 = .ok (.istore 4, 2) := by decide +kernel
theorem dX9_bottomCost_18 : decode cX9_bottomCost 18 = .ok (.iload 4, 2) := by decide +kernel
theorem dX9_bottomCost_20 : decode cX9_bottomCost 20 = .ok (.aload_n 0, 1) := by decide +kernel
theorem dX9_bottomCost_21 : decode cX9_bottomCost 21 = .ok (.getfield 31, 3) := by decide +kernel
theorem dX9_bottomCost_24 : decode cX9_bottomCost 24 = .ok (.if_icmp .ge 45, 3) := by decide +kernel
theorem dX9_bottomCost_27 : decode cX9_bottomCost 27 = .ok (.iload_n 3, 1) := by decide +kernel
theorem dX9_bottomCost_28 : decode cX9_bottomCost 28 = .ok (.ifCond .ge 41, 3) := by decide +kernel
theorem dX9_bottomCost_31 : decode cX9_bottomCost 31 = .ok (.iload_n 1, 1) := by decide +kernel
theorem dX9_bottomCost_32 : decode cX9_bottomCost 32 = .ok (.iload_n 3, 1) := by decide +kernel
theorem dX9_bottomCost_33 : decode cX9_bottomCost 33 = .ok (.aload_n 0, 1) := by decide +kernel
theorem dX9_bottomCost_34 : decode cX9_bottomCost 34 = .ok (.getfield 11, 3) := by decide +kernel
theorem dX9_bottomCost_37 : decode cX9_bottomCost 37 = .ok (.iload 4, 2) := by decide +kernel
theorem dX9_bottomCost_39 : decode cX9_bottomCost 39 = .ok (.iaload, 1) := by decide +kernel
theorem dX9_bottomCost_40 : decode cX9_bottomCost 40 = .ok (.iload_n 2, 1) := by decide +kernel
theorem dX9_bottomCost_41 : decode cX9_bottomCost 41 = .ok (.isub, 1) := by decide +kernel
theorem dX9_bottomCost_42 : decode cX9_bottomCost 42 = .ok (.imul, 1) := by decide +kernel
theorem dX9_bottomCost_43 : decode cX9_bottomCost 43 = .ok (.iadd, 1) := by decide +kernel
theorem dX9_bottomCost_44 : decode cX9_bottomCost 44 = .ok (.istore_n 1, 1) := by decide +kernel
theorem dX9_bottomCost_45 : decode cX9_bottomCost 45 = .ok (.aload_n 0, 1) := by decide +kernel
theorem dX9_bottomCost_46 : decode cX9_bottomCost 46 = .ok (.getfield 11, 3) := by decide +kernel
theorem dX9_bottomCost_49 : decode cX9_bottomCost 49 = .ok (.iload 4, 2) := by decide +kernel
theorem dX9_bottomCost_51 : decode cX9_bottomCost 51 = .ok (.iaload, 1) := by decide +kernel
theorem dX9_bottomCost_52 : decode cX9_bottomCost 52 = .ok (.istore_n 2, 1) := by decide +kernel
theorem dX9_bottomCost_53 : decode cX9_bottomCost 53 = .ok (.iload_n 3, 1) := by decide +kernel
theorem dX9_bottomCost_54 : decode cX9_bottomCost 54 = .ok (.aload_n 0, 1) := by decide +kernel
theorem dX9_bottomCost_55 : decode cX9_bottomCost 55 = .ok (.getfield 15, 3) := by decide +kernel
theorem dX9_bottomCost_58 : decode cX9_bottomCost 58 = .ok (.iload 4, 2) := by decide +kernel
theorem dX9_bottomCost_60 : decode cX9_bottomCost 60 = .ok (.iaload, 1) := by decide +kernel
theorem dX9_bottomCost_61 : decode cX9_bottomCost 61 = .ok (.iadd, 1) := by decide +kernel
theorem dX9_bottomCost_62 : decode cX9_bottomCost 62 = .ok (.istore_n 3, 1) := by decide +kernel
theorem dX9_bottomCost_63 : decode cX9_bottomCost 63 = .ok (.iinc 4 1, 3) := by decide +kernel
theorem dX9_bottomCost_66 : decode cX9_bottomCost 66 = .ok (.goto (-48), 3) := by decide +kernel
theorem dX9_bottomCost_69 : decode cX9_bottomCost 69 = .ok (.iload_n 3, 1) := by decide +kernel
theorem dX9_bottomCost_70 : decode cX9_bottomCost 70 = .ok (.ifCond .ge 16, 3) := by decide +kernel
theorem dX9_bottomCost_73 : decode cX9_bottomCost 73 = .ok (.iload_n 1, 1) := by decide +kernel
theorem dX9_bottomCost_74 : decode cX9_bottomCost 74 = .ok (.iload_n 3, 1) := by decide +kernel
theorem dX9_bottomCost_75 : decode cX9_bottomCost 75 = .ok (.aload_n 0, 1) := by decide +kernel
theorem dX9_bottomCost_76 : decode cX9_bottomCost 76 = .ok (.getfield 22, 3) := by decide +kernel
theorem dX9_bottomCost_79 : decode cX9_bottomCost 79 = .ok (.iload_n 2, 1) := by decide +kernel
theorem dX9_bottomCost_80 : decode cX9_bottomCost 80 = .ok (.isub, 1) := by decide +kernel
theorem dX9_bottomCost_81 : decode cX9_bottomCost 81 = .ok (.imul, 1) := by decide +kernel
theorem dX9_bottomCost_82 : decode cX9_bottomCost 82 = .ok (.iadd, 1) := by decide +kernel
theorem dX9_bottomCost_83 : decode cX9_bottomCost 83 = .ok (.goto 4, 3) := by decide +kernel
theorem dX9_bottomCost_86 : decode cX9_bottomCost 86 = .ok (.iload_n 1, 1) := by decide +kernel
theorem dX9_bottomCost_87 : decode cX9_bottomCost 87 = .ok (.ireturn, 1) := by decide +kernel
theorem dX10_init_0 : decode cX10_init 0 = .ok (.aload_n 0, 1) := by decide +kernel
theorem dX10_init_1 : decode cX10_init 1 = .ok (.invokespecial 3, 3) := by decide +kernel
theorem dX10_init_4 : decode cX10_init 4 = .ok (.aload_n 0, 1) := by decide +kernel
theorem dX10_init_5 : decode cX10_init 5 = .ok (.sipush 400, 3) := by decide +kernel
theorem dX10_init_8 : decode cX10_init 8 = .ok (.newarray .int, 2) := by decide +kernel
theorem dX10_init_10 : decode cX10_init 10 = .ok (.putfield 11, 3) := by decide +kernel
theorem dX10_init_13 : decode cX10_init 13 = .ok (.aload_n 0, 1) := by decide +kernel
theorem dX10_init_14 : decode cX10_init 14 = .ok (.iconst (-1), 1) := by decide +kernel
theorem dX10_init_15 : decode cX10_init 15 = .ok (.putfield 15, 3) := by decide +kernel
theorem dX10_init_18 : decode cX10_init 18 = .ok (.aload_n 0, 1) := by decide +kernel
theorem dX10_init_19 : decode cX10_init 19 = .ok (.aload_n 1, 1) := by decide +kernel
theorem dX10_init_20 : decode cX10_init 20 = .ok (.putfield 19, 3) := by decide +kernel
theorem dX10_init_23 : decode cX10_init 23 = .ok (.return_, 1) := by decide +kernel
theorem dX10_hasRoom_0 : decode cX10_hasRoom 0 = .ok (.aload_n 0, 1) := by decide +kernel
theorem dX10_hasRoom_1 : decode cX10_hasRoom 1 = .ok (.getfield 23, 3) := by decide +kernel
theorem dX10_hasRoom_4 : decode cX10_hasRoom 4 = .ok (.iconst 4, 1) := by decide +kernel
theorem dX10_hasRoom_5 : decode cX10_hasRoom 5 = .ok (.iload_n 1, 1) := by decide +kernel
theorem dX10_hasRoom_6 : decode cX10_hasRoom 6 = .ok (.imul, 1) := by decide +kernel
theorem dX10_hasRoom_7 : decode cX10_hasRoom 7 = .ok (.iadd, 1) := by decide +kernel
theorem dX10_hasRoom_8 : decode cX10_hasRoom 8 = .ok (.sipush 400, 3) := by decide +kernel
theorem dX10_hasRoom_11 : decode cX10_hasRoom 11 = .ok (.if_icmp .gt 7, 3) := by decide +kernel
theorem dX10_hasRoom_14 : decode cX10_hasRoom 14 = .ok (.iconst 1, 1) := by decide +kernel
theorem dX10_hasRoom_15 : decode cX10_hasRoom 15 = .ok (.goto 4, 3) := by decide +kernel
theorem dX10_hasRoom_18 : decode cX10_hasRoom 18 = .ok (.iconst 0, 1) := by decide +kernel
theorem dX10_hasRoom_19 : decode cX10_hasRoom 19 = .ok (.ireturn, 1) := by decide +kernel
theorem dX10_append_0 : decode cX10_append 0 = .ok (.bipush 24, 2) := by decide +kernel
theorem dX10_append_2 : decode cX10_append 2 = .ok (.istore_n 2, 1) := by decide +kernel
theorem dX10_append_3 : decode cX10_append 3 = .ok (.iload_n 2, 1) := by decide +kernel
theorem dX10_append_4 : decode cX10_append 4 = .ok (.ifCond .lt 45, 3) := by decide +kernel
theorem dX10_append_7 : decode cX10_append 7 = .ok (.aload_n 0, 1) := by decide +kernel
theorem dX10_append_8 : decode cX10_append 8 = .ok (.getfield 23, 3) := by decide +kernel
theorem dX10_append_11 : decode cX10_append 11 = .ok (.sipush 400, 3) := by decide +kernel
theorem dX10_append_14 : decode cX10_append 14 = .ok (.if_icmp .ge 35, 3) := by decide +kernel
theorem dX10_append_17 : decode cX10_append 17 = .ok (.aload_n 0, 1) := by decide +kernel
theorem dX10_append_18 : decode cX10_append 18 = .ok (.getfield 11, 3) := by decide +kernel
theorem dX10_append_21 : decode cX10_append 21 = .ok (.aload_n 0, 1) := by decide +kernel
theorem dX10_append_22 : decode cX10_append 22 = .ok (.getfield 23, 3) := by decide +kernel
theorem dX10_append_25 : decode cX10_append 25 = .ok (.iload_n 1, 1) := by decide +kernel
theorem dX10_append_26 : decode cX10_append 26 = .ok (.iload_n 2, 1) := by decide +kernel
theorem dX10_append_27 : decode cX10_append 27 = .ok (.ishr, 1) := by decide +kernel
theorem dX10_append_28 : decode cX10_append 28 = .ok (.sipush 255, 3) := by decide +kernel
theorem dX10_append_31 : decode cX10_append 31 = .ok (.iand, 1) := by decide +kernel
theorem dX10_append_32 : decode cX10_append 32 = .ok (.iastore, 1) := by decide +kernel
theorem dX10_append_33 : decode cX10_append 33 = .ok (.aload_n 0, 1) := by decide +kernel
theorem dX10_append_34 : decode cX10_append 34 = .ok (.dup, 1) := by decide +kernel
theorem dX10_append_35 : decode cX10_append 35 = .ok (.getfield 23, 3) := by decide +kernel
theorem dX10_append_38 : decode cX10_append 38 = .ok (.iconst 1, 1) := by decide +kernel
theorem dX10_append_39 : decode cX10_append 39 = .ok (.iadd, 1) := by decide +kernel
theorem dX10_append_40 : decode cX10_append 40 = .ok (.putfield 23, 3) := by decide +kernel
theorem dX10_append_43 : decode cX10_append 43 = .ok (.iinc 2 (-8), 3) := by decide +kernel
theorem dX10_append_46 : decode cX10_append 46 = .ok (.goto (-43), 3) := by decide +kernel
theorem dX10_append_49 : decode cX10_append 49 = .ok (.return_, 1) := by decide +kernel
theorem dX10_holdsProof_0 : decode cX10_holdsProof 0 = .ok (.aload_n 0, 1) := by decide +kernel
theorem dX10_holdsProof_1 : decode cX10_holdsProof 1 = .ok (.iload_n 1, 1) := by decide +kernel
theorem dX10_holdsProof_2 : decode cX10_holdsProof 2 = .ok (.putfield 26, 3) := by decide +kernel
theorem dX10_holdsProof_5 : decode cX10_holdsProof 5 = .ok (.aload_n 0, 1) := by decide +kernel
theorem dX10_holdsProof_6 : decode cX10_holdsProof 6 = .ok (.iconst 0, 1) := by decide +kernel
theorem dX10_holdsProof_7 : decode cX10_holdsProof 7 = .ok (.putfield 29, 3) := by decide +kernel
theorem dX10_holdsProof_10 : decode cX10_holdsProof 10 = .ok (.aload_n 0, 1) := by decide +kernel
theorem dX10_holdsProof_11 : decode cX10_holdsProof 11 = .ok (.iconst (-1), 1) := by decide +kernel
theorem dX10_holdsProof_12 : decode cX10_holdsProof 12 = .ok (.putfield 15, 3) := by decide +kernel
theorem dX10_holdsProof_15 : decode cX10_holdsProof 15 = .ok (.aload_n 0, 1) := by decide +kernel
theorem dX10_holdsProof_16 : decode cX10_holdsProof 16 = .ok (.invokevirtual 32, 3) := by decide +kernel
theorem dX10_holdsProof_19 : decode cX10_holdsProof 19 = .ok (.aload_n 0, 1) := by decide +kernel
theorem dX10_holdsProof_20 : decode cX10_holdsProof 20 = .ok (.aload_n 0, 1) := by decide +kernel
theorem dX10_holdsProof_21 : decode cX10_holdsProof 21 = .ok (.getfield 19, 3) := by decide +kernel
theorem dX10_holdsProof_24 : decode cX10_holdsProof 24 = .ok (.getfield 35, 3) := by decide +kernel
theorem dX10_holdsProof_27 : decode cX10_holdsProof 27 = .ok (.iconst 0, 1) := by decide +kernel
theorem dX10_holdsProof_28 : decode cX10_holdsProof 28 = .ok (.iconst 1, 1) := by decide +kernel
theorem dX10_holdsProof_29 : decode cX10_holdsProof 29 = .ok (.invokevirtual 40, 3) := by decide +kernel
theorem dX10_holdsProof_32 : decode cX10_holdsProof 32 = .ok (.ifCond .eq 15, 3) := by decide +kernel
theorem dX10_holdsProof_35 : decode cX10_holdsProof 35 = .ok (.aload_n 0, 1) := by decide +kernel
theorem dX10_holdsProof_36 : decode cX10_holdsProof 36 = .ok (.iconst (-1), 1) := by decide +kernel
theorem dX10_holdsProof_37 : decode cX10_holdsProof 37 = .ok (.invokevirtual 44, 3) := by decide +kernel
theorem dX10_holdsProof_40 : decode cX10_holdsProof 40 = .ok (.ifCond .eq 7, 3) := by decide +kernel
theorem dX10_holdsProof_43 : decode cX10_holdsProof 43 = .ok (.iconst 1, 1) := by decide +kernel
theorem dX10_holdsProof_44 : decode cX10_holdsProof 44 = .ok (.goto 4, 3) := by decide +kernel
theorem dX10_holdsProof_47 : decode cX10_holdsProof 47 = .ok (.iconst 0, 1) := by decide +kernel
theorem dX10_holdsProof_48 : decode cX10_holdsProof 48 = .ok (.ireturn, 1) := by decide +kernel
theorem dX10_step_0 : decode cX10_step 0 = .ok (.aload_n 0, 1) := by decide +kernel
theorem dX10_step_1 : decode cX10_step 1 = .ok (.getfield 29, 3) := by decide +kernel
theorem dX10_step_4 : decode cX10_step 4 = .ok (.aload_n 0, 1) := by decide +kernel
theorem dX10_step_5 : decode cX10_step 5 = .ok (.getfield 23, 3) := by decide +kernel
theorem dX10_step_8 : decode cX10_step 8 = .ok (.if_icmp .ge 30, 3) := by decide +kernel
theorem dX10_step_11 : decode cX10_step 11 = .ok (.aload_n 0, 1) := by decide +kernel
theorem dX10_step_12 : decode cX10_step 12 = .ok (.getfield 11, 3) := by decide +kernel
theorem dX10_step_15 : decode cX10_step 15 = .ok (.aload_n 0, 1) := by decide +kernel
theorem dX10_step_16 : decode cX10_step 16 = .ok (.getfield 29, 3) := by decide +kernel
theorem dX10_step_19 : decode cX10_step 19 = .ok (.iaload, 1) := by decide +kernel
theorem dX10_step_20 : decode cX10_step 20 = .ok (.bipush 32, 2) := by decide +kernel
theorem dX10_step_22 : decode cX10_step 22 = .ok (.if_icmp .ne 16, 3) := by decide +kernel
theorem dX10_step_25 : decode cX10_step 25 = .ok (.aload_n 0, 1) := by decide +kernel
theorem dX10_step_26 : decode cX10_step 26 = .ok (.dup, 1) := by decide +kernel
theorem dX10_step_27 : decode cX10_step 27 = .ok (.getfield 29, 3) := by decide +kernel
theorem dX10_step_30 : decode cX10_step 30 = .ok (.iconst 1, 1) := by decide +kernel
theorem dX10_step_31 : decode cX10_step 31 = .ok (.iadd, 1) := by decide +kernel
theorem dX10_step_32 : decode cX10_step 32 = .ok (.putfield 29, 3) := by decide +kernel
theorem dX10_step_35 : decode cX10_step 35 = .ok (.goto (-35), 3) := by decide +kernel
theorem dX10_step_38 : decode cX10_step 38 = .ok (.aload_n 0, 1) := by decide +kernel
theorem dX10_step_39 : decode cX10_step 39 = .ok (.aload_n 0, 1) := by decide +kernel
theorem dX10_step_40 : decode cX10_step 40 = .ok (.getfield 29, 3) := by decide +kernel
theorem dX10_step_43 : decode cX10_step 43 = .ok (.putfield 48, 3) := by decide +kernel
theorem dX10_step_46 : decode cX10_step 46 = .ok (.aload_n 0, 1) := by decide +kernel
theorem dX10_step_47 : decode cX10_step 47 = .ok (.getfield 29, 3) := by decide +kernel
theorem dX10_step_50 : decode cX10_step 50 = .ok (.aload_n 0, 1) := by decide +kernel
theorem dX10_step_51 : decode cX10_step 51 = .ok (.getfield 23, 3) := by decide +kernel
theorem dX10_step_54 : decode cX10_step 54 = .ok (.if_icmp .lt 11, 3) := by decide +kernel
theorem dX10_step_57 : decode cX10_step 57 = .ok (.aload_n 0, 1) := by decide +kernel
theorem dX10_step_58 : decode cX10_step 58 = .ok (.iconst (-1), 1) := by decide +kernel
theorem dX10_step_59 : decode cX10_step 59 = .ok (.putfield 51, 3) := by decide +kernel
theorem dX10_step_62 : decode cX10_step 62 = .ok (.goto 55, 3) := by decide +kernel
theorem dX10_step_65 : decode cX10_step 65 = .ok (.aload_n 0, 1) := by decide +kernel
theorem dX10_step_66 : decode cX10_step 66 = .ok (.getfield 11, 3) := by decide +kernel
theorem dX10_step_69 : decode cX10_step 69 = .ok (.aload_n 0, 1) := by decide +kernel
theorem dX10_step_70 : decode cX10_step 70 = .ok (.getfield 29, 3) := by decide +kernel
theorem dX10_step_73 : decode cX10_step 73 = .ok (.iaload, 1) := by decide +kernel
theorem dX10_step_74 : decode cX10_step 74 = .ok (.invokestatic 54, 3) := by decide +kernel
theorem dX10_step_77 : decode cX10_step 77 = .ok (.ifCond .eq 17, 3) := by decide +kernel
theorem dX10_step_80 : decode cX10_step 80 = .ok (.aload_n 0, 1) := by decide +kernel
theorem dX10_step_81 : decode cX10_step 81 = .ok (.sipush 256, 3) := by decide +kernel
theorem dX10_step_84 : decode cX10_step 84 = .ok (.putfield 51, 3) := by decide +kernel
theorem dX10_step_87 : decode cX10_step 87 = .ok (.aload_n 0, 1) := by decide +kernel
theorem dX10_step_88 : decode cX10_step 88 = .ok (.invokevirtual 57, 3) := by decide +kernel
theorem dX10_step_91 : decode cX10_step 91 = .ok (.goto 26, 3) := by decide +kernel
theorem dX10_step_94 : decode cX10_step 94 = .ok (.aload_n 0, 1) := by decide +kernel
theorem dX10_step_95 : decode cX10_step 95 = .ok (.aload_n 0, 1) := by decide +kernel
theorem dX10_step_96 : decode cX10_step 96 = .ok (.getfield 11, 3) := by decide +kernel
theorem dX10_step_99 : decode cX10_step 99 = .ok (.aload_n 0, 1) := by decide +kernel
theorem dX10_step_100 : decode cX10_step 100 = .ok (.getfield 29, 3) := by decide +kernel
theorem dX10_step_103 : decode cX10_step 103 = .ok (.iaload, 1) := by decide +kernel
theorem dX10_step_104 : decode cX10_step 104 = .ok (.putfield 51, 3) := by decide +kernel
theorem dX10_step_107 : decode cX10_step 107 = .ok (.aload_n 0, 1) := by decide +kernel
theorem dX10_step_108 : decode cX10_step 108 = .ok (.dup, 1) := by decide +kernel
theorem dX10_step_109 : decode cX10_step 109 = .ok (.getfield 29, 3) := by decide +kernel
theorem dX10_step_112 : decode cX10_step 112 = .ok (.iconst 1, 1) := by decide +kernel
theorem dX10_step_113 : decode cX10_step 113 = .ok (.iadd, 1) := by decide +kernel
theorem dX10_step_114 : decode cX10_step 114 = .ok (.putfield 29, 3) := by decide +kernel
theorem dX10_step_117 : decode cX10_step 117 = .ok (.return_, 1) := by decide +kernel
theorem dX10_readNumber_0 : decode cX10_readNumber 0 = .ok (.aload_n 0, 1) := by decide +kernel
theorem dX10_readNumber_1 : decode cX10_readNumber 1 = .ok (.iconst 0, 1) := by decide +kernel
theorem dX10_readNumber_2 : decode cX10_readNumber 2 = .ok (.putfield 60, 3) := by decide +kernel
theorem dX10_readNumber_5 : decode cX10_readNumber 5 = .ok (.aload_n 0, 1) := by decide +kernel
theorem dX10_readNumber_6 : decode cX10_readNumber 6 = .ok (.getfield 29, 3) := by decide +kernel
theorem dX10_readNumber_9 : decode cX10_readNumber 9 = .ok (.aload_n 0, 1) := by decide +kernel
theorem dX10_readNumber_10 : decode cX10_readNumber 10 = .ok (.getfield 23, 3) := by decide +kernel
theorem dX10_readNumber_13 : decode cX10_readNumber 13 = .ok (.if_icmp .ge 60, 3) := by decide +kernel
theorem dX10_readNumber_16 : decode cX10_readNumber 16 = .ok (.aload_n 0, 1) := by decide +kernel
theorem dX10_readNumber_17 : decode cX10_readNumber 17 = .ok (.getfield 11, 3) := by decide +kernel
theorem dX10_readNumber_20 : decode cX10_readNumber 20 = .ok (.aload_n 0, 1) := by decide +kernel
theorem dX10_readNumber_21 : decode cX10_readNumber 21 = .ok (.getfield 29, 3) := by decide +kernel
theorem dX10_readNumber_24 : decode cX10_readNumber 24 = .ok (.iaload, 1) := by decide +kernel
theorem dX10_readNumber_25 : decode cX10_readNumber 25 = .ok (.invokestatic 54, 3) := by decide +kernel
theorem dX10_readNumber_28 : decode cX10_readNumber 28 = .ok (.ifCond .eq 45, 3) := by decide +kernel
theorem dX10_readNumber_31 : decode cX10_readNumber 31 = .ok (.aload_n 0, 1) := by decide +kernel
theorem dX10_readNumber_32 : decode cX10_readNumber 32 = .ok (.aload_n 0, 1) := by decide +kernel
theorem dX10_readNumber_33 : decode cX10_readNumber 33 = .ok (.getfield 60, 3) := by decide +kernel
theorem dX10_readNumber_36 : decode cX10_readNumber 36 = .ok (.bipush 10, 2) := by decide +kernel
theorem dX10_readNumber_38 : decode cX10_readNumber 38 = .ok (.imul, 1) := by decide +kernel
theorem dX10_readNumber_39 : decode cX10_readNumber 39 = .ok (.aload_n 0, 1) := by decide +kernel
theorem dX10_readNumber_40 : decode cX10_readNumber 40 = .ok (.getfield 11, 3) := by decide +kernel
theorem dX10_readNumber_43 : decode cX10_readNumber 43 = .ok (.aload_n 0, 1) := by decide +kernel
theorem dX10_readNumber_44 : decode cX10_readNumber 44 = .ok (.getfield 29, 3) := by decide +kernel
theorem dX10_readNumber_47 : decode cX10_readNumber 47 = .ok (.iaload, 1) := by decide +kernel
theorem dX10_readNumber_48 : decode cX10_readNumber 48 = .ok (.iadd, 1) := by decide +kernel
theorem dX10_readNumber_49 : decode cX10_readNumber 49 = .ok (.bipush 48, 2) := by decide +kernel
theorem dX10_readNumber_51 : decode cX10_readNumber 51 = .ok (.isub, 1) := by decide +kernel
theorem dX10_readNumber_52 : decode cX10_readNumber 52 = .ok (.bipush 24, 2) := by decide +kernel
theorem dX10_readNumber_54 : decode cX10_readNumber 54 = .ok (.invokestatic 63, 3) := by decide +kernel
theorem dX10_readNumber_57 : decode cX10_readNumber 57 = .ok (.putfield 60, 3) := by decide +kernel
theorem dX10_readNumber_60 : decode cX10_readNumber 60 = .ok (.aload_n 0, 1) := by decide +kernel
theorem dX10_readNumber_61 : decode cX10_readNumber 61 = .ok (.dup, 1) := by decide +kernel
theorem dX10_readNumber_62 : decode cX10_readNumber 62 = .ok (.getfield 29, 3) := by decide +kernel
theorem dX10_readNumber_65 : decode cX10_readNumber 65 = .ok (.iconst 1, 1) := by decide +kernel
theorem dX10_readNumber_66 : decode cX10_readNumber 66 = .ok (.iadd, 1) := by decide +kernel
theorem dX10_readNumber_67 : decode cX10_readNumber 67 = .ok (.putfield 29, 3) := by decide +kernel
theorem dX10_readNumber_70 : decode cX10_readNumber 70 = .ok (.goto (-65), 3) := by decide +kernel
theorem dX10_readNumber_73 : decode cX10_readNumber 73 = .ok (.return_, 1) := by decide +kernel
theorem dX10_isDigit_0 : decode cX10_isDigit 0 = .ok (.iload_n 0, 1) := by decide +kernel
theorem dX10_isDigit_1 : decode cX10_isDigit 1 = .ok (.bipush 48, 2) := by decide +kernel
theorem dX10_isDigit_3 : decode cX10_isDigit 3 = .ok (.if_icmp .lt 13, 3) := by decide +kernel
theorem dX10_isDigit_6 : decode cX10_isDigit 6 = .ok (.iload_n 0, 1) := by decide +kernel
theorem dX10_isDigit_7 : decode cX10_isDigit 7 = .ok (.bipush 57, 2) := by decide +kernel
theorem dX10_isDigit_9 : decode cX10_isDigit 9 = .ok (.if_icmp .gt 7, 3) := by decide +kernel
theorem dX10_isDigit_12 : decode cX10_isDigit 12 = .ok (.iconst 1, 1) := by decide +kernel
theorem dX10_isDigit_13 : decode cX10_isDigit 13 = .ok (.goto 4, 3) := by decide +kernel
theorem dX10_isDigit_16 : decode cX10_isDigit 16 = .ok (.iconst 0, 1) := by decide +kernel
theorem dX10_isDigit_17 : decode cX10_isDigit 17 = .ok (.ireturn, 1) := by decide +kernel
theorem dX10_fail_0 : decode cX10_fail 0 = .ok (.aload_n 0, 1) := by decide +kernel
theorem dX10_fail_1 : decode cX10_fail 1 = .ok (.aload_n 0, 1) := by decide +kernel
theorem dX10_fail_2 : decode cX10_fail 2 = .ok (.getfield 48, 3) := by decide +kernel
theorem dX10_fail_5 : decode cX10_fail 5 = .ok (.putfield 15, 3) := by decide +kernel
theorem dX10_fail_8 : decode cX10_fail 8 = .ok (.iconst 0, 1) := by decide +kernel
theorem dX10_fail_9 : decode cX10_fail 9 = .ok (.ireturn, 1) := by decide +kernel
theorem dX10_expect_0 : decode cX10_expect 0 = .ok (.aload_n 0, 1) := by decide +kernel
theorem dX10_expect_1 : decode cX10_expect 1 = .ok (.getfield 51, 3) := by decide +kernel
theorem dX10_expect_4 : decode cX10_expect 4 = .ok (.iload_n 1, 1) := by decide +kernel
theorem dX10_expect_5 : decode cX10_expect 5 = .ok (.if_icmp .eq 8, 3) := by decide +kernel
theorem dX10_expect_8 : decode cX10_expect 8 = .ok (.aload_n 0, 1) := by decide +kernel
theorem dX10_expect_9 : decode cX10_expect 9 = .ok (.invokevirtual 69, 3) := by decide +kernel
theorem dX10_expect_12 : decode cX10_expect 12 = .ok (.ireturn, 1) := by decide +kernel
theorem dX10_expect_13 : decode cX10_expect 13 = .ok (.aload_n 0, 1) := by decide +kernel
theorem dX10_expect_14 : decode cX10_expect 14 = .ok (.invokevirtual 32, 3) := by decide +kernel
theorem dX10_expect_17 : decode cX10_expect 17 = .ok (.iconst 1, 1) := by decide +kernel
theorem dX10_expect_18 : decode cX10_expect 18 = .ok (.ireturn, 1) := by decide +kernel
theorem dX10_isLogOf_0 : decode cX10_isLogOf 0 = .ok (.aload_n 0, 1) := by decide +kernel
theorem dX10_isLogOf_1 : decode cX10_isLogOf 1 = .ok (.getfield 51, 3) := by decide +kernel
theorem dX10_isLogOf_4 : decode cX10_isLogOf 4 = .ok (.sipush 256, 3) := by decide +kernel
theorem dX10_isLogOf_7 : decode cX10_isLogOf 7 = .ok (.if_icmp .ne 28, 3) := by decide +kernel
theorem dX10_isLogOf_10 : decode cX10_isLogOf 10 = .ok (.aload_n 0, 1) := by decide +kernel
theorem dX10_isLogOf_11 : decode cX10_isLogOf 11 = .ok (.getfield 60, 3) := by decide +kernel
theorem dX10_isLogOf_14 : decode cX10_isLogOf 14 = .ok (.bipush 24, 2) := by decide +kernel
theorem dX10_isLogOf_16 : decode cX10_isLogOf 16 = .ok (.if_icmp .ge 19, 3) := by decide +kernel
theorem dX10_isLogOf_19 : decode cX10_isLogOf 19 = .ok (.iload_n 1, 1) := by decide +kernel
theorem dX10_isLogOf_20 : decode cX10_isLogOf 20 = .ok (.aload_n 0, 1) := by decide +kernel
theorem dX10_isLogOf_21 : decode cX10_isLogOf 21 = .ok (.getfield 60, 3) := by decide +kernel
theorem dX10_isLogOf_24 : decode cX10_isLogOf 24 = .ok (.ishr, 1) := by decide +kernel
theorem dX10_isLogOf_25 : decode cX10_isLogOf 25 = .ok (.iconst 1, 1) := by decide +kernel
theorem dX10_isLogOf_26 : decode cX10_isLogOf 26 = .ok (.iand, 1) := by decide +kernel
theorem dX10_isLogOf_27 : decode cX10_isLogOf 27 = .ok (.iconst 1, 1) := by decide +kernel
theorem dX10_isLogOf_28 : decode cX10_isLogOf 28 = .ok (.if_icmp .ne 7, 3) := by decide +kernel
theorem dX10_isLogOf_31 : decode cX10_isLogOf 31 = .ok (.iconst 1, 1) := by decide +kernel
theorem dX10_isLogOf_32 : decode cX10_isLogOf 32 = .ok (.goto 4, 3) := by decide +kernel
theorem dX10_isLogOf_35 : decode cX10_isLogOf 35 = .ok (.iconst 0, 1) := by decide +kernel
theorem dX10_isLogOf_36 : decode cX10_isLogOf 36 = .ok (.ireturn, 1) := by decide +kernel
theorem dX10_readProof_0 : decode cX10_readProof 0 = .ok (.iload_n 3, 1) := by decide +kernel
theorem dX10_readProof_1 : decode cX10_readProof 1 = .ok (.bipush 24, 2) := by decide +kernel
theorem dX10_readProof_3 : decode cX10_readProof 3 = .ok (.if_icmp .le 8, 3) := by decide +kernel
theorem dX10_readProof_6 : decode cX10_readProof 6 = .ok (.aload_n 0, 1) := by decide +kernel
theorem dX10_readProof_7 : decode cX10_readProof 7 = .ok (.invokevirtual 69, 3) := by decide +kernel
theorem dX10_readProof_10 : decode cX10_readProof 10 = .ok (.ireturn, 1) := by decide +kernel
theorem dX10_readProof_11 : decode cX10_readProof 11 = .ok (.aload_n 0, 1) := by decide +kernel
theorem dX10_readProof_12 : decode cX10_readProof 12 = .ok (.getfield 51, 3) := by decide +kernel
theorem dX10_readProof_15 : decode cX10_readProof 15 = .ok (.bipush 91, 2) := by decide +kernel
theorem dX10_readProof_17 : decode cX10_readProof 17 = .ok (.if_icmp .ne 10, 3) := by decide +kernel
theorem dX10_readProof_20 : decode cX10_readProof 20 = .ok (.aload_n 0, 1) := by decide +kernel
theorem dX10_readProof_21 : decode cX10_readProof 21 = .ok (.iload_n 1, 1) := by decide +kernel
theorem dX10_readProof_22 : decode cX10_readProof 22 = .ok (.iload_n 2, 1) := by decide +kernel
theorem dX10_readProof_23 : decode cX10_readProof 23 = .ok (.invokevirtual 73, 3) := by decide +kernel
theorem dX10_readProof_26 : decode cX10_readProof 26 = .ok (.ireturn, 1) := by decide +kernel
theorem dX10_readProof_27 : decode cX10_readProof 27 = .ok (.aload_n 0, 1) := by decide +kernel
theorem dX10_readProof_28 : decode cX10_readProof 28 = .ok (.bipush 40, 2) := by decide +kernel
theorem dX10_readProof_30 : decode cX10_readProof 30 = .ok (.invokevirtual 44, 3) := by decide +kernel
theorem dX10_readProof_33 : decode cX10_readProof 33 = .ok (.ifCond .ne 5, 3) := by decide +kernel
theorem dX10_readProof_36 : decode cX10_readProof 36 = .ok (.iconst 0, 1) := by decide +kernel
theorem dX10_readProof_37 : decode cX10_readProof 37 = .ok (.ireturn, 1) := by decide +kernel
theorem dX10_readProof_38 : decode cX10_readProof 38 = .ok (.aload_n 0, 1) := by decide +kernel
theorem dX10_readProof_39 : decode cX10_readProof 39 = .ok (.iload_n 1, 1) := by decide +kernel
theorem dX10_readProof_40 : decode cX10_readProof 40 = .ok (.invokevirtual 77, 3) := by decide +kernel
theorem dX10_readProof_43 : decode cX10_readProof 43 = .ok (.ifCond .ne 8, 3) := by decide +kernel
theorem dX10_readProof_46 : decode cX10_readProof 46 = .ok (.aload_n 0, 1) := by decide +kernel
theorem dX10_readProof_47 : decode cX10_readProof 47 = .ok (.invokevirtual 69, 3) := by decide +kernel
theorem dX10_readProof_50 : decode cX10_readProof 50 = .ok (.ireturn, 1) := by decide +kernel
theorem dX10_readProof_51 : decode cX10_readProof 51 = .ok (.aload_n 0, 1) := by decide +kernel
theorem dX10_readProof_52 : decode cX10_readProof 52 = .ok (.getfield 60, 3) := by decide +kernel
theorem dX10_readProof_55 : decode cX10_readProof 55 = .ok (.istore 4, 2) := by decide +kernel
theorem dX10_readProof_57 : decode cX10_readProof 57 = .ok (.iload_n 1, 1) := by decide +kernel
theorem dX10_readProof_58 : decode cX10_readProof 58 = .ok (.iconst 1, 1) := by decide +kernel
theorem dX10_readProof_59 : decode cX10_readProof 59 = .ok (.iload 4, 2) := by decide +kernel
theorem dX10_readProof_61 : decode cX10_readProof 61 = .ok (.ishl, 1) := by decide +kernel
theorem dX10_readProof_62 : decode cX10_readProof 62 = .ok (.iconst (-1), 1) := by decide +kernel
theorem dX10_readProof_63 : decode cX10_readProof 63 = .ok (.ixor, 1) := by decide +kernel
theorem dX10_readProof_64 : decode cX10_readProof 64 = .ok (.iand, 1) := by decide +kernel
theorem dX10_readProof_65 : decode cX10_readProof 65 = .ok (.istore 5, 2) := by decide +kernel
theorem dX10_readProof_67 : decode cX10_readProof 67 = .ok (.aload_n 0, 1) := by decide +kernel
theorem dX10_readProof_68 : decode cX10_readProof 68 = .ok (.invokevirtual 32, 3) := by decide +kernel
theorem dX10_readProof_71 : decode cX10_readProof 71 = .ok (.aload_n 0, 1) := by decide +kernel
theorem dX10_readProof_72 : decode cX10_readProof 72 = .ok (.iload 5, 2) := by decide +kernel
theorem dX10_readProof_74 : decode cX10_readProof 74 = .ok (.aload_n 0, 1) := by decide +kernel
theorem dX10_readProof_75 : decode cX10_readProof 75 = .ok (.getfield 19, 3) := by decide +kernel
theorem dX10_readProof_78 : decode cX10_readProof 78 = .ok (.getfield 80, 3) := by decide +kernel
theorem dX10_readProof_81 : decode cX10_readProof 81 = .ok (.iload 4, 2) := by decide +kernel
theorem dX10_readProof_83 : decode cX10_readProof 83 = .ok (.iaload, 1) := by decide +kernel
theorem dX10_readProof_84 : decode cX10_readProof 84 = .ok (.iconst (-1), 1) := by decide +kernel
theorem dX10_readProof_85 : decode cX10_readProof 85 = .ok (.ixor, 1) := by decide +kernel
theorem dX10_readProof_86 : decode cX10_readProof 86 = .ok (.iand, 1) := by decide +kernel
theorem dX10_readProof_87 : decode cX10_readProof 87 = .ok (.iload_n 2, 1) := by decide +kernel
theorem dX10_readProof_88 : decode cX10_readProof 88 = .ok (.aload_n 0, 1) := by decide +kernel
theorem dX10_readProof_89 : decode cX10_readProof 89 = .ok (.getfield 19, 3) := by decide +kernel
theorem dX10_readProof_92 : decode cX10_readProof 92 = .ok (.getfield 83, 3) := by decide +kernel
theorem dX10_readProof_95 : decode cX10_readProof 95 = .ok (.iload 4, 2) := by decide +kernel
theorem dX10_readProof_97 : decode cX10_readProof 97 = .ok (.iaload, 1) := by decide +kernel
theorem dX10_readProof_98 : decode cX10_readProof 98 = .ok (.iadd, 1) := by decide +kernel
theorem dX10_readProof_99 : decode cX10_readProof 99 = .ok (.iload_n 3, 1) := by decide +kernel
theorem dX10_readProof_100 : decode cX10_readProof 100 = .ok (.iconst 1, 1) := by decide +kernel
theorem dX10_readProof_101 : decode cX10_readProof 101 = .ok (.iadd, 1) := by decide +kernel
theorem dX10_readProof_102 : decode cX10_readProof 102 = .ok (.invokevirtual 40, 3) := by decide +kernel
theorem dX10_readProof_105 : decode cX10_readProof 105 = .ok (.ifCond .eq 29, 3) := by decide +kernel
theorem dX10_readProof_108 : decode cX10_readProof 108 = .ok (.aload_n 0, 1) := by decide +kernel
theorem dX10_readProof_109 : decode cX10_readProof 109 = .ok (.iload 5, 2) := by decide +kernel
theorem dX10_readProof_111 : decode cX10_readProof 111 = .ok (.iload_n 2, 1) := by decide +kernel
theorem dX10_readProof_112 : decode cX10_readProof 112 = .ok (.iload_n 3, 1) := by decide +kernel
theorem dX10_readProof_113 : decode cX10_readProof 113 = .ok (.iconst 1, 1) := by decide +kernel
theorem dX10_readProof_114 : decode cX10_readProof 114 = .ok (.iadd, 1) := by decide +kernel
theorem dX10_readProof_115 : decode cX10_readProof 115 = .ok (.invokevirtual 40, 3) := by decide +kernel
theorem dX10_readProof_118 : decode cX10_readProof 118 = .ok (.ifCond .eq 16, 3) := by decide +kernel
theorem dX10_readProof_121 : decode cX10_readProof 121 = .ok (.aload_n 0, 1) := by decide +kernel
theorem dX10_readProof_122 : decode cX10_readProof 122 = .ok (.bipush 41, 2) := by decide +kernel
theorem dX10_readProof_124 : decode cX10_readProof 124 = .ok (.invokevirtual 44, 3) := by decide +kernel
theorem dX10_readProof_127 : decode cX10_readProof 127 = .ok (.ifCond .eq 7, 3) := by decide +kernel
theorem dX10_readProof_130 : decode cX10_readProof 130 = .ok (.iconst 1, 1) := by decide +kernel
theorem dX10_readProof_131 : decode cX10_readProof 131 = .ok (.goto 4, 3) := by decide +kernel
theorem dX10_readProof_134 : decode cX10_readProof 134 = .ok (.iconst 0, 1) := by decide +kernel
theorem dX10_readProof_135 : decode cX10_readProof 135 = .ok (.ireturn, 1) := by decide +kernel
theorem dX10_readGroups_0 : decode cX10_readGroups 0 = .ok (.iload_n 1, 1) := by decide +kernel
theorem dX10_readGroups_1 : decode cX10_readGroups 1 = .ok (.istore_n 3, 1) := by decide +kernel
theorem dX10_readGroups_2 : decode cX10_readGroups 2 = .ok (.iload_n 2, 1) := by decide +kernel
theorem dX10_readGroups_3 : decode cX10_readGroups 3 = .ok (.istore 4, 2) := by decide +kernel
theorem dX10_readGroups_5 : decode cX10_readGroups 5 = .ok (.aload_n 0, 1) := by decide +kernel
theorem dX10_readGroups_6 : decode cX10_readGroups 6 = .ok (.invokevirtual 32, 3) := by decide +kernel
theorem dX10_readGroups_9 : decode cX10_readGroups 9 = .ok (.iconst 0, 1) := by decide +kernel
theorem dX10_readGroups_10 : decode cX10_readGroups 10 = .ok (.istore 5, 2) := by decide +kernel
theorem dX10_readGroups_12 : decode cX10_readGroups 12 = .ok (.iload 5, 2) := by decide +kernel
theorem dX10_readGroups_14 : decode cX10_readGroups 14 = .ok (.bipush 24, 2) := by decide +kernel
theorem dX10_readGroups_16 : decode cX10_readGroups 16 = .ok (.if_icmp .ge 53, 3) := by decide +kernel
theorem dX10_readGroups_19 : decode cX10_readGroups 19 = .ok (.aload_n 0, 1) := by decide +kernel
theorem dX10_readGroups_20 : decode cX10_readGroups 20 = .ok (.getfield 51, 3) := by decide +kernel
theorem dX10_readGroups_23 : decode cX10_readGroups 23 = .ok (.bipush 93, 2) := by decide +kernel
theorem dX10_readGroups_25 : decode cX10_readGroups 25 = .ok (.if_icmp .eq 44, 3) := by decide +kernel
theorem dX10_readGroups_28 : decode cX10_readGroups 28 = .ok (.aload_n 0, 1) := by decide +kernel
theorem dX10_readGroups_29 : decode cX10_readGroups 29 = .ok (.iload_n 3, 1) := by decide +kernel
theorem dX10_readGroups_30 : decode cX10_readGroups 30 = .ok (.invokevirtual 86, 3) := by decide +kernel
theorem dX10_readGroups_33 : decode cX10_readGroups 33 = .ok (.istore 6, 2) := by decide +kernel
theorem dX10_readGroups_35 : decode cX10_readGroups 35 = .ok (.iload 6, 2) := by decide +kernel
theorem dX10_readGroups_37 : decode cX10_readGroups 37 = .ok (.ifCond .ne 5, 3) := by decide +kernel
theorem dX10_readGroups_40 : decode cX10_readGroups 40 = .ok (.iconst 0, 1) := by decide +kernel
theorem dX10_readGroups_41 : decode cX10_readGroups 41 = .ok (.ireturn, 1) := by decide +kernel
theorem dX10_readGroups_42 : decode cX10_readGroups 42 = .ok (.iload_n 3, 1) := by decide +kernel
theorem dX10_readGroups_43 : decode cX10_readGroups 43 = .ok (.iload 6, 2) := by decide +kernel
theorem dX10_readGroups_45 : decode cX10_readGroups 45 = .ok (.iconst (-1), 1) := by decide +kernel
theorem dX10_readGroups_46 : decode cX10_readGroups 46 = .ok (.ixor, 1) := by decide +kernel
theorem dX10_readGroups_47 : decode cX10_readGroups 47 = .ok (.iand, 1) := by decide +kernel
theorem dX10_readGroups_48 : decode cX10_readGroups 48 = .ok (.istore_n 3, 1) := by decide +kernel
theorem dX10_readGroups_49 : decode cX10_readGroups 49 = .ok (.iload 4, 2) := by decide +kernel
theorem dX10_readGroups_51 : decode cX10_readGroups 51 = .ok (.aload_n 0, 1) := by decide +kernel
theorem dX10_readGroups_52 : decode cX10_readGroups 52 = .ok (.getfield 19, 3) := by decide +kernel
theorem dX10_readGroups_55 : decode cX10_readGroups 55 = .ok (.iload 6, 2) := by decide +kernel
theorem dX10_readGroups_57 : decode cX10_readGroups 57 = .ok (.invokevirtual 90, 3) := by decide +kernel
theorem dX10_readGroups_60 : decode cX10_readGroups 60 = .ok (.iadd, 1) := by decide +kernel
theorem dX10_readGroups_61 : decode cX10_readGroups 61 = .ok (.istore 4, 2) := by decide +kernel
theorem dX10_readGroups_63 : decode cX10_readGroups 63 = .ok (.iinc 5 1, 3) := by decide +kernel
theorem dX10_readGroups_66 : decode cX10_readGroups 66 = .ok (.goto (-54), 3) := by decide +kernel
theorem dX10_readGroups_69 : decode cX10_readGroups 69 = .ok (.iload 4, 2) := by decide +kernel
theorem dX10_readGroups_71 : decode cX10_readGroups 71 = .ok (.aload_n 0, 1) := by decide +kernel
theorem dX10_readGroups_72 : decode cX10_readGroups 72 = .ok (.getfield 19, 3) := by decide +kernel
theorem dX10_readGroups_75 : decode cX10_readGroups 75 = .ok (.iload_n 3, 1) := by decide +kernel
theorem dX10_readGroups_76 : decode cX10_readGroups 76 = .ok (.invokevirtual 93, 3) := by decide +kernel
theorem dX10_readGroups_79 : decode cX10_readGroups 79 = .ok (.iadd, 1) := by decide +kernel
theorem dX10_readGroups_80 : decode cX10_readGroups 80 = .ok (.aload_n 0, 1) := by decide +kernel
theorem dX10_readGroups_81 : decode cX10_readGroups 81 = .ok (.getfield 26, 3) := by decide +kernel
theorem dX10_readGroups_84 : decode cX10_readGroups 84 = .ok (.if_icmp .le 8, 3) := by decide +kernel
theorem dX10_readGroups_87 : decode cX10_readGroups 87 = .ok (.aload_n 0, 1) := by decide +kernel
theorem dX10_readGroups_88 : decode cX10_readGroups 88 = .ok (.invokevirtual 69, 3) := by decide +kernel
theorem dX10_readGroups_91 : decode cX10_readGroups 91 = .ok (.ireturn, 1) := by decide +kernel
theorem dX10_readGroups_92 : decode cX10_readGroups 92 = .ok (.aload_n 0, 1) := by decide +kernel
theorem dX10_readGroups_93 : decode cX10_readGroups 93 = .ok (.bipush 93, 2) := by decide +kernel
theorem dX10_readGroups_95 : decode cX10_readGroups 95 = .ok (.invokevirtual 44, 3) := by decide +kernel
theorem dX10_readGroups_98 : decode cX10_readGroups 98 = .ok (.ireturn, 1) := by decide +kernel
theorem dX10_readGroup_0 : decode cX10_readGroup 0 = .ok (.iconst 0, 1) := by decide +kernel
theorem dX10_readGroup_1 : decode cX10_readGroup 1 = .ok (.istore_n 2, 1) := by decide +kernel
theorem dX10_readGroup_2 : decode cX10_readGroup 2 = .ok (.iconst 0, 1) := by decide +kernel
theorem dX10_readGroup_3 : decode cX10_readGroup 3 = .ok (.istore_n 3, 1) := by decide +kernel
theorem dX10_readGroup_4 : decode cX10_readGroup 4 = .ok (.iload_n 3, 1) := by decide +kernel
theorem dX10_readGroup_5 : decode cX10_readGroup 5 = .ok (.bipush 24, 2) := by decide +kernel
theorem dX10_readGroup_7 : decode cX10_readGroup 7 = .ok (.if_icmp .ge 88, 3) := by decide +kernel
theorem dX10_readGroup_10 : decode cX10_readGroup 10 = .ok (.aload_n 0, 1) := by decide +kernel
theorem dX10_readGroup_11 : decode cX10_readGroup 11 = .ok (.iload_n 1, 1) := by decide +kernel
theorem dX10_readGroup_12 : decode cX10_readGroup 12 = .ok (.iload_n 2, 1) := by decide +kernel
theorem dX10_readGroup_13 : decode cX10_readGroup 13 = .ok (.iconst (-1), 1) := by decide +kernel
theorem dX10_readGroup_14 : decode cX10_readGroup 14 = .ok (.ixor, 1) := by decide +kernel
theorem dX10_readGroup_15 : decode cX10_readGroup 15 = .ok (.iand, 1) := by decide +kernel
theorem dX10_readGroup_16 : decode cX10_readGroup 16 = .ok (.invokevirtual 77, 3) := by decide +kernel
theorem dX10_readGroup_19 : decode cX10_readGroup 19 = .ok (.ifCond .eq 22, 3) := by decide +kernel
theorem dX10_readGroup_22 : decode cX10_readGroup 22 = .ok (.iload_n 2, 1) := by decide +kernel
theorem dX10_readGroup_23 : decode cX10_readGroup 23 = .ok (.aload_n 0, 1) := by decide +kernel
theorem dX10_readGroup_24 : decode cX10_readGroup 24 = .ok (.getfield 19, 3) := by decide +kernel
theorem dX10_readGroup_27 : decode cX10_readGroup 27 = .ok (.getfield 80, 3) := by decide +kernel
theorem dX10_readGroup_30 : decode cX10_readGroup 30 = .ok (.aload_n 0, 1) := by decide +kernel
theorem dX10_readGroup_31 : decode cX10_readGroup 31 = .ok (.getfield 60, 3) := by decide +kernel
theorem dX10_readGroup_34 : decode cX10_readGroup 34 = .ok (.iaload, 1) := by decide +kernel
theorem dX10_readGroup_35 : decode cX10_readGroup 35 = .ok (.iconst (-1), 1) := by decide +kernel
theorem dX10_readGroup_36 : decode cX10_readGroup 36 = .ok (.ixor, 1) := by decide +kernel
theorem dX10_readGroup_37 : decode cX10_readGroup 37 = .ok (.iand, 1) := by decide +kernel
theorem dX10_readGroup_38 : decode cX10_readGroup 38 = .ok (.ifCond .eq 10, 3) := by decide +kernel
theorem dX10_readGroup_41 : decode cX10_readGroup 41 = .ok (.aload_n 0, 1) := by decide +kernel
theorem dX10_readGroup_42 : decode cX10_readGroup 42 = .ok (.invokevirtual 69, 3) := by decide +kernel
theorem dX10_readGroup_45 : decode cX10_readGroup 45 = .ok (.pop, 1) := by decide +kernel
theorem dX10_readGroup_46 : decode cX10_readGroup 46 = .ok (.iconst 0, 1) := by decide +kernel
theorem dX10_readGroup_47 : decode cX10_readGroup 47 = .ok (.ireturn, 1) := by decide +kernel
theorem dX10_readGroup_48 : decode cX10_readGroup 48 = .ok (.iload_n 2, 1) := by decide +kernel
theorem dX10_readGroup_49 : decode cX10_readGroup 49 = .ok (.iconst 1, 1) := by decide +kernel
theorem dX10_readGroup_50 : decode cX10_readGroup 50 = .ok (.aload_n 0, 1) := by decide +kernel
theorem dX10_readGroup_51 : decode cX10_readGroup 51 = .ok (.getfield 60, 3) := by decide +kernel
theorem dX10_readGroup_54 : decode cX10_readGroup 54 = .ok (.ishl, 1) := by decide +kernel
theorem dX10_readGroup_55 : decode cX10_readGroup 55 = .ok (.ior, 1) := by decide +kernel
theorem dX10_readGroup_56 : decode cX10_readGroup 56 = .ok (.istore_n 2, 1) := by decide +kernel
theorem dX10_readGroup_57 : decode cX10_readGroup 57 = .ok (.aload_n 0, 1) := by decide +kernel
theorem dX10_readGroup_58 : decode cX10_readGroup 58 = .ok (.invokevirtual 32, 3) := by decide +kernel
theorem dX10_readGroup_61 : decode cX10_readGroup 61 = .ok (.aload_n 0, 1) := by decide +kernel
theorem dX10_readGroup_62 : decode cX10_readGroup 62 = .ok (.getfield 51, 3) := by decide +kernel
theorem dX10_readGroup_65 : decode cX10_readGroup 65 = .ok (.bipush 44, 2) := by decide +kernel
theorem dX10_readGroup_67 : decode cX10_readGroup 67 = .ok (.if_icmp .eq 18, 3) := by decide +kernel
theorem dX10_readGroup_70 : decode cX10_readGroup 70 = .ok (.aload_n 0, 1) := by decide +kernel
theorem dX10_readGroup_71 : decode cX10_readGroup 71 = .ok (.bipush 59, 2) := by decide +kernel
theorem dX10_readGroup_73 : decode cX10_readGroup 73 = .ok (.invokevirtual 44, 3) := by decide +kernel
theorem dX10_readGroup_76 : decode cX10_readGroup 76 = .ok (.ifCond .eq 7, 3) := by decide +kernel
theorem dX10_readGroup_79 : decode cX10_readGroup 79 = .ok (.iload_n 2, 1) := by decide +kernel
theorem dX10_readGroup_80 : decode cX10_readGroup 80 = .ok (.goto 4, 3) := by decide +kernel
theorem dX10_readGroup_83 : decode cX10_readGroup 83 = .ok (.iconst 0, 1) := by decide +kernel
theorem dX10_readGroup_84 : decode cX10_readGroup 84 = .ok (.ireturn, 1) := by decide +kernel
theorem dX10_readGroup_85 : decode cX10_readGroup 85 = .ok (.aload_n 0, 1) := by decide +kernel
theorem dX10_readGroup_86 : decode cX10_readGroup 86 = .ok (.invokevirtual 32, 3) := by decide +kernel
theorem dX10_readGroup_89 : decode cX10_readGroup 89 = .ok (.iinc 3 1, 3) := by decide +kernel
theorem dX10_readGroup_92 : decode cX10_readGroup 92 = .ok (.goto (-88), 3) := by decide +kernel
theorem dX10_readGroup_95 : decode cX10_readGroup 95 = .ok (.aload_n 0, 1) := by decide +kernel
theorem dX10_readGroup_96 : decode cX10_readGroup 96 = .ok (.invokevirtual 69, 3) := by decide +kernel
theorem dX10_readGroup_99 : decode cX10_readGroup 99 = .ok (.pop, 1) := by decide +kernel
theorem dX10_readGroup_100 : decode cX10_readGroup 100 = .ok (.iconst 0, 1) := by decide +kernel
theorem dX10_readGroup_101 : decode cX10_readGroup 101 = .ok (.ireturn, 1) := by decide +kernel
theorem dX11_init_0 : decode cX11_init 0 = .ok (.aload_n 0, 1) := by decide +kernel
theorem dX11_init_1 : decode cX11_init 1 = .ok (.invokespecial 1, 3) := by decide +kernel
theorem dX11_init_4 : decode cX11_init 4 = .ok (.aload_n 0, 1) := by decide +kernel
theorem dX11_init_5 : decode cX11_init 5 = .ok (.new 7, 3) := by decide +kernel
theorem dX11_init_8 : decode cX11_init 8 = .ok (.dup, 1) := by decide +kernel
theorem dX11_init_9 : decode cX11_init 9 = .ok (.invokespecial 9, 3) := by decide +kernel
theorem dX11_init_12 : decode cX11_init 12 = .ok (.putfield 10, 3) := by decide +kernel
theorem dX11_init_15 : decode cX11_init 15 = .ok (.aload_n 0, 1) := by decide +kernel
theorem dX11_init_16 : decode cX11_init 16 = .ok (.iconst 2, 1) := by decide +kernel
theorem dX11_init_17 : decode cX11_init 17 = .ok (.anewarray 7, 3) := by decide +kernel
theorem dX11_init_20 : decode cX11_init 20 = .ok (.putfield 16, 3) := by decide +kernel
theorem dX11_init_23 : decode cX11_init 23 = .ok (.iconst 0, 1) := by decide +kernel
theorem dX11_init_24 : decode cX11_init 24 = .ok (.istore_n 1, 1) := by decide +kernel
theorem dX11_init_25 : decode cX11_init 25 = .ok (.iload_n 1, 1) := by decide +kernel
theorem dX11_init_26 : decode cX11_init 26 = .ok (.iconst 2, 1) := by decide +kernel
theorem dX11_init_27 : decode cX11_init 27 = .ok (.if_icmp .ge 22, 3) := by decide +kernel
theorem dX11_init_30 : decode cX11_init 30 = .ok (.aload_n 0, 1) := by decide +kernel
theorem dX11_init_31 : decode cX11_init 31 = .ok (.getfield 16, 3) := by decide +kernel
theorem dX11_init_34 : decode cX11_init 34 = .ok (.iload_n 1, 1) := by decide +kernel
theorem dX11_init_35 : decode cX11_init 35 = .ok (.new 7, 3) := by decide +kernel
theorem dX11_init_38 : decode cX11_init 38 = .ok (.dup, 1) := by decide +kernel
theorem dX11_init_39 : decode cX11_init 39 = .ok (.invokespecial 9, 3) := by decide +kernel
theorem dX11_init_42 : decode cX11_init 42 = .ok (.aastore, 1) := by decide +kernel
theorem dX11_init_43 : decode cX11_init 43 = .ok (.iinc 1 1, 3) := by decide +kernel
theorem dX11_init_46 : decode cX11_init 46 = .ok (.goto (-21), 3) := by decide +kernel
theorem dX11_init_49 : decode cX11_init 49 = .ok (.aload_n 0, 1) := by decide +kernel
theorem dX11_init_50 : decode cX11_init 50 = .ok (.iconst 2, 1) := by decide +kernel
theorem dX11_init_51 : decode cX11_init 51 = .ok (.newarray .boolean, 2) := by decide +kernel
theorem dX11_init_53 : decode cX11_init 53 = .ok (.putfield 20, 3) := by decide +kernel
theorem dX11_init_56 : decode cX11_init 56 = .ok (.aload_n 0, 1) := by decide +kernel
theorem dX11_init_57 : decode cX11_init 57 = .ok (.new 24, 3) := by decide +kernel
theorem dX11_init_60 : decode cX11_init 60 = .ok (.dup, 1) := by decide +kernel
theorem dX11_init_61 : decode cX11_init 61 = .ok (.aload_n 0, 1) := by decide +kernel
theorem dX11_init_62 : decode cX11_init 62 = .ok (.getfield 10, 3) := by decide +kernel
theorem dX11_init_65 : decode cX11_init 65 = .ok (.invokespecial 26, 3) := by decide +kernel
theorem dX11_init_68 : decode cX11_init 68 = .ok (.putfield 29, 3) := by decide +kernel
theorem dX11_init_71 : decode cX11_init 71 = .ok (.aload_n 0, 1) := by decide +kernel
theorem dX11_init_72 : decode cX11_init 72 = .ok (.new 33, 3) := by decide +kernel
theorem dX11_init_75 : decode cX11_init 75 = .ok (.dup, 1) := by decide +kernel
theorem dX11_init_76 : decode cX11_init 76 = .ok (.aload_n 0, 1) := by decide +kernel
theorem dX11_init_77 : decode cX11_init 77 = .ok (.getfield 29, 3) := by decide +kernel
theorem dX11_init_80 : decode cX11_init 80 = .ok (.invokespecial 35, 3) := by decide +kernel
theorem dX11_init_83 : decode cX11_init 83 = .ok (.putfield 38, 3) := by decide +kernel
theorem dX11_init_86 : decode cX11_init 86 = .ok (.aload_n 0, 1) := by decide +kernel
theorem dX11_init_87 : decode cX11_init 87 = .ok (.new 42, 3) := by decide +kernel
theorem dX11_init_90 : decode cX11_init 90 = .ok (.dup, 1) := by decide +kernel
theorem dX11_init_91 : decode cX11_init 91 = .ok (.aload_n 0, 1) := by decide +kernel
theorem dX11_init_92 : decode cX11_init 92 = .ok (.getfield 38, 3) := by decide +kernel
theorem dX11_init_95 : decode cX11_init 95 = .ok (.invokespecial 44, 3) := by decide +kernel
theorem dX11_init_98 : decode cX11_init 98 = .ok (.putfield 47, 3) := by decide +kernel
theorem dX11_init_101 : decode cX11_init 101 = .ok (.aload_n 0, 1) := by decide +kernel
theorem dX11_init_102 : decode cX11_init 102 = .ok (.new 51, 3) := by decide +kernel
theorem dX11_init_105 : decode cX11_init 105 = .ok (.dup, 1) := by decide +kernel
theorem dX11_init_106 : decode cX11_init 106 = .ok (.aload_n 0, 1) := by decide +kernel
theorem dX11_init_107 : decode cX11_init 107 = .ok (.getfield 38, 3) := by decide +kernel
theorem dX11_init_110 : decode cX11_init 110 = .ok (.invokespecial 53, 3) := by decide +kernel
theorem dX11_init_113 : decode cX11_init 113 = .ok (.putfield 54, 3) := by decide +kernel
theorem dX11_init_116 : decode cX11_init 116 = .ok (.aload_n 0, 1) := by decide +kernel
theorem dX11_init_117 : decode cX11_init 117 = .ok (.new 58, 3) := by decide +kernel
theorem dX11_init_120 : decode cX11_init 120 = .ok (.dup, 1) := by decide +kernel
theorem dX11_init_121 : decode cX11_init 121 = .ok (.aload_n 0, 1) := by decide +kernel
theorem dX11_init_122 : decode cX11_init 122 = .ok (.getfield 38, 3) := by decide +kernel
theorem dX11_init_125 : decode cX11_init 125 = .ok (.invokespecial 60, 3) := by decide +kernel
theorem dX11_init_128 : decode cX11_init 128 = .ok (.putfield 61, 3) := by decide +kernel
theorem dX11_init_131 : decode cX11_init 131 = .ok (.aload_n 0, 1) := by decide +kernel
theorem dX11_init_132 : decode cX11_init 132 = .ok (.new 65, 3) := by decide +kernel
theorem dX11_init_135 : decode cX11_init 135 = .ok (.dup, 1) := by decide +kernel
theorem dX11_init_136 : decode cX11_init 136 = .ok (.aload_n 0, 1) := by decide +kernel
theorem dX11_init_137 : decode cX11_init 137 = .ok (.getfield 29, 3) := by decide +kernel
theorem dX11_init_140 : decode cX11_init 140 = .ok (.invokespecial 67, 3) := by decide +kernel
theorem dX11_init_143 : decode cX11_init 143 = .ok (.putfield 68, 3) := by decide +kernel
theorem dX11_init_146 : decode cX11_init 146 = .ok (.aload_n 0, 1) := by decide +kernel
theorem dX11_init_147 : decode cX11_init 147 = .ok (.new 72, 3) := by decide +kernel
theorem dX11_init_150 : decode cX11_init 150 = .ok (.dup, 1) := by decide +kernel
theorem dX11_init_151 : decode cX11_init 151 = .ok (.aload_n 0, 1) := by decide +kernel
theorem dX11_init_152 : decode cX11_init 152 = .ok (.getfield 29, 3) := by decide +kernel
theorem dX11_init_155 : decode cX11_init 155 = .ok (.invokespecial 74, 3) := by decide +kernel
theorem dX11_init_158 : decode cX11_init 158 = .ok (.putfield 75, 3) := by decide +kernel
theorem dX11_init_161 : decode cX11_init 161 = .ok (.return_, 1) := by decide +kernel
theorem dX11_table_0 : decode cX11_table 0 = .ok (.iload_n 1, 1) := by decide +kernel
theorem dX11_table_1 : decode cX11_table 1 = .ok (.iconst 0, 1) := by decide +kernel
theorem dX11_table_2 : decode cX11_table 2 = .ok (.iconst 1, 1) := by decide +kernel
theorem dX11_table_3 : decode cX11_table 3 = .ok (.invokestatic 79, 3) := by decide +kernel
theorem dX11_table_6 : decode cX11_table 6 = .ok (.ifCond .eq 20, 3) := by decide +kernel
theorem dX11_table_9 : decode cX11_table 9 = .ok (.iload_n 2, 1) := by decide +kernel
theorem dX11_table_10 : decode cX11_table 10 = .ok (.iconst 0, 1) := by decide +kernel
theorem dX11_table_11 : decode cX11_table 11 = .ok (.iload_n 1, 1) := by decide +kernel
theorem dX11_table_12 : decode cX11_table 12 = .ok (.ifCond .ne 7, 3) := by decide +kernel
theorem dX11_table_15 : decode cX11_table 15 = .ok (.iconst 5, 1) := by decide +kernel
theorem dX11_table_16 : decode cX11_table 16 = .ok (.goto 4, 3) := by decide +kernel
theorem dX11_table_19 : decode cX11_table 19 = .ok (.iconst 3, 1) := by decide +kernel
theorem dX11_table_20 : decode cX11_table 20 = .ok (.invokestatic 79, 3) := by decide +kernel
theorem dX11_table_23 : decode cX11_table 23 = .ok (.ifCond .ne 9, 3) := by decide +kernel
theorem dX11_table_26 : decode cX11_table 26 = .ok (.aload_n 0, 1) := by decide +kernel
theorem dX11_table_27 : decode cX11_table 27 = .ok (.iconst (-1), 1) := by decide +kernel
theorem dX11_table_28 : decode cX11_table 28 = .ok (.invokevirtual 83, 3) := by decide +kernel
theorem dX11_table_31 : decode cX11_table 31 = .ok (.ireturn, 1) := by decide +kernel
theorem dX11_table_32 : decode cX11_table 32 = .ok (.iload_n 3, 1) := by decide +kernel
theorem dX11_table_33 : decode cX11_table 33 = .ok (.bipush (-100), 2) := by decide +kernel
theorem dX11_table_35 : decode cX11_table 35 = .ok (.bipush 100, 2) := by decide +kernel
theorem dX11_table_37 : decode cX11_table 37 = .ok (.invokestatic 79, 3) := by decide +kernel
theorem dX11_table_40 : decode cX11_table 40 = .ok (.ifCond .eq 21, 3) := by decide +kernel
theorem dX11_table_43 : decode cX11_table 43 = .ok (.iload 4, 2) := by decide +kernel
theorem dX11_table_45 : decode cX11_table 45 = .ok (.bipush (-100), 2) := by decide +kernel
theorem dX11_table_47 : decode cX11_table 47 = .ok (.bipush 100, 2) := by decide +kernel
theorem dX11_table_49 : decode cX11_table 49 = .ok (.invokestatic 79, 3) := by decide +kernel
theorem dX11_table_52 : decode cX11_table 52 = .ok (.ifCond .eq 9, 3) := by decide +kernel
theorem dX11_table_55 : decode cX11_table 55 = .ok (.iload_n 3, 1) := by decide +kernel
theorem dX11_table_56 : decode cX11_table 56 = .ok (.iload 4, 2) := by decide +kernel
theorem dX11_table_58 : decode cX11_table 58 = .ok (.if_icmp .le 9, 3) := by decide +kernel
theorem dX11_table_61 : decode cX11_table 61 = .ok (.aload_n 0, 1) := by decide +kernel
theorem dX11_table_62 : decode cX11_table 62 = .ok (.iconst (-1), 1) := by decide +kernel
theorem dX11_table_63 : decode cX11_table 63 = .ok (.invokevirtual 83, 3) := by decide +kernel
theorem dX11_table_66 : decode cX11_table 66 = .ok (.ireturn, 1) := by decide +kernel
theorem dX11_table_67 : decode cX11_table 67 = .ok (.aload_n 0, 1) := by decide +kernel
theorem dX11_table_68 : decode cX11_table 68 = .ok (.getfield 10, 3) := by decide +kernel
theorem dX11_table_71 : decode cX11_table 71 = .ok (.iload_n 1, 1) := by decide +kernel
theorem dX11_table_72 : decode cX11_table 72 = .ok (.ifCond .ne 7, 3) := by decide +kernel
theorem dX11_table_75 : decode cX11_table 75 = .ok (.iload_n 2, 1) := by decide +kernel
theorem dX11_table_76 : decode cX11_table 76 = .ok (.goto 7, 3) := by decide +kernel
theorem dX11_table_79 : decode cX11_table 79 = .ok (.bipush 6, 2) := by decide +kernel
theorem dX11_table_81 : decode cX11_table 81 = .ok (.iload_n 2, 1) := by decide +kernel
theorem dX11_table_82 : decode cX11_table 82 = .ok (.iadd, 1) := by decide +kernel
theorem dX11_table_83 : decode cX11_table 83 = .ok (.iload_n 3, 1) := by decide +kernel
theorem dX11_table_84 : decode cX11_table 84 = .ok (.iload 4, 2) := by decide +kernel
theorem dX11_table_86 : decode cX11_table 86 = .ok (.invokevirtual 87, 3) := by decide +kernel
theorem dX11_table_89 : decode cX11_table 89 = .ok (.aload_n 0, 1) := by decide +kernel
theorem dX11_table_90 : decode cX11_table 90 = .ok (.iconst 0, 1) := by decide +kernel
theorem dX11_table_91 : decode cX11_table 91 = .ok (.invokevirtual 91, 3) := by decide +kernel
theorem dX11_table_94 : decode cX11_table 94 = .ok (.ireturn, 1) := by decide +kernel
theorem dX11_ship_0 : decode cX11_ship 0 = .ok (.iload_n 1, 1) := by decide +kernel
theorem dX11_ship_1 : decode cX11_ship 1 = .ok (.iconst 0, 1) := by decide +kernel
theorem dX11_ship_2 : decode cX11_ship 2 = .ok (.sipush 1000, 3) := by decide +kernel
theorem dX11_ship_5 : decode cX11_ship 5 = .ok (.invokestatic 79, 3) := by decide +kernel
theorem dX11_ship_8 : decode cX11_ship 8 = .ok (.ifCond .ne 9, 3) := by decide +kernel
theorem dX11_ship_11 : decode cX11_ship 11 = .ok (.aload_n 0, 1) := by decide +kernel
theorem dX11_ship_12 : decode cX11_ship 12 = .ok (.iconst (-1), 1) := by decide +kernel
theorem dX11_ship_13 : decode cX11_ship 13 = .ok (.invokevirtual 83, 3) := by decide +kernel
theorem dX11_ship_16 : decode cX11_ship 16 = .ok (.ireturn, 1) := by decide +kernel
theorem dX11_ship_17 : decode cX11_ship 17 = .ok (.aload_n 0, 1) := by decide +kernel
theorem dX11_ship_18 : decode cX11_ship 18 = .ok (.getfield 10, 3) := by decide +kernel
theorem dX11_ship_21 : decode cX11_ship 21 = .ok (.getfield 94, 3) := by decide +kernel
theorem dX11_ship_24 : decode cX11_ship 24 = .ok (.iconst 3, 1) := by decide +kernel
theorem dX11_ship_25 : decode cX11_ship 25 = .ok (.if_icmp .lt 10, 3) := by decide +kernel
theorem dX11_ship_28 : decode cX11_ship 28 = .ok (.aload_n 0, 1) := by decide +kernel
theorem dX11_ship_29 : decode cX11_ship 29 = .ok (.bipush (-5), 2) := by decide +kernel
theorem dX11_ship_31 : decode cX11_ship 31 = .ok (.invokevirtual 83, 3) := by decide +kernel
theorem dX11_ship_34 : decode cX11_ship 34 = .ok (.ireturn, 1) := by decide +kernel
theorem dX11_ship_35 : decode cX11_ship 35 = .ok (.aload_n 0, 1) := by decide +kernel
theorem dX11_ship_36 : decode cX11_ship 36 = .ok (.getfield 10, 3) := by decide +kernel
theorem dX11_ship_39 : decode cX11_ship 39 = .ok (.getfield 98, 3) := by decide +kernel
theorem dX11_ship_42 : decode cX11_ship 42 = .ok (.aload_n 0, 1) := by decide +kernel
theorem dX11_ship_43 : decode cX11_ship 43 = .ok (.getfield 10, 3) := by decide +kernel
theorem dX11_ship_46 : decode cX11_ship 46 = .ok (.getfield 94, 3) := by decide +kernel
theorem dX11_ship_49 : decode cX11_ship 49 = .ok (.iload_n 1, 1) := by decide +kernel
theorem dX11_ship_50 : decode cX11_ship 50 = .ok (.iastore, 1) := by decide +kernel
theorem dX11_ship_51 : decode cX11_ship 51 = .ok (.aload_n 0, 1) := by decide +kernel
theorem dX11_ship_52 : decode cX11_ship 52 = .ok (.getfield 10, 3) := by decide +kernel
theorem dX11_ship_55 : decode cX11_ship 55 = .ok (.dup, 1) := by decide +kernel
theorem dX11_ship_56 : decode cX11_ship 56 = .ok (.getfield 94, 3) := by decide +kernel
theorem dX11_ship_59 : decode cX11_ship 59 = .ok (.iconst 1, 1) := by decide +kernel
theorem dX11_ship_60 : decode cX11_ship 60 = .ok (.iadd, 1) := by decide +kernel
theorem dX11_ship_61 : decode cX11_ship 61 = .ok (.putfield 94, 3) := by decide +kernel
theorem dX11_ship_64 : decode cX11_ship 64 = .ok (.aload_n 0, 1) := by decide +kernel
theorem dX11_ship_65 : decode cX11_ship 65 = .ok (.aload_n 0, 1) := by decide +kernel
theorem dX11_ship_66 : decode cX11_ship 66 = .ok (.getfield 10, 3) := by decide +kernel
theorem dX11_ship_69 : decode cX11_ship 69 = .ok (.getfield 94, 3) := by decide +kernel
theorem dX11_ship_72 : decode cX11_ship 72 = .ok (.iconst 1, 1) := by decide +kernel
theorem dX11_ship_73 : decode cX11_ship 73 = .ok (.isub, 1) := by decide +kernel
theorem dX11_ship_74 : decode cX11_ship 74 = .ok (.invokevirtual 91, 3) := by decide +kernel
theorem dX11_ship_77 : decode cX11_ship 77 = .ok (.ireturn, 1) := by decide +kernel
theorem dX11_leg_0 : decode cX11_leg 0 = .ok (.iload_n 2, 1) := by decide +kernel
theorem dX11_leg_1 : decode cX11_leg 1 = .ok (.invokestatic 102, 3) := by decide +kernel
theorem dX11_leg_4 : decode cX11_leg 4 = .ok (.ifCond .eq 23, 3) := by decide +kernel
theorem dX11_leg_7 : decode cX11_leg 7 = .ok (.iload_n 3, 1) := by decide +kernel
theorem dX11_leg_8 : decode cX11_leg 8 = .ok (.iconst 0, 1) := by decide +kernel
theorem dX11_leg_9 : decode cX11_leg 9 = .ok (.iconst 5, 1) := by decide +kernel
theorem dX11_leg_10 : decode cX11_leg 10 = .ok (.invokestatic 79, 3) := by decide +kernel
theorem dX11_leg_13 : decode cX11_leg 13 = .ok (.ifCond .eq 14, 3) := by decide +kernel
theorem dX11_leg_16 : decode cX11_leg 16 = .ok (.iload 4, 2) := by decide +kernel
theorem dX11_leg_18 : decode cX11_leg 18 = .ok (.iconst 0, 1) := by decide +kernel
theorem dX11_leg_19 : decode cX11_leg 19 = .ok (.bipush 30, 2) := by decide +kernel
theorem dX11_leg_21 : decode cX11_leg 21 = .ok (.invokestatic 79, 3) := by decide +kernel
theorem dX11_leg_24 : decode cX11_leg 24 = .ok (.ifCond .ne 9, 3) := by decide +kernel
theorem dX11_leg_27 : decode cX11_leg 27 = .ok (.aload_n 0, 1) := by decide +kernel
theorem dX11_leg_28 : decode cX11_leg 28 = .ok (.iconst (-1), 1) := by decide +kernel
theorem dX11_leg_29 : decode cX11_leg 29 = .ok (.invokevirtual 83, 3) := by decide +kernel
theorem dX11_leg_32 : decode cX11_leg 32 = .ok (.ireturn, 1) := by decide +kernel
theorem dX11_leg_33 : decode cX11_leg 33 = .ok (.iload 5, 2) := by decide +kernel
theorem dX11_leg_35 : decode cX11_leg 35 = .ok (.iconst 0, 1) := by decide +kernel
theorem dX11_leg_36 : decode cX11_leg 36 = .ok (.bipush 20, 2) := by decide +kernel
theorem dX11_leg_38 : decode cX11_leg 38 = .ok (.invokestatic 79, 3) := by decide +kernel
theorem dX11_leg_41 : decode cX11_leg 41 = .ok (.ifCond .eq 14, 3) := by decide +kernel
theorem dX11_leg_44 : decode cX11_leg 44 = .ok (.iload 6, 2) := by decide +kernel
theorem dX11_leg_46 : decode cX11_leg 46 = .ok (.iconst 0, 1) := by decide +kernel
theorem dX11_leg_47 : decode cX11_leg 47 = .ok (.bipush 100, 2) := by decide +kernel
theorem dX11_leg_49 : decode cX11_leg 49 = .ok (.invokestatic 79, 3) := by decide +kernel
theorem dX11_leg_52 : decode cX11_leg 52 = .ok (.ifCond .ne 9, 3) := by decide +kernel
theorem dX11_leg_55 : decode cX11_leg 55 = .ok (.aload_n 0, 1) := by decide +kernel
theorem dX11_leg_56 : decode cX11_leg 56 = .ok (.iconst (-1), 1) := by decide +kernel
theorem dX11_leg_57 : decode cX11_leg 57 = .ok (.invokevirtual 83, 3) := by decide +kernel
theorem dX11_leg_60 : decode cX11_leg 60 = .ok (.ireturn, 1) := by decide +kernel
theorem dX11_leg_61 : decode cX11_leg 61 = .ok (.aload_n 0, 1) := by decide +kernel
theorem dX11_leg_62 : decode cX11_leg 62 = .ok (.iload_n 1, 1) := by decide +kernel
theorem dX11_leg_63 : decode cX11_leg 63 = .ok (.invokevirtual 106, 3) := by decide +kernel
theorem dX11_leg_66 : decode cX11_leg 66 = .ok (.ifCond .ne 10, 3) := by decide +kernel
theorem dX11_leg_69 : decode cX11_leg 69 = .ok (.aload_n 0, 1) := by decide +kernel
theorem dX11_leg_70 : decode cX11_leg 70 = .ok (.bipush (-2), 2) := by decide +kernel
theorem dX11_leg_72 : decode cX11_leg 72 = .ok (.invokevirtual 83, 3) := by decide +kernel
theorem dX11_leg_75 : decode cX11_leg 75 = .ok (.ireturn, 1) := by decide +kernel
theorem dX11_leg_76 : decode cX11_leg 76 = .ok (.aload_n 0, 1) := by decide +kernel
theorem dX11_leg_77 : decode cX11_leg 77 = .ok (.getfield 10, 3) := by decide +kernel
theorem dX11_leg_80 : decode cX11_leg 80 = .ok (.getfield 109, 3) := by decide +kernel
theorem dX11_leg_83 : decode cX11_leg 83 = .ok (.getfield 113, 3) := by decide +kernel
theorem dX11_leg_86 : decode cX11_leg 86 = .ok (.bipush 60, 2) := by decide +kernel
theorem dX11_leg_88 : decode cX11_leg 88 = .ok (.if_icmp .lt 10, 3) := by decide +kernel
theorem dX11_leg_91 : decode cX11_leg 91 = .ok (.aload_n 0, 1) := by decide +kernel
theorem dX11_leg_92 : decode cX11_leg 92 = .ok (.bipush (-5), 2) := by decide +kernel
theorem dX11_leg_94 : decode cX11_leg 94 = .ok (.invokevirtual 83, 3) := by decide +kernel
theorem dX11_leg_97 : decode cX11_leg 97 = .ok (.ireturn, 1) := by decide +kernel
theorem dX11_leg_98 : decode cX11_leg 98 = .ok (.aload_n 0, 1) := by decide +kernel
theorem dX11_leg_99 : decode cX11_leg 99 = .ok (.getfield 10, 3) := by decide +kernel
theorem dX11_leg_102 : decode cX11_leg 102 = .ok (.getfield 109, 3) := by decide +kernel
theorem dX11_leg_105 : decode cX11_leg 105 = .ok (.iload_n 1, 1) := by decide +kernel
theorem dX11_leg_106 : decode cX11_leg 106 = .ok (.iload_n 2, 1) := by decide +kernel
theorem dX11_leg_107 : decode cX11_leg 107 = .ok (.iload_n 3, 1) := by decide +kernel
theorem dX11_leg_108 : decode cX11_leg 108 = .ok (.iload 4, 2) := by decide +kernel
theorem dX11_leg_110 : decode cX11_leg 110 = .ok (.iload 5, 2) := by decide +kernel
theorem dX11_leg_112 : decode cX11_leg 112 = .ok (.iload 6, 2) := by decide +kernel
theorem dX11_leg_114 : decode cX11_leg 114 = .ok (.invokevirtual 118, 3) := by decide +kernel
theorem dX11_leg_117 : decode cX11_leg 117 = .ok (.aload_n 0, 1) := by decide +kernel
theorem dX11_leg_118 : decode cX11_leg 118 = .ok (.aload_n 0, 1) := by decide +kernel
theorem dX11_leg_119 : decode cX11_leg 119 = .ok (.getfield 10, 3) := by decide +kernel
theorem dX11_leg_122 : decode cX11_leg 122 = .ok (.getfield 109, 3) := by decide +kernel
theorem dX11_leg_125 : decode cX11_leg 125 = .ok (.getfield 113, 3) := by decide +kernel
theorem dX11_leg_128 : decode cX11_leg 128 = .ok (.invokevirtual 91, 3) := by decide +kernel
theorem dX11_leg_131 : decode cX11_leg 131 = .ok (.ireturn, 1) := by decide +kernel
theorem dX11_cleaned_0 : decode cX11_cleaned 0 = .ok (.iload_n 2, 1) := by decide +kernel
theorem dX11_cleaned_1 : decode cX11_cleaned 1 = .ok (.invokestatic 102, 3) := by decide +kernel
theorem dX11_cleaned_4 : decode cX11_cleaned 4 = .ok (.ifCond .eq 14, 3) := by decide +kernel
theorem dX11_cleaned_7 : decode cX11_cleaned 7 = .ok (.iload_n 3, 1) := by decide +kernel
theorem dX11_cleaned_8 : decode cX11_cleaned 8 = .ok (.iconst 0, 1) := by decide +kernel
theorem dX11_cleaned_9 : decode cX11_cleaned 9 = .ok (.sipush 1000, 3) := by decide +kernel
theorem dX11_cleaned_12 : decode cX11_cleaned 12 = .ok (.invokestatic 79, 3) := by decide +kernel
theorem dX11_cleaned_15 : decode cX11_cleaned 15 = .ok (.ifCond .ne 9, 3) := by decide +kernel
theorem dX11_cleaned_18 : decode cX11_cleaned 18 = .ok (.aload_n 0, 1) := by decide +kernel
theorem dX11_cleaned_19 : decode cX11_cleaned 19 = .ok (.iconst (-1), 1) := by decide +kernel
theorem dX11_cleaned_20 : decode cX11_cleaned 20 = .ok (.invokevirtual 83, 3) := by decide +kernel
theorem dX11_cleaned_23 : decode cX11_cleaned 23 = .ok (.ireturn, 1) := by decide +kernel
theorem dX11_cleaned_24 : decode cX11_cleaned 24 = .ok (.aload_n 0, 1) := by decide +kernel
theorem dX11_cleaned_25 : decode cX11_cleaned 25 = .ok (.iload_n 1, 1) := by decide +kernel
theorem dX11_cleaned_26 : decode cX11_cleaned 26 = .ok (.invokevirtual 106, 3) := by decide +kernel
theorem dX11_cleaned_29 : decode cX11_cleaned 29 = .ok (.ifCond .ne 10, 3) := by decide +kernel
theorem dX11_cleaned_32 : decode cX11_cleaned 32 = .ok (.aload_n 0, 1) := by decide +kernel
theorem dX11_cleaned_33 : decode cX11_cleaned 33 = .ok (.bipush (-2), 2) := by decide +kernel
theorem dX11_cleaned_35 : decode cX11_cleaned 35 = .ok (.invokevirtual 83, 3) := by decide +kernel
theorem dX11_cleaned_38 : decode cX11_cleaned 38 = .ok (.ireturn, 1) := by decide +kernel
theorem dX11_cleaned_39 : decode cX11_cleaned 39 = .ok (.aload_n 0, 1) := by decide +kernel
theorem dX11_cleaned_40 : decode cX11_cleaned 40 = .ok (.getfield 10, 3) := by decide +kernel
theorem dX11_cleaned_43 : decode cX11_cleaned 43 = .ok (.iload_n 1, 1) := by decide +kernel
theorem dX11_cleaned_44 : decode cX11_cleaned 44 = .ok (.iload_n 2, 1) := by decide +kernel
theorem dX11_cleaned_45 : decode cX11_cleaned 45 = .ok (.invokevirtual 122, 3) := by decide +kernel
theorem dX11_cleaned_48 : decode cX11_cleaned 48 = .ok (.ifCond .eq 10, 3) := by decide +kernel
theorem dX11_cleaned_51 : decode cX11_cleaned 51 = .ok (.aload_n 0, 1) := by decide +kernel
theorem dX11_cleaned_52 : decode cX11_cleaned 52 = .ok (.bipush (-4), 2) := by decide +kernel
theorem dX11_cleaned_54 : decode cX11_cleaned 54 = .ok (.invokevirtual 83, 3) := by decide +kernel
theorem dX11_cleaned_57 : decode cX11_cleaned 57 = .ok (.ireturn, 1) := by decide +kernel
theorem dX11_cleaned_58 : decode cX11_cleaned 58 = .ok (.aload_n 0, 1) := by decide +kernel
theorem dX11_cleaned_59 : decode cX11_cleaned 59 = .ok (.getfield 10, 3) := by decide +kernel
theorem dX11_cleaned_62 : decode cX11_cleaned 62 = .ok (.getfield 126, 3) := by decide +kernel
theorem dX11_cleaned_65 : decode cX11_cleaned 65 = .ok (.bipush 40, 2) := by decide +kernel
theorem dX11_cleaned_67 : decode cX11_cleaned 67 = .ok (.if_icmp .lt 10, 3) := by decide +kernel
theorem dX11_cleaned_70 : decode cX11_cleaned 70 = .ok (.aload_n 0, 1) := by decide +kernel
theorem dX11_cleaned_71 : decode cX11_cleaned 71 = .ok (.bipush (-5), 2) := by decide +kernel
theorem dX11_cleaned_73 : decode cX11_cleaned 73 = .ok (.invokevirtual 83, 3) := by decide +kernel
theorem dX11_cleaned_76 : decode cX11_cleaned 76 = .ok (.ireturn, 1) := by decide +kernel
theorem dX11_cleaned_77 : decode cX11_cleaned 77 = .ok (.aload_n 0, 1) := by decide +kernel
theorem dX11_cleaned_78 : decode cX11_cleaned 78 = .ok (.getfield 10, 3) := by decide +kernel
theorem dX11_cleaned_81 : decode cX11_cleaned 81 = .ok (.iload_n 1, 1) := by decide +kernel
theorem dX11_cleaned_82 : decode cX11_cleaned 82 = .ok (.iload_n 2, 1) := by decide +kernel
theorem dX11_cleaned_83 : decode cX11_cleaned 83 = .ok (.iload_n 3, 1) := by decide +kernel
theorem dX11_cleaned_84 : decode cX11_cleaned 84 = .ok (.invokevirtual 129, 3) := by decide +kernel
theorem dX11_cleaned_87 : decode cX11_cleaned 87 = .ok (.aload_n 0, 1) := by decide +kernel
theorem dX11_cleaned_88 : decode cX11_cleaned 88 = .ok (.aload_n 0, 1) := by decide +kernel
theorem dX11_cleaned_89 : decode cX11_cleaned 89 = .ok (.getfield 10, 3) := by decide +kernel
theorem dX11_cleaned_92 : decode cX11_cleaned 92 = .ok (.getfield 126, 3) := by decide +kernel
theorem dX11_cleaned_95 : decode cX11_cleaned 95 = .ok (.invokevirtual 91, 3) := by decide +kernel
theorem dX11_cleaned_98 : decode cX11_cleaned 98 = .ok (.ireturn, 1) := by decide +kernel
theorem dX11_terms_0 : decode cX11_terms 0 = .ok (.iload_n 1, 1) := by decide +kernel
theorem dX11_terms_1 : decode cX11_terms 1 = .ok (.iconst 0, 1) := by decide +kernel
theorem dX11_terms_2 : decode cX11_terms 2 = .ok (.sipush 1000, 3) := by decide +kernel
theorem dX11_terms_5 : decode cX11_terms 5 = .ok (.invokestatic 79, 3) := by decide +kernel
theorem dX11_terms_8 : decode cX11_terms 8 = .ok (.ifCond .eq 13, 3) := by decide +kernel
theorem dX11_terms_11 : decode cX11_terms 11 = .ok (.iload_n 2, 1) := by decide +kernel
theorem dX11_terms_12 : decode cX11_terms 12 = .ok (.iconst 0, 1) := by decide +kernel
theorem dX11_terms_13 : decode cX11_terms 13 = .ok (.ldc 132, 2) := by decide +kernel
theorem dX11_terms_15 : decode cX11_terms 15 = .ok (.invokestatic 79, 3) := by decide +kernel
theorem dX11_terms_18 : decode cX11_terms 18 = .ok (.ifCond .ne 9, 3) := by decide +kernel
theorem dX11_terms_21 : decode cX11_terms 21 = .ok (.aload_n 0, 1) := by decide +kernel
theorem dX11_terms_22 : decode cX11_terms 22 = .ok (.iconst (-1), 1) := by decide +kernel
theorem dX11_terms_23 : decode cX11_terms 23 = .ok (.invokevirtual 83, 3) := by decide +kernel
theorem dX11_terms_26 : decode cX11_terms 26 = .ok (.ireturn, 1) := by decide +kernel
theorem dX11_terms_27 : decode cX11_terms 27 = .ok (.aload_n 0, 1) := by decide +kernel
theorem dX11_terms_28 : decode cX11_terms 28 = .ok (.getfield 10, 3) := by decide +kernel
theorem dX11_terms_31 : decode cX11_terms 31 = .ok (.iload_n 1, 1) := by decide +kernel
theorem dX11_terms_32 : decode cX11_terms 32 = .ok (.putfield 133, 3) := by decide +kernel
theorem dX11_terms_35 : decode cX11_terms 35 = .ok (.aload_n 0, 1) := by decide +kernel
theorem dX11_terms_36 : decode cX11_terms 36 = .ok (.getfield 10, 3) := by decide +kernel
theorem dX11_terms_39 : decode cX11_terms 39 = .ok (.iload_n 2, 1) := by decide +kernel
theorem dX11_terms_40 : decode cX11_terms 40 = .ok (.putfield 136, 3) := by decide +kernel
theorem dX11_terms_43 : decode cX11_terms 43 = .ok (.aload_n 0, 1) := by decide +kernel
theorem dX11_terms_44 : decode cX11_terms 44 = .ok (.iconst 0, 1) := by decide +kernel
theorem dX11_terms_45 : decode cX11_terms 45 = .ok (.invokevirtual 91, 3) := by decide +kernel
theorem dX11_terms_48 : decode cX11_terms 48 = .ok (.ireturn, 1) := by decide +kernel
theorem dX11_log_0 : decode cX11_log 0 = .ok (.iload_n 2, 1) := by decide +kernel
theorem dX11_log_1 : decode cX11_log 1 = .ok (.invokestatic 102, 3) := by decide +kernel
theorem dX11_log_4 : decode cX11_log 4 = .ok (.ifCond .eq 25, 3) := by decide +kernel
theorem dX11_log_7 : decode cX11_log 7 = .ok (.iload_n 3, 1) := by decide +kernel
theorem dX11_log_8 : decode cX11_log 8 = .ok (.iconst 0, 1) := by decide +kernel
theorem dX11_log_9 : decode cX11_log 9 = .ok (.ldc 132, 2) := by decide +kernel
theorem dX11_log_11 : decode cX11_log 11 = .ok (.invokestatic 79, 3) := by decide +kernel
theorem dX11_log_14 : decode cX11_log 14 = .ok (.ifCond .eq 15, 3) := by decide +kernel
theorem dX11_log_17 : decode cX11_log 17 = .ok (.iload 4, 2) := by decide +kernel
theorem dX11_log_19 : decode cX11_log 19 = .ok (.iconst 0, 1) := by decide +kernel
theorem dX11_log_20 : decode cX11_log 20 = .ok (.sipush 1000, 3) := by decide +kernel
theorem dX11_log_23 : decode cX11_log 23 = .ok (.invokestatic 79, 3) := by decide +kernel
theorem dX11_log_26 : decode cX11_log 26 = .ok (.ifCond .ne 9, 3) := by decide +kernel
theorem dX11_log_29 : decode cX11_log 29 = .ok (.aload_n 0, 1) := by decide +kernel
theorem dX11_log_30 : decode cX11_log 30 = .ok (.iconst (-1), 1) := by decide +kernel
theorem dX11_log_31 : decode cX11_log 31 = .ok (.invokevirtual 83, 3) := by decide +kernel
theorem dX11_log_34 : decode cX11_log 34 = .ok (.ireturn, 1) := by decide +kernel
theorem dX11_log_35 : decode cX11_log 35 = .ok (.iload 5, 2) := by decide +kernel
theorem dX11_log_37 : decode cX11_log 37 = .ok (.iconst 1, 1) := by decide +kernel
theorem dX11_log_38 : decode cX11_log 38 = .ok (.bipush 100, 2) := by decide +kernel
theorem dX11_log_40 : decode cX11_log 40 = .ok (.invokestatic 79, 3) := by decide +kernel
theorem dX11_log_43 : decode cX11_log 43 = .ok (.ifCond .eq 11, 3) := by decide +kernel
theorem dX11_log_46 : decode cX11_log 46 = .ok (.iload 6, 2) := by decide +kernel
theorem dX11_log_48 : decode cX11_log 48 = .ok (.invokestatic 102, 3) := by decide +kernel
theorem dX11_log_51 : decode cX11_log 51 = .ok (.ifCond .ne 9, 3) := by decide +kernel
theorem dX11_log_54 : decode cX11_log 54 = .ok (.aload_n 0, 1) := by decide +kernel
theorem dX11_log_55 : decode cX11_log 55 = .ok (.iconst (-1), 1) := by decide +kernel
theorem dX11_log_56 : decode cX11_log 56 = .ok (.invokevirtual 83, 3) := by decide +kernel
theorem dX11_log_59 : decode cX11_log 59 = .ok (.ireturn, 1) := by decide +kernel
theorem dX11_log_60 : decode cX11_log 60 = .ok (.aload_n 0, 1) := by decide +kernel
theorem dX11_log_61 : decode cX11_log 61 = .ok (.iload_n 1, 1) := by decide +kernel
theorem dX11_log_62 : decode cX11_log 62 = .ok (.invokevirtual 106, 3) := by decide +kernel
theorem dX11_log_65 : decode cX11_log 65 = .ok (.ifCond .ne 10, 3) := by decide +kernel
theorem dX11_log_68 : decode cX11_log 68 = .ok (.aload_n 0, 1) := by decide +kernel
theorem dX11_log_69 : decode cX11_log 69 = .ok (.bipush (-2), 2) := by decide +kernel
theorem dX11_log_71 : decode cX11_log 71 = .ok (.invokevirtual 83, 3) := by decide +kernel
theorem dX11_log_74 : decode cX11_log 74 = .ok (.ireturn, 1) := by decide +kernel
theorem dX11_log_75 : decode cX11_log 75 = .ok (.aload_n 0, 1) := by decide +kernel
theorem dX11_log_76 : decode cX11_log 76 = .ok (.getfield 29, 3) := by decide +kernel
theorem dX11_log_79 : decode cX11_log 79 = .ok (.iload_n 1, 1) := by decide +kernel
theorem dX11_log_80 : decode cX11_log 80 = .ok (.invokevirtual 139, 3) := by decide +kernel
theorem dX11_log_83 : decode cX11_log 83 = .ok (.aload_n 0, 1) := by decide +kernel
theorem dX11_log_84 : decode cX11_log 84 = .ok (.getfield 29, 3) := by decide +kernel
theorem dX11_log_87 : decode cX11_log 87 = .ok (.getfield 143, 3) := by decide +kernel
theorem dX11_log_90 : decode cX11_log 90 = .ok (.iload_n 2, 1) := by decide +kernel
theorem dX11_log_91 : decode cX11_log 91 = .ok (.iaload, 1) := by decide +kernel
theorem dX11_log_92 : decode cX11_log 92 = .ok (.ifCond .ne 10, 3) := by decide +kernel
theorem dX11_log_95 : decode cX11_log 95 = .ok (.aload_n 0, 1) := by decide +kernel
theorem dX11_log_96 : decode cX11_log 96 = .ok (.bipush (-3), 2) := by decide +kernel
theorem dX11_log_98 : decode cX11_log 98 = .ok (.invokevirtual 83, 3) := by decide +kernel
theorem dX11_log_101 : decode cX11_log 101 = .ok (.ireturn, 1) := by decide +kernel
theorem dX11_log_102 : decode cX11_log 102 = .ok (.aload_n 0, 1) := by decide +kernel
theorem dX11_log_103 : decode cX11_log 103 = .ok (.iload_n 1, 1) := by decide +kernel
theorem dX11_log_104 : decode cX11_log 104 = .ok (.iload_n 2, 1) := by decide +kernel
theorem dX11_log_105 : decode cX11_log 105 = .ok (.iload_n 3, 1) := by decide +kernel
theorem dX11_log_106 : decode cX11_log 106 = .ok (.iload 4, 2) := by decide +kernel
theorem dX11_log_108 : decode cX11_log 108 = .ok (.iload 5, 2) := by decide +kernel
theorem dX11_log_110 : decode cX11_log 110 = .ok (.iload 6, 2) := by decide +kernel
theorem dX11_log_112 : decode cX11_log 112 = .ok (.iconst 0, 1) := by decide +kernel
theorem dX11_log_113 : decode cX11_log 113 = .ok (.invokevirtual 146, 3) := by decide +kernel
theorem dX11_log_116 : decode cX11_log 116 = .ok (.ireturn, 1) := by decide +kernel
theorem dX11_look_0 : decode cX11_look 0 = .ok (.iload_n 2, 1) := by decide +kernel
theorem dX11_look_1 : decode cX11_look 1 = .ok (.invokestatic 102, 3) := by decide +kernel
theorem dX11_look_4 : decode cX11_look 4 = .ok (.ifCond .eq 26, 3) := by decide +kernel
theorem dX11_look_7 : decode cX11_look 7 = .ok (.iload_n 3, 1) := by decide +kernel
theorem dX11_look_8 : decode cX11_look 8 = .ok (.iconst 0, 1) := by decide +kernel
theorem dX11_look_9 : decode cX11_look 9 = .ok (.sipush 1000, 3) := by decide +kernel
theorem dX11_look_12 : decode cX11_look 12 = .ok (.invokestatic 79, 3) := by decide +kernel
theorem dX11_look_15 : decode cX11_look 15 = .ok (.ifCond .eq 15, 3) := by decide +kernel
theorem dX11_look_18 : decode cX11_look 18 = .ok (.iload 4, 2) := by decide +kernel
theorem dX11_look_20 : decode cX11_look 20 = .ok (.iload_n 3, 1) := by decide +kernel
theorem dX11_look_21 : decode cX11_look 21 = .ok (.sipush 1000, 3) := by decide +kernel
theorem dX11_look_24 : decode cX11_look 24 = .ok (.invokestatic 79, 3) := by decide +kernel
theorem dX11_look_27 : decode cX11_look 27 = .ok (.ifCond .ne 9, 3) := by decide +kernel
theorem dX11_look_30 : decode cX11_look 30 = .ok (.aload_n 0, 1) := by decide +kernel
theorem dX11_look_31 : decode cX11_look 31 = .ok (.iconst (-1), 1) := by decide +kernel
theorem dX11_look_32 : decode cX11_look 32 = .ok (.invokevirtual 83, 3) := by decide +kernel
theorem dX11_look_35 : decode cX11_look 35 = .ok (.ireturn, 1) := by decide +kernel
theorem dX11_look_36 : decode cX11_look 36 = .ok (.iload 5, 2) := by decide +kernel
theorem dX11_look_38 : decode cX11_look 38 = .ok (.iconst 1, 1) := by decide +kernel
theorem dX11_look_39 : decode cX11_look 39 = .ok (.bipush 100, 2) := by decide +kernel
theorem dX11_look_41 : decode cX11_look 41 = .ok (.invokestatic 79, 3) := by decide +kernel
theorem dX11_look_44 : decode cX11_look 44 = .ok (.ifCond .eq 11, 3) := by decide +kernel
theorem dX11_look_47 : decode cX11_look 47 = .ok (.iload 6, 2) := by decide +kernel
theorem dX11_look_49 : decode cX11_look 49 = .ok (.invokestatic 102, 3) := by decide +kernel
theorem dX11_look_52 : decode cX11_look 52 = .ok (.ifCond .ne 9, 3) := by decide +kernel
theorem dX11_look_55 : decode cX11_look 55 = .ok (.aload_n 0, 1) := by decide +kernel
theorem dX11_look_56 : decode cX11_look 56 = .ok (.iconst (-1), 1) := by decide +kernel
theorem dX11_look_57 : decode cX11_look 57 = .ok (.invokevirtual 83, 3) := by decide +kernel
theorem dX11_look_60 : decode cX11_look 60 = .ok (.ireturn, 1) := by decide +kernel
theorem dX11_look_61 : decode cX11_look 61 = .ok (.aload_n 0, 1) := by decide +kernel
theorem dX11_look_62 : decode cX11_look 62 = .ok (.iload_n 1, 1) := by decide +kernel
theorem dX11_look_63 : decode cX11_look 63 = .ok (.invokevirtual 106, 3) := by decide +kernel
theorem dX11_look_66 : decode cX11_look 66 = .ok (.ifCond .ne 10, 3) := by decide +kernel
theorem dX11_look_69 : decode cX11_look 69 = .ok (.aload_n 0, 1) := by decide +kernel
theorem dX11_look_70 : decode cX11_look 70 = .ok (.bipush (-2), 2) := by decide +kernel
theorem dX11_look_72 : decode cX11_look 72 = .ok (.invokevirtual 83, 3) := by decide +kernel
theorem dX11_look_75 : decode cX11_look 75 = .ok (.ireturn, 1) := by decide +kernel
theorem dX11_look_76 : decode cX11_look 76 = .ok (.aload_n 0, 1) := by decide +kernel
theorem dX11_look_77 : decode cX11_look 77 = .ok (.iload_n 1, 1) := by decide +kernel
theorem dX11_look_78 : decode cX11_look 78 = .ok (.iload_n 2, 1) := by decide +kernel
theorem dX11_look_79 : decode cX11_look 79 = .ok (.iload_n 3, 1) := by decide +kernel
theorem dX11_look_80 : decode cX11_look 80 = .ok (.iload 4, 2) := by decide +kernel
theorem dX11_look_82 : decode cX11_look 82 = .ok (.iload 5, 2) := by decide +kernel
theorem dX11_look_84 : decode cX11_look 84 = .ok (.iload 6, 2) := by decide +kernel
theorem dX11_look_86 : decode cX11_look 86 = .ok (.iconst 1, 1) := by decide +kernel
theorem dX11_look_87 : decode cX11_look 87 = .ok (.invokevirtual 146, 3) := by decide +kernel
theorem dX11_look_90 : decode cX11_look 90 = .ok (.ireturn, 1) := by decide +kernel
theorem dX11_of_0 : decode cX11_of 0 = .ok (.aload_n 0, 1) := by decide +kernel
theorem dX11_of_1 : decode cX11_of 1 = .ok (.iload_n 1, 1) := by decide +kernel
theorem dX11_of_2 : decode cX11_of 2 = .ok (.invokevirtual 150, 3) := by decide +kernel
theorem dX11_of_5 : decode cX11_of 5 = .ok (.ifCond .ne 5, 3) := by decide +kernel
theorem dX11_of_8 : decode cX11_of 8 = .ok (.iconst (-1), 1) := by decide +kernel
theorem dX11_of_9 : decode cX11_of 9 = .ok (.ireturn, 1) := by decide +kernel
theorem dX11_of_10 : decode cX11_of 10 = .ok (.aload_n 0, 1) := by decide +kernel
theorem dX11_of_11 : decode cX11_of 11 = .ok (.getfield 10, 3) := by decide +kernel
theorem dX11_of_14 : decode cX11_of 14 = .ok (.getfield 153, 3) := by decide +kernel
theorem dX11_of_17 : decode cX11_of 17 = .ok (.astore_n 3, 1) := by decide +kernel
theorem dX11_of_18 : decode cX11_of 18 = .ok (.aload_n 0, 1) := by decide +kernel
theorem dX11_of_19 : decode cX11_of 19 = .ok (.getfield 29, 3) := by decide +kernel
theorem dX11_of_22 : decode cX11_of 22 = .ok (.aload_n 3, 1) := by decide +kernel
theorem dX11_of_23 : decode cX11_of 23 = .ok (.getfield 157, 3) := by decide +kernel
theorem dX11_of_26 : decode cX11_of 26 = .ok (.iload_n 1, 1) := by decide +kernel
theorem dX11_of_27 : decode cX11_of 27 = .ok (.iaload, 1) := by decide +kernel
theorem dX11_of_28 : decode cX11_of 28 = .ok (.invokevirtual 139, 3) := by decide +kernel
theorem dX11_of_31 : decode cX11_of 31 = .ok (.iload_n 2, 1) := by decide +kernel
theorem dX11_of_32 : decode cX11_of 32 = .ok (.tableswitch 107 0 6 #[44, 51, 58, 68, 78, 85, 92], 44) := by decide +kernel
theorem dX11_of_76 : decode cX11_of 76 = .ok (.aload_n 3, 1) := by decide +kernel
theorem dX11_of_77 : decode cX11_of 77 = .ok (.getfield 157, 3) := by decide +kernel
theorem dX11_of_80 : decode cX11_of 80 = .ok (.iload_n 1, 1) := by decide +kernel
theorem dX11_of_81 : decode cX11_of 81 = .ok (.iaload, 1) := by decide +kernel
theorem dX11_of_82 : decode cX11_of 82 = .ok (.ireturn, 1) := by decide +kernel
theorem dX11_of_83 : decode cX11_of 83 = .ok (.aload_n 3, 1) := by decide +kernel
theorem dX11_of_84 : decode cX11_of 84 = .ok (.getfield 162, 3) := by decide +kernel
theorem dX11_of_87 : decode cX11_of 87 = .ok (.iload_n 1, 1) := by decide +kernel
theorem dX11_of_88 : decode cX11_of 88 = .ok (.iaload, 1) := by decide +kernel
theorem dX11_of_89 : decode cX11_of 89 = .ok (.ireturn, 1) := by decide +kernel
theorem dX11_of_90 : decode cX11_of 90 = .ok (.aload_n 0, 1) := by decide +kernel
theorem dX11_of_91 : decode cX11_of 91 = .ok (.getfield 29, 3) := by decide +kernel
theorem dX11_of_94 : decode cX11_of 94 = .ok (.getfield 165, 3) := by decide +kernel
theorem dX11_of_97 : decode cX11_of 97 = .ok (.iload_n 1, 1) := by decide +kernel
theorem dX11_of_98 : decode cX11_of 98 = .ok (.iaload, 1) := by decide +kernel
theorem dX11_of_99 : decode cX11_of 99 = .ok (.ireturn, 1) := by decide +kernel
theorem dX11_of_100 : decode cX11_of 100 = .ok (.aload_n 0, 1) := by decide +kernel
theorem dX11_of_101 : decode cX11_of 101 = .ok (.getfield 29, 3) := by decide +kernel
theorem dX11_of_104 : decode cX11_of 104 = .ok (.getfield 168, 3) := by decide +kernel
theorem dX11_of_107 : decode cX11_of 107 = .ok (.iload_n 1, 1) := by decide +kernel
theorem dX11_of_108 : decode cX11_of 108 = .ok (.iaload, 1) := by decide +kernel
theorem dX11_of_109 : decode cX11_of 109 = .ok (.ireturn, 1) := by decide +kernel
theorem dX11_of_110 : decode cX11_of 110 = .ok (.aload_n 3, 1) := by decide +kernel
theorem dX11_of_111 : decode cX11_of 111 = .ok (.getfield 171, 3) := by decide +kernel
theorem dX11_of_114 : decode cX11_of 114 = .ok (.iload_n 1, 1) := by decide +kernel
theorem dX11_of_115 : decode cX11_of 115 = .ok (.iaload, 1) := by decide +kernel
theorem dX11_of_116 : decode cX11_of 116 = .ok (.ireturn, 1) := by decide +kernel
theorem dX11_of_117 : decode cX11_of 117 = .ok (.aload_n 3, 1) := by decide +kernel
theorem dX11_of_118 : decode cX11_of 118 = .ok (.getfield 174, 3) := by decide +kernel
theorem dX11_of_121 : decode cX11_of 121 = .ok (.iload_n 1, 1) := by decide +kernel
theorem dX11_of_122 : decode cX11_of 122 = .ok (.iaload, 1) := by decide +kernel
theorem dX11_of_123 : decode cX11_of 123 = .ok (.ireturn, 1) := by decide +kernel
theorem dX11_of_124 : decode cX11_of 124 = .ok (.aload_n 3, 1) := by decide +kernel
theorem dX11_of_125 : decode cX11_of 125 = .ok (.getfield 177, 3) := by decide +kernel
theorem dX11_of_128 : decode cX11_of 128 = .ok (.iload_n 1, 1) := by decide +kernel
theorem dX11_of_129 : decode cX11_of 129 = .ok (.baload, 1) := by decide +kernel
theorem dX11_of_130 : decode cX11_of 130 = .ok (.ifCond .eq 7, 3) := by decide +kernel
theorem dX11_of_133 : decode cX11_of 133 = .ok (.iconst 1, 1) := by decide +kernel
theorem dX11_of_134 : decode cX11_of 134 = .ok (.goto 4, 3) := by decide +kernel
theorem dX11_of_137 : decode cX11_of 137 = .ok (.iconst 0, 1) := by decide +kernel
theorem dX11_of_138 : decode cX11_of 138 = .ok (.ireturn, 1) := by decide +kernel
theorem dX11_of_139 : decode cX11_of 139 = .ok (.iconst (-1), 1) := by decide +kernel
theorem dX11_of_140 : decode cX11_of 140 = .ok (.ireturn, 1) := by decide +kernel
theorem dX11_leave_0 : decode cX11_leave 0 = .ok (.iload_n 2, 1) := by decide +kernel
theorem dX11_leave_1 : decode cX11_leave 1 = .ok (.iconst 0, 1) := by decide +kernel
theorem dX11_leave_2 : decode cX11_leave 2 = .ok (.iconst 1, 1) := by decide +kernel
theorem dX11_leave_3 : decode cX11_leave 3 = .ok (.invokestatic 79, 3) := by decide +kernel
theorem dX11_leave_6 : decode cX11_leave 6 = .ok (.ifCond .ne 9, 3) := by decide +kernel
theorem dX11_leave_9 : decode cX11_leave 9 = .ok (.aload_n 0, 1) := by decide +kernel
theorem dX11_leave_10 : decode cX11_leave 10 = .ok (.iconst (-1), 1) := by decide +kernel
theorem dX11_leave_11 : decode cX11_leave 11 = .ok (.invokevirtual 83, 3) := by decide +kernel
theorem dX11_leave_14 : decode cX11_leave 14 = .ok (.ireturn, 1) := by decide +kernel
theorem dX11_leave_15 : decode cX11_leave 15 = .ok (.aload_n 0, 1) := by decide +kernel
theorem dX11_leave_16 : decode cX11_leave 16 = .ok (.iload_n 1, 1) := by decide +kernel
theorem dX11_leave_17 : decode cX11_leave 17 = .ok (.invokevirtual 150, 3) := by decide +kernel
theorem dX11_leave_20 : decode cX11_leave 20 = .ok (.ifCond .ne 10, 3) := by decide +kernel
theorem dX11_leave_23 : decode cX11_leave 23 = .ok (.aload_n 0, 1) := by decide +kernel
theorem dX11_leave_24 : decode cX11_leave 24 = .ok (.bipush (-2), 2) := by decide +kernel
theorem dX11_leave_26 : decode cX11_leave 26 = .ok (.invokevirtual 83, 3) := by decide +kernel
theorem dX11_leave_29 : decode cX11_leave 29 = .ok (.ireturn, 1) := by decide +kernel
theorem dX11_leave_30 : decode cX11_leave 30 = .ok (.aload_n 0, 1) := by decide +kernel
theorem dX11_leave_31 : decode cX11_leave 31 = .ok (.getfield 10, 3) := by decide +kernel
theorem dX11_leave_34 : decode cX11_leave 34 = .ok (.getfield 153, 3) := by decide +kernel
theorem dX11_leave_37 : decode cX11_leave 37 = .ok (.getfield 177, 3) := by decide +kernel
theorem dX11_leave_40 : decode cX11_leave 40 = .ok (.iload_n 1, 1) := by decide +kernel
theorem dX11_leave_41 : decode cX11_leave 41 = .ok (.iload_n 2, 1) := by decide +kernel
theorem dX11_leave_42 : decode cX11_leave 42 = .ok (.iconst 1, 1) := by decide +kernel
theorem dX11_leave_43 : decode cX11_leave 43 = .ok (.if_icmp .ne 7, 3) := by decide +kernel
theorem dX11_leave_46 : decode cX11_leave 46 = .ok (.iconst 1, 1) := by decide +kernel
theorem dX11_leave_47 : decode cX11_leave 47 = .ok (.goto 4, 3) := by decide +kernel
theorem dX11_leave_50 : decode cX11_leave 50 = .ok (.iconst 0, 1) := by decide +kernel
theorem dX11_leave_51 : decode cX11_leave 51 = .ok (.bastore, 1) := by decide +kernel
theorem dX11_leave_52 : decode cX11_leave 52 = .ok (.aload_n 0, 1) := by decide +kernel
theorem dX11_leave_53 : decode cX11_leave 53 = .ok (.iconst 0, 1) := by decide +kernel
theorem dX11_leave_54 : decode cX11_leave 54 = .ok (.invokevirtual 91, 3) := by decide +kernel
theorem dX11_leave_57 : decode cX11_leave 57 = .ok (.ireturn, 1) := by decide +kernel
theorem dX11_law_0 : decode cX11_law 0 = .ok (.aload_n 0, 1) := by decide +kernel
theorem dX11_law_1 : decode cX11_law 1 = .ok (.iload_n 1, 1) := by decide +kernel
theorem dX11_law_2 : decode cX11_law 2 = .ok (.invokevirtual 106, 3) := by decide +kernel
theorem dX11_law_5 : decode cX11_law 5 = .ok (.ifCond .eq 22, 3) := by decide +kernel
theorem dX11_law_8 : decode cX11_law 8 = .ok (.iload_n 2, 1) := by decide +kernel
theorem dX11_law_9 : decode cX11_law 9 = .ok (.iconst 0, 1) := by decide +kernel
theorem dX11_law_10 : decode cX11_law 10 = .ok (.bipush 118, 2) := by decide +kernel
theorem dX11_law_12 : decode cX11_law 12 = .ok (.invokestatic 79, 3) := by decide +kernel
theorem dX11_law_15 : decode cX11_law 15 = .ok (.ifCond .eq 12, 3) := by decide +kernel
theorem dX11_law_18 : decode cX11_law 18 = .ok (.iload_n 3, 1) := by decide +kernel
theorem dX11_law_19 : decode cX11_law 19 = .ok (.iconst 0, 1) := by decide +kernel
theorem dX11_law_20 : decode cX11_law 20 = .ok (.iconst 1, 1) := by decide +kernel
theorem dX11_law_21 : decode cX11_law 21 = .ok (.invokestatic 79, 3) := by decide +kernel
theorem dX11_law_24 : decode cX11_law 24 = .ok (.ifCond .ne 7, 3) := by decide +kernel
theorem dX11_law_27 : decode cX11_law 27 = .ok (.sipush (-1000), 3) := by decide +kernel
theorem dX11_law_30 : decode cX11_law 30 = .ok (.ireturn, 1) := by decide +kernel
theorem dX11_law_31 : decode cX11_law 31 = .ok (.aload_n 0, 1) := by decide +kernel
theorem dX11_law_32 : decode cX11_law 32 = .ok (.getfield 29, 3) := by decide +kernel
theorem dX11_law_35 : decode cX11_law 35 = .ok (.iload_n 1, 1) := by decide +kernel
theorem dX11_law_36 : decode cX11_law 36 = .ok (.invokevirtual 139, 3) := by decide +kernel
theorem dX11_law_39 : decode cX11_law 39 = .ok (.aload_n 0, 1) := by decide +kernel
theorem dX11_law_40 : decode cX11_law 40 = .ok (.getfield 29, 3) := by decide +kernel
theorem dX11_law_43 : decode cX11_law 43 = .ok (.getfield 180, 3) := by decide +kernel
theorem dX11_law_46 : decode cX11_law 46 = .ok (.iload_n 2, 1) := by decide +kernel
theorem dX11_law_47 : decode cX11_law 47 = .ok (.iconst 1, 1) := by decide +kernel
theorem dX11_law_48 : decode cX11_law 48 = .ok (.iadd, 1) := by decide +kernel
theorem dX11_law_49 : decode cX11_law 49 = .ok (.baload, 1) := by decide +kernel
theorem dX11_law_50 : decode cX11_law 50 = .ok (.ifCond .eq 7, 3) := by decide +kernel
theorem dX11_law_53 : decode cX11_law 53 = .ok (.sipush (-1000), 3) := by decide +kernel
theorem dX11_law_56 : decode cX11_law 56 = .ok (.ireturn, 1) := by decide +kernel
theorem dX11_law_57 : decode cX11_law 57 = .ok (.iload_n 3, 1) := by decide +kernel
theorem dX11_law_58 : decode cX11_law 58 = .ok (.ifCond .ne 15, 3) := by decide +kernel
theorem dX11_law_61 : decode cX11_law 61 = .ok (.aload_n 0, 1) := by decide +kernel
theorem dX11_law_62 : decode cX11_law 62 = .ok (.getfield 29, 3) := by decide +kernel
theorem dX11_law_65 : decode cX11_law 65 = .ok (.getfield 183, 3) := by decide +kernel
theorem dX11_law_68 : decode cX11_law 68 = .ok (.iload_n 2, 1) := by decide +kernel
theorem dX11_law_69 : decode cX11_law 69 = .ok (.iaload, 1) := by decide +kernel
theorem dX11_law_70 : decode cX11_law 70 = .ok (.goto 12, 3) := by decide +kernel
theorem dX11_law_73 : decode cX11_law 73 = .ok (.aload_n 0, 1) := by decide +kernel
theorem dX11_law_74 : decode cX11_law 74 = .ok (.getfield 29, 3) := by decide +kernel
theorem dX11_law_77 : decode cX11_law 77 = .ok (.getfield 186, 3) := by decide +kernel
theorem dX11_law_80 : decode cX11_law 80 = .ok (.iload_n 2, 1) := by decide +kernel
theorem dX11_law_81 : decode cX11_law 81 = .ok (.iaload, 1) := by decide +kernel
theorem dX11_law_82 : decode cX11_law 82 = .ok (.ireturn, 1) := by decide +kernel
theorem dX11_share_0 : decode cX11_share 0 = .ok (.aload_n 0, 1) := by decide +kernel
theorem dX11_share_1 : decode cX11_share 1 = .ok (.iload_n 1, 1) := by decide +kernel
theorem dX11_share_2 : decode cX11_share 2 = .ok (.invokevirtual 106, 3) := by decide +kernel
theorem dX11_share_5 : decode cX11_share 5 = .ok (.ifCond .eq 31, 3) := by decide +kernel
theorem dX11_share_8 : decode cX11_share 8 = .ok (.iload_n 2, 1) := by decide +kernel
theorem dX11_share_9 : decode cX11_share 9 = .ok (.invokestatic 102, 3) := by decide +kernel
theorem dX11_share_12 : decode cX11_share 12 = .ok (.ifCond .eq 24, 3) := by decide +kernel
theorem dX11_share_15 : decode cX11_share 15 = .ok (.iload_n 3, 1) := by decide +kernel
theorem dX11_share_16 : decode cX11_share 16 = .ok (.iconst 0, 1) := by decide +kernel
theorem dX11_share_17 : decode cX11_share 17 = .ok (.sipush 1000, 3) := by decide +kernel
theorem dX11_share_20 : decode cX11_share 20 = .ok (.invokestatic 79, 3) := by decide +kernel
theorem dX11_share_23 : decode cX11_share 23 = .ok (.ifCond .eq 13, 3) := by decide +kernel
theorem dX11_share_26 : decode cX11_share 26 = .ok (.iload 4, 2) := by decide +kernel
theorem dX11_share_28 : decode cX11_share 28 = .ok (.iconst 0, 1) := by decide +kernel
theorem dX11_share_29 : decode cX11_share 29 = .ok (.iconst 4, 1) := by decide +kernel
theorem dX11_share_30 : decode cX11_share 30 = .ok (.invokestatic 79, 3) := by decide +kernel
theorem dX11_share_33 : decode cX11_share 33 = .ok (.ifCond .ne 5, 3) := by decide +kernel
theorem dX11_share_36 : decode cX11_share 36 = .ok (.iconst (-1), 1) := by decide +kernel
theorem dX11_share_37 : decode cX11_share 37 = .ok (.ireturn, 1) := by decide +kernel
theorem dX11_share_38 : decode cX11_share 38 = .ok (.aload_n 0, 1) := by decide +kernel
theorem dX11_share_39 : decode cX11_share 39 = .ok (.getfield 29, 3) := by decide +kernel
theorem dX11_share_42 : decode cX11_share 42 = .ok (.iload_n 1, 1) := by decide +kernel
theorem dX11_share_43 : decode cX11_share 43 = .ok (.invokevirtual 139, 3) := by decide +kernel
theorem dX11_share_46 : decode cX11_share 46 = .ok (.iload 4, 2) := by decide +kernel
theorem dX11_share_48 : decode cX11_share 48 = .ok (.iconst 4, 1) := by decide +kernel
theorem dX11_share_49 : decode cX11_share 49 = .ok (.if_icmp .ne 15, 3) := by decide +kernel
theorem dX11_share_52 : decode cX11_share 52 = .ok (.aload_n 0, 1) := by decide +kernel
theorem dX11_share_53 : decode cX11_share 53 = .ok (.getfield 29, 3) := by decide +kernel
theorem dX11_share_56 : decode cX11_share 56 = .ok (.iload_n 2, 1) := by decide +kernel
theorem dX11_share_57 : decode cX11_share 57 = .ok (.iload_n 3, 1) := by decide +kernel
theorem dX11_share_58 : decode cX11_share 58 = .ok (.invokevirtual 189, 3) := by decide +kernel
theorem dX11_share_61 : decode cX11_share 61 = .ok (.goto 14, 3) := by decide +kernel
theorem dX11_share_64 : decode cX11_share 64 = .ok (.aload_n 0, 1) := by decide +kernel
theorem dX11_share_65 : decode cX11_share 65 = .ok (.getfield 29, 3) := by decide +kernel
theorem dX11_share_68 : decode cX11_share 68 = .ok (.iload 4, 2) := by decide +kernel
theorem dX11_share_70 : decode cX11_share 70 = .ok (.iload_n 2, 1) := by decide +kernel
theorem dX11_share_71 : decode cX11_share 71 = .ok (.iload_n 3, 1) := by decide +kernel
theorem dX11_share_72 : decode cX11_share 72 = .ok (.invokevirtual 193, 3) := by decide +kernel
theorem dX11_share_75 : decode cX11_share 75 = .ok (.ireturn, 1) := by decide +kernel
theorem dX11_span_0 : decode cX11_span 0 = .ok (.iload_n 2, 1) := by decide +kernel
theorem dX11_span_1 : decode cX11_span 1 = .ok (.invokestatic 102, 3) := by decide +kernel
theorem dX11_span_4 : decode cX11_span 4 = .ok (.ifCond .eq 22, 3) := by decide +kernel
theorem dX11_span_7 : decode cX11_span 7 = .ok (.iload 4, 2) := by decide +kernel
theorem dX11_span_9 : decode cX11_span 9 = .ok (.iconst 0, 1) := by decide +kernel
theorem dX11_span_10 : decode cX11_span 10 = .ok (.iconst 1, 1) := by decide +kernel
theorem dX11_span_11 : decode cX11_span 11 = .ok (.invokestatic 79, 3) := by decide +kernel
theorem dX11_span_14 : decode cX11_span 14 = .ok (.ifCond .eq 12, 3) := by decide +kernel
theorem dX11_span_17 : decode cX11_span 17 = .ok (.aload_n 0, 1) := by decide +kernel
theorem dX11_span_18 : decode cX11_span 18 = .ok (.iload_n 1, 1) := by decide +kernel
theorem dX11_span_19 : decode cX11_span 19 = .ok (.iload_n 3, 1) := by decide +kernel
theorem dX11_span_20 : decode cX11_span 20 = .ok (.invokevirtual 197, 3) := by decide +kernel
theorem dX11_span_23 : decode cX11_span 23 = .ok (.ifCond .ne 5, 3) := by decide +kernel
theorem dX11_span_26 : decode cX11_span 26 = .ok (.iconst (-1), 1) := by decide +kernel
theorem dX11_span_27 : decode cX11_span 27 = .ok (.ireturn, 1) := by decide +kernel
theorem dX11_span_28 : decode cX11_span 28 = .ok (.aload_n 0, 1) := by decide +kernel
theorem dX11_span_29 : decode cX11_span 29 = .ok (.getfield 29, 3) := by decide +kernel
theorem dX11_span_32 : decode cX11_span 32 = .ok (.iload_n 2, 1) := by decide +kernel
theorem dX11_span_33 : decode cX11_span 33 = .ok (.iload 4, 2) := by decide +kernel
theorem dX11_span_35 : decode cX11_span 35 = .ok (.invokevirtual 200, 3) := by decide +kernel
theorem dX11_span_38 : decode cX11_span 38 = .ok (.ireturn, 1) := by decide +kernel
theorem dX11_why_0 : decode cX11_why 0 = .ok (.iload_n 2, 1) := by decide +kernel
theorem dX11_why_1 : decode cX11_why 1 = .ok (.invokestatic 102, 3) := by decide +kernel
theorem dX11_why_4 : decode cX11_why 4 = .ok (.ifCond .eq 22, 3) := by decide +kernel
theorem dX11_why_7 : decode cX11_why 7 = .ok (.iload 4, 2) := by decide +kernel
theorem dX11_why_9 : decode cX11_why 9 = .ok (.iconst 0, 1) := by decide +kernel
theorem dX11_why_10 : decode cX11_why 10 = .ok (.iconst 1, 1) := by decide +kernel
theorem dX11_why_11 : decode cX11_why 11 = .ok (.invokestatic 79, 3) := by decide +kernel
theorem dX11_why_14 : decode cX11_why 14 = .ok (.ifCond .eq 12, 3) := by decide +kernel
theorem dX11_why_17 : decode cX11_why 17 = .ok (.aload_n 0, 1) := by decide +kernel
theorem dX11_why_18 : decode cX11_why 18 = .ok (.iload_n 1, 1) := by decide +kernel
theorem dX11_why_19 : decode cX11_why 19 = .ok (.iload_n 3, 1) := by decide +kernel
theorem dX11_why_20 : decode cX11_why 20 = .ok (.invokevirtual 197, 3) := by decide +kernel
theorem dX11_why_23 : decode cX11_why 23 = .ok (.ifCond .ne 5, 3) := by decide +kernel
theorem dX11_why_26 : decode cX11_why 26 = .ok (.iconst (-1), 1) := by decide +kernel
theorem dX11_why_27 : decode cX11_why 27 = .ok (.ireturn, 1) := by decide +kernel
theorem dX11_why_28 : decode cX11_why 28 = .ok (.aload_n 0, 1) := by decide +kernel
theorem dX11_why_29 : decode cX11_why 29 = .ok (.getfield 29, 3) := by decide +kernel
theorem dX11_why_32 : decode cX11_why 32 = .ok (.iload_n 2, 1) := by decide +kernel
theorem dX11_why_33 : decode cX11_why 33 = .ok (.iload 4, 2) := by decide +kernel
theorem dX11_why_35 : decode cX11_why 35 = .ok (.aload_n 0, 1) := by decide +kernel
theorem dX11_why_36 : decode cX11_why 36 = .ok (.getfield 29, 3) := by decide +kernel
theorem dX11_why_39 : decode cX11_why 39 = .ok (.iload_n 3, 1) := by decide +kernel
theorem dX11_why_40 : decode cX11_why 40 = .ok (.invokevirtual 203, 3) := by decide +kernel
theorem dX11_why_43 : decode cX11_why 43 = .ok (.invokevirtual 206, 3) := by decide +kernel
theorem dX11_why_46 : decode cX11_why 46 = .ok (.ireturn, 1) := by decide +kernel
theorem dX11_lost_0 : decode cX11_lost 0 = .ok (.iload_n 2, 1) := by decide +kernel
theorem dX11_lost_1 : decode cX11_lost 1 = .ok (.iload_n 3, 1) := by decide +kernel
theorem dX11_lost_2 : decode cX11_lost 2 = .ok (.invokestatic 209, 3) := by decide +kernel
theorem dX11_lost_5 : decode cX11_lost 5 = .ok (.ifCond .eq 23, 3) := by decide +kernel
theorem dX11_lost_8 : decode cX11_lost 8 = .ok (.iload 5, 2) := by decide +kernel
theorem dX11_lost_10 : decode cX11_lost 10 = .ok (.iconst 0, 1) := by decide +kernel
theorem dX11_lost_11 : decode cX11_lost 11 = .ok (.iconst 1, 1) := by decide +kernel
theorem dX11_lost_12 : decode cX11_lost 12 = .ok (.invokestatic 79, 3) := by decide +kernel
theorem dX11_lost_15 : decode cX11_lost 15 = .ok (.ifCond .eq 13, 3) := by decide +kernel
theorem dX11_lost_18 : decode cX11_lost 18 = .ok (.aload_n 0, 1) := by decide +kernel
theorem dX11_lost_19 : decode cX11_lost 19 = .ok (.iload_n 1, 1) := by decide +kernel
theorem dX11_lost_20 : decode cX11_lost 20 = .ok (.iload 4, 2) := by decide +kernel
theorem dX11_lost_22 : decode cX11_lost 22 = .ok (.invokevirtual 197, 3) := by decide +kernel
theorem dX11_lost_25 : decode cX11_lost 25 = .ok (.ifCond .ne 7, 3) := by decide +kernel
theorem dX11_lost_28 : decode cX11_lost 28 = .ok (.ldc2_w 212, 3) := by decide +kernel
theorem dX11_lost_31 : decode cX11_lost 31 = .ok (.lreturn, 1) := by decide +kernel
theorem dX11_lost_32 : decode cX11_lost 32 = .ok (.lconst 0, 1) := by decide +kernel
theorem dX11_lost_33 : decode cX11_lost 33 = .ok (.lstore 6, 2) := by decide +kernel
theorem dX11_lost_35 : decode cX11_lost 35 = .ok (.iload_n 2, 1) := by decide +kernel
theorem dX11_lost_36 : decode cX11_lost 36 = .ok (.istore 8, 2) := by decide +kernel
theorem dX11_lost_38 : decode cX11_lost 38 = .ok (.iload 8, 2) := by decide +kernel
theorem dX11_lost_40 : decode cX11_lost 40 = .ok (.iload_n 3, 1) := by decide +kernel
theorem dX11_lost_41 : decode cX11_lost 41 = .ok (.if_icmp .gt 35, 3) := by decide +kernel
theorem dX11_lost_44 : decode cX11_lost 44 = .ok (.lload 6, 2) := by decide +kernel
theorem dX11_lost_46 : decode cX11_lost 46 = .ok (.aload_n 0, 1) := by decide +kernel
theorem dX11_lost_47 : decode cX11_lost 47 = .ok (.getfield 29, 3) := by decide +kernel
theorem dX11_lost_50 : decode cX11_lost 50 = .ok (.iload 8, 2) := by decide +kernel
theorem dX11_lost_52 : decode cX11_lost 52 = .ok (.aload_n 0, 1) := by decide +kernel
theorem dX11_lost_53 : decode cX11_lost 53 = .ok (.getfield 29, 3) := by decide +kernel
theorem dX11_lost_56 : decode cX11_lost 56 = .ok (.iload 8, 2) := by decide +kernel
theorem dX11_lost_58 : decode cX11_lost 58 = .ok (.iload 5, 2) := by decide +kernel
theorem dX11_lost_60 : decode cX11_lost 60 = .ok (.invokevirtual 200, 3) := by decide +kernel
theorem dX11_lost_63 : decode cX11_lost 63 = .ok (.invokevirtual 214, 3) := by decide +kernel
theorem dX11_lost_66 : decode cX11_lost 66 = .ok (.i2l, 1) := by decide +kernel
theorem dX11_lost_67 : decode cX11_lost 67 = .ok (.ladd, 1) := by decide +kernel
theorem dX11_lost_68 : decode cX11_lost 68 = .ok (.lstore 6, 2) := by decide +kernel
theorem dX11_lost_70 : decode cX11_lost 70 = .ok (.iinc 8 1, 3) := by decide +kernel
theorem dX11_lost_73 : decode cX11_lost 73 = .ok (.goto (-35), 3) := by decide +kernel
theorem dX11_lost_76 : decode cX11_lost 76 = .ok (.lload 6, 2) := by decide +kernel
theorem dX11_lost_78 : decode cX11_lost 78 = .ok (.lreturn, 1) := by decide +kernel
theorem dX11_widest_0 : decode cX11_widest 0 = .ok (.iload_n 2, 1) := by decide +kernel
theorem dX11_widest_1 : decode cX11_widest 1 = .ok (.iload_n 3, 1) := by decide +kernel
theorem dX11_widest_2 : decode cX11_widest 2 = .ok (.invokestatic 209, 3) := by decide +kernel
theorem dX11_widest_5 : decode cX11_widest 5 = .ok (.ifCond .eq 13, 3) := by decide +kernel
theorem dX11_widest_8 : decode cX11_widest 8 = .ok (.aload_n 0, 1) := by decide +kernel
theorem dX11_widest_9 : decode cX11_widest 9 = .ok (.iload_n 1, 1) := by decide +kernel
theorem dX11_widest_10 : decode cX11_widest 10 = .ok (.iload 4, 2) := by decide +kernel
theorem dX11_widest_12 : decode cX11_widest 12 = .ok (.invokevirtual 197, 3) := by decide +kernel
theorem dX11_widest_15 : decode cX11_widest 15 = .ok (.ifCond .ne 5, 3) := by decide +kernel
theorem dX11_widest_18 : decode cX11_widest 18 = .ok (.iconst (-1), 1) := by decide +kernel
theorem dX11_widest_19 : decode cX11_widest 19 = .ok (.ireturn, 1) := by decide +kernel
theorem dX11_widest_20 : decode cX11_widest 20 = .ok (.iload_n 2, 1) := by decide +kernel
theorem dX11_widest_21 : decode cX11_widest 21 = .ok (.istore 5, 2) := by decide +kernel
theorem dX11_widest_23 : decode cX11_widest 23 = .ok (.iload_n 2, 1) := by decide +kernel
theorem dX11_widest_24 : decode cX11_widest 24 = .ok (.iconst 1, 1) := by decide +kernel
theorem dX11_widest_25 : decode cX11_widest 25 = .ok (.iadd, 1) := by decide +kernel
theorem dX11_widest_26 : decode cX11_widest 26 = .ok (.istore 6, 2) := by decide +kernel
theorem dX11_widest_28 : decode cX11_widest 28 = .ok (.iload 6, 2) := by decide +kernel
theorem dX11_widest_30 : decode cX11_widest 30 = .ok (.iload_n 3, 1) := by decide +kernel
theorem dX11_widest_31 : decode cX11_widest 31 = .ok (.if_icmp .gt 34, 3) := by decide +kernel
theorem dX11_widest_34 : decode cX11_widest 34 = .ok (.aload_n 0, 1) := by decide +kernel
theorem dX11_widest_35 : decode cX11_widest 35 = .ok (.getfield 29, 3) := by decide +kernel
theorem dX11_widest_38 : decode cX11_widest 38 = .ok (.iload 6, 2) := by decide +kernel
theorem dX11_widest_40 : decode cX11_widest 40 = .ok (.invokevirtual 217, 3) := by decide +kernel
theorem dX11_widest_43 : decode cX11_widest 43 = .ok (.aload_n 0, 1) := by decide +kernel
theorem dX11_widest_44 : decode cX11_widest 44 = .ok (.getfield 29, 3) := by decide +kernel
theorem dX11_widest_47 : decode cX11_widest 47 = .ok (.iload 5, 2) := by decide +kernel
theorem dX11_widest_49 : decode cX11_widest 49 = .ok (.invokevirtual 217, 3) := by decide +kernel
theorem dX11_widest_52 : decode cX11_widest 52 = .ok (.if_icmp .le 7, 3) := by decide +kernel
theorem dX11_widest_55 : decode cX11_widest 55 = .ok (.iload 6, 2) := by decide +kernel
theorem dX11_widest_57 : decode cX11_widest 57 = .ok (.istore 5, 2) := by decide +kernel
theorem dX11_widest_59 : decode cX11_widest 59 = .ok (.iinc 6 1, 3) := by decide +kernel
theorem dX11_widest_62 : decode cX11_widest 62 = .ok (.goto (-34), 3) := by decide +kernel
theorem dX11_widest_65 : decode cX11_widest 65 = .ok (.iload 5, 2) := by decide +kernel
theorem dX11_widest_67 : decode cX11_widest 67 = .ok (.ireturn, 1) := by decide +kernel
theorem dX11_quarrels_0 : decode cX11_quarrels 0 = .ok (.aload_n 0, 1) := by decide +kernel
theorem dX11_quarrels_1 : decode cX11_quarrels 1 = .ok (.iload_n 1, 1) := by decide +kernel
theorem dX11_quarrels_2 : decode cX11_quarrels 2 = .ok (.invokevirtual 106, 3) := by decide +kernel
theorem dX11_quarrels_5 : decode cX11_quarrels 5 = .ok (.ifCond .eq 15, 3) := by decide +kernel
theorem dX11_quarrels_8 : decode cX11_quarrels 8 = .ok (.iload_n 2, 1) := by decide +kernel
theorem dX11_quarrels_9 : decode cX11_quarrels 9 = .ok (.invokestatic 102, 3) := by decide +kernel
theorem dX11_quarrels_12 : decode cX11_quarrels 12 = .ok (.ifCond .eq 8, 3) := by decide +kernel
theorem dX11_quarrels_15 : decode cX11_quarrels 15 = .ok (.iload_n 3, 1) := by decide +kernel
theorem dX11_quarrels_16 : decode cX11_quarrels 16 = .ok (.iconst (-1), 1) := by decide +kernel
theorem dX11_quarrels_17 : decode cX11_quarrels 17 = .ok (.if_icmp .ge 5, 3) := by decide +kernel
theorem dX11_quarrels_20 : decode cX11_quarrels 20 = .ok (.iconst (-1), 1) := by decide +kernel
theorem dX11_quarrels_21 : decode cX11_quarrels 21 = .ok (.ireturn, 1) := by decide +kernel
theorem dX11_quarrels_22 : decode cX11_quarrels 22 = .ok (.aload_n 0, 1) := by decide +kernel
theorem dX11_quarrels_23 : decode cX11_quarrels 23 = .ok (.getfield 38, 3) := by decide +kernel
theorem dX11_quarrels_26 : decode cX11_quarrels 26 = .ok (.iload_n 1, 1) := by decide +kernel
theorem dX11_quarrels_27 : decode cX11_quarrels 27 = .ok (.iload_n 2, 1) := by decide +kernel
theorem dX11_quarrels_28 : decode cX11_quarrels 28 = .ok (.invokevirtual 220, 3) := by decide +kernel
theorem dX11_quarrels_31 : decode cX11_quarrels 31 = .ok (.iload_n 3, 1) := by decide +kernel
theorem dX11_quarrels_32 : decode cX11_quarrels 32 = .ok (.iconst (-1), 1) := by decide +kernel
theorem dX11_quarrels_33 : decode cX11_quarrels 33 = .ok (.if_icmp .ne 13, 3) := by decide +kernel
theorem dX11_quarrels_36 : decode cX11_quarrels 36 = .ok (.aload_n 0, 1) := by decide +kernel
theorem dX11_quarrels_37 : decode cX11_quarrels 37 = .ok (.getfield 38, 3) := by decide +kernel
theorem dX11_quarrels_40 : decode cX11_quarrels 40 = .ok (.invokevirtual 223, 3) := by decide +kernel
theorem dX11_quarrels_43 : decode cX11_quarrels 43 = .ok (.goto 11, 3) := by decide +kernel
theorem dX11_quarrels_46 : decode cX11_quarrels 46 = .ok (.aload_n 0, 1) := by decide +kernel
theorem dX11_quarrels_47 : decode cX11_quarrels 47 = .ok (.getfield 38, 3) := by decide +kernel
theorem dX11_quarrels_50 : decode cX11_quarrels 50 = .ok (.iload_n 3, 1) := by decide +kernel
theorem dX11_quarrels_51 : decode cX11_quarrels 51 = .ok (.invokevirtual 227, 3) := by decide +kernel
theorem dX11_quarrels_54 : decode cX11_quarrels 54 = .ok (.ireturn, 1) := by decide +kernel
theorem dX11_quarrel_0 : decode cX11_quarrel 0 = .ok (.aload_n 0, 1) := by decide +kernel
theorem dX11_quarrel_1 : decode cX11_quarrel 1 = .ok (.iload_n 2, 1) := by decide +kernel
theorem dX11_quarrel_2 : decode cX11_quarrel 2 = .ok (.invokevirtual 230, 3) := by decide +kernel
theorem dX11_quarrel_5 : decode cX11_quarrel 5 = .ok (.ifCond .eq 11, 3) := by decide +kernel
theorem dX11_quarrel_8 : decode cX11_quarrel 8 = .ok (.aload_n 0, 1) := by decide +kernel
theorem dX11_quarrel_9 : decode cX11_quarrel 9 = .ok (.iload_n 1, 1) := by decide +kernel
theorem dX11_quarrel_10 : decode cX11_quarrel 10 = .ok (.invokevirtual 230, 3) := by decide +kernel
theorem dX11_quarrel_13 : decode cX11_quarrel 13 = .ok (.ifCond .ne 5, 3) := by decide +kernel
theorem dX11_quarrel_16 : decode cX11_quarrel 16 = .ok (.iconst (-1), 1) := by decide +kernel
theorem dX11_quarrel_17 : decode cX11_quarrel 17 = .ok (.ireturn, 1) := by decide +kernel
theorem dX11_quarrel_18 : decode cX11_quarrel 18 = .ok (.aload_n 0, 1) := by decide +kernel
theorem dX11_quarrel_19 : decode cX11_quarrel 19 = .ok (.getfield 10, 3) := by decide +kernel
theorem dX11_quarrel_22 : decode cX11_quarrel 22 = .ok (.getfield 153, 3) := by decide +kernel
theorem dX11_quarrel_25 : decode cX11_quarrel 25 = .ok (.getfield 157, 3) := by decide +kernel
theorem dX11_quarrel_28 : decode cX11_quarrel 28 = .ok (.iload_n 1, 1) := by decide +kernel
theorem dX11_quarrel_29 : decode cX11_quarrel 29 = .ok (.iaload, 1) := by decide +kernel
theorem dX11_quarrel_30 : decode cX11_quarrel 30 = .ok (.aload_n 0, 1) := by decide +kernel
theorem dX11_quarrel_31 : decode cX11_quarrel 31 = .ok (.getfield 10, 3) := by decide +kernel
theorem dX11_quarrel_34 : decode cX11_quarrel 34 = .ok (.getfield 153, 3) := by decide +kernel
theorem dX11_quarrel_37 : decode cX11_quarrel 37 = .ok (.getfield 157, 3) := by decide +kernel
theorem dX11_quarrel_40 : decode cX11_quarrel 40 = .ok (.iload_n 2, 1) := by decide +kernel
theorem dX11_quarrel_41 : decode cX11_quarrel 41 = .ok (.iaload, 1) := by decide +kernel
theorem dX11_quarrel_42 : decode cX11_quarrel 42 = .ok (.if_icmp .eq 5, 3) := by decide +kernel
theorem dX11_quarrel_45 : decode cX11_quarrel 45 = .ok (.iconst 0, 1) := by decide +kernel
theorem dX11_quarrel_46 : decode cX11_quarrel 46 = .ok (.ireturn, 1) := by decide +kernel
theorem dX11_quarrel_47 : decode cX11_quarrel 47 = .ok (.aload_n 0, 1) := by decide +kernel
theorem dX11_quarrel_48 : decode cX11_quarrel 48 = .ok (.getfield 29, 3) := by decide +kernel
theorem dX11_quarrel_51 : decode cX11_quarrel 51 = .ok (.iconst 1, 1) := by decide +kernel
theorem dX11_quarrel_52 : decode cX11_quarrel 52 = .ok (.iload_n 1, 1) := by decide +kernel
theorem dX11_quarrel_53 : decode cX11_quarrel 53 = .ok (.ishl, 1) := by decide +kernel
theorem dX11_quarrel_54 : decode cX11_quarrel 54 = .ok (.iconst 1, 1) := by decide +kernel
theorem dX11_quarrel_55 : decode cX11_quarrel 55 = .ok (.iload_n 2, 1) := by decide +kernel
theorem dX11_quarrel_56 : decode cX11_quarrel 56 = .ok (.ishl, 1) := by decide +kernel
theorem dX11_quarrel_57 : decode cX11_quarrel 57 = .ok (.ior, 1) := by decide +kernel
theorem dX11_quarrel_58 : decode cX11_quarrel 58 = .ok (.invokevirtual 233, 3) := by decide +kernel
theorem dX11_quarrel_61 : decode cX11_quarrel 61 = .ok (.ifCond .eq 7, 3) := by decide +kernel
theorem dX11_quarrel_64 : decode cX11_quarrel 64 = .ok (.iconst 0, 1) := by decide +kernel
theorem dX11_quarrel_65 : decode cX11_quarrel 65 = .ok (.goto 4, 3) := by decide +kernel
theorem dX11_quarrel_68 : decode cX11_quarrel 68 = .ok (.iconst 1, 1) := by decide +kernel
theorem dX11_quarrel_69 : decode cX11_quarrel 69 = .ok (.ireturn, 1) := by decide +kernel
theorem dX11_right_0 : decode cX11_right 0 = .ok (.aload_n 0, 1) := by decide +kernel
theorem dX11_right_1 : decode cX11_right 1 = .ok (.iload_n 1, 1) := by decide +kernel
theorem dX11_right_2 : decode cX11_right 2 = .ok (.invokevirtual 106, 3) := by decide +kernel
theorem dX11_right_5 : decode cX11_right 5 = .ok (.ifCond .eq 10, 3) := by decide +kernel
theorem dX11_right_8 : decode cX11_right 8 = .ok (.iload_n 2, 1) := by decide +kernel
theorem dX11_right_9 : decode cX11_right 9 = .ok (.invokestatic 102, 3) := by decide +kernel
theorem dX11_right_12 : decode cX11_right 12 = .ok (.ifCond .ne 5, 3) := by decide +kernel
theorem dX11_right_15 : decode cX11_right 15 = .ok (.iconst (-1), 1) := by decide +kernel
theorem dX11_right_16 : decode cX11_right 16 = .ok (.ireturn, 1) := by decide +kernel
theorem dX11_right_17 : decode cX11_right 17 = .ok (.aload_n 0, 1) := by decide +kernel
theorem dX11_right_18 : decode cX11_right 18 = .ok (.getfield 38, 3) := by decide +kernel
theorem dX11_right_21 : decode cX11_right 21 = .ok (.iload_n 1, 1) := by decide +kernel
theorem dX11_right_22 : decode cX11_right 22 = .ok (.iload_n 2, 1) := by decide +kernel
theorem dX11_right_23 : decode cX11_right 23 = .ok (.invokevirtual 220, 3) := by decide +kernel
theorem dX11_right_26 : decode cX11_right 26 = .ok (.aload_n 0, 1) := by decide +kernel
theorem dX11_right_27 : decode cX11_right 27 = .ok (.getfield 47, 3) := by decide +kernel
theorem dX11_right_30 : decode cX11_right 30 = .ok (.invokevirtual 236, 3) := by decide +kernel
theorem dX11_right_33 : decode cX11_right 33 = .ok (.aload_n 0, 1) := by decide +kernel
theorem dX11_right_34 : decode cX11_right 34 = .ok (.aload_n 0, 1) := by decide +kernel
theorem dX11_right_35 : decode cX11_right 35 = .ok (.getfield 47, 3) := by decide +kernel
theorem dX11_right_38 : decode cX11_right 38 = .ok (.getfield 239, 3) := by decide +kernel
theorem dX11_right_41 : decode cX11_right 41 = .ok (.putfield 242, 3) := by decide +kernel
theorem dX11_right_44 : decode cX11_right 44 = .ok (.aload_n 0, 1) := by decide +kernel
theorem dX11_right_45 : decode cX11_right 45 = .ok (.iconst 1, 1) := by decide +kernel
theorem dX11_right_46 : decode cX11_right 46 = .ok (.putfield 245, 3) := by decide +kernel
theorem dX11_right_49 : decode cX11_right 49 = .ok (.aload_n 0, 1) := by decide +kernel
theorem dX11_right_50 : decode cX11_right 50 = .ok (.getfield 47, 3) := by decide +kernel
theorem dX11_right_53 : decode cX11_right 53 = .ok (.invokevirtual 249, 3) := by decide +kernel
theorem dX11_right_56 : decode cX11_right 56 = .ok (.ireturn, 1) := by decide +kernel
theorem dX11_isRight_0 : decode cX11_isRight 0 = .ok (.aload_n 0, 1) := by decide +kernel
theorem dX11_isRight_1 : decode cX11_isRight 1 = .ok (.getfield 245, 3) := by decide +kernel
theorem dX11_isRight_4 : decode cX11_isRight 4 = .ok (.ifCond .eq 11, 3) := by decide +kernel
theorem dX11_isRight_7 : decode cX11_isRight 7 = .ok (.aload_n 0, 1) := by decide +kernel
theorem dX11_isRight_8 : decode cX11_isRight 8 = .ok (.iload_n 1, 1) := by decide +kernel
theorem dX11_isRight_9 : decode cX11_isRight 9 = .ok (.invokevirtual 150, 3) := by decide +kernel
theorem dX11_isRight_12 : decode cX11_isRight 12 = .ok (.ifCond .ne 5, 3) := by decide +kernel
theorem dX11_isRight_15 : decode cX11_isRight 15 = .ok (.iconst (-1), 1) := by decide +kernel
theorem dX11_isRight_16 : decode cX11_isRight 16 = .ok (.ireturn, 1) := by decide +kernel
theorem dX11_isRight_17 : decode cX11_isRight 17 = .ok (.aload_n 0, 1) := by decide +kernel
theorem dX11_isRight_18 : decode cX11_isRight 18 = .ok (.getfield 242, 3) := by decide +kernel
theorem dX11_isRight_21 : decode cX11_isRight 21 = .ok (.iload_n 1, 1) := by decide +kernel
theorem dX11_isRight_22 : decode cX11_isRight 22 = .ok (.ishr, 1) := by decide +kernel
theorem dX11_isRight_23 : decode cX11_isRight 23 = .ok (.iconst 1, 1) := by decide +kernel
theorem dX11_isRight_24 : decode cX11_isRight 24 = .ok (.iand, 1) := by decide +kernel
theorem dX11_isRight_25 : decode cX11_isRight 25 = .ok (.ireturn, 1) := by decide +kernel
theorem dX11_prove_0 : decode cX11_prove 0 = .ok (.aload_n 0, 1) := by decide +kernel
theorem dX11_prove_1 : decode cX11_prove 1 = .ok (.iload_n 1, 1) := by decide +kernel
theorem dX11_prove_2 : decode cX11_prove 2 = .ok (.invokevirtual 106, 3) := by decide +kernel
theorem dX11_prove_5 : decode cX11_prove 5 = .ok (.ifCond .eq 10, 3) := by decide +kernel
theorem dX11_prove_8 : decode cX11_prove 8 = .ok (.iload_n 2, 1) := by decide +kernel
theorem dX11_prove_9 : decode cX11_prove 9 = .ok (.invokestatic 102, 3) := by decide +kernel
theorem dX11_prove_12 : decode cX11_prove 12 = .ok (.ifCond .ne 5, 3) := by decide +kernel
theorem dX11_prove_15 : decode cX11_prove 15 = .ok (.iconst (-1), 1) := by decide +kernel
theorem dX11_prove_16 : decode cX11_prove 16 = .ok (.ireturn, 1) := by decide +kernel
theorem dX11_prove_17 : decode cX11_prove 17 = .ok (.aload_n 0, 1) := by decide +kernel
theorem dX11_prove_18 : decode cX11_prove 18 = .ok (.getfield 38, 3) := by decide +kernel
theorem dX11_prove_21 : decode cX11_prove 21 = .ok (.iload_n 1, 1) := by decide +kernel
theorem dX11_prove_22 : decode cX11_prove 22 = .ok (.iload_n 2, 1) := by decide +kernel
theorem dX11_prove_23 : decode cX11_prove 23 = .ok (.invokevirtual 220, 3) := by decide +kernel
theorem dX11_prove_26 : decode cX11_prove 26 = .ok (.aload_n 0, 1) := by decide +kernel
theorem dX11_prove_27 : decode cX11_prove 27 = .ok (.getfield 47, 3) := by decide +kernel
theorem dX11_prove_30 : decode cX11_prove 30 = .ok (.invokevirtual 236, 3) := by decide +kernel
theorem dX11_prove_33 : decode cX11_prove 33 = .ok (.aload_n 0, 1) := by decide +kernel
theorem dX11_prove_34 : decode cX11_prove 34 = .ok (.getfield 54, 3) := by decide +kernel
theorem dX11_prove_37 : decode cX11_prove 37 = .ok (.aload_n 0, 1) := by decide +kernel
theorem dX11_prove_38 : decode cX11_prove 38 = .ok (.getfield 47, 3) := by decide +kernel
theorem dX11_prove_41 : decode cX11_prove 41 = .ok (.invokevirtual 249, 3) := by decide +kernel
theorem dX11_prove_44 : decode cX11_prove 44 = .ok (.invokevirtual 252, 3) := by decide +kernel
theorem dX11_prove_47 : decode cX11_prove 47 = .ok (.ireturn, 1) := by decide +kernel
theorem dX11_proof_0 : decode cX11_proof 0 = .ok (.iload_n 1, 1) := by decide +kernel
theorem dX11_proof_1 : decode cX11_proof 1 = .ok (.iconst 0, 1) := by decide +kernel
theorem dX11_proof_2 : decode cX11_proof 2 = .ok (.aload_n 0, 1) := by decide +kernel
theorem dX11_proof_3 : decode cX11_proof 3 = .ok (.getfield 54, 3) := by decide +kernel
theorem dX11_proof_6 : decode cX11_proof 6 = .ok (.getfield 255, 3) := by decide +kernel
theorem dX11_proof_9 : decode cX11_proof 9 = .ok (.iconst 1, 1) := by decide +kernel
theorem dX11_proof_10 : decode cX11_proof 10 = .ok (.isub, 1) := by decide +kernel
theorem dX11_proof_11 : decode cX11_proof 11 = .ok (.invokestatic 79, 3) := by decide +kernel
theorem dX11_proof_14 : decode cX11_proof 14 = .ok (.ifCond .eq 15, 3) := by decide +kernel
theorem dX11_proof_17 : decode cX11_proof 17 = .ok (.aload_n 0, 1) := by decide +kernel
theorem dX11_proof_18 : decode cX11_proof 18 = .ok (.getfield 54, 3) := by decide +kernel
theorem dX11_proof_21 : decode cX11_proof 21 = .ok (.getfield 258, 3) := by decide +kernel
theorem dX11_proof_24 : decode cX11_proof 24 = .ok (.iload_n 1, 1) := by decide +kernel
theorem dX11_proof_25 : decode cX11_proof 25 = .ok (.iaload, 1) := by decide +kernel
theorem dX11_proof_26 : decode cX11_proof 26 = .ok (.goto 4, 3) := by decide +kernel
theorem dX11_proof_29 : decode cX11_proof 29 = .ok (.iconst (-1), 1) := by decide +kernel
theorem dX11_proof_30 : decode cX11_proof 30 = .ok (.ireturn, 1) := by decide +kernel
theorem dX11_feed_0 : decode cX11_feed 0 = .ok (.aload_n 0, 1) := by decide +kernel
theorem dX11_feed_1 : decode cX11_feed 1 = .ok (.getfield 61, 3) := by decide +kernel
theorem dX11_feed_4 : decode cX11_feed 4 = .ok (.iconst 5, 1) := by decide +kernel
theorem dX11_feed_5 : decode cX11_feed 5 = .ok (.invokevirtual 261, 3) := by decide +kernel
theorem dX11_feed_8 : decode cX11_feed 8 = .ok (.ifCond .ne 5, 3) := by decide +kernel
theorem dX11_feed_11 : decode cX11_feed 11 = .ok (.iconst (-1), 1) := by decide +kernel
theorem dX11_feed_12 : decode cX11_feed 12 = .ok (.ireturn, 1) := by decide +kernel
theorem dX11_feed_13 : decode cX11_feed 13 = .ok (.aload_n 0, 1) := by decide +kernel
theorem dX11_feed_14 : decode cX11_feed 14 = .ok (.getfield 61, 3) := by decide +kernel
theorem dX11_feed_17 : decode cX11_feed 17 = .ok (.iload_n 1, 1) := by decide +kernel
theorem dX11_feed_18 : decode cX11_feed 18 = .ok (.invokevirtual 264, 3) := by decide +kernel
theorem dX11_feed_21 : decode cX11_feed 21 = .ok (.aload_n 0, 1) := by decide +kernel
theorem dX11_feed_22 : decode cX11_feed 22 = .ok (.getfield 61, 3) := by decide +kernel
theorem dX11_feed_25 : decode cX11_feed 25 = .ok (.iload_n 2, 1) := by decide +kernel
theorem dX11_feed_26 : decode cX11_feed 26 = .ok (.invokevirtual 264, 3) := by decide +kernel
theorem dX11_feed_29 : decode cX11_feed 29 = .ok (.aload_n 0, 1) := by decide +kernel
theorem dX11_feed_30 : decode cX11_feed 30 = .ok (.getfield 61, 3) := by decide +kernel
theorem dX11_feed_33 : decode cX11_feed 33 = .ok (.iload_n 3, 1) := by decide +kernel
theorem dX11_feed_34 : decode cX11_feed 34 = .ok (.invokevirtual 264, 3) := by decide +kernel
theorem dX11_feed_37 : decode cX11_feed 37 = .ok (.aload_n 0, 1) := by decide +kernel
theorem dX11_feed_38 : decode cX11_feed 38 = .ok (.getfield 61, 3) := by decide +kernel
theorem dX11_feed_41 : decode cX11_feed 41 = .ok (.iload 4, 2) := by decide +kernel
theorem dX11_feed_43 : decode cX11_feed 43 = .ok (.invokevirtual 264, 3) := by decide +kernel
theorem dX11_feed_46 : decode cX11_feed 46 = .ok (.aload_n 0, 1) := by decide +kernel
theorem dX11_feed_47 : decode cX11_feed 47 = .ok (.getfield 61, 3) := by decide +kernel
theorem dX11_feed_50 : decode cX11_feed 50 = .ok (.iload 5, 2) := by decide +kernel
theorem dX11_feed_52 : decode cX11_feed 52 = .ok (.invokevirtual 264, 3) := by decide +kernel
theorem dX11_feed_55 : decode cX11_feed 55 = .ok (.aload_n 0, 1) := by decide +kernel
theorem dX11_feed_56 : decode cX11_feed 56 = .ok (.getfield 61, 3) := by decide +kernel
theorem dX11_feed_59 : decode cX11_feed 59 = .ok (.getfield 266, 3) := by decide +kernel
theorem dX11_feed_62 : decode cX11_feed 62 = .ok (.ireturn, 1) := by decide +kernel
theorem dX11_end_0 : decode cX11_end 0 = .ok (.iload_n 1, 1) := by decide +kernel
theorem dX11_end_1 : decode cX11_end 1 = .ok (.iconst 0, 1) := by decide +kernel
theorem dX11_end_2 : decode cX11_end 2 = .ok (.aload_n 0, 1) := by decide +kernel
theorem dX11_end_3 : decode cX11_end 3 = .ok (.getfield 61, 3) := by decide +kernel
theorem dX11_end_6 : decode cX11_end 6 = .ok (.getfield 266, 3) := by decide +kernel
theorem dX11_end_9 : decode cX11_end 9 = .ok (.invokestatic 79, 3) := by decide +kernel
theorem dX11_end_12 : decode cX11_end 12 = .ok (.ifCond .ne 5, 3) := by decide +kernel
theorem dX11_end_15 : decode cX11_end 15 = .ok (.iconst (-1), 1) := by decide +kernel
theorem dX11_end_16 : decode cX11_end 16 = .ok (.ireturn, 1) := by decide +kernel
theorem dX11_end_17 : decode cX11_end 17 = .ok (.aload_n 0, 1) := by decide +kernel
theorem dX11_end_18 : decode cX11_end 18 = .ok (.getfield 61, 3) := by decide +kernel
theorem dX11_end_21 : decode cX11_end 21 = .ok (.iload_n 1, 1) := by decide +kernel
theorem dX11_end_22 : decode cX11_end 22 = .ok (.putfield 266, 3) := by decide +kernel
theorem dX11_end_25 : decode cX11_end 25 = .ok (.iload_n 1, 1) := by decide +kernel
theorem dX11_end_26 : decode cX11_end 26 = .ok (.ireturn, 1) := by decide +kernel
theorem dX11_check_0 : decode cX11_check 0 = .ok (.iconst (-1), 1) := by decide +kernel
theorem dX11_check_1 : decode cX11_check 1 = .ok (.istore 4, 2) := by decide +kernel
theorem dX11_check_3 : decode cX11_check 3 = .ok (.aload_n 0, 1) := by decide +kernel
theorem dX11_check_4 : decode cX11_check 4 = .ok (.iload_n 1, 1) := by decide +kernel
theorem dX11_check_5 : decode cX11_check 5 = .ok (.invokevirtual 106, 3) := by decide +kernel
theorem dX11_check_8 : decode cX11_check 8 = .ok (.ifCond .eq 37, 3) := by decide +kernel
theorem dX11_check_11 : decode cX11_check 11 = .ok (.iload_n 2, 1) := by decide +kernel
theorem dX11_check_12 : decode cX11_check 12 = .ok (.invokestatic 102, 3) := by decide +kernel
theorem dX11_check_15 : decode cX11_check 15 = .ok (.ifCond .eq 30, 3) := by decide +kernel
theorem dX11_check_18 : decode cX11_check 18 = .ok (.aload_n 0, 1) := by decide +kernel
theorem dX11_check_19 : decode cX11_check 19 = .ok (.getfield 38, 3) := by decide +kernel
theorem dX11_check_22 : decode cX11_check 22 = .ok (.iload_n 1, 1) := by decide +kernel
theorem dX11_check_23 : decode cX11_check 23 = .ok (.iload_n 2, 1) := by decide +kernel
theorem dX11_check_24 : decode cX11_check 24 = .ok (.invokevirtual 220, 3) := by decide +kernel
theorem dX11_check_27 : decode cX11_check 27 = .ok (.aload_n 0, 1) := by decide +kernel
theorem dX11_check_28 : decode cX11_check 28 = .ok (.getfield 61, 3) := by decide +kernel
theorem dX11_check_31 : decode cX11_check 31 = .ok (.iload_n 3, 1) := by decide +kernel
theorem dX11_check_32 : decode cX11_check 32 = .ok (.invokevirtual 267, 3) := by decide +kernel
theorem dX11_check_35 : decode cX11_check 35 = .ok (.ifCond .eq 7, 3) := by decide +kernel
theorem dX11_check_38 : decode cX11_check 38 = .ok (.iconst 1, 1) := by decide +kernel
theorem dX11_check_39 : decode cX11_check 39 = .ok (.goto 4, 3) := by decide +kernel
theorem dX11_check_42 : decode cX11_check 42 = .ok (.iconst 0, 1) := by decide +kernel
theorem dX11_check_43 : decode cX11_check 43 = .ok (.istore 4, 2) := by decide +kernel
theorem dX11_check_45 : decode cX11_check 45 = .ok (.aload_n 0, 1) := by decide +kernel
theorem dX11_check_46 : decode cX11_check 46 = .ok (.getfield 61, 3) := by decide +kernel
theorem dX11_check_49 : decode cX11_check 49 = .ok (.iconst 0, 1) := by decide +kernel
theorem dX11_check_50 : decode cX11_check 50 = .ok (.putfield 266, 3) := by decide +kernel
theorem dX11_check_53 : decode cX11_check 53 = .ok (.iload 4, 2) := by decide +kernel
theorem dX11_check_55 : decode cX11_check 55 = .ok (.ireturn, 1) := by decide +kernel
theorem dX11_fault_0 : decode cX11_fault 0 = .ok (.aload_n 0, 1) := by decide +kernel
theorem dX11_fault_1 : decode cX11_fault 1 = .ok (.getfield 61, 3) := by decide +kernel
theorem dX11_fault_4 : decode cX11_fault 4 = .ok (.getfield 270, 3) := by decide +kernel
theorem dX11_fault_7 : decode cX11_fault 7 = .ok (.ireturn, 1) := by decide +kernel
theorem dX11_miss_0 : decode cX11_miss 0 = .ok (.aload_n 0, 1) := by decide +kernel
theorem dX11_miss_1 : decode cX11_miss 1 = .ok (.iload_n 1, 1) := by decide +kernel
theorem dX11_miss_2 : decode cX11_miss 2 = .ok (.invokevirtual 106, 3) := by decide +kernel
theorem dX11_miss_5 : decode cX11_miss 5 = .ok (.ifCond .eq 10, 3) := by decide +kernel
theorem dX11_miss_8 : decode cX11_miss 8 = .ok (.iload_n 2, 1) := by decide +kernel
theorem dX11_miss_9 : decode cX11_miss 9 = .ok (.invokestatic 102, 3) := by decide +kernel
theorem dX11_miss_12 : decode cX11_miss 12 = .ok (.ifCond .ne 5, 3) := by decide +kernel
theorem dX11_miss_15 : decode cX11_miss 15 = .ok (.iconst (-1), 1) := by decide +kernel
theorem dX11_miss_16 : decode cX11_miss 16 = .ok (.ireturn, 1) := by decide +kernel
theorem dX11_miss_17 : decode cX11_miss 17 = .ok (.aload_n 0, 1) := by decide +kernel
theorem dX11_miss_18 : decode cX11_miss 18 = .ok (.getfield 29, 3) := by decide +kernel
theorem dX11_miss_21 : decode cX11_miss 21 = .ok (.iload_n 1, 1) := by decide +kernel
theorem dX11_miss_22 : decode cX11_miss 22 = .ok (.invokevirtual 139, 3) := by decide +kernel
theorem dX11_miss_25 : decode cX11_miss 25 = .ok (.aload_n 0, 1) := by decide +kernel
theorem dX11_miss_26 : decode cX11_miss 26 = .ok (.getfield 68, 3) := by decide +kernel
theorem dX11_miss_29 : decode cX11_miss 29 = .ok (.aload_n 0, 1) := by decide +kernel
theorem dX11_miss_30 : decode cX11_miss 30 = .ok (.getfield 29, 3) := by decide +kernel
theorem dX11_miss_33 : decode cX11_miss 33 = .ok (.iload_n 2, 1) := by decide +kernel
theorem dX11_miss_34 : decode cX11_miss 34 = .ok (.invokevirtual 203, 3) := by decide +kernel
theorem dX11_miss_37 : decode cX11_miss 37 = .ok (.invokevirtual 273, 3) := by decide +kernel
theorem dX11_miss_40 : decode cX11_miss 40 = .ok (.ireturn, 1) := by decide +kernel
theorem dX11_curve_0 : decode cX11_curve 0 = .ok (.aload_n 0, 1) := by decide +kernel
theorem dX11_curve_1 : decode cX11_curve 1 = .ok (.getfield 68, 3) := by decide +kernel
theorem dX11_curve_4 : decode cX11_curve 4 = .ok (.getfield 276, 3) := by decide +kernel
theorem dX11_curve_7 : decode cX11_curve 7 = .ok (.ifCond .eq 22, 3) := by decide +kernel
theorem dX11_curve_10 : decode cX11_curve 10 = .ok (.iload_n 1, 1) := by decide +kernel
theorem dX11_curve_11 : decode cX11_curve 11 = .ok (.invokestatic 102, 3) := by decide +kernel
theorem dX11_curve_14 : decode cX11_curve 14 = .ok (.ifCond .eq 15, 3) := by decide +kernel
theorem dX11_curve_17 : decode cX11_curve 17 = .ok (.aload_n 0, 1) := by decide +kernel
theorem dX11_curve_18 : decode cX11_curve 18 = .ok (.getfield 68, 3) := by decide +kernel
theorem dX11_curve_21 : decode cX11_curve 21 = .ok (.getfield 279, 3) := by decide +kernel
theorem dX11_curve_24 : decode cX11_curve 24 = .ok (.iload_n 1, 1) := by decide +kernel
theorem dX11_curve_25 : decode cX11_curve 25 = .ok (.iaload, 1) := by decide +kernel
theorem dX11_curve_26 : decode cX11_curve 26 = .ok (.goto 4, 3) := by decide +kernel
theorem dX11_curve_29 : decode cX11_curve 29 = .ok (.iconst (-1), 1) := by decide +kernel
theorem dX11_curve_30 : decode cX11_curve 30 = .ok (.ireturn, 1) := by decide +kernel
theorem dX11_hidden_0 : decode cX11_hidden 0 = .ok (.aload_n 0, 1) := by decide +kernel
theorem dX11_hidden_1 : decode cX11_hidden 1 = .ok (.iload_n 1, 1) := by decide +kernel
theorem dX11_hidden_2 : decode cX11_hidden 2 = .ok (.invokevirtual 106, 3) := by decide +kernel
theorem dX11_hidden_5 : decode cX11_hidden 5 = .ok (.ifCond .eq 20, 3) := by decide +kernel
theorem dX11_hidden_8 : decode cX11_hidden 8 = .ok (.iload_n 2, 1) := by decide +kernel
theorem dX11_hidden_9 : decode cX11_hidden 9 = .ok (.invokestatic 102, 3) := by decide +kernel
theorem dX11_hidden_12 : decode cX11_hidden 12 = .ok (.ifCond .eq 13, 3) := by decide +kernel
theorem dX11_hidden_15 : decode cX11_hidden 15 = .ok (.iload_n 3, 1) := by decide +kernel
theorem dX11_hidden_16 : decode cX11_hidden 16 = .ok (.iconst 0, 1) := by decide +kernel
theorem dX11_hidden_17 : decode cX11_hidden 17 = .ok (.ldc 132, 2) := by decide +kernel
theorem dX11_hidden_19 : decode cX11_hidden 19 = .ok (.invokestatic 79, 3) := by decide +kernel
theorem dX11_hidden_22 : decode cX11_hidden 22 = .ok (.ifCond .ne 5, 3) := by decide +kernel
theorem dX11_hidden_25 : decode cX11_hidden 25 = .ok (.iconst (-1), 1) := by decide +kernel
theorem dX11_hidden_26 : decode cX11_hidden 26 = .ok (.ireturn, 1) := by decide +kernel
theorem dX11_hidden_27 : decode cX11_hidden 27 = .ok (.aload_n 0, 1) := by decide +kernel
theorem dX11_hidden_28 : decode cX11_hidden 28 = .ok (.getfield 29, 3) := by decide +kernel
theorem dX11_hidden_31 : decode cX11_hidden 31 = .ok (.iload_n 1, 1) := by decide +kernel
theorem dX11_hidden_32 : decode cX11_hidden 32 = .ok (.invokevirtual 139, 3) := by decide +kernel
theorem dX11_hidden_35 : decode cX11_hidden 35 = .ok (.aload_n 0, 1) := by decide +kernel
theorem dX11_hidden_36 : decode cX11_hidden 36 = .ok (.getfield 68, 3) := by decide +kernel
theorem dX11_hidden_39 : decode cX11_hidden 39 = .ok (.aload_n 0, 1) := by decide +kernel
theorem dX11_hidden_40 : decode cX11_hidden 40 = .ok (.getfield 29, 3) := by decide +kernel
theorem dX11_hidden_43 : decode cX11_hidden 43 = .ok (.iload_n 2, 1) := by decide +kernel
theorem dX11_hidden_44 : decode cX11_hidden 44 = .ok (.invokevirtual 203, 3) := by decide +kernel
theorem dX11_hidden_47 : decode cX11_hidden 47 = .ok (.iload_n 3, 1) := by decide +kernel
theorem dX11_hidden_48 : decode cX11_hidden 48 = .ok (.invokevirtual 282, 3) := by decide +kernel
theorem dX11_hidden_51 : decode cX11_hidden 51 = .ok (.ireturn, 1) := by decide +kernel
theorem dX11_hid_0 : decode cX11_hid 0 = .ok (.iload_n 1, 1) := by decide +kernel
theorem dX11_hid_1 : decode cX11_hid 1 = .ok (.iconst 0, 1) := by decide +kernel
theorem dX11_hid_2 : decode cX11_hid 2 = .ok (.aload_n 0, 1) := by decide +kernel
theorem dX11_hid_3 : decode cX11_hid 3 = .ok (.getfield 68, 3) := by decide +kernel
theorem dX11_hid_6 : decode cX11_hid 6 = .ok (.getfield 285, 3) := by decide +kernel
theorem dX11_hid_9 : decode cX11_hid 9 = .ok (.iconst 1, 1) := by decide +kernel
theorem dX11_hid_10 : decode cX11_hid 10 = .ok (.isub, 1) := by decide +kernel
theorem dX11_hid_11 : decode cX11_hid 11 = .ok (.invokestatic 79, 3) := by decide +kernel
theorem dX11_hid_14 : decode cX11_hid 14 = .ok (.ifCond .eq 15, 3) := by decide +kernel
theorem dX11_hid_17 : decode cX11_hid 17 = .ok (.aload_n 0, 1) := by decide +kernel
theorem dX11_hid_18 : decode cX11_hid 18 = .ok (.getfield 68, 3) := by decide +kernel
theorem dX11_hid_21 : decode cX11_hid 21 = .ok (.getfield 288, 3) := by decide +kernel
theorem dX11_hid_24 : decode cX11_hid 24 = .ok (.iload_n 1, 1) := by decide +kernel
theorem dX11_hid_25 : decode cX11_hid 25 = .ok (.iaload, 1) := by decide +kernel
theorem dX11_hid_26 : decode cX11_hid 26 = .ok (.goto 4, 3) := by decide +kernel
theorem dX11_hid_29 : decode cX11_hid 29 = .ok (.iconst (-1), 1) := by decide +kernel
theorem dX11_hid_30 : decode cX11_hid 30 = .ok (.ireturn, 1) := by decide +kernel
theorem dX11_call_0 : decode cX11_call 0 = .ok (.iload_n 1, 1) := by decide +kernel
theorem dX11_call_1 : decode cX11_call 1 = .ok (.invokestatic 102, 3) := by decide +kernel
theorem dX11_call_4 : decode cX11_call 4 = .ok (.ifCond .ne 9, 3) := by decide +kernel
theorem dX11_call_7 : decode cX11_call 7 = .ok (.aload_n 0, 1) := by decide +kernel
theorem dX11_call_8 : decode cX11_call 8 = .ok (.iconst (-1), 1) := by decide +kernel
theorem dX11_call_9 : decode cX11_call 9 = .ok (.invokevirtual 83, 3) := by decide +kernel
theorem dX11_call_12 : decode cX11_call 12 = .ok (.ireturn, 1) := by decide +kernel
theorem dX11_call_13 : decode cX11_call 13 = .ok (.aload_n 0, 1) := by decide +kernel
theorem dX11_call_14 : decode cX11_call 14 = .ok (.getfield 75, 3) := by decide +kernel
theorem dX11_call_17 : decode cX11_call 17 = .ok (.getfield 291, 3) := by decide +kernel
theorem dX11_call_20 : decode cX11_call 20 = .ok (.iload_n 1, 1) := by decide +kernel
theorem dX11_call_21 : decode cX11_call 21 = .ok (.iaload, 1) := by decide +kernel
theorem dX11_call_22 : decode cX11_call 22 = .ok (.ifCond .eq 10, 3) := by decide +kernel
theorem dX11_call_25 : decode cX11_call 25 = .ok (.aload_n 0, 1) := by decide +kernel
theorem dX11_call_26 : decode cX11_call 26 = .ok (.bipush (-4), 2) := by decide +kernel
theorem dX11_call_28 : decode cX11_call 28 = .ok (.invokevirtual 83, 3) := by decide +kernel
theorem dX11_call_31 : decode cX11_call 31 = .ok (.ireturn, 1) := by decide +kernel
theorem dX11_call_32 : decode cX11_call 32 = .ok (.aload_n 0, 1) := by decide +kernel
theorem dX11_call_33 : decode cX11_call 33 = .ok (.getfield 75, 3) := by decide +kernel
theorem dX11_call_36 : decode cX11_call 36 = .ok (.getfield 294, 3) := by decide +kernel
theorem dX11_call_39 : decode cX11_call 39 = .ok (.bipush 7, 2) := by decide +kernel
theorem dX11_call_41 : decode cX11_call 41 = .ok (.if_icmp .lt 10, 3) := by decide +kernel
theorem dX11_call_44 : decode cX11_call 44 = .ok (.aload_n 0, 1) := by decide +kernel
theorem dX11_call_45 : decode cX11_call 45 = .ok (.bipush (-5), 2) := by decide +kernel
theorem dX11_call_47 : decode cX11_call 47 = .ok (.invokevirtual 83, 3) := by decide +kernel
theorem dX11_call_50 : decode cX11_call 50 = .ok (.ireturn, 1) := by decide +kernel
theorem dX11_call_51 : decode cX11_call 51 = .ok (.aload_n 0, 1) := by decide +kernel
theorem dX11_call_52 : decode cX11_call 52 = .ok (.getfield 75, 3) := by decide +kernel
theorem dX11_call_55 : decode cX11_call 55 = .ok (.iload_n 1, 1) := by decide +kernel
theorem dX11_call_56 : decode cX11_call 56 = .ok (.invokevirtual 295, 3) := by decide +kernel
theorem dX11_call_59 : decode cX11_call 59 = .ok (.aload_n 0, 1) := by decide +kernel
theorem dX11_call_60 : decode cX11_call 60 = .ok (.aload_n 0, 1) := by decide +kernel
theorem dX11_call_61 : decode cX11_call 61 = .ok (.getfield 75, 3) := by decide +kernel
theorem dX11_call_64 : decode cX11_call 64 = .ok (.getfield 294, 3) := by decide +kernel
theorem dX11_call_67 : decode cX11_call 67 = .ok (.invokevirtual 91, 3) := by decide +kernel
theorem dX11_call_70 : decode cX11_call 70 = .ok (.ireturn, 1) := by decide +kernel
theorem dX11_clear_0 : decode cX11_clear 0 = .ok (.aload_n 0, 1) := by decide +kernel
theorem dX11_clear_1 : decode cX11_clear 1 = .ok (.getfield 75, 3) := by decide +kernel
theorem dX11_clear_4 : decode cX11_clear 4 = .ok (.getfield 294, 3) := by decide +kernel
theorem dX11_clear_7 : decode cX11_clear 7 = .ok (.istore_n 1, 1) := by decide +kernel
theorem dX11_clear_8 : decode cX11_clear 8 = .ok (.aload_n 0, 1) := by decide +kernel
theorem dX11_clear_9 : decode cX11_clear 9 = .ok (.getfield 75, 3) := by decide +kernel
theorem dX11_clear_12 : decode cX11_clear 12 = .ok (.invokevirtual 296, 3) := by decide +kernel
theorem dX11_clear_15 : decode cX11_clear 15 = .ok (.iload_n 1, 1) := by decide +kernel
theorem dX11_clear_16 : decode cX11_clear 16 = .ok (.ireturn, 1) := by decide +kernel
theorem dX11_plan_0 : decode cX11_plan 0 = .ok (.iload_n 2, 1) := by decide +kernel
theorem dX11_plan_1 : decode cX11_plan 1 = .ok (.iload_n 3, 1) := by decide +kernel
theorem dX11_plan_2 : decode cX11_plan 2 = .ok (.invokestatic 209, 3) := by decide +kernel
theorem dX11_plan_5 : decode cX11_plan 5 = .ok (.ifCond .eq 13, 3) := by decide +kernel
theorem dX11_plan_8 : decode cX11_plan 8 = .ok (.aload_n 0, 1) := by decide +kernel
theorem dX11_plan_9 : decode cX11_plan 9 = .ok (.iload_n 1, 1) := by decide +kernel
theorem dX11_plan_10 : decode cX11_plan 10 = .ok (.iload 4, 2) := by decide +kernel
theorem dX11_plan_12 : decode cX11_plan 12 = .ok (.invokevirtual 197, 3) := by decide +kernel
theorem dX11_plan_15 : decode cX11_plan 15 = .ok (.ifCond .ne 5, 3) := by decide +kernel
theorem dX11_plan_18 : decode cX11_plan 18 = .ok (.iconst (-1), 1) := by decide +kernel
theorem dX11_plan_19 : decode cX11_plan 19 = .ok (.ireturn, 1) := by decide +kernel
theorem dX11_plan_20 : decode cX11_plan 20 = .ok (.aload_n 0, 1) := by decide +kernel
theorem dX11_plan_21 : decode cX11_plan 21 = .ok (.getfield 75, 3) := by decide +kernel
theorem dX11_plan_24 : decode cX11_plan 24 = .ok (.iload_n 2, 1) := by decide +kernel
theorem dX11_plan_25 : decode cX11_plan 25 = .ok (.iload_n 3, 1) := by decide +kernel
theorem dX11_plan_26 : decode cX11_plan 26 = .ok (.invokevirtual 299, 3) := by decide +kernel
theorem dX11_plan_29 : decode cX11_plan 29 = .ok (.ireturn, 1) := by decide +kernel
theorem dX11_judge_0 : decode cX11_judge 0 = .ok (.iload_n 2, 1) := by decide +kernel
theorem dX11_judge_1 : decode cX11_judge 1 = .ok (.iconst 0, 1) := by decide +kernel
theorem dX11_judge_2 : decode cX11_judge 2 = .ok (.iconst 1, 1) := by decide +kernel
theorem dX11_judge_3 : decode cX11_judge 3 = .ok (.aload_n 0, 1) := by decide +kernel
theorem dX11_judge_4 : decode cX11_judge 4 = .ok (.getfield 75, 3) := by decide +kernel
theorem dX11_judge_7 : decode cX11_judge 7 = .ok (.getfield 294, 3) := by decide +kernel
theorem dX11_judge_10 : decode cX11_judge 10 = .ok (.ishl, 1) := by decide +kernel
theorem dX11_judge_11 : decode cX11_judge 11 = .ok (.iconst 1, 1) := by decide +kernel
theorem dX11_judge_12 : decode cX11_judge 12 = .ok (.isub, 1) := by decide +kernel
theorem dX11_judge_13 : decode cX11_judge 13 = .ok (.invokestatic 79, 3) := by decide +kernel
theorem dX11_judge_16 : decode cX11_judge 16 = .ok (.ifCond .eq 12, 3) := by decide +kernel
theorem dX11_judge_19 : decode cX11_judge 19 = .ok (.iload_n 3, 1) := by decide +kernel
theorem dX11_judge_20 : decode cX11_judge 20 = .ok (.iload 4, 2) := by decide +kernel
theorem dX11_judge_22 : decode cX11_judge 22 = .ok (.invokestatic 209, 3) := by decide +kernel
theorem dX11_judge_25 : decode cX11_judge 25 = .ok (.ifCond .ne 7, 3) := by decide +kernel
theorem dX11_judge_28 : decode cX11_judge 28 = .ok (.ldc2_w 212, 3) := by decide +kernel
theorem dX11_judge_31 : decode cX11_judge 31 = .ok (.lreturn, 1) := by decide +kernel
theorem dX11_judge_32 : decode cX11_judge 32 = .ok (.aload_n 0, 1) := by decide +kernel
theorem dX11_judge_33 : decode cX11_judge 33 = .ok (.iload_n 1, 1) := by decide +kernel
theorem dX11_judge_34 : decode cX11_judge 34 = .ok (.iload 5, 2) := by decide +kernel
theorem dX11_judge_36 : decode cX11_judge 36 = .ok (.invokevirtual 197, 3) := by decide +kernel
theorem dX11_judge_39 : decode cX11_judge 39 = .ok (.ifCond .eq 17, 3) := by decide +kernel
theorem dX11_judge_42 : decode cX11_judge 42 = .ok (.aload_n 0, 1) := by decide +kernel
theorem dX11_judge_43 : decode cX11_judge 43 = .ok (.getfield 75, 3) := by decide +kernel
theorem dX11_judge_46 : decode cX11_judge 46 = .ok (.iload_n 2, 1) := by decide +kernel
theorem dX11_judge_47 : decode cX11_judge 47 = .ok (.iload_n 3, 1) := by decide +kernel
theorem dX11_judge_48 : decode cX11_judge 48 = .ok (.iload 4, 2) := by decide +kernel
theorem dX11_judge_50 : decode cX11_judge 50 = .ok (.invokevirtual 302, 3) := by decide +kernel
theorem dX11_judge_53 : decode cX11_judge 53 = .ok (.goto 6, 3) := by decide +kernel
theorem dX11_judge_56 : decode cX11_judge 56 = .ok (.ldc2_w 212, 3) := by decide +kernel
theorem dX11_judge_59 : decode cX11_judge 59 = .ok (.lreturn, 1) := by decide +kernel
theorem dX11_seal_0 : decode cX11_seal 0 = .ok (.aload_n 0, 1) := by decide +kernel
theorem dX11_seal_1 : decode cX11_seal 1 = .ok (.getfield 10, 3) := by decide +kernel
theorem dX11_seal_4 : decode cX11_seal 4 = .ok (.getfield 153, 3) := by decide +kernel
theorem dX11_seal_7 : decode cX11_seal 7 = .ok (.astore_n 1, 1) := by decide +kernel
theorem dX11_seal_8 : decode cX11_seal 8 = .ok (.aload_n 0, 1) := by decide +kernel
theorem dX11_seal_9 : decode cX11_seal 9 = .ok (.getfield 10, 3) := by decide +kernel
theorem dX11_seal_12 : decode cX11_seal 12 = .ok (.aload_n 1, 1) := by decide +kernel
theorem dX11_seal_13 : decode cX11_seal 13 = .ok (.getfield 306, 3) := by decide +kernel
theorem dX11_seal_16 : decode cX11_seal 16 = .ok (.putfield 307, 3) := by decide +kernel
theorem dX11_seal_19 : decode cX11_seal 19 = .ok (.aload_n 0, 1) := by decide +kernel
theorem dX11_seal_20 : decode cX11_seal 20 = .ok (.getfield 10, 3) := by decide +kernel
theorem dX11_seal_23 : decode cX11_seal 23 = .ok (.aload_n 1, 1) := by decide +kernel
theorem dX11_seal_24 : decode cX11_seal 24 = .ok (.invokevirtual 310, 3) := by decide +kernel
theorem dX11_seal_27 : decode cX11_seal 27 = .ok (.putfield 314, 3) := by decide +kernel
theorem dX11_seal_30 : decode cX11_seal 30 = .ok (.aload_n 0, 1) := by decide +kernel
theorem dX11_seal_31 : decode cX11_seal 31 = .ok (.getfield 10, 3) := by decide +kernel
theorem dX11_seal_34 : decode cX11_seal 34 = .ok (.aload_n 1, 1) := by decide +kernel
theorem dX11_seal_35 : decode cX11_seal 35 = .ok (.invokevirtual 318, 3) := by decide +kernel
theorem dX11_seal_38 : decode cX11_seal 38 = .ok (.putfield 321, 3) := by decide +kernel
theorem dX11_seal_41 : decode cX11_seal 41 = .ok (.aload_n 1, 1) := by decide +kernel
theorem dX11_seal_42 : decode cX11_seal 42 = .ok (.getfield 306, 3) := by decide +kernel
theorem dX11_seal_45 : decode cX11_seal 45 = .ok (.ireturn, 1) := by decide +kernel
theorem dX11_alter_0 : decode cX11_alter 0 = .ok (.iload_n 2, 1) := by decide +kernel
theorem dX11_alter_1 : decode cX11_alter 1 = .ok (.iconst 1, 1) := by decide +kernel
theorem dX11_alter_2 : decode cX11_alter 2 = .ok (.sipush 255, 3) := by decide +kernel
theorem dX11_alter_5 : decode cX11_alter 5 = .ok (.invokestatic 79, 3) := by decide +kernel
theorem dX11_alter_8 : decode cX11_alter 8 = .ok (.ifCond .ne 9, 3) := by decide +kernel
theorem dX11_alter_11 : decode cX11_alter 11 = .ok (.aload_n 0, 1) := by decide +kernel
theorem dX11_alter_12 : decode cX11_alter 12 = .ok (.iconst (-1), 1) := by decide +kernel
theorem dX11_alter_13 : decode cX11_alter 13 = .ok (.invokevirtual 83, 3) := by decide +kernel
theorem dX11_alter_16 : decode cX11_alter 16 = .ok (.ireturn, 1) := by decide +kernel
theorem dX11_alter_17 : decode cX11_alter 17 = .ok (.aload_n 0, 1) := by decide +kernel
theorem dX11_alter_18 : decode cX11_alter 18 = .ok (.iload_n 1, 1) := by decide +kernel
theorem dX11_alter_19 : decode cX11_alter 19 = .ok (.invokevirtual 150, 3) := by decide +kernel
theorem dX11_alter_22 : decode cX11_alter 22 = .ok (.ifCond .ne 10, 3) := by decide +kernel
theorem dX11_alter_25 : decode cX11_alter 25 = .ok (.aload_n 0, 1) := by decide +kernel
theorem dX11_alter_26 : decode cX11_alter 26 = .ok (.bipush (-2), 2) := by decide +kernel
theorem dX11_alter_28 : decode cX11_alter 28 = .ok (.invokevirtual 83, 3) := by decide +kernel
theorem dX11_alter_31 : decode cX11_alter 31 = .ok (.ireturn, 1) := by decide +kernel
theorem dX11_alter_32 : decode cX11_alter 32 = .ok (.aload_n 0, 1) := by decide +kernel
theorem dX11_alter_33 : decode cX11_alter 33 = .ok (.getfield 10, 3) := by decide +kernel
theorem dX11_alter_36 : decode cX11_alter 36 = .ok (.getfield 153, 3) := by decide +kernel
theorem dX11_alter_39 : decode cX11_alter 39 = .ok (.getfield 324, 3) := by decide +kernel
theorem dX11_alter_42 : decode cX11_alter 42 = .ok (.iload_n 1, 1) := by decide +kernel
theorem dX11_alter_43 : decode cX11_alter 43 = .ok (.dup2, 1) := by decide +kernel
theorem dX11_alter_44 : decode cX11_alter 44 = .ok (.iaload, 1) := by decide +kernel
theorem dX11_alter_45 : decode cX11_alter 45 = .ok (.iload_n 2, 1) := by decide +kernel
theorem dX11_alter_46 : decode cX11_alter 46 = .ok (.ixor, 1) := by decide +kernel
theorem dX11_alter_47 : decode cX11_alter 47 = .ok (.iastore, 1) := by decide +kernel
theorem dX11_alter_48 : decode cX11_alter 48 = .ok (.aload_n 0, 1) := by decide +kernel
theorem dX11_alter_49 : decode cX11_alter 49 = .ok (.aload_n 0, 1) := by decide +kernel
theorem dX11_alter_50 : decode cX11_alter 50 = .ok (.getfield 10, 3) := by decide +kernel
theorem dX11_alter_53 : decode cX11_alter 53 = .ok (.getfield 153, 3) := by decide +kernel
theorem dX11_alter_56 : decode cX11_alter 56 = .ok (.getfield 324, 3) := by decide +kernel
theorem dX11_alter_59 : decode cX11_alter 59 = .ok (.iload_n 1, 1) := by decide +kernel
theorem dX11_alter_60 : decode cX11_alter 60 = .ok (.iaload, 1) := by decide +kernel
theorem dX11_alter_61 : decode cX11_alter 61 = .ok (.invokevirtual 91, 3) := by decide +kernel
theorem dX11_alter_64 : decode cX11_alter 64 = .ok (.ireturn, 1) := by decide +kernel
theorem dX11_found_0 : decode cX11_found 0 = .ok (.aload_n 0, 1) := by decide +kernel
theorem dX11_found_1 : decode cX11_found 1 = .ok (.getfield 10, 3) := by decide +kernel
theorem dX11_found_4 : decode cX11_found 4 = .ok (.getfield 153, 3) := by decide +kernel
theorem dX11_found_7 : decode cX11_found 7 = .ok (.astore_n 1, 1) := by decide +kernel
theorem dX11_found_8 : decode cX11_found 8 = .ok (.aload_n 0, 1) := by decide +kernel
theorem dX11_found_9 : decode cX11_found 9 = .ok (.getfield 10, 3) := by decide +kernel
theorem dX11_found_12 : decode cX11_found 12 = .ok (.getfield 307, 3) := by decide +kernel
theorem dX11_found_15 : decode cX11_found 15 = .ok (.iconst (-1), 1) := by decide +kernel
theorem dX11_found_16 : decode cX11_found 16 = .ok (.if_icmp .ne 6, 3) := by decide +kernel
theorem dX11_found_19 : decode cX11_found 19 = .ok (.bipush (-3), 2) := by decide +kernel
theorem dX11_found_21 : decode cX11_found 21 = .ok (.ireturn, 1) := by decide +kernel
theorem dX11_found_22 : decode cX11_found 22 = .ok (.aload_n 1, 1) := by decide +kernel
theorem dX11_found_23 : decode cX11_found 23 = .ok (.getfield 306, 3) := by decide +kernel
theorem dX11_found_26 : decode cX11_found 26 = .ok (.aload_n 0, 1) := by decide +kernel
theorem dX11_found_27 : decode cX11_found 27 = .ok (.getfield 10, 3) := by decide +kernel
theorem dX11_found_30 : decode cX11_found 30 = .ok (.getfield 307, 3) := by decide +kernel
theorem dX11_found_33 : decode cX11_found 33 = .ok (.if_icmp .le 6, 3) := by decide +kernel
theorem dX11_found_36 : decode cX11_found 36 = .ok (.bipush (-2), 2) := by decide +kernel
theorem dX11_found_38 : decode cX11_found 38 = .ok (.ireturn, 1) := by decide +kernel
theorem dX11_found_39 : decode cX11_found 39 = .ok (.aload_n 1, 1) := by decide +kernel
theorem dX11_found_40 : decode cX11_found 40 = .ok (.invokevirtual 310, 3) := by decide +kernel
theorem dX11_found_43 : decode cX11_found 43 = .ok (.aload_n 0, 1) := by decide +kernel
theorem dX11_found_44 : decode cX11_found 44 = .ok (.getfield 10, 3) := by decide +kernel
theorem dX11_found_47 : decode cX11_found 47 = .ok (.getfield 314, 3) := by decide +kernel
theorem dX11_found_50 : decode cX11_found 50 = .ok (.lsub, 1) := by decide +kernel
theorem dX11_found_51 : decode cX11_found 51 = .ok (.lstore_n 2, 1) := by decide +kernel
theorem dX11_found_52 : decode cX11_found 52 = .ok (.aload_n 1, 1) := by decide +kernel
theorem dX11_found_53 : decode cX11_found 53 = .ok (.invokevirtual 318, 3) := by decide +kernel
theorem dX11_found_56 : decode cX11_found 56 = .ok (.aload_n 0, 1) := by decide +kernel
theorem dX11_found_57 : decode cX11_found 57 = .ok (.getfield 10, 3) := by decide +kernel
theorem dX11_found_60 : decode cX11_found 60 = .ok (.getfield 321, 3) := by decide +kernel
theorem dX11_found_63 : decode cX11_found 63 = .ok (.lsub, 1) := by decide +kernel
theorem dX11_found_64 : decode cX11_found 64 = .ok (.lstore 4, 2) := by decide +kernel
theorem dX11_found_66 : decode cX11_found 66 = .ok (.lload_n 2, 1) := by decide +kernel
theorem dX11_found_67 : decode cX11_found 67 = .ok (.lconst 0, 1) := by decide +kernel
theorem dX11_found_68 : decode cX11_found 68 = .ok (.lcmp, 1) := by decide +kernel
theorem dX11_found_69 : decode cX11_found 69 = .ok (.ifCond .ne 17, 3) := by decide +kernel
theorem dX11_found_72 : decode cX11_found 72 = .ok (.lload 4, 2) := by decide +kernel
theorem dX11_found_74 : decode cX11_found 74 = .ok (.lconst 0, 1) := by decide +kernel
theorem dX11_found_75 : decode cX11_found 75 = .ok (.lcmp, 1) := by decide +kernel
theorem dX11_found_76 : decode cX11_found 76 = .ok (.ifCond .ne 7, 3) := by decide +kernel
theorem dX11_found_79 : decode cX11_found 79 = .ok (.iconst (-1), 1) := by decide +kernel
theorem dX11_found_80 : decode cX11_found 80 = .ok (.goto 5, 3) := by decide +kernel
theorem dX11_found_83 : decode cX11_found 83 = .ok (.bipush (-2), 2) := by decide +kernel
theorem dX11_found_85 : decode cX11_found 85 = .ok (.ireturn, 1) := by decide +kernel
theorem dX11_found_86 : decode cX11_found 86 = .ok (.iconst 0, 1) := by decide +kernel
theorem dX11_found_87 : decode cX11_found 87 = .ok (.istore 6, 2) := by decide +kernel
theorem dX11_found_89 : decode cX11_found 89 = .ok (.iload 6, 2) := by decide +kernel
theorem dX11_found_91 : decode cX11_found 91 = .ok (.aload_n 1, 1) := by decide +kernel
theorem dX11_found_92 : decode cX11_found 92 = .ok (.getfield 306, 3) := by decide +kernel
theorem dX11_found_95 : decode cX11_found 95 = .ok (.if_icmp .ge 25, 3) := by decide +kernel
theorem dX11_found_98 : decode cX11_found 98 = .ok (.lload_n 2, 1) := by decide +kernel
theorem dX11_found_99 : decode cX11_found 99 = .ok (.iload 6, 2) := by decide +kernel
theorem dX11_found_101 : decode cX11_found 101 = .ok (.iconst 1, 1) := by decide +kernel
theorem dX11_found_102 : decode cX11_found 102 = .ok (.iadd, 1) := by decide +kernel
theorem dX11_found_103 : decode cX11_found 103 = .ok (.i2l, 1) := by decide +kernel
theorem dX11_found_104 : decode cX11_found 104 = .ok (.lmul, 1) := by decide +kernel
theorem dX11_found_105 : decode cX11_found 105 = .ok (.lload 4, 2) := by decide +kernel
theorem dX11_found_107 : decode cX11_found 107 = .ok (.lcmp, 1) := by decide +kernel
theorem dX11_found_108 : decode cX11_found 108 = .ok (.ifCond .ne 6, 3) := by decide +kernel
theorem dX11_found_111 : decode cX11_found 111 = .ok (.iload 6, 2) := by decide +kernel
theorem dX11_found_113 : decode cX11_found 113 = .ok (.ireturn, 1) := by decide +kernel
theorem dX11_found_114 : decode cX11_found 114 = .ok (.iinc 6 1, 3) := by decide +kernel
theorem dX11_found_117 : decode cX11_found 117 = .ok (.goto (-28), 3) := by decide +kernel
theorem dX11_found_120 : decode cX11_found 120 = .ok (.bipush (-2), 2) := by decide +kernel
theorem dX11_found_122 : decode cX11_found 122 = .ok (.ireturn, 1) := by decide +kernel
theorem dX11_image_0 : decode cX11_image 0 = .ok (.iload_n 1, 1) := by decide +kernel
theorem dX11_image_1 : decode cX11_image 1 = .ok (.iconst 0, 1) := by decide +kernel
theorem dX11_image_2 : decode cX11_image 2 = .ok (.iconst 1, 1) := by decide +kernel
theorem dX11_image_3 : decode cX11_image 3 = .ok (.invokestatic 79, 3) := by decide +kernel
theorem dX11_image_6 : decode cX11_image 6 = .ok (.ifCond .ne 9, 3) := by decide +kernel
theorem dX11_image_9 : decode cX11_image 9 = .ok (.aload_n 0, 1) := by decide +kernel
theorem dX11_image_10 : decode cX11_image 10 = .ok (.iconst (-1), 1) := by decide +kernel
theorem dX11_image_11 : decode cX11_image 11 = .ok (.invokevirtual 83, 3) := by decide +kernel
theorem dX11_image_14 : decode cX11_image 14 = .ok (.ireturn, 1) := by decide +kernel
theorem dX11_image_15 : decode cX11_image 15 = .ok (.aload_n 0, 1) := by decide +kernel
theorem dX11_image_16 : decode cX11_image 16 = .ok (.getfield 16, 3) := by decide +kernel
theorem dX11_image_19 : decode cX11_image 19 = .ok (.iload_n 1, 1) := by decide +kernel
theorem dX11_image_20 : decode cX11_image 20 = .ok (.aaload, 1) := by decide +kernel
theorem dX11_image_21 : decode cX11_image 21 = .ok (.aload_n 0, 1) := by decide +kernel
theorem dX11_image_22 : decode cX11_image 22 = .ok (.getfield 10, 3) := by decide +kernel
theorem dX11_image_25 : decode cX11_image 25 = .ok (.invokevirtual 327, 3) := by decide +kernel
theorem dX11_image_28 : decode cX11_image 28 = .ok (.aload_n 0, 1) := by decide +kernel
theorem dX11_image_29 : decode cX11_image 29 = .ok (.getfield 20, 3) := by decide +kernel
theorem dX11_image_32 : decode cX11_image 32 = .ok (.iload_n 1, 1) := by decide +kernel
theorem dX11_image_33 : decode cX11_image 33 = .ok (.iconst 1, 1) := by decide +kernel
theorem dX11_image_34 : decode cX11_image 34 = .ok (.bastore, 1) := by decide +kernel
theorem dX11_image_35 : decode cX11_image 35 = .ok (.aload_n 0, 1) := by decide +kernel
theorem dX11_image_36 : decode cX11_image 36 = .ok (.iconst 0, 1) := by decide +kernel
theorem dX11_image_37 : decode cX11_image 37 = .ok (.invokevirtual 91, 3) := by decide +kernel
theorem dX11_image_40 : decode cX11_image 40 = .ok (.ireturn, 1) := by decide +kernel
theorem dX11_back_0 : decode cX11_back 0 = .ok (.iload_n 1, 1) := by decide +kernel
theorem dX11_back_1 : decode cX11_back 1 = .ok (.iconst 0, 1) := by decide +kernel
theorem dX11_back_2 : decode cX11_back 2 = .ok (.iconst 1, 1) := by decide +kernel
theorem dX11_back_3 : decode cX11_back 3 = .ok (.invokestatic 79, 3) := by decide +kernel
theorem dX11_back_6 : decode cX11_back 6 = .ok (.ifCond .ne 9, 3) := by decide +kernel
theorem dX11_back_9 : decode cX11_back 9 = .ok (.aload_n 0, 1) := by decide +kernel
theorem dX11_back_10 : decode cX11_back 10 = .ok (.iconst (-1), 1) := by decide +kernel
theorem dX11_back_11 : decode cX11_back 11 = .ok (.invokevirtual 83, 3) := by decide +kernel
theorem dX11_back_14 : decode cX11_back 14 = .ok (.ireturn, 1) := by decide +kernel
theorem dX11_back_15 : decode cX11_back 15 = .ok (.aload_n 0, 1) := by decide +kernel
theorem dX11_back_16 : decode cX11_back 16 = .ok (.getfield 20, 3) := by decide +kernel
theorem dX11_back_19 : decode cX11_back 19 = .ok (.iload_n 1, 1) := by decide +kernel
theorem dX11_back_20 : decode cX11_back 20 = .ok (.baload, 1) := by decide +kernel
theorem dX11_back_21 : decode cX11_back 21 = .ok (.ifCond .ne 10, 3) := by decide +kernel
theorem dX11_back_24 : decode cX11_back 24 = .ok (.aload_n 0, 1) := by decide +kernel
theorem dX11_back_25 : decode cX11_back 25 = .ok (.bipush (-2), 2) := by decide +kernel
theorem dX11_back_27 : decode cX11_back 27 = .ok (.invokevirtual 83, 3) := by decide +kernel
theorem dX11_back_30 : decode cX11_back 30 = .ok (.ireturn, 1) := by decide +kernel
theorem dX11_back_31 : decode cX11_back 31 = .ok (.aload_n 0, 1) := by decide +kernel
theorem dX11_back_32 : decode cX11_back 32 = .ok (.getfield 10, 3) := by decide +kernel
theorem dX11_back_35 : decode cX11_back 35 = .ok (.aload_n 0, 1) := by decide +kernel
theorem dX11_back_36 : decode cX11_back 36 = .ok (.getfield 16, 3) := by decide +kernel
theorem dX11_back_39 : decode cX11_back 39 = .ok (.iload_n 1, 1) := by decide +kernel
theorem dX11_back_40 : decode cX11_back 40 = .ok (.aaload, 1) := by decide +kernel
theorem dX11_back_41 : decode cX11_back 41 = .ok (.invokevirtual 327, 3) := by decide +kernel
theorem dX11_back_44 : decode cX11_back 44 = .ok (.aload_n 0, 1) := by decide +kernel
theorem dX11_back_45 : decode cX11_back 45 = .ok (.iconst 0, 1) := by decide +kernel
theorem dX11_back_46 : decode cX11_back 46 = .ok (.invokevirtual 91, 3) := by decide +kernel
theorem dX11_back_49 : decode cX11_back 49 = .ok (.ireturn, 1) := by decide +kernel
theorem dX11_count_0 : decode cX11_count 0 = .ok (.iload_n 1, 1) := by decide +kernel
theorem dX11_count_1 : decode cX11_count 1 = .ok (.tableswitch 105 0 6 #[43, 51, 62, 70, 81, 89, 97], 43) := by decide +kernel
theorem dX11_count_44 : decode cX11_count 44 = .ok (.aload_n 0, 1) := by decide +kernel
theorem dX11_count_45 : decode cX11_count 45 = .ok (.getfield 10, 3) := by decide +kernel
theorem dX11_count_48 : decode cX11_count 48 = .ok (.getfield 94, 3) := by decide +kernel
theorem dX11_count_51 : decode cX11_count 51 = .ok (.ireturn, 1) := by decide +kernel
theorem dX11_count_52 : decode cX11_count 52 = .ok (.aload_n 0, 1) := by decide +kernel
theorem dX11_count_53 : decode cX11_count 53 = .ok (.getfield 10, 3) := by decide +kernel
theorem dX11_count_56 : decode cX11_count 56 = .ok (.getfield 109, 3) := by decide +kernel
theorem dX11_count_59 : decode cX11_count 59 = .ok (.getfield 113, 3) := by decide +kernel
theorem dX11_count_62 : decode cX11_count 62 = .ok (.ireturn, 1) := by decide +kernel
theorem dX11_count_63 : decode cX11_count 63 = .ok (.aload_n 0, 1) := by decide +kernel
theorem dX11_count_64 : decode cX11_count 64 = .ok (.getfield 10, 3) := by decide +kernel
theorem dX11_count_67 : decode cX11_count 67 = .ok (.getfield 126, 3) := by decide +kernel
theorem dX11_count_70 : decode cX11_count 70 = .ok (.ireturn, 1) := by decide +kernel
theorem dX11_count_71 : decode cX11_count 71 = .ok (.aload_n 0, 1) := by decide +kernel
theorem dX11_count_72 : decode cX11_count 72 = .ok (.getfield 10, 3) := by decide +kernel
theorem dX11_count_75 : decode cX11_count 75 = .ok (.getfield 153, 3) := by decide +kernel
theorem dX11_count_78 : decode cX11_count 78 = .ok (.getfield 306, 3) := by decide +kernel
theorem dX11_count_81 : decode cX11_count 81 = .ok (.ireturn, 1) := by decide +kernel
theorem dX11_count_82 : decode cX11_count 82 = .ok (.aload_n 0, 1) := by decide +kernel
theorem dX11_count_83 : decode cX11_count 83 = .ok (.getfield 75, 3) := by decide +kernel
theorem dX11_count_86 : decode cX11_count 86 = .ok (.getfield 294, 3) := by decide +kernel
theorem dX11_count_89 : decode cX11_count 89 = .ok (.ireturn, 1) := by decide +kernel
theorem dX11_count_90 : decode cX11_count 90 = .ok (.aload_n 0, 1) := by decide +kernel
theorem dX11_count_91 : decode cX11_count 91 = .ok (.getfield 61, 3) := by decide +kernel
theorem dX11_count_94 : decode cX11_count 94 = .ok (.getfield 266, 3) := by decide +kernel
theorem dX11_count_97 : decode cX11_count 97 = .ok (.ireturn, 1) := by decide +kernel
theorem dX11_count_98 : decode cX11_count 98 = .ok (.aload_n 0, 1) := by decide +kernel
theorem dX11_count_99 : decode cX11_count 99 = .ok (.getfield 54, 3) := by decide +kernel
theorem dX11_count_102 : decode cX11_count 102 = .ok (.getfield 255, 3) := by decide +kernel
theorem dX11_count_105 : decode cX11_count 105 = .ok (.ireturn, 1) := by decide +kernel
theorem dX11_count_106 : decode cX11_count 106 = .ok (.iconst (-1), 1) := by decide +kernel
theorem dX11_count_107 : decode cX11_count 107 = .ok (.ireturn, 1) := by decide +kernel
theorem dX11_status_0 : decode cX11_status 0 = .ok (.aload_n 0, 1) := by decide +kernel
theorem dX11_status_1 : decode cX11_status 1 = .ok (.getfield 330, 3) := by decide +kernel
theorem dX11_status_4 : decode cX11_status 4 = .ok (.ireturn, 1) := by decide +kernel
theorem dX11_refuse_0 : decode cX11_refuse 0 = .ok (.aload_n 0, 1) := by decide +kernel
theorem dX11_refuse_1 : decode cX11_refuse 1 = .ok (.iload_n 1, 1) := by decide +kernel
theorem dX11_refuse_2 : decode cX11_refuse 2 = .ok (.putfield 330, 3) := by decide +kernel
theorem dX11_refuse_5 : decode cX11_refuse 5 = .ok (.iload_n 1, 1) := by decide +kernel
theorem dX11_refuse_6 : decode cX11_refuse 6 = .ok (.ireturn, 1) := by decide +kernel
theorem dX11_accept_0 : decode cX11_accept 0 = .ok (.aload_n 0, 1) := by decide +kernel
theorem dX11_accept_1 : decode cX11_accept 1 = .ok (.iconst 0, 1) := by decide +kernel
theorem dX11_accept_2 : decode cX11_accept 2 = .ok (.putfield 330, 3) := by decide +kernel
theorem dX11_accept_5 : decode cX11_accept 5 = .ok (.iload_n 1, 1) := by decide +kernel
theorem dX11_accept_6 : decode cX11_accept 6 = .ok (.ireturn, 1) := by decide +kernel
theorem dX11_within_0 : decode cX11_within 0 = .ok (.iload_n 0, 1) := by decide +kernel
theorem dX11_within_1 : decode cX11_within 1 = .ok (.iload_n 1, 1) := by decide +kernel
theorem dX11_within_2 : decode cX11_within 2 = .ok (.if_icmp .lt 12, 3) := by decide +kernel
theorem dX11_within_5 : decode cX11_within 5 = .ok (.iload_n 0, 1) := by decide +kernel
theorem dX11_within_6 : decode cX11_within 6 = .ok (.iload_n 2, 1) := by decide +kernel
theorem dX11_within_7 : decode cX11_within 7 = .ok (.if_icmp .gt 7, 3) := by decide +kernel
theorem dX11_within_10 : decode cX11_within 10 = .ok (.iconst 1, 1) := by decide +kernel
theorem dX11_within_11 : decode cX11_within 11 = .ok (.goto 4, 3) := by decide +kernel
theorem dX11_within_14 : decode cX11_within 14 = .ok (.iconst 0, 1) := by decide +kernel
theorem dX11_within_15 : decode cX11_within 15 = .ok (.ireturn, 1) := by decide +kernel
theorem dX11_isDay_0 : decode cX11_isDay 0 = .ok (.iload_n 0, 1) := by decide +kernel
theorem dX11_isDay_1 : decode cX11_isDay 1 = .ok (.iconst 0, 1) := by decide +kernel
theorem dX11_isDay_2 : decode cX11_isDay 2 = .ok (.bipush 119, 2) := by decide +kernel
theorem dX11_isDay_4 : decode cX11_isDay 4 = .ok (.invokestatic 79, 3) := by decide +kernel
theorem dX11_isDay_7 : decode cX11_isDay 7 = .ok (.ireturn, 1) := by decide +kernel
theorem dX11_isStretch_0 : decode cX11_isStretch 0 = .ok (.iload_n 0, 1) := by decide +kernel
theorem dX11_isStretch_1 : decode cX11_isStretch 1 = .ok (.invokestatic 102, 3) := by decide +kernel
theorem dX11_isStretch_4 : decode cX11_isStretch 4 = .ok (.ifCond .eq 19, 3) := by decide +kernel
theorem dX11_isStretch_7 : decode cX11_isStretch 7 = .ok (.iload_n 1, 1) := by decide +kernel
theorem dX11_isStretch_8 : decode cX11_isStretch 8 = .ok (.invokestatic 102, 3) := by decide +kernel
theorem dX11_isStretch_11 : decode cX11_isStretch 11 = .ok (.ifCond .eq 12, 3) := by decide +kernel
theorem dX11_isStretch_14 : decode cX11_isStretch 14 = .ok (.iload_n 0, 1) := by decide +kernel
theorem dX11_isStretch_15 : decode cX11_isStretch 15 = .ok (.iload_n 1, 1) := by decide +kernel
theorem dX11_isStretch_16 : decode cX11_isStretch 16 = .ok (.if_icmp .gt 7, 3) := by decide +kernel
theorem dX11_isStretch_19 : decode cX11_isStretch 19 = .ok (.iconst 1, 1) := by decide +kernel
theorem dX11_isStretch_20 : decode cX11_isStretch 20 = .ok (.goto 4, 3) := by decide +kernel
theorem dX11_isStretch_23 : decode cX11_isStretch 23 = .ok (.iconst 0, 1) := by decide +kernel
theorem dX11_isStretch_24 : decode cX11_isStretch 24 = .ok (.ireturn, 1) := by decide +kernel
theorem dX11_isShip_0 : decode cX11_isShip 0 = .ok (.iload_n 1, 1) := by decide +kernel
theorem dX11_isShip_1 : decode cX11_isShip 1 = .ok (.iconst 0, 1) := by decide +kernel
theorem dX11_isShip_2 : decode cX11_isShip 2 = .ok (.aload_n 0, 1) := by decide +kernel
theorem dX11_isShip_3 : decode cX11_isShip 3 = .ok (.getfield 10, 3) := by decide +kernel
theorem dX11_isShip_6 : decode cX11_isShip 6 = .ok (.getfield 94, 3) := by decide +kernel
theorem dX11_isShip_9 : decode cX11_isShip 9 = .ok (.iconst 1, 1) := by decide +kernel
theorem dX11_isShip_10 : decode cX11_isShip 10 = .ok (.isub, 1) := by decide +kernel
theorem dX11_isShip_11 : decode cX11_isShip 11 = .ok (.invokestatic 79, 3) := by decide +kernel
theorem dX11_isShip_14 : decode cX11_isShip 14 = .ok (.ireturn, 1) := by decide +kernel
theorem dX11_isLog_0 : decode cX11_isLog 0 = .ok (.iload_n 1, 1) := by decide +kernel
theorem dX11_isLog_1 : decode cX11_isLog 1 = .ok (.iconst 0, 1) := by decide +kernel
theorem dX11_isLog_2 : decode cX11_isLog 2 = .ok (.aload_n 0, 1) := by decide +kernel
theorem dX11_isLog_3 : decode cX11_isLog 3 = .ok (.getfield 10, 3) := by decide +kernel
theorem dX11_isLog_6 : decode cX11_isLog 6 = .ok (.getfield 153, 3) := by decide +kernel
theorem dX11_isLog_9 : decode cX11_isLog 9 = .ok (.getfield 306, 3) := by decide +kernel
theorem dX11_isLog_12 : decode cX11_isLog 12 = .ok (.iconst 1, 1) := by decide +kernel
theorem dX11_isLog_13 : decode cX11_isLog 13 = .ok (.isub, 1) := by decide +kernel
theorem dX11_isLog_14 : decode cX11_isLog 14 = .ok (.invokestatic 79, 3) := by decide +kernel
theorem dX11_isLog_17 : decode cX11_isLog 17 = .ok (.ireturn, 1) := by decide +kernel
theorem dX11_isReadable_0 : decode cX11_isReadable 0 = .ok (.aload_n 0, 1) := by decide +kernel
theorem dX11_isReadable_1 : decode cX11_isReadable 1 = .ok (.iload_n 1, 1) := by decide +kernel
theorem dX11_isReadable_2 : decode cX11_isReadable 2 = .ok (.invokevirtual 150, 3) := by decide +kernel
theorem dX11_isReadable_5 : decode cX11_isReadable 5 = .ok (.ifCond .ne 5, 3) := by decide +kernel
theorem dX11_isReadable_8 : decode cX11_isReadable 8 = .ok (.iconst 0, 1) := by decide +kernel
theorem dX11_isReadable_9 : decode cX11_isReadable 9 = .ok (.ireturn, 1) := by decide +kernel
theorem dX11_isReadable_10 : decode cX11_isReadable 10 = .ok (.aload_n 0, 1) := by decide +kernel
theorem dX11_isReadable_11 : decode cX11_isReadable 11 = .ok (.getfield 29, 3) := by decide +kernel
theorem dX11_isReadable_14 : decode cX11_isReadable 14 = .ok (.aload_n 0, 1) := by decide +kernel
theorem dX11_isReadable_15 : decode cX11_isReadable 15 = .ok (.getfield 10, 3) := by decide +kernel
theorem dX11_isReadable_18 : decode cX11_isReadable 18 = .ok (.getfield 153, 3) := by decide +kernel
theorem dX11_isReadable_21 : decode cX11_isReadable 21 = .ok (.getfield 157, 3) := by decide +kernel
theorem dX11_isReadable_24 : decode cX11_isReadable 24 = .ok (.iload_n 1, 1) := by decide +kernel
theorem dX11_isReadable_25 : decode cX11_isReadable 25 = .ok (.iaload, 1) := by decide +kernel
theorem dX11_isReadable_26 : decode cX11_isReadable 26 = .ok (.invokevirtual 139, 3) := by decide +kernel
theorem dX11_isReadable_29 : decode cX11_isReadable 29 = .ok (.aload_n 0, 1) := by decide +kernel
theorem dX11_isReadable_30 : decode cX11_isReadable 30 = .ok (.getfield 29, 3) := by decide +kernel
theorem dX11_isReadable_33 : decode cX11_isReadable 33 = .ok (.getfield 333, 3) := by decide +kernel
theorem dX11_isReadable_36 : decode cX11_isReadable 36 = .ok (.iload_n 1, 1) := by decide +kernel
theorem dX11_isReadable_37 : decode cX11_isReadable 37 = .ok (.ishr, 1) := by decide +kernel
theorem dX11_isReadable_38 : decode cX11_isReadable 38 = .ok (.iconst 1, 1) := by decide +kernel
theorem dX11_isReadable_39 : decode cX11_isReadable 39 = .ok (.iand, 1) := by decide +kernel
theorem dX11_isReadable_40 : decode cX11_isReadable 40 = .ok (.iconst 1, 1) := by decide +kernel
theorem dX11_isReadable_41 : decode cX11_isReadable 41 = .ok (.if_icmp .ne 7, 3) := by decide +kernel
theorem dX11_isReadable_44 : decode cX11_isReadable 44 = .ok (.iconst 1, 1) := by decide +kernel
theorem dX11_isReadable_45 : decode cX11_isReadable 45 = .ok (.goto 4, 3) := by decide +kernel
theorem dX11_isReadable_48 : decode cX11_isReadable 48 = .ok (.iconst 0, 1) := by decide +kernel
theorem dX11_isReadable_49 : decode cX11_isReadable 49 = .ok (.ireturn, 1) := by decide +kernel
theorem dX11_bindAsKnown_0 : decode cX11_bindAsKnown 0 = .ok (.aload_n 0, 1) := by decide +kernel
theorem dX11_bindAsKnown_1 : decode cX11_bindAsKnown 1 = .ok (.iload_n 1, 1) := by decide +kernel
theorem dX11_bindAsKnown_2 : decode cX11_bindAsKnown 2 = .ok (.invokevirtual 106, 3) := by decide +kernel
theorem dX11_bindAsKnown_5 : decode cX11_bindAsKnown 5 = .ok (.ifCond .eq 10, 3) := by decide +kernel
theorem dX11_bindAsKnown_8 : decode cX11_bindAsKnown 8 = .ok (.iload_n 2, 1) := by decide +kernel
theorem dX11_bindAsKnown_9 : decode cX11_bindAsKnown 9 = .ok (.invokestatic 102, 3) := by decide +kernel
theorem dX11_bindAsKnown_12 : decode cX11_bindAsKnown 12 = .ok (.ifCond .ne 5, 3) := by decide +kernel
theorem dX11_bindAsKnown_15 : decode cX11_bindAsKnown 15 = .ok (.iconst 0, 1) := by decide +kernel
theorem dX11_bindAsKnown_16 : decode cX11_bindAsKnown 16 = .ok (.ireturn, 1) := by decide +kernel
theorem dX11_bindAsKnown_17 : decode cX11_bindAsKnown 17 = .ok (.aload_n 0, 1) := by decide +kernel
theorem dX11_bindAsKnown_18 : decode cX11_bindAsKnown 18 = .ok (.getfield 29, 3) := by decide +kernel
theorem dX11_bindAsKnown_21 : decode cX11_bindAsKnown 21 = .ok (.iload_n 1, 1) := by decide +kernel
theorem dX11_bindAsKnown_22 : decode cX11_bindAsKnown 22 = .ok (.invokevirtual 139, 3) := by decide +kernel
theorem dX11_bindAsKnown_25 : decode cX11_bindAsKnown 25 = .ok (.aload_n 0, 1) := by decide +kernel
theorem dX11_bindAsKnown_26 : decode cX11_bindAsKnown 26 = .ok (.getfield 29, 3) := by decide +kernel
theorem dX11_bindAsKnown_29 : decode cX11_bindAsKnown 29 = .ok (.aload_n 0, 1) := by decide +kernel
theorem dX11_bindAsKnown_30 : decode cX11_bindAsKnown 30 = .ok (.getfield 29, 3) := by decide +kernel
theorem dX11_bindAsKnown_33 : decode cX11_bindAsKnown 33 = .ok (.iload_n 2, 1) := by decide +kernel
theorem dX11_bindAsKnown_34 : decode cX11_bindAsKnown 34 = .ok (.invokevirtual 203, 3) := by decide +kernel
theorem dX11_bindAsKnown_37 : decode cX11_bindAsKnown 37 = .ok (.invokevirtual 233, 3) := by decide +kernel
theorem dX11_bindAsKnown_40 : decode cX11_bindAsKnown 40 = .ok (.ireturn, 1) := by decide +kernel
theorem dX11_addLog_0 : decode cX11_addLog 0 = .ok (.aload_n 0, 1) := by decide +kernel
theorem dX11_addLog_1 : decode cX11_addLog 1 = .ok (.getfield 10, 3) := by decide +kernel
theorem dX11_addLog_4 : decode cX11_addLog 4 = .ok (.getfield 153, 3) := by decide +kernel
theorem dX11_addLog_7 : decode cX11_addLog 7 = .ok (.astore 8, 2) := by decide +kernel
theorem dX11_addLog_9 : decode cX11_addLog 9 = .ok (.aload 8, 2) := by decide +kernel
theorem dX11_addLog_11 : decode cX11_addLog 11 = .ok (.getfield 306, 3) := by decide +kernel
theorem dX11_addLog_14 : decode cX11_addLog 14 = .ok (.bipush 24, 2) := by decide +kernel
theorem dX11_addLog_16 : decode cX11_addLog 16 = .ok (.if_icmp .lt 10, 3) := by decide +kernel
theorem dX11_addLog_19 : decode cX11_addLog 19 = .ok (.aload_n 0, 1) := by decide +kernel
theorem dX11_addLog_20 : decode cX11_addLog 20 = .ok (.bipush (-5), 2) := by decide +kernel
theorem dX11_addLog_22 : decode cX11_addLog 22 = .ok (.invokevirtual 83, 3) := by decide +kernel
theorem dX11_addLog_25 : decode cX11_addLog 25 = .ok (.ireturn, 1) := by decide +kernel
theorem dX11_addLog_26 : decode cX11_addLog 26 = .ok (.aload 8, 2) := by decide +kernel
theorem dX11_addLog_28 : decode cX11_addLog 28 = .ok (.getfield 306, 3) := by decide +kernel
theorem dX11_addLog_31 : decode cX11_addLog 31 = .ok (.istore 9, 2) := by decide +kernel
theorem dX11_addLog_33 : decode cX11_addLog 33 = .ok (.aload 8, 2) := by decide +kernel
theorem dX11_addLog_35 : decode cX11_addLog 35 = .ok (.getfield 157, 3) := by decide +kernel
theorem dX11_addLog_38 : decode cX11_addLog 38 = .ok (.iload 9, 2) := by decide +kernel
theorem dX11_addLog_40 : decode cX11_addLog 40 = .ok (.iload_n 1, 1) := by decide +kernel
theorem dX11_addLog_41 : decode cX11_addLog 41 = .ok (.iastore, 1) := by decide +kernel
theorem dX11_addLog_42 : decode cX11_addLog 42 = .ok (.aload 8, 2) := by decide +kernel
theorem dX11_addLog_44 : decode cX11_addLog 44 = .ok (.getfield 162, 3) := by decide +kernel
theorem dX11_addLog_47 : decode cX11_addLog 47 = .ok (.iload 9, 2) := by decide +kernel
theorem dX11_addLog_49 : decode cX11_addLog 49 = .ok (.iload_n 2, 1) := by decide +kernel
theorem dX11_addLog_50 : decode cX11_addLog 50 = .ok (.iastore, 1) := by decide +kernel
theorem dX11_addLog_51 : decode cX11_addLog 51 = .ok (.aload 8, 2) := by decide +kernel
theorem dX11_addLog_53 : decode cX11_addLog 53 = .ok (.getfield 324, 3) := by decide +kernel
theorem dX11_addLog_56 : decode cX11_addLog 56 = .ok (.iload 9, 2) := by decide +kernel
theorem dX11_addLog_58 : decode cX11_addLog 58 = .ok (.iload_n 3, 1) := by decide +kernel
theorem dX11_addLog_59 : decode cX11_addLog 59 = .ok (.iastore, 1) := by decide +kernel
theorem dX11_addLog_60 : decode cX11_addLog 60 = .ok (.aload 8, 2) := by decide +kernel
theorem dX11_addLog_62 : decode cX11_addLog 62 = .ok (.getfield 336, 3) := by decide +kernel
theorem dX11_addLog_65 : decode cX11_addLog 65 = .ok (.iload 9, 2) := by decide +kernel
theorem dX11_addLog_67 : decode cX11_addLog 67 = .ok (.iload 4, 2) := by decide +kernel
theorem dX11_addLog_69 : decode cX11_addLog 69 = .ok (.iastore, 1) := by decide +kernel
theorem dX11_addLog_70 : decode cX11_addLog 70 = .ok (.aload 8, 2) := by decide +kernel
theorem dX11_addLog_72 : decode cX11_addLog 72 = .ok (.getfield 171, 3) := by decide +kernel
theorem dX11_addLog_75 : decode cX11_addLog 75 = .ok (.iload 9, 2) := by decide +kernel
theorem dX11_addLog_77 : decode cX11_addLog 77 = .ok (.iload 5, 2) := by decide +kernel
theorem dX11_addLog_79 : decode cX11_addLog 79 = .ok (.iastore, 1) := by decide +kernel
theorem dX11_addLog_80 : decode cX11_addLog 80 = .ok (.aload 8, 2) := by decide +kernel
theorem dX11_addLog_82 : decode cX11_addLog 82 = .ok (.getfield 174, 3) := by decide +kernel
theorem dX11_addLog_85 : decode cX11_addLog 85 = .ok (.iload 9, 2) := by decide +kernel
theorem dX11_addLog_87 : decode cX11_addLog 87 = .ok (.iload 6, 2) := by decide +kernel
theorem dX11_addLog_89 : decode cX11_addLog 89 = .ok (.iastore, 1) := by decide +kernel
theorem dX11_addLog_90 : decode cX11_addLog 90 = .ok (.aload 8, 2) := by decide +kernel
theorem dX11_addLog_92 : decode cX11_addLog 92 = .ok (.getfield 339, 3) := by decide +kernel
theorem dX11_addLog_95 : decode cX11_addLog 95 = .ok (.iload 9, 2) := by decide +kernel
theorem dX11_addLog_97 : decode cX11_addLog 97 = .ok (.iload 7, 2) := by decide +kernel
theorem dX11_addLog_99 : decode cX11_addLog 99 = .ok (.bastore, 1) := by decide +kernel
theorem dX11_addLog_100 : decode cX11_addLog 100 = .ok (.aload 8, 2) := by decide +kernel
theorem dX11_addLog_102 : decode cX11_addLog 102 = .ok (.getfield 177, 3) := by decide +kernel
theorem dX11_addLog_105 : decode cX11_addLog 105 = .ok (.iload 9, 2) := by decide +kernel
theorem dX11_addLog_107 : decode cX11_addLog 107 = .ok (.iconst 0, 1) := by decide +kernel
theorem dX11_addLog_108 : decode cX11_addLog 108 = .ok (.bastore, 1) := by decide +kernel
theorem dX11_addLog_109 : decode cX11_addLog 109 = .ok (.aload 8, 2) := by decide +kernel
theorem dX11_addLog_111 : decode cX11_addLog 111 = .ok (.dup, 1) := by decide +kernel
theorem dX11_addLog_112 : decode cX11_addLog 112 = .ok (.getfield 306, 3) := by decide +kernel
theorem dX11_addLog_115 : decode cX11_addLog 115 = .ok (.iconst 1, 1) := by decide +kernel
theorem dX11_addLog_116 : decode cX11_addLog 116 = .ok (.iadd, 1) := by decide +kernel
theorem dX11_addLog_117 : decode cX11_addLog 117 = .ok (.putfield 306, 3) := by decide +kernel
theorem dX11_addLog_120 : decode cX11_addLog 120 = .ok (.aload_n 0, 1) := by decide +kernel
theorem dX11_addLog_121 : decode cX11_addLog 121 = .ok (.iload 9, 2) := by decide +kernel
theorem dX11_addLog_123 : decode cX11_addLog 123 = .ok (.invokevirtual 91, 3) := by decide +kernel
theorem dX11_addLog_126 : decode cX11_addLog 126 = .ok (.ireturn, 1) := by decide +kernel
theorem dX12_in_0 : decode cX12_in 0 = .ok (.iload_n 0, 1) := by decide +kernel
theorem dX12_in_1 : decode cX12_in 1 = .ok (.iload_n 1, 1) := by decide +kernel
theorem dX12_in_2 : decode cX12_in 2 = .ok (.if_icmp .lt 12, 3) := by decide +kernel
theorem dX12_in_5 : decode cX12_in 5 = .ok (.iload_n 0, 1) := by decide +kernel
theorem dX12_in_6 : decode cX12_in 6 = .ok (.iload_n 2, 1) := by decide +kernel
theorem dX12_in_7 : decode cX12_in 7 = .ok (.if_icmp .gt 7, 3) := by decide +kernel
theorem dX12_in_10 : decode cX12_in 10 = .ok (.iconst 1, 1) := by decide +kernel
theorem dX12_in_11 : decode cX12_in 11 = .ok (.goto 4, 3) := by decide +kernel
theorem dX12_in_14 : decode cX12_in 14 = .ok (.iconst 0, 1) := by decide +kernel
theorem dX12_in_15 : decode cX12_in 15 = .ok (.ireturn, 1) := by decide +kernel
theorem dX12_isDay_0 : decode cX12_isDay 0 = .ok (.iload_n 0, 1) := by decide +kernel
theorem dX12_isDay_1 : decode cX12_isDay 1 = .ok (.iconst 0, 1) := by decide +kernel
theorem dX12_isDay_2 : decode cX12_isDay 2 = .ok (.bipush 119, 2) := by decide +kernel
theorem dX12_isDay_4 : decode cX12_isDay 4 = .ok (.invokestatic 3, 3) := by decide +kernel
theorem dX12_isDay_7 : decode cX12_isDay 7 = .ok (.ireturn, 1) := by decide +kernel
theorem dX12_ends_0 : decode cX12_ends 0 = .ok (.aload_n 0, 1) := by decide +kernel
theorem dX12_ends_1 : decode cX12_ends 1 = .ok (.iload_n 1, 1) := by decide +kernel
theorem dX12_ends_2 : decode cX12_ends 2 = .ok (.ifCond .ge 7, 3) := by decide +kernel
theorem dX12_ends_5 : decode cX12_ends 5 = .ok (.iload_n 1, 1) := by decide +kernel
theorem dX12_ends_6 : decode cX12_ends 6 = .ok (.goto 4, 3) := by decide +kernel
theorem dX12_ends_9 : decode cX12_ends 9 = .ok (.iconst 0, 1) := by decide +kernel
theorem dX12_ends_10 : decode cX12_ends 10 = .ok (.putfield 7, 3) := by decide +kernel
theorem dX12_ends_13 : decode cX12_ends 13 = .ok (.iload_n 1, 1) := by decide +kernel
theorem dX12_ends_14 : decode cX12_ends 14 = .ok (.ireturn, 1) := by decide +kernel
theorem dX12_init_0 : decode cX12_init 0 = .ok (.aload_n 0, 1) := by decide +kernel
theorem dX12_init_1 : decode cX12_init 1 = .ok (.invokespecial 11, 3) := by decide +kernel
theorem dX12_init_4 : decode cX12_init 4 = .ok (.aload_n 0, 1) := by decide +kernel
theorem dX12_init_5 : decode cX12_init 5 = .ok (.sipush 730, 3) := by decide +kernel
theorem dX12_init_8 : decode cX12_init 8 = .ok (.newarray .int, 2) := by decide +kernel
theorem dX12_init_10 : decode cX12_init 10 = .ok (.putfield 17, 3) := by decide +kernel
theorem dX12_init_13 : decode cX12_init 13 = .ok (.aload_n 0, 1) := by decide +kernel
theorem dX12_init_14 : decode cX12_init 14 = .ok (.sipush 1460, 3) := by decide +kernel
theorem dX12_init_17 : decode cX12_init 17 = .ok (.newarray .int, 2) := by decide +kernel
theorem dX12_init_19 : decode cX12_init 19 = .ok (.putfield 21, 3) := by decide +kernel
theorem dX12_init_22 : decode cX12_init 22 = .ok (.aload_n 0, 1) := by decide +kernel
theorem dX12_init_23 : decode cX12_init 23 = .ok (.iconst 2, 1) := by decide +kernel
theorem dX12_init_24 : decode cX12_init 24 = .ok (.newarray .boolean, 2) := by decide +kernel
theorem dX12_init_26 : decode cX12_init 26 = .ok (.putfield 24, 3) := by decide +kernel
theorem dX12_init_29 : decode cX12_init 29 = .ok (.aload_n 0, 1) := by decide +kernel
theorem dX12_init_30 : decode cX12_init 30 = .ok (.bipush 120, 2) := by decide +kernel
theorem dX12_init_32 : decode cX12_init 32 = .ok (.newarray .int, 2) := by decide +kernel
theorem dX12_init_34 : decode cX12_init 34 = .ok (.putfield 28, 3) := by decide +kernel
theorem dX12_init_37 : decode cX12_init 37 = .ok (.aload_n 0, 1) := by decide +kernel
theorem dX12_init_38 : decode cX12_init 38 = .ok (.bipush 120, 2) := by decide +kernel
theorem dX12_init_40 : decode cX12_init 40 = .ok (.newarray .int, 2) := by decide +kernel
theorem dX12_init_42 : decode cX12_init 42 = .ok (.putfield 31, 3) := by decide +kernel
theorem dX12_init_45 : decode cX12_init 45 = .ok (.aload_n 0, 1) := by decide +kernel
theorem dX12_init_46 : decode cX12_init 46 = .ok (.bipush 120, 2) := by decide +kernel
theorem dX12_init_48 : decode cX12_init 48 = .ok (.newarray .int, 2) := by decide +kernel
theorem dX12_init_50 : decode cX12_init 50 = .ok (.putfield 34, 3) := by decide +kernel
theorem dX12_init_53 : decode cX12_init 53 = .ok (.aload_n 0, 1) := by decide +kernel
theorem dX12_init_54 : decode cX12_init 54 = .ok (.bipush 120, 2) := by decide +kernel
theorem dX12_init_56 : decode cX12_init 56 = .ok (.newarray .int, 2) := by decide +kernel
theorem dX12_init_58 : decode cX12_init 58 = .ok (.putfield 37, 3) := by decide +kernel
theorem dX12_init_61 : decode cX12_init 61 = .ok (.aload_n 0, 1) := by decide +kernel
theorem dX12_init_62 : decode cX12_init 62 = .ok (.bipush 24, 2) := by decide +kernel
theorem dX12_init_64 : decode cX12_init 64 = .ok (.newarray .int, 2) := by decide +kernel
theorem dX12_init_66 : decode cX12_init 66 = .ok (.putfield 40, 3) := by decide +kernel
theorem dX12_init_69 : decode cX12_init 69 = .ok (.aload_n 0, 1) := by decide +kernel
theorem dX12_init_70 : decode cX12_init 70 = .ok (.iconst (-1), 1) := by decide +kernel
theorem dX12_init_71 : decode cX12_init 71 = .ok (.putfield 43, 3) := by decide +kernel
theorem dX12_init_74 : decode cX12_init 74 = .ok (.aload_n 0, 1) := by decide +kernel
theorem dX12_init_75 : decode cX12_init 75 = .ok (.sipush 2000, 3) := by decide +kernel
theorem dX12_init_78 : decode cX12_init 78 = .ok (.newarray .byte, 2) := by decide +kernel
theorem dX12_init_80 : decode cX12_init 80 = .ok (.putfield 46, 3) := by decide +kernel
theorem dX12_init_83 : decode cX12_init 83 = .ok (.aload_n 0, 1) := by decide +kernel
theorem dX12_init_84 : decode cX12_init 84 = .ok (.sipush 2000, 3) := by decide +kernel
theorem dX12_init_87 : decode cX12_init 87 = .ok (.newarray .byte, 2) := by decide +kernel
theorem dX12_init_89 : decode cX12_init 89 = .ok (.putfield 50, 3) := by decide +kernel
theorem dX12_init_92 : decode cX12_init 92 = .ok (.aload_n 0, 1) := by decide +kernel
theorem dX12_init_93 : decode cX12_init 93 = .ok (.iconst (-1), 1) := by decide +kernel
theorem dX12_init_94 : decode cX12_init 94 = .ok (.putfield 53, 3) := by decide +kernel
theorem dX12_init_97 : decode cX12_init 97 = .ok (.aload_n 0, 1) := by decide +kernel
theorem dX12_init_98 : decode cX12_init 98 = .ok (.bipush 24, 2) := by decide +kernel
theorem dX12_init_100 : decode cX12_init 100 = .ok (.newarray .int, 2) := by decide +kernel
theorem dX12_init_102 : decode cX12_init 102 = .ok (.putfield 56, 3) := by decide +kernel
theorem dX12_init_105 : decode cX12_init 105 = .ok (.aload_n 0, 1) := by decide +kernel
theorem dX12_init_106 : decode cX12_init 106 = .ok (.sipush 400, 3) := by decide +kernel
theorem dX12_init_109 : decode cX12_init 109 = .ok (.newarray .byte, 2) := by decide +kernel
theorem dX12_init_111 : decode cX12_init 111 = .ok (.putfield 59, 3) := by decide +kernel
theorem dX12_init_114 : decode cX12_init 114 = .ok (.aload_n 0, 1) := by decide +kernel
theorem dX12_init_115 : decode cX12_init 115 = .ok (.sipush 400, 3) := by decide +kernel
theorem dX12_init_118 : decode cX12_init 118 = .ok (.newarray .byte, 2) := by decide +kernel
theorem dX12_init_120 : decode cX12_init 120 = .ok (.putfield 62, 3) := by decide +kernel
theorem dX12_init_123 : decode cX12_init 123 = .ok (.aload_n 0, 1) := by decide +kernel
theorem dX12_init_124 : decode cX12_init 124 = .ok (.iconst 5, 1) := by decide +kernel
theorem dX12_init_125 : decode cX12_init 125 = .ok (.newarray .int, 2) := by decide +kernel
theorem dX12_init_127 : decode cX12_init 127 = .ok (.putfield 65, 3) := by decide +kernel
theorem dX12_init_130 : decode cX12_init 130 = .ok (.aload_n 0, 1) := by decide +kernel
theorem dX12_init_131 : decode cX12_init 131 = .ok (.iconst (-1), 1) := by decide +kernel
theorem dX12_init_132 : decode cX12_init 132 = .ok (.putfield 68, 3) := by decide +kernel
theorem dX12_init_135 : decode cX12_init 135 = .ok (.aload_n 0, 1) := by decide +kernel
theorem dX12_init_136 : decode cX12_init 136 = .ok (.ldc 71, 2) := by decide +kernel
theorem dX12_init_138 : decode cX12_init 138 = .ok (.newarray .int, 2) := by decide +kernel
theorem dX12_init_140 : decode cX12_init 140 = .ok (.putfield 72, 3) := by decide +kernel
theorem dX12_init_143 : decode cX12_init 143 = .ok (.aload_n 0, 1) := by decide +kernel
theorem dX12_init_144 : decode cX12_init 144 = .ok (.ldc 71, 2) := by decide +kernel
theorem dX12_init_146 : decode cX12_init 146 = .ok (.newarray .int, 2) := by decide +kernel
theorem dX12_init_148 : decode cX12_init 148 = .ok (.putfield 75, 3) := by decide +kernel
theorem dX12_init_151 : decode cX12_init 151 = .ok (.aload_n 0, 1) := by decide +kernel
theorem dX12_init_152 : decode cX12_init 152 = .ok (.sipush 1001, 3) := by decide +kernel
theorem dX12_init_155 : decode cX12_init 155 = .ok (.newarray .int, 2) := by decide +kernel
theorem dX12_init_157 : decode cX12_init 157 = .ok (.putfield 78, 3) := by decide +kernel
theorem dX12_init_160 : decode cX12_init 160 = .ok (.aload_n 0, 1) := by decide +kernel
theorem dX12_init_161 : decode cX12_init 161 = .ok (.sipush 1001, 3) := by decide +kernel
theorem dX12_init_164 : decode cX12_init 164 = .ok (.newarray .int, 2) := by decide +kernel
theorem dX12_init_166 : decode cX12_init 166 = .ok (.putfield 81, 3) := by decide +kernel
theorem dX12_init_169 : decode cX12_init 169 = .ok (.aload_n 0, 1) := by decide +kernel
theorem dX12_init_170 : decode cX12_init 170 = .ok (.sipush 14400, 3) := by decide +kernel
theorem dX12_init_173 : decode cX12_init 173 = .ok (.newarray .int, 2) := by decide +kernel
theorem dX12_init_175 : decode cX12_init 175 = .ok (.putfield 84, 3) := by decide +kernel
theorem dX12_init_178 : decode cX12_init 178 = .ok (.aload_n 0, 1) := by decide +kernel
theorem dX12_init_179 : decode cX12_init 179 = .ok (.bipush 120, 2) := by decide +kernel
theorem dX12_init_181 : decode cX12_init 181 = .ok (.newarray .int, 2) := by decide +kernel
theorem dX12_init_183 : decode cX12_init 183 = .ok (.putfield 87, 3) := by decide +kernel
theorem dX12_init_186 : decode cX12_init 186 = .ok (.aload_n 0, 1) := by decide +kernel
theorem dX12_init_187 : decode cX12_init 187 = .ok (.sipush 1001, 3) := by decide +kernel
theorem dX12_init_190 : decode cX12_init 190 = .ok (.newarray .int, 2) := by decide +kernel
theorem dX12_init_192 : decode cX12_init 192 = .ok (.putfield 90, 3) := by decide +kernel
theorem dX12_init_195 : decode cX12_init 195 = .ok (.aload_n 0, 1) := by decide +kernel
theorem dX12_init_196 : decode cX12_init 196 = .ok (.iconst 2, 1) := by decide +kernel
theorem dX12_init_197 : decode cX12_init 197 = .ok (.newarray .int, 2) := by decide +kernel
theorem dX12_init_199 : decode cX12_init 199 = .ok (.putfield 93, 3) := by decide +kernel
theorem dX12_init_202 : decode cX12_init 202 = .ok (.aload_n 0, 1) := by decide +kernel
theorem dX12_init_203 : decode cX12_init 203 = .ok (.iconst (-1), 1) := by decide +kernel
theorem dX12_init_204 : decode cX12_init 204 = .ok (.putfield 96, 3) := by decide +kernel
theorem dX12_init_207 : decode cX12_init 207 = .ok (.aload_n 0, 1) := by decide +kernel
theorem dX12_init_208 : decode cX12_init 208 = .ok (.bipush 7, 2) := by decide +kernel
theorem dX12_init_210 : decode cX12_init 210 = .ok (.newarray .int, 2) := by decide +kernel
theorem dX12_init_212 : decode cX12_init 212 = .ok (.putfield 99, 3) := by decide +kernel
theorem dX12_init_215 : decode cX12_init 215 = .ok (.iconst 0, 1) := by decide +kernel
theorem dX12_init_216 : decode cX12_init 216 = .ok (.istore_n 1, 1) := by decide +kernel
theorem dX12_init_217 : decode cX12_init 217 = .ok (.iload_n 1, 1) := by decide +kernel
theorem dX12_init_218 : decode cX12_init 218 = .ok (.bipush 6, 2) := by decide +kernel
theorem dX12_init_220 : decode cX12_init 220 = .ok (.if_icmp .ge 20, 3) := by decide +kernel
theorem dX12_init_223 : decode cX12_init 223 = .ok (.aload_n 0, 1) := by decide +kernel
theorem dX12_init_224 : decode cX12_init 224 = .ok (.getfield 17, 3) := by decide +kernel
theorem dX12_init_227 : decode cX12_init 227 = .ok (.bipush 9, 2) := by decide +kernel
theorem dX12_init_229 : decode cX12_init 229 = .ok (.iload_n 1, 1) := by decide +kernel
theorem dX12_init_230 : decode cX12_init 230 = .ok (.iadd, 1) := by decide +kernel
theorem dX12_init_231 : decode cX12_init 231 = .ok (.bipush 10, 2) := by decide +kernel
theorem dX12_init_233 : decode cX12_init 233 = .ok (.iastore, 1) := by decide +kernel
theorem dX12_init_234 : decode cX12_init 234 = .ok (.iinc 1 1, 3) := by decide +kernel
theorem dX12_init_237 : decode cX12_init 237 = .ok (.goto (-20), 3) := by decide +kernel
theorem dX12_init_240 : decode cX12_init 240 = .ok (.iconst 0, 1) := by decide +kernel
theorem dX12_init_241 : decode cX12_init 241 = .ok (.istore_n 1, 1) := by decide +kernel
theorem dX12_init_242 : decode cX12_init 242 = .ok (.iload_n 1, 1) := by decide +kernel
theorem dX12_init_243 : decode cX12_init 243 = .ok (.iconst 4, 1) := by decide +kernel
theorem dX12_init_244 : decode cX12_init 244 = .ok (.if_icmp .ge 20, 3) := by decide +kernel
theorem dX12_init_247 : decode cX12_init 247 = .ok (.aload_n 0, 1) := by decide +kernel
theorem dX12_init_248 : decode cX12_init 248 = .ok (.getfield 17, 3) := by decide +kernel
theorem dX12_init_251 : decode cX12_init 251 = .ok (.bipush 15, 2) := by decide +kernel
theorem dX12_init_253 : decode cX12_init 253 = .ok (.iload_n 1, 1) := by decide +kernel
theorem dX12_init_254 : decode cX12_init 254 = .ok (.iadd, 1) := by decide +kernel
theorem dX12_init_255 : decode cX12_init 255 = .ok (.bipush (-10), 2) := by decide +kernel
theorem dX12_init_257 : decode cX12_init 257 = .ok (.iastore, 1) := by decide +kernel
theorem dX12_init_258 : decode cX12_init 258 = .ok (.iinc 1 1, 3) := by decide +kernel
theorem dX12_init_261 : decode cX12_init 261 = .ok (.goto (-19), 3) := by decide +kernel
theorem dX12_init_264 : decode cX12_init 264 = .ok (.aload_n 0, 1) := by decide +kernel
theorem dX12_init_265 : decode cX12_init 265 = .ok (.getfield 17, 3) := by decide +kernel
theorem dX12_init_268 : decode cX12_init 268 = .ok (.sipush 719, 3) := by decide +kernel
theorem dX12_init_271 : decode cX12_init 271 = .ok (.iconst 1, 1) := by decide +kernel
theorem dX12_init_272 : decode cX12_init 272 = .ok (.iastore, 1) := by decide +kernel
theorem dX12_init_273 : decode cX12_init 273 = .ok (.aload_n 0, 1) := by decide +kernel
theorem dX12_init_274 : decode cX12_init 274 = .ok (.getfield 17, 3) := by decide +kernel
theorem dX12_init_277 : decode cX12_init 277 = .ok (.sipush 720, 3) := by decide +kernel
theorem dX12_init_280 : decode cX12_init 280 = .ok (.bipush 100, 2) := by decide +kernel
theorem dX12_init_282 : decode cX12_init 282 = .ok (.iastore, 1) := by decide +kernel
theorem dX12_init_283 : decode cX12_init 283 = .ok (.aload_n 0, 1) := by decide +kernel
theorem dX12_init_284 : decode cX12_init 284 = .ok (.getfield 17, 3) := by decide +kernel
theorem dX12_init_287 : decode cX12_init 287 = .ok (.sipush 725, 3) := by decide +kernel
theorem dX12_init_290 : decode cX12_init 290 = .ok (.iconst (-1), 1) := by decide +kernel
theorem dX12_init_291 : decode cX12_init 291 = .ok (.iastore, 1) := by decide +kernel
theorem dX12_init_292 : decode cX12_init 292 = .ok (.return_, 1) := by decide +kernel
theorem dX12_many_0 : decode cX12_many 0 = .ok (.aload_n 0, 1) := by decide +kernel
theorem dX12_many_1 : decode cX12_many 1 = .ok (.getfield 17, 3) := by decide +kernel
theorem dX12_many_4 : decode cX12_many 4 = .ok (.sipush 721, 3) := by decide +kernel
theorem dX12_many_7 : decode cX12_many 7 = .ok (.iload_n 1, 1) := by decide +kernel
theorem dX12_many_8 : decode cX12_many 8 = .ok (.iadd, 1) := by decide +kernel
theorem dX12_many_9 : decode cX12_many 9 = .ok (.iaload, 1) := by decide +kernel
theorem dX12_many_10 : decode cX12_many 10 = .ok (.ireturn, 1) := by decide +kernel
theorem dX12_isShip_0 : decode cX12_isShip 0 = .ok (.iload_n 1, 1) := by decide +kernel
theorem dX12_isShip_1 : decode cX12_isShip 1 = .ok (.iconst 0, 1) := by decide +kernel
theorem dX12_isShip_2 : decode cX12_isShip 2 = .ok (.aload_n 0, 1) := by decide +kernel
theorem dX12_isShip_3 : decode cX12_isShip 3 = .ok (.iconst 0, 1) := by decide +kernel
theorem dX12_isShip_4 : decode cX12_isShip 4 = .ok (.invokevirtual 102, 3) := by decide +kernel
theorem dX12_isShip_7 : decode cX12_isShip 7 = .ok (.iconst 1, 1) := by decide +kernel
theorem dX12_isShip_8 : decode cX12_isShip 8 = .ok (.isub, 1) := by decide +kernel
theorem dX12_isShip_9 : decode cX12_isShip 9 = .ok (.invokestatic 3, 3) := by decide +kernel
theorem dX12_isShip_12 : decode cX12_isShip 12 = .ok (.ireturn, 1) := by decide +kernel
theorem dX12_isLog_0 : decode cX12_isLog 0 = .ok (.iload_n 1, 1) := by decide +kernel
theorem dX12_isLog_1 : decode cX12_isLog 1 = .ok (.iconst 0, 1) := by decide +kernel
theorem dX12_isLog_2 : decode cX12_isLog 2 = .ok (.aload_n 0, 1) := by decide +kernel
theorem dX12_isLog_3 : decode cX12_isLog 3 = .ok (.iconst 3, 1) := by decide +kernel
theorem dX12_isLog_4 : decode cX12_isLog 4 = .ok (.invokevirtual 102, 3) := by decide +kernel
theorem dX12_isLog_7 : decode cX12_isLog 7 = .ok (.iconst 1, 1) := by decide +kernel
theorem dX12_isLog_8 : decode cX12_isLog 8 = .ok (.isub, 1) := by decide +kernel
theorem dX12_isLog_9 : decode cX12_isLog 9 = .ok (.invokestatic 3, 3) := by decide +kernel
theorem dX12_isLog_12 : decode cX12_isLog 12 = .ok (.ireturn, 1) := by decide +kernel
theorem dX12_legAt_0 : decode cX12_legAt 0 = .ok (.aload_n 0, 1) := by decide +kernel
theorem dX12_legAt_1 : decode cX12_legAt 1 = .ok (.getfield 17, 3) := by decide +kernel
theorem dX12_legAt_4 : decode cX12_legAt 4 = .ok (.bipush 23, 2) := by decide +kernel
theorem dX12_legAt_6 : decode cX12_legAt 6 = .ok (.bipush 6, 2) := by decide +kernel
theorem dX12_legAt_8 : decode cX12_legAt 8 = .ok (.iload_n 1, 1) := by decide +kernel
theorem dX12_legAt_9 : decode cX12_legAt 9 = .ok (.imul, 1) := by decide +kernel
theorem dX12_legAt_10 : decode cX12_legAt 10 = .ok (.iadd, 1) := by decide +kernel
theorem dX12_legAt_11 : decode cX12_legAt 11 = .ok (.iload_n 2, 1) := by decide +kernel
theorem dX12_legAt_12 : decode cX12_legAt 12 = .ok (.iadd, 1) := by decide +kernel
theorem dX12_legAt_13 : decode cX12_legAt 13 = .ok (.iaload, 1) := by decide +kernel
theorem dX12_legAt_14 : decode cX12_legAt 14 = .ok (.ireturn, 1) := by decide +kernel
theorem dX12_clean_0 : decode cX12_clean 0 = .ok (.aload_n 0, 1) := by decide +kernel
theorem dX12_clean_1 : decode cX12_clean 1 = .ok (.getfield 17, 3) := by decide +kernel
theorem dX12_clean_4 : decode cX12_clean 4 = .ok (.sipush 383, 3) := by decide +kernel
theorem dX12_clean_7 : decode cX12_clean 7 = .ok (.iconst 3, 1) := by decide +kernel
theorem dX12_clean_8 : decode cX12_clean 8 = .ok (.iload_n 1, 1) := by decide +kernel
theorem dX12_clean_9 : decode cX12_clean 9 = .ok (.imul, 1) := by decide +kernel
theorem dX12_clean_10 : decode cX12_clean 10 = .ok (.iadd, 1) := by decide +kernel
theorem dX12_clean_11 : decode cX12_clean 11 = .ok (.iload_n 2, 1) := by decide +kernel
theorem dX12_clean_12 : decode cX12_clean 12 = .ok (.iadd, 1) := by decide +kernel
theorem dX12_clean_13 : decode cX12_clean 13 = .ok (.iaload, 1) := by decide +kernel
theorem dX12_clean_14 : decode cX12_clean 14 = .ok (.ireturn, 1) := by decide +kernel
theorem dX12_logAt_0 : decode cX12_logAt 0 = .ok (.aload_n 0, 1) := by decide +kernel
theorem dX12_logAt_1 : decode cX12_logAt 1 = .ok (.getfield 17, 3) := by decide +kernel
theorem dX12_logAt_4 : decode cX12_logAt 4 = .ok (.sipush 503, 3) := by decide +kernel
theorem dX12_logAt_7 : decode cX12_logAt 7 = .ok (.bipush 9, 2) := by decide +kernel
theorem dX12_logAt_9 : decode cX12_logAt 9 = .ok (.iload_n 1, 1) := by decide +kernel
theorem dX12_logAt_10 : decode cX12_logAt 10 = .ok (.imul, 1) := by decide +kernel
theorem dX12_logAt_11 : decode cX12_logAt 11 = .ok (.iadd, 1) := by decide +kernel
theorem dX12_logAt_12 : decode cX12_logAt 12 = .ok (.iload_n 2, 1) := by decide +kernel
theorem dX12_logAt_13 : decode cX12_logAt 13 = .ok (.iadd, 1) := by decide +kernel
theorem dX12_logAt_14 : decode cX12_logAt 14 = .ok (.iaload, 1) := by decide +kernel
theorem dX12_logAt_15 : decode cX12_logAt 15 = .ok (.ireturn, 1) := by decide +kernel
theorem dX12_image_0 : decode cX12_image 0 = .ok (.iload_n 1, 1) := by decide +kernel
theorem dX12_image_1 : decode cX12_image 1 = .ok (.iconst 0, 1) := by decide +kernel
theorem dX12_image_2 : decode cX12_image 2 = .ok (.iconst 1, 1) := by decide +kernel
theorem dX12_image_3 : decode cX12_image 3 = .ok (.invokestatic 3, 3) := by decide +kernel
theorem dX12_image_6 : decode cX12_image 6 = .ok (.ifCond .ne 9, 3) := by decide +kernel
theorem dX12_image_9 : decode cX12_image 9 = .ok (.aload_n 0, 1) := by decide +kernel
theorem dX12_image_10 : decode cX12_image 10 = .ok (.iconst (-1), 1) := by decide +kernel
theorem dX12_image_11 : decode cX12_image 11 = .ok (.invokevirtual 106, 3) := by decide +kernel
theorem dX12_image_14 : decode cX12_image 14 = .ok (.ireturn, 1) := by decide +kernel
theorem dX12_image_15 : decode cX12_image 15 = .ok (.iconst 0, 1) := by decide +kernel
theorem dX12_image_16 : decode cX12_image 16 = .ok (.istore_n 2, 1) := by decide +kernel
theorem dX12_image_17 : decode cX12_image 17 = .ok (.iload_n 2, 1) := by decide +kernel
theorem dX12_image_18 : decode cX12_image 18 = .ok (.sipush 730, 3) := by decide +kernel
theorem dX12_image_21 : decode cX12_image 21 = .ok (.if_icmp .ge 27, 3) := by decide +kernel
theorem dX12_image_24 : decode cX12_image 24 = .ok (.aload_n 0, 1) := by decide +kernel
theorem dX12_image_25 : decode cX12_image 25 = .ok (.getfield 21, 3) := by decide +kernel
theorem dX12_image_28 : decode cX12_image 28 = .ok (.sipush 730, 3) := by decide +kernel
theorem dX12_image_31 : decode cX12_image 31 = .ok (.iload_n 1, 1) := by decide +kernel
theorem dX12_image_32 : decode cX12_image 32 = .ok (.imul, 1) := by decide +kernel
theorem dX12_image_33 : decode cX12_image 33 = .ok (.iload_n 2, 1) := by decide +kernel
theorem dX12_image_34 : decode cX12_image 34 = .ok (.iadd, 1) := by decide +kernel
theorem dX12_image_35 : decode cX12_image 35 = .ok (.aload_n 0, 1) := by decide +kernel
theorem dX12_image_36 : decode cX12_image 36 = .ok (.getfield 17, 3) := by decide +kernel
theorem dX12_image_39 : decode cX12_image 39 = .ok (.iload_n 2, 1) := by decide +kernel
theorem dX12_image_40 : decode cX12_image 40 = .ok (.iaload, 1) := by decide +kernel
theorem dX12_image_41 : decode cX12_image 41 = .ok (.iastore, 1) := by decide +kernel
theorem dX12_image_42 : decode cX12_image 42 = .ok (.iinc 2 1, 3) := by decide +kernel
theorem dX12_image_45 : decode cX12_image 45 = .ok (.goto (-28), 3) := by decide +kernel
theorem dX12_image_48 : decode cX12_image 48 = .ok (.aload_n 0, 1) := by decide +kernel
theorem dX12_image_49 : decode cX12_image 49 = .ok (.getfield 24, 3) := by decide +kernel
theorem dX12_image_52 : decode cX12_image 52 = .ok (.iload_n 1, 1) := by decide +kernel
theorem dX12_image_53 : decode cX12_image 53 = .ok (.iconst 1, 1) := by decide +kernel
theorem dX12_image_54 : decode cX12_image 54 = .ok (.bastore, 1) := by decide +kernel
theorem dX12_image_55 : decode cX12_image 55 = .ok (.aload_n 0, 1) := by decide +kernel
theorem dX12_image_56 : decode cX12_image 56 = .ok (.iconst 0, 1) := by decide +kernel
theorem dX12_image_57 : decode cX12_image 57 = .ok (.invokevirtual 106, 3) := by decide +kernel
theorem dX12_image_60 : decode cX12_image 60 = .ok (.ireturn, 1) := by decide +kernel
theorem dX12_back_0 : decode cX12_back 0 = .ok (.iload_n 1, 1) := by decide +kernel
theorem dX12_back_1 : decode cX12_back 1 = .ok (.iconst 0, 1) := by decide +kernel
