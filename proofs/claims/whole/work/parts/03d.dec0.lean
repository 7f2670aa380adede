theorem dX0_init_0 : decode cX0_init 0 = .ok (.aload_n 0, 1) := by decide +kernel
theorem dX0_init_1 : decode cX0_init 1 = .ok (.invokespecial 3, 3) := by decide +kernel
theorem dX0_init_4 : decode cX0_init 4 = .ok (.aload_n 0, 1) := by decide +kernel
theorem dX0_init_5 : decode cX0_init 5 = .ok (.bipush 16, 2) := by decide +kernel
theorem dX0_init_7 : decode cX0_init 7 = .ok (.newarray .int, 2) := by decide +kernel
theorem dX0_init_9 : decode cX0_init 9 = .ok (.putfield 9, 3) := by decide +kernel
theorem dX0_init_12 : decode cX0_init 12 = .ok (.aload_n 0, 1) := by decide +kernel
theorem dX0_init_13 : decode cX0_init 13 = .ok (.bipush 16, 2) := by decide +kernel
theorem dX0_init_15 : decode cX0_init 15 = .ok (.newarray .int, 2) := by decide +kernel
theorem dX0_init_17 : decode cX0_init 17 = .ok (.putfield 15, 3) := by decide +kernel
theorem dX0_init_20 : decode cX0_init 20 = .ok (.aload_n 0, 1) := by decide +kernel
theorem dX0_init_21 : decode cX0_init 21 = .ok (.bipush 16, 2) := by decide +kernel
theorem dX0_init_23 : decode cX0_init 23 = .ok (.newarray .boolean, 2) := by decide +kernel
theorem dX0_init_25 : decode cX0_init 25 = .ok (.putfield 18, 3) := by decide +kernel
theorem dX0_init_28 : decode cX0_init 28 = .ok (.aload_n 0, 1) := by decide +kernel
theorem dX0_init_29 : decode cX0_init 29 = .ok (.bipush 16, 2) := by decide +kernel
theorem dX0_init_31 : decode cX0_init 31 = .ok (.newarray .boolean, 2) := by decide +kernel
theorem dX0_init_33 : decode cX0_init 33 = .ok (.putfield 22, 3) := by decide +kernel
theorem dX0_init_36 : decode cX0_init 36 = .ok (.aload_n 0, 1) := by decide +kernel
theorem dX0_init_37 : decode cX0_init 37 = .ok (.bipush 16, 2) := by decide +kernel
theorem dX0_init_39 : decode cX0_init 39 = .ok (.newarray .int, 2) := by decide +kernel
theorem dX0_init_41 : decode cX0_init 41 = .ok (.putfield 25, 3) := by decide +kernel
theorem dX0_init_44 : decode cX0_init 44 = .ok (.aload_n 0, 1) := by decide +kernel
theorem dX0_init_45 : decode cX0_init 45 = .ok (.bipush 64, 2) := by decide +kernel
theorem dX0_init_47 : decode cX0_init 47 = .ok (.newarray .int, 2) := by decide +kernel
theorem dX0_init_49 : decode cX0_init 49 = .ok (.putfield 28, 3) := by decide +kernel
theorem dX0_init_52 : decode cX0_init 52 = .ok (.aload_n 0, 1) := by decide +kernel
theorem dX0_init_53 : decode cX0_init 53 = .ok (.aload_n 1, 1) := by decide +kernel
theorem dX0_init_54 : decode cX0_init 54 = .ok (.putfield 31, 3) := by decide +kernel
theorem dX0_init_57 : decode cX0_init 57 = .ok (.return_, 1) := by decide +kernel
theorem dX0_clear_0 : decode cX0_clear 0 = .ok (.iconst 0, 1) := by decide +kernel
theorem dX0_clear_1 : decode cX0_clear 1 = .ok (.istore_n 1, 1) := by decide +kernel
theorem dX0_clear_2 : decode cX0_clear 2 = .ok (.iload_n 1, 1) := by decide +kernel
theorem dX0_clear_3 : decode cX0_clear 3 = .ok (.bipush 16, 2) := by decide +kernel
theorem dX0_clear_5 : decode cX0_clear 5 = .ok (.if_icmp .ge 14, 3) := by decide +kernel
theorem dX0_clear_8 : decode cX0_clear 8 = .ok (.aload_n 0, 1) := by decide +kernel
theorem dX0_clear_9 : decode cX0_clear 9 = .ok (.iload_n 1, 1) := by decide +kernel
theorem dX0_clear_10 : decode cX0_clear 10 = .ok (.invokevirtual 35, 3) := by decide +kernel
theorem dX0_clear_13 : decode cX0_clear 13 = .ok (.iinc 1 1, 3) := by decide +kernel
theorem dX0_clear_16 : decode cX0_clear 16 = .ok (.goto (-14), 3) := by decide +kernel
theorem dX0_clear_19 : decode cX0_clear 19 = .ok (.return_, 1) := by decide +kernel
theorem dX0_copyFrom_0 : decode cX0_copyFrom 0 = .ok (.aload_n 1, 1) := by decide +kernel
theorem dX0_copyFrom_1 : decode cX0_copyFrom 1 = .ok (.getfield 9, 3) := by decide +kernel
theorem dX0_copyFrom_4 : decode cX0_copyFrom 4 = .ok (.iconst 0, 1) := by decide +kernel
theorem dX0_copyFrom_5 : decode cX0_copyFrom 5 = .ok (.aload_n 0, 1) := by decide +kernel
theorem dX0_copyFrom_6 : decode cX0_copyFrom 6 = .ok (.getfield 9, 3) := by decide +kernel
theorem dX0_copyFrom_9 : decode cX0_copyFrom 9 = .ok (.iconst 0, 1) := by decide +kernel
theorem dX0_copyFrom_10 : decode cX0_copyFrom 10 = .ok (.bipush 16, 2) := by decide +kernel
theorem dX0_copyFrom_12 : decode cX0_copyFrom 12 = .ok (.invokestatic 39, 3) := by decide +kernel
theorem dX0_copyFrom_15 : decode cX0_copyFrom 15 = .ok (.aload_n 1, 1) := by decide +kernel
theorem dX0_copyFrom_16 : decode cX0_copyFrom 16 = .ok (.getfield 15, 3) := by decide +kernel
theorem dX0_copyFrom_19 : decode cX0_copyFrom 19 = .ok (.iconst 0, 1) := by decide +kernel
theorem dX0_copyFrom_20 : decode cX0_copyFrom 20 = .ok (.aload_n 0, 1) := by decide +kernel
theorem dX0_copyFrom_21 : decode cX0_copyFrom 21 = .ok (.getfield 15, 3) := by decide +kernel
theorem dX0_copyFrom_24 : decode cX0_copyFrom 24 = .ok (.iconst 0, 1) := by decide +kernel
theorem dX0_copyFrom_25 : decode cX0_copyFrom 25 = .ok (.bipush 16, 2) := by decide +kernel
theorem dX0_copyFrom_27 : decode cX0_copyFrom 27 = .ok (.invokestatic 39, 3) := by decide +kernel
theorem dX0_copyFrom_30 : decode cX0_copyFrom 30 = .ok (.aload_n 1, 1) := by decide +kernel
theorem dX0_copyFrom_31 : decode cX0_copyFrom 31 = .ok (.getfield 25, 3) := by decide +kernel
theorem dX0_copyFrom_34 : decode cX0_copyFrom 34 = .ok (.iconst 0, 1) := by decide +kernel
theorem dX0_copyFrom_35 : decode cX0_copyFrom 35 = .ok (.aload_n 0, 1) := by decide +kernel
theorem dX0_copyFrom_36 : decode cX0_copyFrom 36 = .ok (.getfield 25, 3) := by decide +kernel
theorem dX0_copyFrom_39 : decode cX0_copyFrom 39 = .ok (.iconst 0, 1) := by decide +kernel
theorem dX0_copyFrom_40 : decode cX0_copyFrom 40 = .ok (.bipush 16, 2) := by decide +kernel
theorem dX0_copyFrom_42 : decode cX0_copyFrom 42 = .ok (.invokestatic 39, 3) := by decide +kernel
theorem dX0_copyFrom_45 : decode cX0_copyFrom 45 = .ok (.aload_n 1, 1) := by decide +kernel
theorem dX0_copyFrom_46 : decode cX0_copyFrom 46 = .ok (.getfield 28, 3) := by decide +kernel
theorem dX0_copyFrom_49 : decode cX0_copyFrom 49 = .ok (.iconst 0, 1) := by decide +kernel
theorem dX0_copyFrom_50 : decode cX0_copyFrom 50 = .ok (.aload_n 0, 1) := by decide +kernel
theorem dX0_copyFrom_51 : decode cX0_copyFrom 51 = .ok (.getfield 28, 3) := by decide +kernel
theorem dX0_copyFrom_54 : decode cX0_copyFrom 54 = .ok (.iconst 0, 1) := by decide +kernel
theorem dX0_copyFrom_55 : decode cX0_copyFrom 55 = .ok (.bipush 64, 2) := by decide +kernel
theorem dX0_copyFrom_57 : decode cX0_copyFrom 57 = .ok (.invokestatic 39, 3) := by decide +kernel
theorem dX0_copyFrom_60 : decode cX0_copyFrom 60 = .ok (.iconst 0, 1) := by decide +kernel
theorem dX0_copyFrom_61 : decode cX0_copyFrom 61 = .ok (.istore_n 2, 1) := by decide +kernel
theorem dX0_copyFrom_62 : decode cX0_copyFrom 62 = .ok (.iload_n 2, 1) := by decide +kernel
theorem dX0_copyFrom_63 : decode cX0_copyFrom 63 = .ok (.bipush 16, 2) := by decide +kernel
theorem dX0_copyFrom_65 : decode cX0_copyFrom 65 = .ok (.if_icmp .ge 33, 3) := by decide +kernel
theorem dX0_copyFrom_68 : decode cX0_copyFrom 68 = .ok (.aload_n 0, 1) := by decide +kernel
theorem dX0_copyFrom_69 : decode cX0_copyFrom 69 = .ok (.getfield 18, 3) := by decide +kernel
theorem dX0_copyFrom_72 : decode cX0_copyFrom 72 = .ok (.iload_n 2, 1) := by decide +kernel
theorem dX0_copyFrom_73 : decode cX0_copyFrom 73 = .ok (.aload_n 1, 1) := by decide +kernel
theorem dX0_copyFrom_74 : decode cX0_copyFrom 74 = .ok (.getfield 18, 3) := by decide +kernel
theorem dX0_copyFrom_77 : decode cX0_copyFrom 77 = .ok (.iload_n 2, 1) := by decide +kernel
theorem dX0_copyFrom_78 : decode cX0_copyFrom 78 = .ok (.baload, 1) := by decide +kernel
theorem dX0_copyFrom_79 : decode cX0_copyFrom 79 = .ok (.bastore, 1) := by decide +kernel
theorem dX0_copyFrom_80 : decode cX0_copyFrom 80 = .ok (.aload_n 0, 1) := by decide +kernel
theorem dX0_copyFrom_81 : decode cX0_copyFrom 81 = .ok (.getfield 22, 3) := by decide +kernel
theorem dX0_copyFrom_84 : decode cX0_copyFrom 84 = .ok (.iload_n 2, 1) := by decide +kernel
theorem dX0_copyFrom_85 : decode cX0_copyFrom 85 = .ok (.aload_n 1, 1) := by decide +kernel
theorem dX0_copyFrom_86 : decode cX0_copyFrom 86 = .ok (.getfield 22, 3) := by decide +kernel
theorem dX0_copyFrom_89 : decode cX0_copyFrom 89 = .ok (.iload_n 2, 1) := by decide +kernel
theorem dX0_copyFrom_90 : decode cX0_copyFrom 90 = .ok (.baload, 1) := by decide +kernel
theorem dX0_copyFrom_91 : decode cX0_copyFrom 91 = .ok (.bastore, 1) := by decide +kernel
theorem dX0_copyFrom_92 : decode cX0_copyFrom 92 = .ok (.iinc 2 1, 3) := by decide +kernel
theorem dX0_copyFrom_95 : decode cX0_copyFrom 95 = .ok (.goto (-33), 3) := by decide +kernel
theorem dX0_copyFrom_98 : decode cX0_copyFrom 98 = .ok (.return_, 1) := by decide +kernel
theorem dX0_dropLine_0 : decode cX0_dropLine 0 = .ok (.iload_n 1, 1) := by decide +kernel
theorem dX0_dropLine_1 : decode cX0_dropLine 1 = .ok (.ifCond .lt 46, 3) := by decide +kernel
theorem dX0_dropLine_4 : decode cX0_dropLine 4 = .ok (.iload_n 1, 1) := by decide +kernel
theorem dX0_dropLine_5 : decode cX0_dropLine 5 = .ok (.bipush 16, 2) := by decide +kernel
theorem dX0_dropLine_7 : decode cX0_dropLine 7 = .ok (.if_icmp .ge 40, 3) := by decide +kernel
theorem dX0_dropLine_10 : decode cX0_dropLine 10 = .ok (.aload_n 0, 1) := by decide +kernel
theorem dX0_dropLine_11 : decode cX0_dropLine 11 = .ok (.getfield 9, 3) := by decide +kernel
theorem dX0_dropLine_14 : decode cX0_dropLine 14 = .ok (.iload_n 1, 1) := by decide +kernel
theorem dX0_dropLine_15 : decode cX0_dropLine 15 = .ok (.bipush (-2), 2) := by decide +kernel
theorem dX0_dropLine_17 : decode cX0_dropLine 17 = .ok (.iastore, 1) := by decide +kernel
theorem dX0_dropLine_18 : decode cX0_dropLine 18 = .ok (.aload_n 0, 1) := by decide +kernel
theorem dX0_dropLine_19 : decode cX0_dropLine 19 = .ok (.getfield 15, 3) := by decide +kernel
theorem dX0_dropLine_22 : decode cX0_dropLine 22 = .ok (.iload_n 1, 1) := by decide +kernel
theorem dX0_dropLine_23 : decode cX0_dropLine 23 = .ok (.iconst 0, 1) := by decide +kernel
theorem dX0_dropLine_24 : decode cX0_dropLine 24 = .ok (.iastore, 1) := by decide +kernel
theorem dX0_dropLine_25 : decode cX0_dropLine 25 = .ok (.aload_n 0, 1) := by decide +kernel
theorem dX0_dropLine_26 : decode cX0_dropLine 26 = .ok (.getfield 18, 3) := by decide +kernel
theorem dX0_dropLine_29 : decode cX0_dropLine 29 = .ok (.iload_n 1, 1) := by decide +kernel
theorem dX0_dropLine_30 : decode cX0_dropLine 30 = .ok (.iconst 0, 1) := by decide +kernel
theorem dX0_dropLine_31 : decode cX0_dropLine 31 = .ok (.bastore, 1) := by decide +kernel
theorem dX0_dropLine_32 : decode cX0_dropLine 32 = .ok (.aload_n 0, 1) := by decide +kernel
theorem dX0_dropLine_33 : decode cX0_dropLine 33 = .ok (.getfield 22, 3) := by decide +kernel
theorem dX0_dropLine_36 : decode cX0_dropLine 36 = .ok (.iload_n 1, 1) := by decide +kernel
theorem dX0_dropLine_37 : decode cX0_dropLine 37 = .ok (.iconst 0, 1) := by decide +kernel
theorem dX0_dropLine_38 : decode cX0_dropLine 38 = .ok (.bastore, 1) := by decide +kernel
theorem dX0_dropLine_39 : decode cX0_dropLine 39 = .ok (.aload_n 0, 1) := by decide +kernel
theorem dX0_dropLine_40 : decode cX0_dropLine 40 = .ok (.getfield 25, 3) := by decide +kernel
theorem dX0_dropLine_43 : decode cX0_dropLine 43 = .ok (.iload_n 1, 1) := by decide +kernel
theorem dX0_dropLine_44 : decode cX0_dropLine 44 = .ok (.bipush (-2), 2) := by decide +kernel
theorem dX0_dropLine_46 : decode cX0_dropLine 46 = .ok (.iastore, 1) := by decide +kernel
theorem dX0_dropLine_47 : decode cX0_dropLine 47 = .ok (.return_, 1) := by decide +kernel
theorem dX0_find_0 : decode cX0_find 0 = .ok (.iconst 0, 1) := by decide +kernel
theorem dX0_find_1 : decode cX0_find 1 = .ok (.istore_n 2, 1) := by decide +kernel
theorem dX0_find_2 : decode cX0_find 2 = .ok (.iload_n 2, 1) := by decide +kernel
theorem dX0_find_3 : decode cX0_find 3 = .ok (.bipush 16, 2) := by decide +kernel
theorem dX0_find_5 : decode cX0_find 5 = .ok (.if_icmp .ge 21, 3) := by decide +kernel
theorem dX0_find_8 : decode cX0_find 8 = .ok (.aload_n 0, 1) := by decide +kernel
theorem dX0_find_9 : decode cX0_find 9 = .ok (.getfield 9, 3) := by decide +kernel
theorem dX0_find_12 : decode cX0_find 12 = .ok (.iload_n 2, 1) := by decide +kernel
theorem dX0_find_13 : decode cX0_find 13 = .ok (.iaload, 1) := by decide +kernel
theorem dX0_find_14 : decode cX0_find 14 = .ok (.iload_n 1, 1) := by decide +kernel
theorem dX0_find_15 : decode cX0_find 15 = .ok (.if_icmp .ne 5, 3) := by decide +kernel
theorem dX0_find_18 : decode cX0_find 18 = .ok (.iload_n 2, 1) := by decide +kernel
theorem dX0_find_19 : decode cX0_find 19 = .ok (.ireturn, 1) := by decide +kernel
theorem dX0_find_20 : decode cX0_find 20 = .ok (.iinc 2 1, 3) := by decide +kernel
theorem dX0_find_23 : decode cX0_find 23 = .ok (.goto (-21), 3) := by decide +kernel
theorem dX0_find_26 : decode cX0_find 26 = .ok (.iconst (-1), 1) := by decide +kernel
theorem dX0_find_27 : decode cX0_find 27 = .ok (.ireturn, 1) := by decide +kernel
theorem dX0_findRoom_0 : decode cX0_findRoom 0 = .ok (.aload_n 0, 1) := by decide +kernel
theorem dX0_findRoom_1 : decode cX0_findRoom 1 = .ok (.getfield 31, 3) := by decide +kernel
theorem dX0_findRoom_4 : decode cX0_findRoom 4 = .ok (.iload_n 1, 1) := by decide +kernel
theorem dX0_findRoom_5 : decode cX0_findRoom 5 = .ok (.invokevirtual 45, 3) := by decide +kernel
theorem dX0_findRoom_8 : decode cX0_findRoom 8 = .ok (.aload_n 0, 1) := by decide +kernel
theorem dX0_findRoom_9 : decode cX0_findRoom 9 = .ok (.getfield 31, 3) := by decide +kernel
theorem dX0_findRoom_12 : decode cX0_findRoom 12 = .ok (.getfield 51, 3) := by decide +kernel
theorem dX0_findRoom_15 : decode cX0_findRoom 15 = .ok (.imul, 1) := by decide +kernel
theorem dX0_findRoom_16 : decode cX0_findRoom 16 = .ok (.istore_n 2, 1) := by decide +kernel
theorem dX0_findRoom_17 : decode cX0_findRoom 17 = .ok (.iconst (-1), 1) := by decide +kernel
theorem dX0_findRoom_18 : decode cX0_findRoom 18 = .ok (.istore_n 3, 1) := by decide +kernel
theorem dX0_findRoom_19 : decode cX0_findRoom 19 = .ok (.iload_n 2, 1) := by decide +kernel
theorem dX0_findRoom_20 : decode cX0_findRoom 20 = .ok (.istore 4, 2) := by decide +kernel
theorem dX0_findRoom_22 : decode cX0_findRoom 22 = .ok (.iload 4, 2) := by decide +kernel
theorem dX0_findRoom_24 : decode cX0_findRoom 24 = .ok (.iload_n 2, 1) := by decide +kernel
theorem dX0_findRoom_25 : decode cX0_findRoom 25 = .ok (.aload_n 0, 1) := by decide +kernel
theorem dX0_findRoom_26 : decode cX0_findRoom 26 = .ok (.getfield 31, 3) := by decide +kernel
theorem dX0_findRoom_29 : decode cX0_findRoom 29 = .ok (.getfield 51, 3) := by decide +kernel
theorem dX0_findRoom_32 : decode cX0_findRoom 32 = .ok (.iadd, 1) := by decide +kernel
theorem dX0_findRoom_33 : decode cX0_findRoom 33 = .ok (.if_icmp .ge 83, 3) := by decide +kernel
theorem dX0_findRoom_36 : decode cX0_findRoom 36 = .ok (.iload 4, 2) := by decide +kernel
theorem dX0_findRoom_38 : decode cX0_findRoom 38 = .ok (.bipush 16, 2) := by decide +kernel
theorem dX0_findRoom_40 : decode cX0_findRoom 40 = .ok (.if_icmp .ge 76, 3) := by decide +kernel
theorem dX0_findRoom_43 : decode cX0_findRoom 43 = .ok (.iload 4, 2) := by decide +kernel
theorem dX0_findRoom_45 : decode cX0_findRoom 45 = .ok (.ifCond .ge 6, 3) := by decide +kernel
theorem dX0_findRoom_48 : decode cX0_findRoom 48 = .ok (.goto 62, 3) := by decide +kernel
theorem dX0_findRoom_51 : decode cX0_findRoom 51 = .ok (.aload_n 0, 1) := by decide +kernel
theorem dX0_findRoom_52 : decode cX0_findRoom 52 = .ok (.getfield 9, 3) := by decide +kernel
theorem dX0_findRoom_55 : decode cX0_findRoom 55 = .ok (.iload 4, 2) := by decide +kernel
theorem dX0_findRoom_57 : decode cX0_findRoom 57 = .ok (.iaload, 1) := by decide +kernel
theorem dX0_findRoom_58 : decode cX0_findRoom 58 = .ok (.bipush (-2), 2) := by decide +kernel
theorem dX0_findRoom_60 : decode cX0_findRoom 60 = .ok (.if_icmp .ne 6, 3) := by decide +kernel
theorem dX0_findRoom_63 : decode cX0_findRoom 63 = .ok (.iload 4, 2) := by decide +kernel
theorem dX0_findRoom_65 : decode cX0_findRoom 65 = .ok (.ireturn, 1) := by decide +kernel
theorem dX0_findRoom_66 : decode cX0_findRoom 66 = .ok (.aload_n 0, 1) := by decide +kernel
theorem dX0_findRoom_67 : decode cX0_findRoom 67 = .ok (.getfield 18, 3) := by decide +kernel
theorem dX0_findRoom_70 : decode cX0_findRoom 70 = .ok (.iload 4, 2) := by decide +kernel
theorem dX0_findRoom_72 : decode cX0_findRoom 72 = .ok (.baload, 1) := by decide +kernel
theorem dX0_findRoom_73 : decode cX0_findRoom 73 = .ok (.ifCond .ne 37, 3) := by decide +kernel
theorem dX0_findRoom_76 : decode cX0_findRoom 76 = .ok (.aload_n 0, 1) := by decide +kernel
theorem dX0_findRoom_77 : decode cX0_findRoom 77 = .ok (.getfield 22, 3) := by decide +kernel
theorem dX0_findRoom_80 : decode cX0_findRoom 80 = .ok (.iload 4, 2) := by decide +kernel
theorem dX0_findRoom_82 : decode cX0_findRoom 82 = .ok (.baload, 1) := by decide +kernel
theorem dX0_findRoom_83 : decode cX0_findRoom 83 = .ok (.ifCond .ne 27, 3) := by decide +kernel
theorem dX0_findRoom_86 : decode cX0_findRoom 86 = .ok (.iload_n 3, 1) := by decide +kernel
theorem dX0_findRoom_87 : decode cX0_findRoom 87 = .ok (.iconst (-1), 1) := by decide +kernel
theorem dX0_findRoom_88 : decode cX0_findRoom 88 = .ok (.if_icmp .eq 19, 3) := by decide +kernel
theorem dX0_findRoom_91 : decode cX0_findRoom 91 = .ok (.aload_n 0, 1) := by decide +kernel
theorem dX0_findRoom_92 : decode cX0_findRoom 92 = .ok (.getfield 25, 3) := by decide +kernel
theorem dX0_findRoom_95 : decode cX0_findRoom 95 = .ok (.iload 4, 2) := by decide +kernel
theorem dX0_findRoom_97 : decode cX0_findRoom 97 = .ok (.iaload, 1) := by decide +kernel
theorem dX0_findRoom_98 : decode cX0_findRoom 98 = .ok (.aload_n 0, 1) := by decide +kernel
theorem dX0_findRoom_99 : decode cX0_findRoom 99 = .ok (.getfield 25, 3) := by decide +kernel
theorem dX0_findRoom_102 : decode cX0_findRoom 102 = .ok (.iload_n 3, 1) := by decide +kernel
theorem dX0_findRoom_103 : decode cX0_findRoom 103 = .ok (.iaload, 1) := by decide +kernel
theorem dX0_findRoom_104 : decode cX0_findRoom 104 = .ok (.if_icmp .ge 6, 3) := by decide +kernel
theorem dX0_findRoom_107 : decode cX0_findRoom 107 = .ok (.iload 4, 2) := by decide +kernel
theorem dX0_findRoom_109 : decode cX0_findRoom 109 = .ok (.istore_n 3, 1) := by decide +kernel
theorem dX0_findRoom_110 : decode cX0_findRoom 110 = .ok (.iinc 4 1, 3) := by decide +kernel
theorem dX0_findRoom_113 : decode cX0_findRoom 113 = .ok (.goto (-91), 3) := by decide +kernel
theorem dX0_findRoom_116 : decode cX0_findRoom 116 = .ok (.iload_n 3, 1) := by decide +kernel
theorem dX0_findRoom_117 : decode cX0_findRoom 117 = .ok (.ireturn, 1) := by decide +kernel
theorem dX0_markedLines_0 : decode cX0_markedLines 0 = .ok (.iconst 0, 1) := by decide +kernel
theorem dX0_markedLines_1 : decode cX0_markedLines 1 = .ok (.istore_n 2, 1) := by decide +kernel
theorem dX0_markedLines_2 : decode cX0_markedLines 2 = .ok (.iconst 0, 1) := by decide +kernel
theorem dX0_markedLines_3 : decode cX0_markedLines 3 = .ok (.istore_n 3, 1) := by decide +kernel
theorem dX0_markedLines_4 : decode cX0_markedLines 4 = .ok (.iload_n 3, 1) := by decide +kernel
theorem dX0_markedLines_5 : decode cX0_markedLines 5 = .ok (.bipush 16, 2) := by decide +kernel
theorem dX0_markedLines_7 : decode cX0_markedLines 7 = .ok (.if_icmp .ge 54, 3) := by decide +kernel
theorem dX0_markedLines_10 : decode cX0_markedLines 10 = .ok (.aload_n 0, 1) := by decide +kernel
theorem dX0_markedLines_11 : decode cX0_markedLines 11 = .ok (.getfield 9, 3) := by decide +kernel
theorem dX0_markedLines_14 : decode cX0_markedLines 14 = .ok (.iload_n 3, 1) := by decide +kernel
theorem dX0_markedLines_15 : decode cX0_markedLines 15 = .ok (.iaload, 1) := by decide +kernel
theorem dX0_markedLines_16 : decode cX0_markedLines 16 = .ok (.ifCond .lt 39, 3) := by decide +kernel
theorem dX0_markedLines_19 : decode cX0_markedLines 19 = .ok (.iload_n 1, 1) := by decide +kernel
theorem dX0_markedLines_20 : decode cX0_markedLines 20 = .ok (.ifCond .eq 15, 3) := by decide +kernel
theorem dX0_markedLines_23 : decode cX0_markedLines 23 = .ok (.aload_n 0, 1) := by decide +kernel
theorem dX0_markedLines_24 : decode cX0_markedLines 24 = .ok (.getfield 22, 3) := by decide +kernel
theorem dX0_markedLines_27 : decode cX0_markedLines 27 = .ok (.iload_n 3, 1) := by decide +kernel
theorem dX0_markedLines_28 : decode cX0_markedLines 28 = .ok (.baload, 1) := by decide +kernel
theorem dX0_markedLines_29 : decode cX0_markedLines 29 = .ok (.ifCond .eq 26, 3) := by decide +kernel
theorem dX0_markedLines_32 : decode cX0_markedLines 32 = .ok (.goto 12, 3) := by decide +kernel
theorem dX0_markedLines_35 : decode cX0_markedLines 35 = .ok (.aload_n 0, 1) := by decide +kernel
theorem dX0_markedLines_36 : decode cX0_markedLines 36 = .ok (.getfield 18, 3) := by decide +kernel
theorem dX0_markedLines_39 : decode cX0_markedLines 39 = .ok (.iload_n 3, 1) := by decide +kernel
theorem dX0_markedLines_40 : decode cX0_markedLines 40 = .ok (.baload, 1) := by decide +kernel
theorem dX0_markedLines_41 : decode cX0_markedLines 41 = .ok (.ifCond .eq 14, 3) := by decide +kernel
theorem dX0_markedLines_44 : decode cX0_markedLines 44 = .ok (.iload_n 2, 1) := by decide +kernel
theorem dX0_markedLines_45 : decode cX0_markedLines 45 = .ok (.iconst 1, 1) := by decide +kernel
theorem dX0_markedLines_46 : decode cX0_markedLines 46 = .ok (.aload_n 0, 1) := by decide +kernel
theorem dX0_markedLines_47 : decode cX0_markedLines 47 = .ok (.getfield 9, 3) := by decide +kernel
theorem dX0_markedLines_50 : decode cX0_markedLines 50 = .ok (.iload_n 3, 1) := by decide +kernel
theorem dX0_markedLines_51 : decode cX0_markedLines 51 = .ok (.iaload, 1) := by decide +kernel
theorem dX0_markedLines_52 : decode cX0_markedLines 52 = .ok (.ishl, 1) := by decide +kernel
theorem dX0_markedLines_53 : decode cX0_markedLines 53 = .ok (.ior, 1) := by decide +kernel
theorem dX0_markedLines_54 : decode cX0_markedLines 54 = .ok (.istore_n 2, 1) := by decide +kernel
theorem dX0_markedLines_55 : decode cX0_markedLines 55 = .ok (.iinc 3 1, 3) := by decide +kernel
theorem dX0_markedLines_58 : decode cX0_markedLines 58 = .ok (.goto (-54), 3) := by decide +kernel
theorem dX0_markedLines_61 : decode cX0_markedLines 61 = .ok (.iload_n 2, 1) := by decide +kernel
theorem dX0_markedLines_62 : decode cX0_markedLines 62 = .ok (.ireturn, 1) := by decide +kernel
theorem dX0_unmark_0 : decode cX0_unmark 0 = .ok (.iconst 0, 1) := by decide +kernel
theorem dX0_unmark_1 : decode cX0_unmark 1 = .ok (.istore_n 2, 1) := by decide +kernel
theorem dX0_unmark_2 : decode cX0_unmark 2 = .ok (.iload_n 2, 1) := by decide +kernel
theorem dX0_unmark_3 : decode cX0_unmark 3 = .ok (.bipush 16, 2) := by decide +kernel
theorem dX0_unmark_5 : decode cX0_unmark 5 = .ok (.if_icmp .ge 59, 3) := by decide +kernel
theorem dX0_unmark_8 : decode cX0_unmark 8 = .ok (.iload_n 1, 1) := by decide +kernel
theorem dX0_unmark_9 : decode cX0_unmark 9 = .ok (.ifCond .eq 35, 3) := by decide +kernel
theorem dX0_unmark_12 : decode cX0_unmark 12 = .ok (.aload_n 0, 1) := by decide +kernel
theorem dX0_unmark_13 : decode cX0_unmark 13 = .ok (.getfield 22, 3) := by decide +kernel
theorem dX0_unmark_16 : decode cX0_unmark 16 = .ok (.iload_n 2, 1) := by decide +kernel
theorem dX0_unmark_17 : decode cX0_unmark 17 = .ok (.baload, 1) := by decide +kernel
theorem dX0_unmark_18 : decode cX0_unmark 18 = .ok (.ifCond .eq 26, 3) := by decide +kernel
theorem dX0_unmark_21 : decode cX0_unmark 21 = .ok (.aload_n 0, 1) := by decide +kernel
theorem dX0_unmark_22 : decode cX0_unmark 22 = .ok (.getfield 9, 3) := by decide +kernel
theorem dX0_unmark_25 : decode cX0_unmark 25 = .ok (.iload_n 2, 1) := by decide +kernel
theorem dX0_unmark_26 : decode cX0_unmark 26 = .ok (.bipush (-2), 2) := by decide +kernel
theorem dX0_unmark_28 : decode cX0_unmark 28 = .ok (.iastore, 1) := by decide +kernel
theorem dX0_unmark_29 : decode cX0_unmark 29 = .ok (.aload_n 0, 1) := by decide +kernel
theorem dX0_unmark_30 : decode cX0_unmark 30 = .ok (.getfield 15, 3) := by decide +kernel
theorem dX0_unmark_33 : decode cX0_unmark 33 = .ok (.iload_n 2, 1) := by decide +kernel
theorem dX0_unmark_34 : decode cX0_unmark 34 = .ok (.iconst 0, 1) := by decide +kernel
theorem dX0_unmark_35 : decode cX0_unmark 35 = .ok (.iastore, 1) := by decide +kernel
theorem dX0_unmark_36 : decode cX0_unmark 36 = .ok (.aload_n 0, 1) := by decide +kernel
theorem dX0_unmark_37 : decode cX0_unmark 37 = .ok (.getfield 25, 3) := by decide +kernel
theorem dX0_unmark_40 : decode cX0_unmark 40 = .ok (.iload_n 2, 1) := by decide +kernel
theorem dX0_unmark_41 : decode cX0_unmark 41 = .ok (.bipush (-2), 2) := by decide +kernel
theorem dX0_unmark_43 : decode cX0_unmark 43 = .ok (.iastore, 1) := by decide +kernel
theorem dX0_unmark_44 : decode cX0_unmark 44 = .ok (.aload_n 0, 1) := by decide +kernel
theorem dX0_unmark_45 : decode cX0_unmark 45 = .ok (.getfield 18, 3) := by decide +kernel
theorem dX0_unmark_48 : decode cX0_unmark 48 = .ok (.iload_n 2, 1) := by decide +kernel
theorem dX0_unmark_49 : decode cX0_unmark 49 = .ok (.iconst 0, 1) := by decide +kernel
theorem dX0_unmark_50 : decode cX0_unmark 50 = .ok (.bastore, 1) := by decide +kernel
theorem dX0_unmark_51 : decode cX0_unmark 51 = .ok (.aload_n 0, 1) := by decide +kernel
theorem dX0_unmark_52 : decode cX0_unmark 52 = .ok (.getfield 22, 3) := by decide +kernel
theorem dX0_unmark_55 : decode cX0_unmark 55 = .ok (.iload_n 2, 1) := by decide +kernel
theorem dX0_unmark_56 : decode cX0_unmark 56 = .ok (.iconst 0, 1) := by decide +kernel
theorem dX0_unmark_57 : decode cX0_unmark 57 = .ok (.bastore, 1) := by decide +kernel
theorem dX0_unmark_58 : decode cX0_unmark 58 = .ok (.iinc 2 1, 3) := by decide +kernel
theorem dX0_unmark_61 : decode cX0_unmark 61 = .ok (.goto (-59), 3) := by decide +kernel
theorem dX0_unmark_64 : decode cX0_unmark 64 = .ok (.return_, 1) := by decide +kernel
theorem dX0_wordIn_0 : decode cX0_wordIn 0 = .ok (.iload_n 1, 1) := by decide +kernel
theorem dX0_wordIn_1 : decode cX0_wordIn 1 = .ok (.iconst 4, 1) := by decide +kernel
theorem dX0_wordIn_2 : decode cX0_wordIn 2 = .ok (.imul, 1) := by decide +kernel
theorem dX0_wordIn_3 : decode cX0_wordIn 3 = .ok (.iload_n 2, 1) := by decide +kernel
theorem dX0_wordIn_4 : decode cX0_wordIn 4 = .ok (.iadd, 1) := by decide +kernel
theorem dX0_wordIn_5 : decode cX0_wordIn 5 = .ok (.istore_n 3, 1) := by decide +kernel
theorem dX0_wordIn_6 : decode cX0_wordIn 6 = .ok (.iload_n 3, 1) := by decide +kernel
theorem dX0_wordIn_7 : decode cX0_wordIn 7 = .ok (.ifCond .lt 21, 3) := by decide +kernel
theorem dX0_wordIn_10 : decode cX0_wordIn 10 = .ok (.iload_n 3, 1) := by decide +kernel
theorem dX0_wordIn_11 : decode cX0_wordIn 11 = .ok (.aload_n 0, 1) := by decide +kernel
theorem dX0_wordIn_12 : decode cX0_wordIn 12 = .ok (.getfield 28, 3) := by decide +kernel
theorem dX0_wordIn_15 : decode cX0_wordIn 15 = .ok (.arraylength, 1) := by decide +kernel
theorem dX0_wordIn_16 : decode cX0_wordIn 16 = .ok (.if_icmp .ge 12, 3) := by decide +kernel
theorem dX0_wordIn_19 : decode cX0_wordIn 19 = .ok (.aload_n 0, 1) := by decide +kernel
theorem dX0_wordIn_20 : decode cX0_wordIn 20 = .ok (.getfield 28, 3) := by decide +kernel
theorem dX0_wordIn_23 : decode cX0_wordIn 23 = .ok (.iload_n 3, 1) := by decide +kernel
theorem dX0_wordIn_24 : decode cX0_wordIn 24 = .ok (.iaload, 1) := by decide +kernel
theorem dX0_wordIn_25 : decode cX0_wordIn 25 = .ok (.goto 4, 3) := by decide +kernel
theorem dX0_wordIn_28 : decode cX0_wordIn 28 = .ok (.iconst 0, 1) := by decide +kernel
theorem dX0_wordIn_29 : decode cX0_wordIn 29 = .ok (.ireturn, 1) := by decide +kernel
theorem dX0_setWord_0 : decode cX0_setWord 0 = .ok (.iload_n 1, 1) := by decide +kernel
theorem dX0_setWord_1 : decode cX0_setWord 1 = .ok (.iconst 4, 1) := by decide +kernel
theorem dX0_setWord_2 : decode cX0_setWord 2 = .ok (.imul, 1) := by decide +kernel
theorem dX0_setWord_3 : decode cX0_setWord 3 = .ok (.iload_n 2, 1) := by decide +kernel
theorem dX0_setWord_4 : decode cX0_setWord 4 = .ok (.iadd, 1) := by decide +kernel
theorem dX0_setWord_5 : decode cX0_setWord 5 = .ok (.istore 4, 2) := by decide +kernel
theorem dX0_setWord_7 : decode cX0_setWord 7 = .ok (.iload 4, 2) := by decide +kernel
theorem dX0_setWord_9 : decode cX0_setWord 9 = .ok (.ifCond .lt 21, 3) := by decide +kernel
theorem dX0_setWord_12 : decode cX0_setWord 12 = .ok (.iload 4, 2) := by decide +kernel
theorem dX0_setWord_14 : decode cX0_setWord 14 = .ok (.aload_n 0, 1) := by decide +kernel
theorem dX0_setWord_15 : decode cX0_setWord 15 = .ok (.getfield 28, 3) := by decide +kernel
theorem dX0_setWord_18 : decode cX0_setWord 18 = .ok (.arraylength, 1) := by decide +kernel
theorem dX0_setWord_19 : decode cX0_setWord 19 = .ok (.if_icmp .ge 11, 3) := by decide +kernel
theorem dX0_setWord_22 : decode cX0_setWord 22 = .ok (.aload_n 0, 1) := by decide +kernel
theorem dX0_setWord_23 : decode cX0_setWord 23 = .ok (.getfield 28, 3) := by decide +kernel
theorem dX0_setWord_26 : decode cX0_setWord 26 = .ok (.iload 4, 2) := by decide +kernel
theorem dX0_setWord_28 : decode cX0_setWord 28 = .ok (.iload_n 3, 1) := by decide +kernel
theorem dX0_setWord_29 : decode cX0_setWord 29 = .ok (.iastore, 1) := by decide +kernel
theorem dX0_setWord_30 : decode cX0_setWord 30 = .ok (.return_, 1) := by decide +kernel
theorem dX1_init_0 : decode cX1_init 0 = .ok (.aload_n 0, 1) := by decide +kernel
theorem dX1_init_1 : decode cX1_init 1 = .ok (.invokespecial 3, 3) := by decide +kernel
theorem dX1_init_4 : decode cX1_init 4 = .ok (.aload_n 0, 1) := by decide +kernel
theorem dX1_init_5 : decode cX1_init 5 = .ok (.bipush 7, 2) := by decide +kernel
theorem dX1_init_7 : decode cX1_init 7 = .ok (.newarray .int, 2) := by decide +kernel
theorem dX1_init_9 : decode cX1_init 9 = .ok (.putfield 9, 3) := by decide +kernel
theorem dX1_init_12 : decode cX1_init 12 = .ok (.return_, 1) := by decide +kernel
theorem dX1_clear_0 : decode cX1_clear 0 = .ok (.aload_n 0, 1) := by decide +kernel
theorem dX1_clear_1 : decode cX1_clear 1 = .ok (.iconst 0, 1) := by decide +kernel
theorem dX1_clear_2 : decode cX1_clear 2 = .ok (.putfield 15, 3) := by decide +kernel
theorem dX1_clear_5 : decode cX1_clear 5 = .ok (.aload_n 0, 1) := by decide +kernel
theorem dX1_clear_6 : decode cX1_clear 6 = .ok (.iconst 0, 1) := by decide +kernel
theorem dX1_clear_7 : decode cX1_clear 7 = .ok (.putfield 19, 3) := by decide +kernel
theorem dX1_clear_10 : decode cX1_clear 10 = .ok (.aload_n 0, 1) := by decide +kernel
theorem dX1_clear_11 : decode cX1_clear 11 = .ok (.iconst 0, 1) := by decide +kernel
theorem dX1_clear_12 : decode cX1_clear 12 = .ok (.putfield 22, 3) := by decide +kernel
theorem dX1_clear_15 : decode cX1_clear 15 = .ok (.aload_n 0, 1) := by decide +kernel
theorem dX1_clear_16 : decode cX1_clear 16 = .ok (.iconst 0, 1) := by decide +kernel
theorem dX1_clear_17 : decode cX1_clear 17 = .ok (.putfield 25, 3) := by decide +kernel
theorem dX1_clear_20 : decode cX1_clear 20 = .ok (.aload_n 0, 1) := by decide +kernel
theorem dX1_clear_21 : decode cX1_clear 21 = .ok (.iconst 0, 1) := by decide +kernel
theorem dX1_clear_22 : decode cX1_clear 22 = .ok (.putfield 28, 3) := by decide +kernel
theorem dX1_clear_25 : decode cX1_clear 25 = .ok (.aload_n 0, 1) := by decide +kernel
theorem dX1_clear_26 : decode cX1_clear 26 = .ok (.iconst 0, 1) := by decide +kernel
theorem dX1_clear_27 : decode cX1_clear 27 = .ok (.putfield 31, 3) := by decide +kernel
theorem dX1_clear_30 : decode cX1_clear 30 = .ok (.aload_n 0, 1) := by decide +kernel
theorem dX1_clear_31 : decode cX1_clear 31 = .ok (.bipush (-2), 2) := by decide +kernel
theorem dX1_clear_33 : decode cX1_clear 33 = .ok (.putfield 34, 3) := by decide +kernel
theorem dX1_clear_36 : decode cX1_clear 36 = .ok (.iconst 0, 1) := by decide +kernel
theorem dX1_clear_37 : decode cX1_clear 37 = .ok (.istore_n 1, 1) := by decide +kernel
theorem dX1_clear_38 : decode cX1_clear 38 = .ok (.iload_n 1, 1) := by decide +kernel
theorem dX1_clear_39 : decode cX1_clear 39 = .ok (.bipush 7, 2) := by decide +kernel
theorem dX1_clear_41 : decode cX1_clear 41 = .ok (.if_icmp .ge 16, 3) := by decide +kernel
theorem dX1_clear_44 : decode cX1_clear 44 = .ok (.aload_n 0, 1) := by decide +kernel
theorem dX1_clear_45 : decode cX1_clear 45 = .ok (.getfield 9, 3) := by decide +kernel
theorem dX1_clear_48 : decode cX1_clear 48 = .ok (.iload_n 1, 1) := by decide +kernel
theorem dX1_clear_49 : decode cX1_clear 49 = .ok (.iconst 0, 1) := by decide +kernel
theorem dX1_clear_50 : decode cX1_clear 50 = .ok (.iastore, 1) := by decide +kernel
theorem dX1_clear_51 : decode cX1_clear 51 = .ok (.iinc 1 1, 3) := by decide +kernel
theorem dX1_clear_54 : decode cX1_clear 54 = .ok (.goto (-16), 3) := by decide +kernel
theorem dX1_clear_57 : decode cX1_clear 57 = .ok (.return_, 1) := by decide +kernel
theorem dX1_copyFrom_0 : decode cX1_copyFrom 0 = .ok (.aload_n 0, 1) := by decide +kernel
theorem dX1_copyFrom_1 : decode cX1_copyFrom 1 = .ok (.aload_n 1, 1) := by decide +kernel
theorem dX1_copyFrom_2 : decode cX1_copyFrom 2 = .ok (.getfield 15, 3) := by decide +kernel
theorem dX1_copyFrom_5 : decode cX1_copyFrom 5 = .ok (.putfield 15, 3) := by decide +kernel
theorem dX1_copyFrom_8 : decode cX1_copyFrom 8 = .ok (.aload_n 0, 1) := by decide +kernel
theorem dX1_copyFrom_9 : decode cX1_copyFrom 9 = .ok (.aload_n 1, 1) := by decide +kernel
theorem dX1_copyFrom_10 : decode cX1_copyFrom 10 = .ok (.getfield 19, 3) := by decide +kernel
theorem dX1_copyFrom_13 : decode cX1_copyFrom 13 = .ok (.putfield 19, 3) := by decide +kernel
theorem dX1_copyFrom_16 : decode cX1_copyFrom 16 = .ok (.aload_n 0, 1) := by decide +kernel
theorem dX1_copyFrom_17 : decode cX1_copyFrom 17 = .ok (.aload_n 1, 1) := by decide +kernel
theorem dX1_copyFrom_18 : decode cX1_copyFrom 18 = .ok (.getfield 22, 3) := by decide +kernel
theorem dX1_copyFrom_21 : decode cX1_copyFrom 21 = .ok (.putfield 22, 3) := by decide +kernel
theorem dX1_copyFrom_24 : decode cX1_copyFrom 24 = .ok (.aload_n 0, 1) := by decide +kernel
theorem dX1_copyFrom_25 : decode cX1_copyFrom 25 = .ok (.aload_n 1, 1) := by decide +kernel
theorem dX1_copyFrom_26 : decode cX1_copyFrom 26 = .ok (.getfield 25, 3) := by decide +kernel
theorem dX1_copyFrom_29 : decode cX1_copyFrom 29 = .ok (.putfield 25, 3) := by decide +kernel
theorem dX1_copyFrom_32 : decode cX1_copyFrom 32 = .ok (.aload_n 0, 1) := by decide +kernel
theorem dX1_copyFrom_33 : decode cX1_copyFrom 33 = .ok (.aload_n 1, 1) := by decide +kernel
theorem dX1_copyFrom_34 : decode cX1_copyFrom 34 = .ok (.getfield 28, 3) := by decide +kernel
theorem dX1_copyFrom_37 : decode cX1_copyFrom 37 = .ok (.putfield 28, 3) := by decide +kernel
theorem dX1_copyFrom_40 : decode cX1_copyFrom 40 = .ok (.aload_n 0, 1) := by decide +kernel
theorem dX1_copyFrom_41 : decode cX1_copyFrom 41 = .ok (.aload_n 1, 1) := by decide +kernel
theorem dX1_copyFrom_42 : decode cX1_copyFrom 42 = .ok (.getfield 31, 3) := by decide +kernel
theorem dX1_copyFrom_45 : decode cX1_copyFrom 45 = .ok (.putfield 31, 3) := by decide +kernel
theorem dX1_copyFrom_48 : decode cX1_copyFrom 48 = .ok (.aload_n 0, 1) := by decide +kernel
theorem dX1_copyFrom_49 : decode cX1_copyFrom 49 = .ok (.aload_n 1, 1) := by decide +kernel
theorem dX1_copyFrom_50 : decode cX1_copyFrom 50 = .ok (.getfield 34, 3) := by decide +kernel
theorem dX1_copyFrom_53 : decode cX1_copyFrom 53 = .ok (.putfield 34, 3) := by decide +kernel
theorem dX1_copyFrom_56 : decode cX1_copyFrom 56 = .ok (.aload_n 1, 1) := by decide +kernel
theorem dX1_copyFrom_57 : decode cX1_copyFrom 57 = .ok (.getfield 9, 3) := by decide +kernel
theorem dX1_copyFrom_60 : decode cX1_copyFrom 60 = .ok (.iconst 0, 1) := by decide +kernel
theorem dX1_copyFrom_61 : decode cX1_copyFrom 61 = .ok (.aload_n 0, 1) := by decide +kernel
theorem dX1_copyFrom_62 : decode cX1_copyFrom 62 = .ok (.getfield 9, 3) := by decide +kernel
theorem dX1_copyFrom_65 : decode cX1_copyFrom 65 = .ok (.iconst 0, 1) := by decide +kernel
theorem dX1_copyFrom_66 : decode cX1_copyFrom 66 = .ok (.bipush 7, 2) := by decide +kernel
theorem dX1_copyFrom_68 : decode cX1_copyFrom 68 = .ok (.invokestatic 37, 3) := by decide +kernel
theorem dX1_copyFrom_71 : decode cX1_copyFrom 71 = .ok (.return_, 1) := by decide +kernel
theorem dX2_init_0 : decode cX2_init 0 = .ok (.aload_n 0, 1) := by decide +kernel
theorem dX2_init_1 : decode cX2_init 1 = .ok (.invokespecial 3, 3) := by decide +kernel
theorem dX2_init_4 : decode cX2_init 4 = .ok (.aload_n 0, 1) := by decide +kernel
theorem dX2_init_5 : decode cX2_init 5 = .ok (.iconst 4, 1) := by decide +kernel
theorem dX2_init_6 : decode cX2_init 6 = .ok (.newarray .int, 2) := by decide +kernel
theorem dX2_init_8 : decode cX2_init 8 = .ok (.putfield 9, 3) := by decide +kernel
theorem dX2_init_11 : decode cX2_init 11 = .ok (.aload_n 0, 1) := by decide +kernel
theorem dX2_init_12 : decode cX2_init 12 = .ok (.bipush 96, 2) := by decide +kernel
theorem dX2_init_14 : decode cX2_init 14 = .ok (.newarray .int, 2) := by decide +kernel
theorem dX2_init_16 : decode cX2_init 16 = .ok (.putfield 15, 3) := by decide +kernel
theorem dX2_init_19 : decode cX2_init 19 = .ok (.aload_n 0, 1) := by decide +kernel
theorem dX2_init_20 : decode cX2_init 20 = .ok (.bipush 96, 2) := by decide +kernel
theorem dX2_init_22 : decode cX2_init 22 = .ok (.newarray .int, 2) := by decide +kernel
theorem dX2_init_24 : decode cX2_init 24 = .ok (.putfield 18, 3) := by decide +kernel
theorem dX2_init_27 : decode cX2_init 27 = .ok (.aload_n 0, 1) := by decide +kernel
theorem dX2_init_28 : decode cX2_init 28 = .ok (.bipush 96, 2) := by decide +kernel
theorem dX2_init_30 : decode cX2_init 30 = .ok (.newarray .boolean, 2) := by decide +kernel
theorem dX2_init_32 : decode cX2_init 32 = .ok (.putfield 21, 3) := by decide +kernel
theorem dX2_init_35 : decode cX2_init 35 = .ok (.aload_n 0, 1) := by decide +kernel
theorem dX2_init_36 : decode cX2_init 36 = .ok (.bipush 64, 2) := by decide +kernel
theorem dX2_init_38 : decode cX2_init 38 = .ok (.newarray .int, 2) := by decide +kernel
theorem dX2_init_40 : decode cX2_init 40 = .ok (.putfield 25, 3) := by decide +kernel
theorem dX2_init_43 : decode cX2_init 43 = .ok (.return_, 1) := by decide +kernel
theorem dX2_clear_0 : decode cX2_clear 0 = .ok (.aload_n 0, 1) := by decide +kernel
theorem dX2_clear_1 : decode cX2_clear 1 = .ok (.iconst 0, 1) := by decide +kernel
theorem dX2_clear_2 : decode cX2_clear 2 = .ok (.putfield 28, 3) := by decide +kernel
theorem dX2_clear_5 : decode cX2_clear 5 = .ok (.aload_n 0, 1) := by decide +kernel
theorem dX2_clear_6 : decode cX2_clear 6 = .ok (.iconst 0, 1) := by decide +kernel
theorem dX2_clear_7 : decode cX2_clear 7 = .ok (.putfield 32, 3) := by decide +kernel
theorem dX2_clear_10 : decode cX2_clear 10 = .ok (.aload_n 0, 1) := by decide +kernel
theorem dX2_clear_11 : decode cX2_clear 11 = .ok (.iconst 0, 1) := by decide +kernel
theorem dX2_clear_12 : decode cX2_clear 12 = .ok (.putfield 35, 3) := by decide +kernel
theorem dX2_clear_15 : decode cX2_clear 15 = .ok (.aload_n 0, 1) := by decide +kernel
theorem dX2_clear_16 : decode cX2_clear 16 = .ok (.iconst 0, 1) := by decide +kernel
theorem dX2_clear_17 : decode cX2_clear 17 = .ok (.putfield 38, 3) := by decide +kernel
theorem dX2_clear_20 : decode cX2_clear 20 = .ok (.aload_n 0, 1) := by decide +kernel
theorem dX2_clear_21 : decode cX2_clear 21 = .ok (.iconst 0, 1) := by decide +kernel
theorem dX2_clear_22 : decode cX2_clear 22 = .ok (.putfield 41, 3) := by decide +kernel
theorem dX2_clear_25 : decode cX2_clear 25 = .ok (.aload_n 0, 1) := by decide +kernel
theorem dX2_clear_26 : decode cX2_clear 26 = .ok (.iconst 0, 1) := by decide +kernel
theorem dX2_clear_27 : decode cX2_clear 27 = .ok (.putfield 44, 3) := by decide +kernel
theorem dX2_clear_30 : decode cX2_clear 30 = .ok (.aload_n 0, 1) := by decide +kernel
theorem dX2_clear_31 : decode cX2_clear 31 = .ok (.iconst 0, 1) := by decide +kernel
theorem dX2_clear_32 : decode cX2_clear 32 = .ok (.putfield 47, 3) := by decide +kernel
theorem dX2_clear_35 : decode cX2_clear 35 = .ok (.iconst 0, 1) := by decide +kernel
theorem dX2_clear_36 : decode cX2_clear 36 = .ok (.istore_n 1, 1) := by decide +kernel
theorem dX2_clear_37 : decode cX2_clear 37 = .ok (.iload_n 1, 1) := by decide +kernel
theorem dX2_clear_38 : decode cX2_clear 38 = .ok (.iconst 4, 1) := by decide +kernel
theorem dX2_clear_39 : decode cX2_clear 39 = .ok (.if_icmp .ge 16, 3) := by decide +kernel
theorem dX2_clear_42 : decode cX2_clear 42 = .ok (.aload_n 0, 1) := by decide +kernel
theorem dX2_clear_43 : decode cX2_clear 43 = .ok (.getfield 9, 3) := by decide +kernel
theorem dX2_clear_46 : decode cX2_clear 46 = .ok (.iload_n 1, 1) := by decide +kernel
theorem dX2_clear_47 : decode cX2_clear 47 = .ok (.iconst 0, 1) := by decide +kernel
theorem dX2_clear_48 : decode cX2_clear 48 = .ok (.iastore, 1) := by decide +kernel
theorem dX2_clear_49 : decode cX2_clear 49 = .ok (.iinc 1 1, 3) := by decide +kernel
theorem dX2_clear_52 : decode cX2_clear 52 = .ok (.goto (-15), 3) := by decide +kernel
theorem dX2_clear_55 : decode cX2_clear 55 = .ok (.iconst 0, 1) := by decide +kernel
theorem dX2_clear_56 : decode cX2_clear 56 = .ok (.istore_n 1, 1) := by decide +kernel
theorem dX2_clear_57 : decode cX2_clear 57 = .ok (.iload_n 1, 1) := by decide +kernel
theorem dX2_clear_58 : decode cX2_clear 58 = .ok (.bipush 64, 2) := by decide +kernel
theorem dX2_clear_60 : decode cX2_clear 60 = .ok (.if_icmp .ge 16, 3) := by decide +kernel
theorem dX2_clear_63 : decode cX2_clear 63 = .ok (.aload_n 0, 1) := by decide +kernel
theorem dX2_clear_64 : decode cX2_clear 64 = .ok (.getfield 25, 3) := by decide +kernel
theorem dX2_clear_67 : decode cX2_clear 67 = .ok (.iload_n 1, 1) := by decide +kernel
theorem dX2_clear_68 : decode cX2_clear 68 = .ok (.iconst 0, 1) := by decide +kernel
theorem dX2_clear_69 : decode cX2_clear 69 = .ok (.iastore, 1) := by decide +kernel
theorem dX2_clear_70 : decode cX2_clear 70 = .ok (.iinc 1 1, 3) := by decide +kernel
theorem dX2_clear_73 : decode cX2_clear 73 = .ok (.goto (-16), 3) := by decide +kernel
theorem dX2_clear_76 : decode cX2_clear 76 = .ok (.return_, 1) := by decide +kernel
theorem dX2_copyFrom_0 : decode cX2_copyFrom 0 = .ok (.aload_n 0, 1) := by decide +kernel
theorem dX2_copyFrom_1 : decode cX2_copyFrom 1 = .ok (.aload_n 1, 1) := by decide +kernel
theorem dX2_copyFrom_2 : decode cX2_copyFrom 2 = .ok (.getfield 28, 3) := by decide +kernel
theorem dX2_copyFrom_5 : decode cX2_copyFrom 5 = .ok (.putfield 28, 3) := by decide +kernel
theorem dX2_copyFrom_8 : decode cX2_copyFrom 8 = .ok (.aload_n 0, 1) := by decide +kernel
theorem dX2_copyFrom_9 : decode cX2_copyFrom 9 = .ok (.aload_n 1, 1) := by decide +kernel
theorem dX2_copyFrom_10 : decode cX2_copyFrom 10 = .ok (.getfield 32, 3) := by decide +kernel
theorem dX2_copyFrom_13 : decode cX2_copyFrom 13 = .ok (.putfield 32, 3) := by decide +kernel
theorem dX2_copyFrom_16 : decode cX2_copyFrom 16 = .ok (.aload_n 0, 1) := by decide +kernel
theorem dX2_copyFrom_17 : decode cX2_copyFrom 17 = .ok (.aload_n 1, 1) := by decide +kernel
theorem dX2_copyFrom_18 : decode cX2_copyFrom 18 = .ok (.getfield 35, 3) := by decide +kernel
theorem dX2_copyFrom_21 : decode cX2_copyFrom 21 = .ok (.putfield 35, 3) := by decide +kernel
theorem dX2_copyFrom_24 : decode cX2_copyFrom 24 = .ok (.aload_n 0, 1) := by decide +kernel
theorem dX2_copyFrom_25 : decode cX2_copyFrom 25 = .ok (.aload_n 1, 1) := by decide +kernel
theorem dX2_copyFrom_26 : decode cX2_copyFrom 26 = .ok (.getfield 38, 3) := by decide +kernel
theorem dX2_copyFrom_29 : decode cX2_copyFrom 29 = .ok (.putfield 38, 3) := by decide +kernel
theorem dX2_copyFrom_32 : decode cX2_copyFrom 32 = .ok (.aload_n 0, 1) := by decide +kernel
theorem dX2_copyFrom_33 : decode cX2_copyFrom 33 = .ok (.aload_n 1, 1) := by decide +kernel
theorem dX2_copyFrom_34 : decode cX2_copyFrom 34 = .ok (.getfield 41, 3) := by decide +kernel
theorem dX2_copyFrom_37 : decode cX2_copyFrom 37 = .ok (.putfield 41, 3) := by decide +kernel
theorem dX2_copyFrom_40 : decode cX2_copyFrom 40 = .ok (.aload_n 0, 1) := by decide +kernel
theorem dX2_copyFrom_41 : decode cX2_copyFrom 41 = .ok (.aload_n 1, 1) := by decide +kernel
theorem dX2_copyFrom_42 : decode cX2_copyFrom 42 = .ok (.getfield 44, 3) := by decide +kernel
theorem dX2_copyFrom_45 : decode cX2_copyFrom 45 = .ok (.putfield 44, 3) := by decide +kernel
theorem dX2_copyFrom_48 : decode cX2_copyFrom 48 = .ok (.aload_n 0, 1) := by decide +kernel
theorem dX2_copyFrom_49 : decode cX2_copyFrom 49 = .ok (.aload_n 1, 1) := by decide +kernel
theorem dX2_copyFrom_50 : decode cX2_copyFrom 50 = .ok (.getfield 47, 3) := by decide +kernel
theorem dX2_copyFrom_53 : decode cX2_copyFrom 53 = .ok (.putfield 47, 3) := by decide +kernel
theorem dX2_copyFrom_56 : decode cX2_copyFrom 56 = .ok (.aload_n 1, 1) := by decide +kernel
theorem dX2_copyFrom_57 : decode cX2_copyFrom 57 = .ok (.getfield 9, 3) := by decide +kernel
theorem dX2_copyFrom_60 : decode cX2_copyFrom 60 = .ok (.iconst 0, 1) := by decide +kernel
theorem dX2_copyFrom_61 : decode cX2_copyFrom 61 = .ok (.aload_n 0, 1) := by decide +kernel
theorem dX2_copyFrom_62 : decode cX2_copyFrom 62 = .ok (.getfield 9, 3) := by decide +kernel
theorem dX2_copyFrom_65 : decode cX2_copyFrom 65 = .ok (.iconst 0, 1) := by decide +kernel
theorem dX2_copyFrom_66 : decode cX2_copyFrom 66 = .ok (.iconst 4, 1) := by decide +kernel
theorem dX2_copyFrom_67 : decode cX2_copyFrom 67 = .ok (.invokestatic 50, 3) := by decide +kernel
theorem dX2_copyFrom_70 : decode cX2_copyFrom 70 = .ok (.aload_n 1, 1) := by decide +kernel
theorem dX2_copyFrom_71 : decode cX2_copyFrom 71 = .ok (.getfield 15, 3) := by decide +kernel
theorem dX2_copyFrom_74 : decode cX2_copyFrom 74 = .ok (.iconst 0, 1) := by decide +kernel
theorem dX2_copyFrom_75 : decode cX2_copyFrom 75 = .ok (.aload_n 0, 1) := by decide +kernel
theorem dX2_copyFrom_76 : decode cX2_copyFrom 76 = .ok (.getfield 15, 3) := by decide +kernel
theorem dX2_copyFrom_79 : decode cX2_copyFrom 79 = .ok (.iconst 0, 1) := by decide +kernel
theorem dX2_copyFrom_80 : decode cX2_copyFrom 80 = .ok (.bipush 96, 2) := by decide +kernel
theorem dX2_copyFrom_82 : decode cX2_copyFrom 82 = .ok (.invokestatic 50, 3) := by decide +kernel
theorem dX2_copyFrom_85 : decode cX2_copyFrom 85 = .ok (.aload_n 1, 1) := by decide +kernel
theorem dX2_copyFrom_86 : decode cX2_copyFrom 86 = .ok (.getfield 18, 3) := by decide +kernel
theorem dX2_copyFrom_89 : decode cX2_copyFrom 89 = .ok (.iconst 0, 1) := by decide +kernel
theorem dX2_copyFrom_90 : decode cX2_copyFrom 90 = .ok (.aload_n 0, 1) := by decide +kernel
theorem dX2_copyFrom_91 : decode cX2_copyFrom 91 = .ok (.getfield 18, 3) := by decide +kernel
theorem dX2_copyFrom_94 : decode cX2_copyFrom 94 = .ok (.iconst 0, 1) := by decide +kernel
theorem dX2_copyFrom_95 : decode cX2_copyFrom 95 = .ok (.bipush 96, 2) := by decide +kernel
theorem dX2_copyFrom_97 : decode cX2_copyFrom 97 = .ok (.invokestatic 50, 3) := by decide +kernel
theorem dX2_copyFrom_100 : decode cX2_copyFrom 100 = .ok (.aload_n 1, 1) := by decide +kernel
theorem dX2_copyFrom_101 : decode cX2_copyFrom 101 = .ok (.getfield 25, 3) := by decide +kernel
theorem dX2_copyFrom_104 : decode cX2_copyFrom 104 = .ok (.iconst 0, 1) := by decide +kernel
theorem dX2_copyFrom_105 : decode cX2_copyFrom 105 = .ok (.aload_n 0, 1) := by decide +kernel
theorem dX2_copyFrom_106 : decode cX2_copyFrom 106 = .ok (.getfield 25, 3) := by decide +kernel
theorem dX2_copyFrom_109 : decode cX2_copyFrom 109 = .ok (.iconst 0, 1) := by decide +kernel
theorem dX2_copyFrom_110 : decode cX2_copyFrom 110 = .ok (.bipush 64, 2) := by decide +kernel
theorem dX2_copyFrom_112 : decode cX2_copyFrom 112 = .ok (.invokestatic 50, 3) := by decide +kernel
theorem dX2_copyFrom_115 : decode cX2_copyFrom 115 = .ok (.iconst 0, 1) := by decide +kernel
theorem dX2_copyFrom_116 : decode cX2_copyFrom 116 = .ok (.istore_n 2, 1) := by decide +kernel
theorem dX2_copyFrom_117 : decode cX2_copyFrom 117 = .ok (.iload_n 2, 1) := by decide +kernel
theorem dX2_copyFrom_118 : decode cX2_copyFrom 118 = .ok (.bipush 96, 2) := by decide +kernel
theorem dX2_copyFrom_120 : decode cX2_copyFrom 120 = .ok (.if_icmp .ge 21, 3) := by decide +kernel
theorem dX2_copyFrom_123 : decode cX2_copyFrom 123 = .ok (.aload_n 0, 1) := by decide +kernel
theorem dX2_copyFrom_124 : decode cX2_copyFrom 124 = .ok (.getfield 21, 3) := by decide +kernel
theorem dX2_copyFrom_127 : decode cX2_copyFrom 127 = .ok (.iload_n 2, 1) := by decide +kernel
theorem dX2_copyFrom_128 : decode cX2_copyFrom 128 = .ok (.aload_n 1, 1) := by decide +kernel
theorem dX2_copyFrom_129 : decode cX2_copyFrom 129 = .ok (.getfield 21, 3) := by decide +kernel
theorem dX2_copyFrom_132 : decode cX2_copyFrom 132 = .ok (.iload_n 2, 1) := by decide +kernel
theorem dX2_copyFrom_133 : decode cX2_copyFrom 133 = .ok (.baload, 1) := by decide +kernel
theorem dX2_copyFrom_134 : decode cX2_copyFrom 134 = .ok (.bastore, 1) := by decide +kernel
theorem dX2_copyFrom_135 : decode cX2_copyFrom 135 = .ok (.iinc 2 1, 3) := by decide +kernel
theorem dX2_copyFrom_138 : decode cX2_copyFrom 138 = .ok (.goto (-21), 3) := by decide +kernel
theorem dX2_copyFrom_141 : decode cX2_copyFrom 141 = .ok (.return_, 1) := by decide +kernel
theorem dX2_addresses_0 : decode cX2_addresses 0 = .ok (.bipush 16, 2) := by decide +kernel
theorem dX2_addresses_2 : decode cX2_addresses 2 = .ok (.aload_n 0, 1) := by decide +kernel
theorem dX2_addresses_3 : decode cX2_addresses 3 = .ok (.getfield 35, 3) := by decide +kernel
theorem dX2_addresses_6 : decode cX2_addresses 6 = .ok (.imul, 1) := by decide +kernel
theorem dX2_addresses_7 : decode cX2_addresses 7 = .ok (.ireturn, 1) := by decide +kernel
theorem dX2_hasCore_0 : decode cX2_hasCore 0 = .ok (.iload_n 1, 1) := by decide +kernel
theorem dX2_hasCore_1 : decode cX2_hasCore 1 = .ok (.ifCond .lt 20, 3) := by decide +kernel
theorem dX2_hasCore_4 : decode cX2_hasCore 4 = .ok (.iload_n 1, 1) := by decide +kernel
theorem dX2_hasCore_5 : decode cX2_hasCore 5 = .ok (.aload_n 0, 1) := by decide +kernel
theorem dX2_hasCore_6 : decode cX2_hasCore 6 = .ok (.getfield 44, 3) := by decide +kernel
theorem dX2_hasCore_9 : decode cX2_hasCore 9 = .ok (.if_icmp .ge 12, 3) := by decide +kernel
theorem dX2_hasCore_12 : decode cX2_hasCore 12 = .ok (.iload_n 1, 1) := by decide +kernel
theorem dX2_hasCore_13 : decode cX2_hasCore 13 = .ok (.iconst 4, 1) := by decide +kernel
theorem dX2_hasCore_14 : decode cX2_hasCore 14 = .ok (.if_icmp .ge 7, 3) := by decide +kernel
theorem dX2_hasCore_17 : decode cX2_hasCore 17 = .ok (.iconst 1, 1) := by decide +kernel
theorem dX2_hasCore_18 : decode cX2_hasCore 18 = .ok (.goto 4, 3) := by decide +kernel
theorem dX2_hasCore_21 : decode cX2_hasCore 21 = .ok (.iconst 0, 1) := by decide +kernel
theorem dX2_hasCore_22 : decode cX2_hasCore 22 = .ok (.ireturn, 1) := by decide +kernel
theorem dX2_hasAddress_0 : decode cX2_hasAddress 0 = .ok (.iload_n 1, 1) := by decide +kernel
theorem dX2_hasAddress_1 : decode cX2_hasAddress 1 = .ok (.ifCond .lt 21, 3) := by decide +kernel
theorem dX2_hasAddress_4 : decode cX2_hasAddress 4 = .ok (.iload_n 1, 1) := by decide +kernel
theorem dX2_hasAddress_5 : decode cX2_hasAddress 5 = .ok (.aload_n 0, 1) := by decide +kernel
theorem dX2_hasAddress_6 : decode cX2_hasAddress 6 = .ok (.invokevirtual 56, 3) := by decide +kernel
theorem dX2_hasAddress_9 : decode cX2_hasAddress 9 = .ok (.if_icmp .ge 13, 3) := by decide +kernel
theorem dX2_hasAddress_12 : decode cX2_hasAddress 12 = .ok (.iload_n 1, 1) := by decide +kernel
theorem dX2_hasAddress_13 : decode cX2_hasAddress 13 = .ok (.bipush 64, 2) := by decide +kernel
theorem dX2_hasAddress_15 : decode cX2_hasAddress 15 = .ok (.if_icmp .ge 7, 3) := by decide +kernel
theorem dX2_hasAddress_18 : decode cX2_hasAddress 18 = .ok (.iconst 1, 1) := by decide +kernel
theorem dX2_hasAddress_19 : decode cX2_hasAddress 19 = .ok (.goto 4, 3) := by decide +kernel
theorem dX2_hasAddress_22 : decode cX2_hasAddress 22 = .ok (.iconst 0, 1) := by decide +kernel
theorem dX2_hasAddress_23 : decode cX2_hasAddress 23 = .ok (.ireturn, 1) := by decide +kernel
theorem dX2_hasDeed_0 : decode cX2_hasDeed 0 = .ok (.iload_n 1, 1) := by decide +kernel
theorem dX2_hasDeed_1 : decode cX2_hasDeed 1 = .ok (.ifCond .lt 40, 3) := by decide +kernel
theorem dX2_hasDeed_4 : decode cX2_hasDeed 4 = .ok (.iload_n 1, 1) := by decide +kernel
theorem dX2_hasDeed_5 : decode cX2_hasDeed 5 = .ok (.aload_n 0, 1) := by decide +kernel
theorem dX2_hasDeed_6 : decode cX2_hasDeed 6 = .ok (.getfield 44, 3) := by decide +kernel
theorem dX2_hasDeed_9 : decode cX2_hasDeed 9 = .ok (.if_icmp .ge 32, 3) := by decide +kernel
theorem dX2_hasDeed_12 : decode cX2_hasDeed 12 = .ok (.iload_n 1, 1) := by decide +kernel
theorem dX2_hasDeed_13 : decode cX2_hasDeed 13 = .ok (.iconst 4, 1) := by decide +kernel
theorem dX2_hasDeed_14 : decode cX2_hasDeed 14 = .ok (.if_icmp .ge 27, 3) := by decide +kernel
theorem dX2_hasDeed_17 : decode cX2_hasDeed 17 = .ok (.iload_n 2, 1) := by decide +kernel
theorem dX2_hasDeed_18 : decode cX2_hasDeed 18 = .ok (.ifCond .lt 23, 3) := by decide +kernel
theorem dX2_hasDeed_21 : decode cX2_hasDeed 21 = .ok (.iload_n 2, 1) := by decide +kernel
theorem dX2_hasDeed_22 : decode cX2_hasDeed 22 = .ok (.aload_n 0, 1) := by decide +kernel
theorem dX2_hasDeed_23 : decode cX2_hasDeed 23 = .ok (.getfield 9, 3) := by decide +kernel
theorem dX2_hasDeed_26 : decode cX2_hasDeed 26 = .ok (.iload_n 1, 1) := by decide +kernel
theorem dX2_hasDeed_27 : decode cX2_hasDeed 27 = .ok (.iaload, 1) := by decide +kernel
theorem dX2_hasDeed_28 : decode cX2_hasDeed 28 = .ok (.if_icmp .ge 13, 3) := by decide +kernel
theorem dX2_hasDeed_31 : decode cX2_hasDeed 31 = .ok (.iload_n 2, 1) := by decide +kernel
theorem dX2_hasDeed_32 : decode cX2_hasDeed 32 = .ok (.bipush 24, 2) := by decide +kernel
theorem dX2_hasDeed_34 : decode cX2_hasDeed 34 = .ok (.if_icmp .ge 7, 3) := by decide +kernel
theorem dX2_hasDeed_37 : decode cX2_hasDeed 37 = .ok (.iconst 1, 1) := by decide +kernel
theorem dX2_hasDeed_38 : decode cX2_hasDeed 38 = .ok (.goto 4, 3) := by decide +kernel
theorem dX2_hasDeed_41 : decode cX2_hasDeed 41 = .ok (.iconst 0, 1) := by decide +kernel
theorem dX2_hasDeed_42 : decode cX2_hasDeed 42 = .ok (.ireturn, 1) := by decide +kernel
theorem dX2_sortOf_0 : decode cX2_sortOf 0 = .ok (.aload_n 0, 1) := by decide +kernel
theorem dX2_sortOf_1 : decode cX2_sortOf 1 = .ok (.iload_n 1, 1) := by decide +kernel
theorem dX2_sortOf_2 : decode cX2_sortOf 2 = .ok (.iload_n 2, 1) := by decide +kernel
theorem dX2_sortOf_3 : decode cX2_sortOf 3 = .ok (.invokevirtual 60, 3) := by decide +kernel
theorem dX2_sortOf_6 : decode cX2_sortOf 6 = .ok (.ifCond .eq 17, 3) := by decide +kernel
theorem dX2_sortOf_9 : decode cX2_sortOf 9 = .ok (.aload_n 0, 1) := by decide +kernel
theorem dX2_sortOf_10 : decode cX2_sortOf 10 = .ok (.getfield 15, 3) := by decide +kernel
theorem dX2_sortOf_13 : decode cX2_sortOf 13 = .ok (.iload_n 1, 1) := by decide +kernel
theorem dX2_sortOf_14 : decode cX2_sortOf 14 = .ok (.bipush 24, 2) := by decide +kernel
theorem dX2_sortOf_16 : decode cX2_sortOf 16 = .ok (.imul, 1) := by decide +kernel
theorem dX2_sortOf_17 : decode cX2_sortOf 17 = .ok (.iload_n 2, 1) := by decide +kernel
theorem dX2_sortOf_18 : decode cX2_sortOf 18 = .ok (.iadd, 1) := by decide +kernel
theorem dX2_sortOf_19 : decode cX2_sortOf 19 = .ok (.iaload, 1) := by decide +kernel
theorem dX2_sortOf_20 : decode cX2_sortOf 20 = .ok (.goto 4, 3) := by decide +kernel
theorem dX2_sortOf_23 : decode cX2_sortOf 23 = .ok (.iconst (-1), 1) := by decide +kernel
theorem dX2_sortOf_24 : decode cX2_sortOf 24 = .ok (.ireturn, 1) := by decide +kernel
theorem dX2_wholeOf_0 : decode cX2_wholeOf 0 = .ok (.aload_n 0, 1) := by decide +kernel
theorem dX2_wholeOf_1 : decode cX2_wholeOf 1 = .ok (.iload_n 1, 1) := by decide +kernel
theorem dX2_wholeOf_2 : decode cX2_wholeOf 2 = .ok (.iload_n 2, 1) := by decide +kernel
theorem dX2_wholeOf_3 : decode cX2_wholeOf 3 = .ok (.invokevirtual 60, 3) := by decide +kernel
theorem dX2_wholeOf_6 : decode cX2_wholeOf 6 = .ok (.ifCond .eq 17, 3) := by decide +kernel
theorem dX2_wholeOf_9 : decode cX2_wholeOf 9 = .ok (.aload_n 0, 1) := by decide +kernel
theorem dX2_wholeOf_10 : decode cX2_wholeOf 10 = .ok (.getfield 18, 3) := by decide +kernel
theorem dX2_wholeOf_13 : decode cX2_wholeOf 13 = .ok (.iload_n 1, 1) := by decide +kernel
theorem dX2_wholeOf_14 : decode cX2_wholeOf 14 = .ok (.bipush 24, 2) := by decide +kernel
theorem dX2_wholeOf_16 : decode cX2_wholeOf 16 = .ok (.imul, 1) := by decide +kernel
theorem dX2_wholeOf_17 : decode cX2_wholeOf 17 = .ok (.iload_n 2, 1) := by decide +kernel
theorem dX2_wholeOf_18 : decode cX2_wholeOf 18 = .ok (.iadd, 1) := by decide +kernel
theorem dX2_wholeOf_19 : decode cX2_wholeOf 19 = .ok (.iaload, 1) := by decide +kernel
theorem dX2_wholeOf_20 : decode cX2_wholeOf 20 = .ok (.goto 5, 3) := by decide +kernel
theorem dX2_wholeOf_23 : decode cX2_wholeOf 23 = .ok (.bipush (-2), 2) := by decide +kernel
theorem dX2_wholeOf_25 : decode cX2_wholeOf 25 = .ok (.ireturn, 1) := by decide +kernel
theorem dX2_isIndexed_0 : decode cX2_isIndexed 0 = .ok (.aload_n 0, 1) := by decide +kernel
theorem dX2_isIndexed_1 : decode cX2_isIndexed 1 = .ok (.iload_n 1, 1) := by decide +kernel
theorem dX2_isIndexed_2 : decode cX2_isIndexed 2 = .ok (.iload_n 2, 1) := by decide +kernel
theorem dX2_isIndexed_3 : decode cX2_isIndexed 3 = .ok (.invokevirtual 60, 3) := by decide +kernel
theorem dX2_isIndexed_6 : decode cX2_isIndexed 6 = .ok (.ifCond .eq 21, 3) := by decide +kernel
theorem dX2_isIndexed_9 : decode cX2_isIndexed 9 = .ok (.aload_n 0, 1) := by decide +kernel
theorem dX2_isIndexed_10 : decode cX2_isIndexed 10 = .ok (.getfield 21, 3) := by decide +kernel
theorem dX2_isIndexed_13 : decode cX2_isIndexed 13 = .ok (.iload_n 1, 1) := by decide +kernel
theorem dX2_isIndexed_14 : decode cX2_isIndexed 14 = .ok (.bipush 24, 2) := by decide +kernel
theorem dX2_isIndexed_16 : decode cX2_isIndexed 16 = .ok (.imul, 1) := by decide +kernel
theorem dX2_isIndexed_17 : decode cX2_isIndexed 17 = .ok (.iload_n 2, 1) := by decide +kernel
theorem dX2_isIndexed_18 : decode cX2_isIndexed 18 = .ok (.iadd, 1) := by decide +kernel
theorem dX2_isIndexed_19 : decode cX2_isIndexed 19 = .ok (.baload, 1) := by decide +kernel
theorem dX2_isIndexed_20 : decode cX2_isIndexed 20 = .ok (.ifCond .eq 7, 3) := by decide +kernel
theorem dX2_isIndexed_23 : decode cX2_isIndexed 23 = .ok (.iconst 1, 1) := by decide +kernel
theorem dX2_isIndexed_24 : decode cX2_isIndexed 24 = .ok (.goto 4, 3) := by decide +kernel
theorem dX2_isIndexed_27 : decode cX2_isIndexed 27 = .ok (.iconst 0, 1) := by decide +kernel
theorem dX2_isIndexed_28 : decode cX2_isIndexed 28 = .ok (.ireturn, 1) := by decide +kernel
theorem dX2_deedsInAll_0 : decode cX2_deedsInAll 0 = .ok (.iconst 0, 1) := by decide +kernel
theorem dX2_deedsInAll_1 : decode cX2_deedsInAll 1 = .ok (.istore_n 1, 1) := by decide +kernel
theorem dX2_deedsInAll_2 : decode cX2_deedsInAll 2 = .ok (.iconst 0, 1) := by decide +kernel
theorem dX2_deedsInAll_3 : decode cX2_deedsInAll 3 = .ok (.istore_n 2, 1) := by decide +kernel
theorem dX2_deedsInAll_4 : decode cX2_deedsInAll 4 = .ok (.iload_n 2, 1) := by decide +kernel
theorem dX2_deedsInAll_5 : decode cX2_deedsInAll 5 = .ok (.iconst 4, 1) := by decide +kernel
theorem dX2_deedsInAll_6 : decode cX2_deedsInAll 6 = .ok (.if_icmp .ge 18, 3) := by decide +kernel
theorem dX2_deedsInAll_9 : decode cX2_deedsInAll 9 = .ok (.iload_n 1, 1) := by decide +kernel
theorem dX2_deedsInAll_10 : decode cX2_deedsInAll 10 = .ok (.aload_n 0, 1) := by decide +kernel
theorem dX2_deedsInAll_11 : decode cX2_deedsInAll 11 = .ok (.getfield 9, 3) := by decide +kernel
theorem dX2_deedsInAll_14 : decode cX2_deedsInAll 14 = .ok (.iload_n 2, 1) := by decide +kernel
theorem dX2_deedsInAll_15 : decode cX2_deedsInAll 15 = .ok (.iaload, 1) := by decide +kernel
theorem dX2_deedsInAll_16 : decode cX2_deedsInAll 16 = .ok (.iadd, 1) := by decide +kernel
theorem dX2_deedsInAll_17 : decode cX2_deedsInAll 17 = .ok (.istore_n 1, 1) := by decide +kernel
theorem dX2_deedsInAll_18 : decode cX2_deedsInAll 18 = .ok (.iinc 2 1, 3) := by decide +kernel
theorem dX2_deedsInAll_21 : decode cX2_deedsInAll 21 = .ok (.goto (-17), 3) := by decide +kernel
theorem dX2_deedsInAll_24 : decode cX2_deedsInAll 24 = .ok (.iload_n 1, 1) := by decide +kernel
theorem dX2_deedsInAll_25 : decode cX2_deedsInAll 25 = .ok (.ireturn, 1) := by decide +kernel
theorem dX2_addressOf_0 : decode cX2_addressOf 0 = .ok (.aload_n 0, 1) := by decide +kernel
theorem dX2_addressOf_1 : decode cX2_addressOf 1 = .ok (.iload_n 1, 1) := by decide +kernel
theorem dX2_addressOf_2 : decode cX2_addressOf 2 = .ok (.iload_n 2, 1) := by decide +kernel
theorem dX2_addressOf_3 : decode cX2_addressOf 3 = .ok (.invokevirtual 64, 3) := by decide +kernel
theorem dX2_addressOf_6 : decode cX2_addressOf 6 = .ok (.istore 4, 2) := by decide +kernel
theorem dX2_addressOf_8 : decode cX2_addressOf 8 = .ok (.aload_n 0, 1) := by decide +kernel
theorem dX2_addressOf_9 : decode cX2_addressOf 9 = .ok (.invokevirtual 56, 3) := by decide +kernel
theorem dX2_addressOf_12 : decode cX2_addressOf 12 = .ok (.istore 5, 2) := by decide +kernel
theorem dX2_addressOf_14 : decode cX2_addressOf 14 = .ok (.aload_n 0, 1) := by decide +kernel
theorem dX2_addressOf_15 : decode cX2_addressOf 15 = .ok (.iload_n 1, 1) := by decide +kernel
theorem dX2_addressOf_16 : decode cX2_addressOf 16 = .ok (.iload_n 2, 1) := by decide +kernel
theorem dX2_addressOf_17 : decode cX2_addressOf 17 = .ok (.invokevirtual 68, 3) := by decide +kernel
theorem dX2_addressOf_20 : decode cX2_addressOf 20 = .ok (.ifCond .eq 19, 3) := by decide +kernel
theorem dX2_addressOf_23 : decode cX2_addressOf 23 = .ok (.iload 5, 2) := by decide +kernel
theorem dX2_addressOf_25 : decode cX2_addressOf 25 = .ok (.ifCond .le 14, 3) := by decide +kernel
theorem dX2_addressOf_28 : decode cX2_addressOf 28 = .ok (.iload 4, 2) := by decide +kernel
theorem dX2_addressOf_30 : decode cX2_addressOf 30 = .ok (.iload_n 3, 1) := by decide +kernel
theorem dX2_addressOf_31 : decode cX2_addressOf 31 = .ok (.iadd, 1) := by decide +kernel
theorem dX2_addressOf_32 : decode cX2_addressOf 32 = .ok (.iload 5, 2) := by decide +kernel
theorem dX2_addressOf_34 : decode cX2_addressOf 34 = .ok (.invokestatic 71, 3) := by decide +kernel
theorem dX2_addressOf_37 : decode cX2_addressOf 37 = .ok (.istore 4, 2) := by decide +kernel
theorem dX2_addressOf_39 : decode cX2_addressOf 39 = .ok (.aload_n 0, 1) := by decide +kernel
theorem dX2_addressOf_40 : decode cX2_addressOf 40 = .ok (.iload 4, 2) := by decide +kernel
theorem dX2_addressOf_42 : decode cX2_addressOf 42 = .ok (.invokevirtual 76, 3) := by decide +kernel
theorem dX2_addressOf_45 : decode cX2_addressOf 45 = .ok (.ifCond .eq 8, 3) := by decide +kernel
theorem dX2_addressOf_48 : decode cX2_addressOf 48 = .ok (.iload 4, 2) := by decide +kernel
theorem dX2_addressOf_50 : decode cX2_addressOf 50 = .ok (.goto 4, 3) := by decide +kernel
theorem dX2_addressOf_53 : decode cX2_addressOf 53 = .ok (.iconst 0, 1) := by decide +kernel
theorem dX2_addressOf_54 : decode cX2_addressOf 54 = .ok (.ireturn, 1) := by decide +kernel
theorem dX2_lineOf_0 : decode cX2_lineOf 0 = .ok (.aload_n 0, 1) := by decide +kernel
theorem dX2_lineOf_1 : decode cX2_lineOf 1 = .ok (.getfield 35, 3) := by decide +kernel
theorem dX2_lineOf_4 : decode cX2_lineOf 4 = .ok (.ifCond .le 12, 3) := by decide +kernel
theorem dX2_lineOf_7 : decode cX2_lineOf 7 = .ok (.iload_n 1, 1) := by decide +kernel
theorem dX2_lineOf_8 : decode cX2_lineOf 8 = .ok (.aload_n 0, 1) := by decide +kernel
theorem dX2_lineOf_9 : decode cX2_lineOf 9 = .ok (.getfield 35, 3) := by decide +kernel
theorem dX2_lineOf_12 : decode cX2_lineOf 12 = .ok (.idiv, 1) := by decide +kernel
theorem dX2_lineOf_13 : decode cX2_lineOf 13 = .ok (.goto 4, 3) := by decide +kernel
theorem dX2_lineOf_16 : decode cX2_lineOf 16 = .ok (.iconst 0, 1) := by decide +kernel
theorem dX2_lineOf_17 : decode cX2_lineOf 17 = .ok (.ireturn, 1) := by decide +kernel
theorem dX2_offsetOf_0 : decode cX2_offsetOf 0 = .ok (.aload_n 0, 1) := by decide +kernel
theorem dX2_offsetOf_1 : decode cX2_offsetOf 1 = .ok (.getfield 35, 3) := by decide +kernel
theorem dX2_offsetOf_4 : decode cX2_offsetOf 4 = .ok (.ifCond .le 12, 3) := by decide +kernel
theorem dX2_offsetOf_7 : decode cX2_offsetOf 7 = .ok (.iload_n 1, 1) := by decide +kernel
theorem dX2_offsetOf_8 : decode cX2_offsetOf 8 = .ok (.aload_n 0, 1) := by decide +kernel
theorem dX2_offsetOf_9 : decode cX2_offsetOf 9 = .ok (.getfield 35, 3) := by decide +kernel
theorem dX2_offsetOf_12 : decode cX2_offsetOf 12 = .ok (.irem, 1) := by decide +kernel
theorem dX2_offsetOf_13 : decode cX2_offsetOf 13 = .ok (.goto 4, 3) := by decide +kernel
theorem dX2_offsetOf_16 : decode cX2_offsetOf 16 = .ok (.iconst 0, 1) := by decide +kernel
theorem dX2_offsetOf_17 : decode cX2_offsetOf 17 = .ok (.ireturn, 1) := by decide +kernel
theorem dX2_setOf_0 : decode cX2_setOf 0 = .ok (.aload_n 0, 1) := by decide +kernel
theorem dX2_setOf_1 : decode cX2_setOf 1 = .ok (.getfield 28, 3) := by decide +kernel
theorem dX2_setOf_4 : decode cX2_setOf 4 = .ok (.ifCond .le 12, 3) := by decide +kernel
theorem dX2_setOf_7 : decode cX2_setOf 7 = .ok (.iload_n 1, 1) := by decide +kernel
theorem dX2_setOf_8 : decode cX2_setOf 8 = .ok (.aload_n 0, 1) := by decide +kernel
theorem dX2_setOf_9 : decode cX2_setOf 9 = .ok (.getfield 28, 3) := by decide +kernel
theorem dX2_setOf_12 : decode cX2_setOf 12 = .ok (.irem, 1) := by decide +kernel
theorem dX2_setOf_13 : decode cX2_setOf 13 = .ok (.goto 4, 3) := by decide +kernel
theorem dX2_setOf_16 : decode cX2_setOf 16 = .ok (.iconst 0, 1) := by decide +kernel
theorem dX2_setOf_17 : decode cX2_setOf 17 = .ok (.ireturn, 1) := by decide +kernel
theorem dX2_addWord_0 : decode cX2_addWord 0 = .ok (.aload_n 0, 1) := by decide +kernel
theorem dX2_addWord_1 : decode cX2_addWord 1 = .ok (.iload_n 1, 1) := by decide +kernel
theorem dX2_addWord_2 : decode cX2_addWord 2 = .ok (.invokevirtual 76, 3) := by decide +kernel
theorem dX2_addWord_5 : decode cX2_addWord 5 = .ok (.ifCond .eq 20, 3) := by decide +kernel
theorem dX2_addWord_8 : decode cX2_addWord 8 = .ok (.aload_n 0, 1) := by decide +kernel
theorem dX2_addWord_9 : decode cX2_addWord 9 = .ok (.getfield 25, 3) := by decide +kernel
theorem dX2_addWord_12 : decode cX2_addWord 12 = .ok (.iload_n 1, 1) := by decide +kernel
theorem dX2_addWord_13 : decode cX2_addWord 13 = .ok (.iload_n 2, 1) := by decide +kernel
theorem dX2_addWord_14 : decode cX2_addWord 14 = .ok (.iastore, 1) := by decide +kernel
theorem dX2_addWord_15 : decode cX2_addWord 15 = .ok (.aload_n 0, 1) := by decide +kernel
theorem dX2_addWord_16 : decode cX2_addWord 16 = .ok (.dup, 1) := by decide +kernel
theorem dX2_addWord_17 : decode cX2_addWord 17 = .ok (.getfield 47, 3) := by decide +kernel
theorem dX2_addWord_20 : decode cX2_addWord 20 = .ok (.iconst 1, 1) := by decide +kernel
theorem dX2_addWord_21 : decode cX2_addWord 21 = .ok (.iadd, 1) := by decide +kernel
theorem dX2_addWord_22 : decode cX2_addWord 22 = .ok (.putfield 47, 3) := by decide +kernel
theorem dX2_addWord_25 : decode cX2_addWord 25 = .ok (.return_, 1) := by decide +kernel
theorem dX2_addDeed_0 : decode cX2_addDeed 0 = .ok (.aload_n 0, 1) := by decide +kernel
theorem dX2_addDeed_1 : decode cX2_addDeed 1 = .ok (.getfield 44, 3) := by decide +kernel
theorem dX2_addDeed_4 : decode cX2_addDeed 4 = .ok (.iconst 1, 1) := by decide +kernel
theorem dX2_addDeed_5 : decode cX2_addDeed 5 = .ok (.isub, 1) := by decide +kernel
theorem dX2_addDeed_6 : decode cX2_addDeed 6 = .ok (.istore 4, 2) := by decide +kernel
theorem dX2_addDeed_8 : decode cX2_addDeed 8 = .ok (.aload_n 0, 1) := by decide +kernel
theorem dX2_addDeed_9 : decode cX2_addDeed 9 = .ok (.iload 4, 2) := by decide +kernel
theorem dX2_addDeed_11 : decode cX2_addDeed 11 = .ok (.invokevirtual 80, 3) := by decide +kernel
theorem dX2_addDeed_14 : decode cX2_addDeed 14 = .ok (.ifCond .eq 65, 3) := by decide +kernel
theorem dX2_addDeed_17 : decode cX2_addDeed 17 = .ok (.aload_n 0, 1) := by decide +kernel
theorem dX2_addDeed_18 : decode cX2_addDeed 18 = .ok (.getfield 9, 3) := by decide +kernel
theorem dX2_addDeed_21 : decode cX2_addDeed 21 = .ok (.iload 4, 2) := by decide +kernel
theorem dX2_addDeed_23 : decode cX2_addDeed 23 = .ok (.iaload, 1) := by decide +kernel
theorem dX2_addDeed_24 : decode cX2_addDeed 24 = .ok (.bipush 24, 2) := by decide +kernel
theorem dX2_addDeed_26 : decode cX2_addDeed 26 = .ok (.if_icmp .ge 53, 3) := by decide +kernel
theorem dX2_addDeed_29 : decode cX2_addDeed 29 = .ok (.iload 4, 2) := by decide +kernel
theorem dX2_addDeed_31 : decode cX2_addDeed 31 = .ok (.bipush 24, 2) := by decide +kernel
theorem dX2_addDeed_33 : decode cX2_addDeed 33 = .ok (.imul, 1) := by decide +kernel
theorem dX2_addDeed_34 : decode cX2_addDeed 34 = .ok (.aload_n 0, 1) := by decide +kernel
theorem dX2_addDeed_35 : decode cX2_addDeed 35 = .ok (.getfield 9, 3) := by decide +kernel
theorem dX2_addDeed_38 : decode cX2_addDeed 38 = .ok (.iload 4, 2) := by decide +kernel
theorem dX2_addDeed_40 : decode cX2_addDeed 40 = .ok (.iaload, 1) := by decide +kernel
theorem dX2_addDeed_41 : decode cX2_addDeed 41 = .ok (.iadd, 1) := by decide +kernel
theorem dX2_addDeed_42 : decode cX2_addDeed 42 = .ok (.istore 5, 2) := by decide +kernel
theorem dX2_addDeed_44 : decode cX2_addDeed 44 = .ok (.aload_n 0, 1) := by decide +kernel
theorem dX2_addDeed_45 : decode cX2_addDeed 45 = .ok (.getfield 15, 3) := by decide +kernel
theorem dX2_addDeed_48 : decode cX2_addDeed 48 = .ok (.iload 5, 2) := by decide +kernel
theorem dX2_addDeed_50 : decode cX2_addDeed 50 = .ok (.iload_n 1, 1) := by decide +kernel
theorem dX2_addDeed_51 : decode cX2_addDeed 51 = .ok (.iastore, 1) := by decide +kernel
theorem dX2_addDeed_52 : decode cX2_addDeed 52 = .ok (.aload_n 0, 1) := by decide +kernel
theorem dX2_addDeed_53 : decode cX2_addDeed 53 = .ok (.getfield 18, 3) := by decide +kernel
theorem dX2_addDeed_56 : decode cX2_addDeed 56 = .ok (.iload 5, 2) := by decide +kernel
theorem dX2_addDeed_58 : decode cX2_addDeed 58 = .ok (.iload_n 2, 1) := by decide +kernel
theorem dX2_addDeed_59 : decode cX2_addDeed 59 = .ok (.iastore, 1) := by decide +kernel
theorem dX2_addDeed_60 : decode cX2_addDeed 60 = .ok (.aload_n 0, 1) := by decide +kernel
theorem dX2_addDeed_61 : decode cX2_addDeed 61 = .ok (.getfield 21, 3) := by decide +kernel
theorem dX2_addDeed_64 : decode cX2_addDeed 64 = .ok (.iload 5, 2) := by decide +kernel
theorem dX2_addDeed_66 : decode cX2_addDeed 66 = .ok (.iload_n 3, 1) := by decide +kernel
theorem dX2_addDeed_67 : decode cX2_addDeed 67 = .ok (.bastore, 1) := by decide +kernel
theorem dX2_addDeed_68 : decode cX2_addDeed 68 = .ok (.aload_n 0, 1) := by decide +kernel
theorem dX2_addDeed_69 : decode cX2_addDeed 69 = .ok (.getfield 9, 3) := by decide +kernel
theorem dX2_addDeed_72 : decode cX2_addDeed 72 = .ok (.iload 4, 2) := by decide +kernel
theorem dX2_addDeed_74 : decode cX2_addDeed 74 = .ok (.dup2, 1) := by decide +kernel
theorem dX2_addDeed_75 : decode cX2_addDeed 75 = .ok (.iaload, 1) := by decide +kernel
theorem dX2_addDeed_76 : decode cX2_addDeed 76 = .ok (.iconst 1, 1) := by decide +kernel
theorem dX2_addDeed_77 : decode cX2_addDeed 77 = .ok (.iadd, 1) := by decide +kernel
theorem dX2_addDeed_78 : decode cX2_addDeed 78 = .ok (.iastore, 1) := by decide +kernel
theorem dX2_addDeed_79 : decode cX2_addDeed 79 = .ok (.return_, 1) := by decide +kernel
theorem dX3_init_0 : decode cX3_init 0 = .ok (.aload_n 0, 1) := by decide +kernel
theorem dX3_init_1 : decode cX3_init 1 = .ok (.invokespecial 3, 3) := by decide +kernel
theorem dX3_init_4 : decode cX3_init 4 = .ok (.aload_n 0, 1) := by decide +kernel
theorem dX3_init_5 : decode cX3_init 5 = .ok (.bipush 68, 2) := by decide +kernel
theorem dX3_init_7 : decode cX3_init 7 = .ok (.newarray .int, 2) := by decide +kernel
theorem dX3_init_9 : decode cX3_init 9 = .ok (.putfield 9, 3) := by decide +kernel
theorem dX3_init_12 : decode cX3_init 12 = .ok (.aload_n 0, 1) := by decide +kernel
theorem dX3_init_13 : decode cX3_init 13 = .ok (.iconst 4, 1) := by decide +kernel
theorem dX3_init_14 : decode cX3_init 14 = .ok (.anewarray 15, 3) := by decide +kernel
theorem dX3_init_17 : decode cX3_init 17 = .ok (.putfield 17, 3) := by decide +kernel
theorem dX3_init_20 : decode cX3_init 20 = .ok (.aload_n 0, 1) := by decide +kernel
theorem dX3_init_21 : decode cX3_init 21 = .ok (.iconst 4, 1) := by decide +kernel
theorem dX3_init_22 : decode cX3_init 22 = .ok (.anewarray 21, 3) := by decide +kernel
theorem dX3_init_25 : decode cX3_init 25 = .ok (.putfield 23, 3) := by decide +kernel
theorem dX3_init_28 : decode cX3_init 28 = .ok (.aload_n 0, 1) := by decide +kernel
theorem dX3_init_29 : decode cX3_init 29 = .ok (.iconst 3, 1) := by decide +kernel
theorem dX3_init_30 : decode cX3_init 30 = .ok (.newarray .int, 2) := by decide +kernel
theorem dX3_init_32 : decode cX3_init 32 = .ok (.putfield 27, 3) := by decide +kernel
theorem dX3_init_35 : decode cX3_init 35 = .ok (.aload_n 0, 1) := by decide +kernel
theorem dX3_init_36 : decode cX3_init 36 = .ok (.sipush 192, 3) := by decide +kernel
theorem dX3_init_39 : decode cX3_init 39 = .ok (.newarray .int, 2) := by decide +kernel
theorem dX3_init_41 : decode cX3_init 41 = .ok (.putfield 30, 3) := by decide +kernel
theorem dX3_init_44 : decode cX3_init 44 = .ok (.aload_n 0, 1) := by decide +kernel
theorem dX3_init_45 : decode cX3_init 45 = .ok (.aload_n 1, 1) := by decide +kernel
theorem dX3_init_46 : decode cX3_init 46 = .ok (.putfield 33, 3) := by decide +kernel
theorem dX3_init_49 : decode cX3_init 49 = .ok (.iconst 0, 1) := by decide +kernel
theorem dX3_init_50 : decode cX3_init 50 = .ok (.istore_n 2, 1) := by decide +kernel
theorem dX3_init_51 : decode cX3_init 51 = .ok (.iload_n 2, 1) := by decide +kernel
theorem dX3_init_52 : decode cX3_init 52 = .ok (.iconst 4, 1) := by decide +kernel
theorem dX3_init_53 : decode cX3_init 53 = .ok (.if_icmp .ge 36, 3) := by decide +kernel
theorem dX3_init_56 : decode cX3_init 56 = .ok (.aload_n 0, 1) := by decide +kernel
theorem dX3_init_57 : decode cX3_init 57 = .ok (.getfield 17, 3) := by decide +kernel
theorem dX3_init_60 : decode cX3_init 60 = .ok (.iload_n 2, 1) := by decide +kernel
theorem dX3_init_61 : decode cX3_init 61 = .ok (.new 15, 3) := by decide +kernel
theorem dX3_init_64 : decode cX3_init 64 = .ok (.dup, 1) := by decide +kernel
theorem dX3_init_65 : decode cX3_init 65 = .ok (.aload_n 1, 1) := by decide +kernel
theorem dX3_init_66 : decode cX3_init 66 = .ok (.invokespecial 37, 3) := by decide +kernel
theorem dX3_init_69 : decode cX3_init 69 = .ok (.aastore, 1) := by decide +kernel
theorem dX3_init_70 : decode cX3_init 70 = .ok (.aload_n 0, 1) := by decide +kernel
theorem dX3_init_71 : decode cX3_init 71 = .ok (.getfield 23, 3) := by decide +kernel
theorem dX3_init_74 : decode cX3_init 74 = .ok (.iload_n 2, 1) := by decide +kernel
theorem dX3_init_75 : decode cX3_init 75 = .ok (.new 21, 3) := by decide +kernel
theorem dX3_init_78 : decode cX3_init 78 = .ok (.dup, 1) := by decide +kernel
theorem dX3_init_79 : decode cX3_init 79 = .ok (.invokespecial 40, 3) := by decide +kernel
theorem dX3_init_82 : decode cX3_init 82 = .ok (.aastore, 1) := by decide +kernel
theorem dX3_init_83 : decode cX3_init 83 = .ok (.iinc 2 1, 3) := by decide +kernel
theorem dX3_init_86 : decode cX3_init 86 = .ok (.goto (-35), 3) := by decide +kernel
theorem dX3_init_89 : decode cX3_init 89 = .ok (.return_, 1) := by decide +kernel
theorem dX3_startOver_0 : decode cX3_startOver 0 = .ok (.aload_n 0, 1) := by decide +kernel
theorem dX3_startOver_1 : decode cX3_startOver 1 = .ok (.iload_n 1, 1) := by decide +kernel
theorem dX3_startOver_2 : decode cX3_startOver 2 = .ok (.putfield 41, 3) := by decide +kernel
theorem dX3_startOver_5 : decode cX3_startOver 5 = .ok (.aload_n 0, 1) := by decide +kernel
theorem dX3_startOver_6 : decode cX3_startOver 6 = .ok (.iload_n 2, 1) := by decide +kernel
theorem dX3_startOver_7 : decode cX3_startOver 7 = .ok (.putfield 45, 3) := by decide +kernel
theorem dX3_startOver_10 : decode cX3_startOver 10 = .ok (.aload_n 0, 1) := by decide +kernel
theorem dX3_startOver_11 : decode cX3_startOver 11 = .ok (.iconst 0, 1) := by decide +kernel
theorem dX3_startOver_12 : decode cX3_startOver 12 = .ok (.putfield 48, 3) := by decide +kernel
theorem dX3_startOver_15 : decode cX3_startOver 15 = .ok (.aload_n 0, 1) := by decide +kernel
theorem dX3_startOver_16 : decode cX3_startOver 16 = .ok (.iconst 0, 1) := by decide +kernel
theorem dX3_startOver_17 : decode cX3_startOver 17 = .ok (.putfield 51, 3) := by decide +kernel
theorem dX3_startOver_20 : decode cX3_startOver 20 = .ok (.aload_n 0, 1) := by decide +kernel
theorem dX3_startOver_21 : decode cX3_startOver 21 = .ok (.bipush (-2), 2) := by decide +kernel
theorem dX3_startOver_23 : decode cX3_startOver 23 = .ok (.putfield 54, 3) := by decide +kernel
theorem dX3_startOver_26 : decode cX3_startOver 26 = .ok (.aload_n 0, 1) := by decide +kernel
theorem dX3_startOver_27 : decode cX3_startOver 27 = .ok (.iconst 0, 1) := by decide +kernel
theorem dX3_startOver_28 : decode cX3_startOver 28 = .ok (.putfield 57, 3) := by decide +kernel
theorem dX3_startOver_31 : decode cX3_startOver 31 = .ok (.iconst 0, 1) := by decide +kernel
theorem dX3_startOver_32 : decode cX3_startOver 32 = .ok (.istore_n 3, 1) := by decide +kernel
theorem dX3_startOver_33 : decode cX3_startOver 33 = .ok (.iload_n 3, 1) := by decide +kernel
theorem dX3_startOver_34 : decode cX3_startOver 34 = .ok (.bipush 68, 2) := by decide +kernel
theorem dX3_startOver_36 : decode cX3_startOver 36 = .ok (.if_icmp .ge 34, 3) := by decide +kernel
theorem dX3_startOver_39 : decode cX3_startOver 39 = .ok (.aload_n 0, 1) := by decide +kernel
theorem dX3_startOver_40 : decode cX3_startOver 40 = .ok (.getfield 9, 3) := by decide +kernel
theorem dX3_startOver_43 : decode cX3_startOver 43 = .ok (.iload_n 3, 1) := by decide +kernel
theorem dX3_startOver_44 : decode cX3_startOver 44 = .ok (.iload_n 3, 1) := by decide +kernel
theorem dX3_startOver_45 : decode cX3_startOver 45 = .ok (.bipush 64, 2) := by decide +kernel
theorem dX3_startOver_47 : decode cX3_startOver 47 = .ok (.if_icmp .ge 15, 3) := by decide +kernel
theorem dX3_startOver_50 : decode cX3_startOver 50 = .ok (.aload_n 0, 1) := by decide +kernel
theorem dX3_startOver_51 : decode cX3_startOver 51 = .ok (.getfield 33, 3) := by decide +kernel
theorem dX3_startOver_54 : decode cX3_startOver 54 = .ok (.getfield 60, 3) := by decide +kernel
theorem dX3_startOver_57 : decode cX3_startOver 57 = .ok (.iload_n 3, 1) := by decide +kernel
theorem dX3_startOver_58 : decode cX3_startOver 58 = .ok (.iaload, 1) := by decide +kernel
theorem dX3_startOver_59 : decode cX3_startOver 59 = .ok (.goto 4, 3) := by decide +kernel
theorem dX3_startOver_62 : decode cX3_startOver 62 = .ok (.iconst 0, 1) := by decide +kernel
theorem dX3_startOver_63 : decode cX3_startOver 63 = .ok (.iastore, 1) := by decide +kernel
theorem dX3_startOver_64 : decode cX3_startOver 64 = .ok (.iinc 3 1, 3) := by decide +kernel
theorem dX3_startOver_67 : decode cX3_startOver 67 = .ok (.goto (-34), 3) := by decide +kernel
theorem dX3_startOver_70 : decode cX3_startOver 70 = .ok (.iconst 0, 1) := by decide +kernel
theorem dX3_startOver_71 : decode cX3_startOver 71 = .ok (.istore_n 3, 1) := by decide +kernel
theorem dX3_startOver_72 : decode cX3_startOver 72 = .ok (.iload_n 3, 1) := by decide +kernel
theorem dX3_startOver_73 : decode cX3_startOver 73 = .ok (.iconst 3, 1) := by decide +kernel
theorem dX3_startOver_74 : decode cX3_startOver 74 = .ok (.if_icmp .ge 16, 3) := by decide +kernel
theorem dX3_startOver_77 : decode cX3_startOver 77 = .ok (.aload_n 0, 1) := by decide +kernel
theorem dX3_startOver_78 : decode cX3_startOver 78 = .ok (.getfield 27, 3) := by decide +kernel
theorem dX3_startOver_81 : decode cX3_startOver 81 = .ok (.iload_n 3, 1) := by decide +kernel
theorem dX3_startOver_82 : decode cX3_startOver 82 = .ok (.iconst 0, 1) := by decide +kernel
theorem dX3_startOver_83 : decode cX3_startOver 83 = .ok (.iastore, 1) := by decide +kernel
theorem dX3_startOver_84 : decode cX3_startOver 84 = .ok (.iinc 3 1, 3) := by decide +kernel
theorem dX3_startOver_87 : decode cX3_startOver 87 = .ok (.goto (-15), 3) := by decide +kernel
theorem dX3_startOver_90 : decode cX3_startOver 90 = .ok (.iconst 0, 1) := by decide +kernel
theorem dX3_startOver_91 : decode cX3_startOver 91 = .ok (.istore_n 3, 1) := by decide +kernel
theorem dX3_startOver_92 : decode cX3_startOver 92 = .ok (.iload_n 3, 1) := by decide +kernel
theorem dX3_startOver_93 : decode cX3_startOver 93 = .ok (.iconst 4, 1) := by decide +kernel
theorem dX3_startOver_94 : decode cX3_startOver 94 = .ok (.if_icmp .ge 27, 3) := by decide +kernel
theorem dX3_startOver_97 : decode cX3_startOver 97 = .ok (.aload_n 0, 1) := by decide +kernel
theorem dX3_startOver_98 : decode cX3_startOver 98 = .ok (.getfield 17, 3) := by decide +kernel
theorem dX3_startOver_101 : decode cX3_startOver 101 = .ok (.iload_n 3, 1) := by decide +kernel
theorem dX3_startOver_102 : decode cX3_startOver 102 = .ok (.aaload, 1) := by decide +kernel
theorem dX3_startOver_103 : decode cX3_startOver 103 = .ok (.invokevirtual 65, 3) := by decide +kernel
theorem dX3_startOver_106 : decode cX3_startOver 106 = .ok (.aload_n 0, 1) := by decide +kernel
theorem dX3_startOver_107 : decode cX3_startOver 107 = .ok (.getfield 23, 3) := by decide +kernel
theorem dX3_startOver_110 : decode cX3_startOver 110 = .ok (.iload_n 3, 1) := by decide +kernel
theorem dX3_startOver_111 : decode cX3_startOver 111 = .ok (.aaload, 1) := by decide +kernel
theorem dX3_startOver_112 : decode cX3_startOver 112 = .ok (.invokevirtual 68, 3) := by decide +kernel
theorem dX3_startOver_115 : decode cX3_startOver 115 = .ok (.iinc 3 1, 3) := by decide +kernel
theorem dX3_startOver_118 : decode cX3_startOver 118 = .ok (.goto (-26), 3) := by decide +kernel
theorem dX3_startOver_121 : decode cX3_startOver 121 = .ok (.return_, 1) := by decide +kernel
theorem dX3_copyFrom_0 : decode cX3_copyFrom 0 = .ok (.aload_n 0, 1) := by decide +kernel
theorem dX3_copyFrom_1 : decode cX3_copyFrom 1 = .ok (.aload_n 1, 1) := by decide +kernel
theorem dX3_copyFrom_2 : decode cX3_copyFrom 2 = .ok (.getfield 41, 3) := by decide +kernel
theorem dX3_copyFrom_5 : decode cX3_copyFrom 5 = .ok (.putfield 41, 3) := by decide +kernel
theorem dX3_copyFrom_8 : decode cX3_copyFrom 8 = .ok (.aload_n 0, 1) := by decide +kernel
theorem dX3_copyFrom_9 : decode cX3_copyFrom 9 = .ok (.aload_n 1, 1) := by decide +kernel
theorem dX3_copyFrom_10 : decode cX3_copyFrom 10 = .ok (.getfield 45, 3) := by decide +kernel
theorem dX3_copyFrom_13 : decode cX3_copyFrom 13 = .ok (.putfield 45, 3) := by decide +kernel
theorem dX3_copyFrom_16 : decode cX3_copyFrom 16 = .ok (.aload_n 0, 1) := by decide +kernel
theorem dX3_copyFrom_17 : decode cX3_copyFrom 17 = .ok (.aload_n 1, 1) := by decide +kernel
theorem dX3_copyFrom_18 : decode cX3_copyFrom 18 = .ok (.getfield 48, 3) := by decide +kernel
theorem dX3_copyFrom_21 : decode cX3_copyFrom 21 = .ok (.putfield 48, 3) := by decide +kernel
theorem dX3_copyFrom_24 : decode cX3_copyFrom 24 = .ok (.aload_n 0, 1) := by decide +kernel
theorem dX3_copyFrom_25 : decode cX3_copyFrom 25 = .ok (.aload_n 1, 1) := by decide +kernel
theorem dX3_copyFrom_26 : decode cX3_copyFrom 26 = .ok (.getfield 51, 3) := by decide +kernel
theorem dX3_copyFrom_29 : decode cX3_copyFrom 29 = .ok (.putfield 51, 3) := by decide +kernel
theorem dX3_copyFrom_32 : decode cX3_copyFrom 32 = .ok (.aload_n 0, 1) := by decide +kernel
theorem dX3_copyFrom_33 : decode cX3_copyFrom 33 = .ok (.aload_n 1, 1) := by decide +kernel
theorem dX3_copyFrom_34 : decode cX3_copyFrom 34 = .ok (.getfield 54, 3) := by decide +kernel
theorem dX3_copyFrom_37 : decode cX3_copyFrom 37 = .ok (.putfield 54, 3) := by decide +kernel
theorem dX3_copyFrom_40 : decode cX3_copyFrom 40 = .ok (.aload_n 0, 1) := by decide +kernel
theorem dX3_copyFrom_41 : decode cX3_copyFrom 41 = .ok (.aload_n 1, 1) := by decide +kernel
theorem dX3_copyFrom_42 : decode cX3_copyFrom 42 = .ok (.getfield 57, 3) := by decide +kernel
theorem dX3_copyFrom_45 : decode cX3_copyFrom 45 = .ok (.putfield 57, 3) := by decide +kernel
theorem dX3_copyFrom_48 : decode cX3_copyFrom 48 = .ok (.aload_n 1, 1) := by decide +kernel
theorem dX3_copyFrom_49 : decode cX3_copyFrom 49 = .ok (.getfield 9, 3) := by decide +kernel
theorem dX3_copyFrom_52 : decode cX3_copyFrom 52 = .ok (.iconst 0, 1) := by decide +kernel
theorem dX3_copyFrom_53 : decode cX3_copyFrom 53 = .ok (.aload_n 0, 1) := by decide +kernel
theorem dX3_copyFrom_54 : decode cX3_copyFrom 54 = .ok (.getfield 9, 3) := by decide +kernel
theorem dX3_copyFrom_57 : decode cX3_copyFrom 57 = .ok (.iconst 0, 1) := by decide +kernel
theorem dX3_copyFrom_58 : decode cX3_copyFrom 58 = .ok (.bipush 68, 2) := by decide +kernel
theorem dX3_copyFrom_60 : decode cX3_copyFrom 60 = .ok (.invokestatic 69, 3) := by decide +kernel
theorem dX3_copyFrom_63 : decode cX3_copyFrom 63 = .ok (.aload_n 1, 1) := by decide +kernel
theorem dX3_copyFrom_64 : decode cX3_copyFrom 64 = .ok (.getfield 27, 3) := by decide +kernel
theorem dX3_copyFrom_67 : decode cX3_copyFrom 67 = .ok (.iconst 0, 1) := by decide +kernel
theorem dX3_copyFrom_68 : decode cX3_copyFrom 68 = .ok (.aload_n 0, 1) := by decide +kernel
theorem dX3_copyFrom_69 : decode cX3_copyFrom 69 = .ok (.getfield 27, 3) := by decide +kernel
theorem dX3_copyFrom_72 : decode cX3_copyFrom 72 = .ok (.iconst 0, 1) := by decide +kernel
theorem dX3_copyFrom_73 : decode cX3_copyFrom 73 = .ok (.iconst 3, 1) := by decide +kernel
theorem dX3_copyFrom_74 : decode cX3_copyFrom 74 = .ok (.invokestatic 69, 3) := by decide +kernel
theorem dX3_copyFrom_77 : decode cX3_copyFrom 77 = .ok (.aload_n 1, 1) := by decide +kernel
theorem dX3_copyFrom_78 : decode cX3_copyFrom 78 = .ok (.getfield 30, 3) := by decide +kernel
theorem dX3_copyFrom_81 : decode cX3_copyFrom 81 = .ok (.iconst 0, 1) := by decide +kernel
theorem dX3_copyFrom_82 : decode cX3_copyFrom 82 = .ok (.aload_n 0, 1) := by decide +kernel
theorem dX3_copyFrom_83 : decode cX3_copyFrom 83 = .ok (.getfield 30, 3) := by decide +kernel
theorem dX3_copyFrom_86 : decode cX3_copyFrom 86 = .ok (.iconst 0, 1) := by decide +kernel
theorem dX3_copyFrom_87 : decode cX3_copyFrom 87 = .ok (.sipush 192, 3) := by decide +kernel
theorem dX3_copyFrom_90 : decode cX3_copyFrom 90 = .ok (.invokestatic 69, 3) := by decide +kernel
theorem dX3_copyFrom_93 : decode cX3_copyFrom 93 = .ok (.iconst 0, 1) := by decide +kernel
theorem dX3_copyFrom_94 : decode cX3_copyFrom 94 = .ok (.istore_n 2, 1) := by decide +kernel
theorem dX3_copyFrom_95 : decode cX3_copyFrom 95 = .ok (.iload_n 2, 1) := by decide +kernel
theorem dX3_copyFrom_96 : decode cX3_copyFrom 96 = .ok (.iconst 4, 1) := by decide +kernel
theorem dX3_copyFrom_97 : decode cX3_copyFrom 97 = .ok (.if_icmp .ge 39, 3) := by decide +kernel
theorem dX3_copyFrom_100 : decode cX3_copyFrom 100 = .ok (.aload_n 0, 1) := by decide +kernel
theorem dX3_copyFrom_101 : decode cX3_copyFrom 101 = .ok (.getfield 17, 3) := by decide +kernel
theorem dX3_copyFrom_104 : decode cX3_copyFrom 104 = .ok (.iload_n 2, 1) := by decide +kernel
theorem dX3_copyFrom_105 : decode cX3_copyFrom 105 = .ok (.aaload, 1) := by decide +kernel
theorem dX3_copyFrom_106 : decode cX3_copyFrom 106 = .ok (.aload_n 1, 1) := by decide +kernel
theorem dX3_copyFrom_107 : decode cX3_copyFrom 107 = .ok (.getfield 17, 3) := by decide +kernel
theorem dX3_copyFrom_110 : decode cX3_copyFrom 110 = .ok (.iload_n 2, 1) := by decide +kernel
theorem dX3_copyFrom_111 : decode cX3_copyFrom 111 = .ok (.aaload, 1) := by decide +kernel
theorem dX3_copyFrom_112 : decode cX3_copyFrom 112 = .ok (.invokevirtual 75, 3) := by decide +kernel
theorem dX3_copyFrom_115 : decode cX3_copyFrom 115 = .ok (.aload_n 0, 1) := by decide +kernel
theorem dX3_copyFrom_116 : decode cX3_copyFrom 116 = .ok (.getfield 23, 3) := by decide +kernel
theorem dX3_copyFrom_119 : decode cX3_copyFrom 119 = .ok (.iload_n 2, 1) := by decide +kernel
theorem dX3_copyFrom_120 : decode cX3_copyFrom 120 = .ok (.aaload, 1) := by decide +kernel
theorem dX3_copyFrom_121 : decode cX3_copyFrom 121 = .ok (.aload_n 1, 1) := by decide +kernel
theorem dX3_copyFrom_122 : decode cX3_copyFrom 122 = .ok (.getfield 23, 3) := by decide +kernel
theorem dX3_copyFrom_125 : decode cX3_copyFrom 125 = .ok (.iload_n 2, 1) := by decide +kernel
theorem dX3_copyFrom_126 : decode cX3_copyFrom 126 = .ok (.aaload, 1) := by decide +kernel
theorem dX3_copyFrom_127 : decode cX3_copyFrom 127 = .ok (.invokevirtual 79, 3) := by decide +kernel
theorem dX3_copyFrom_130 : decode cX3_copyFrom 130 = .ok (.iinc 2 1, 3) := by decide +kernel
theorem dX3_copyFrom_133 : decode cX3_copyFrom 133 = .ok (.goto (-38), 3) := by decide +kernel
theorem dX3_copyFrom_136 : decode cX3_copyFrom 136 = .ok (.return_, 1) := by decide +kernel
theorem dX3_hasDeedsLeft_0 : decode cX3_hasDeedsLeft 0 = .ok (.aload_n 0, 1) := by decide +kernel
theorem dX3_hasDeedsLeft_1 : decode cX3_hasDeedsLeft 1 = .ok (.getfield 33, 3) := by decide +kernel
theorem dX3_hasDeedsLeft_4 : decode cX3_hasDeedsLeft 4 = .ok (.iload_n 1, 1) := by decide +kernel
theorem dX3_hasDeedsLeft_5 : decode cX3_hasDeedsLeft 5 = .ok (.invokevirtual 82, 3) := by decide +kernel
theorem dX3_hasDeedsLeft_8 : decode cX3_hasDeedsLeft 8 = .ok (.ifCond .eq 28, 3) := by decide +kernel
theorem dX3_hasDeedsLeft_11 : decode cX3_hasDeedsLeft 11 = .ok (.aload_n 0, 1) := by decide +kernel
theorem dX3_hasDeedsLeft_12 : decode cX3_hasDeedsLeft 12 = .ok (.getfield 23, 3) := by decide +kernel
theorem dX3_hasDeedsLeft_15 : decode cX3_hasDeedsLeft 15 = .ok (.iload_n 1, 1) := by decide +kernel
theorem dX3_hasDeedsLeft_16 : decode cX3_hasDeedsLeft 16 = .ok (.aaload, 1) := by decide +kernel
theorem dX3_hasDeedsLeft_17 : decode cX3_hasDeedsLeft 17 = .ok (.getfield 86, 3) := by decide +kernel
theorem dX3_hasDeedsLeft_20 : decode cX3_hasDeedsLeft 20 = .ok (.aload_n 0, 1) := by decide +kernel
theorem dX3_hasDeedsLeft_21 : decode cX3_hasDeedsLeft 21 = .ok (.getfield 33, 3) := by decide +kernel
theorem dX3_hasDeedsLeft_24 : decode cX3_hasDeedsLeft 24 = .ok (.getfield 89, 3) := by decide +kernel
theorem dX3_hasDeedsLeft_27 : decode cX3_hasDeedsLeft 27 = .ok (.iload_n 1, 1) := by decide +kernel
theorem dX3_hasDeedsLeft_28 : decode cX3_hasDeedsLeft 28 = .ok (.iaload, 1) := by decide +kernel
theorem dX3_hasDeedsLeft_29 : decode cX3_hasDeedsLeft 29 = .ok (.if_icmp .ge 7, 3) := by decide +kernel
theorem dX3_hasDeedsLeft_32 : decode cX3_hasDeedsLeft 32 = .ok (.iconst 1, 1) := by decide +kernel
theorem dX3_hasDeedsLeft_33 : decode cX3_hasDeedsLeft 33 = .ok (.goto 4, 3) := by decide +kernel
theorem dX3_hasDeedsLeft_36 : decode cX3_hasDeedsLeft 36 = .ok (.iconst 0, 1) := by decide +kernel
theorem dX3_hasDeedsLeft_37 : decode cX3_hasDeedsLeft 37 = .ok (.ireturn, 1) := by decide +kernel
theorem dX3_isAllDone_0 : decode cX3_isAllDone 0 = .ok (.iconst 0, 1) := by decide +kernel
theorem dX3_isAllDone_1 : decode cX3_isAllDone 1 = .ok (.istore_n 1, 1) := by decide +kernel
theorem dX3_isAllDone_2 : decode cX3_isAllDone 2 = .ok (.iload_n 1, 1) := by decide +kernel
theorem dX3_isAllDone_3 : decode cX3_isAllDone 3 = .ok (.iconst 4, 1) := by decide +kernel
theorem dX3_isAllDone_4 : decode cX3_isAllDone 4 = .ok (.if_icmp .ge 19, 3) := by decide +kernel
theorem dX3_isAllDone_7 : decode cX3_isAllDone 7 = .ok (.aload_n 0, 1) := by decide +kernel
theorem dX3_isAllDone_8 : decode cX3_isAllDone 8 = .ok (.iload_n 1, 1) := by decide +kernel
theorem dX3_isAllDone_9 : decode cX3_isAllDone 9 = .ok (.invokevirtual 92, 3) := by decide +kernel
theorem dX3_isAllDone_12 : decode cX3_isAllDone 12 = .ok (.ifCond .eq 5, 3) := by decide +kernel
theorem dX3_isAllDone_15 : decode cX3_isAllDone 15 = .ok (.iconst 0, 1) := by decide +kernel
theorem dX3_isAllDone_16 : decode cX3_isAllDone 16 = .ok (.ireturn, 1) := by decide +kernel
theorem dX3_isAllDone_17 : decode cX3_isAllDone 17 = .ok (.iinc 1 1, 3) := by decide +kernel
theorem dX3_isAllDone_20 : decode cX3_isAllDone 20 = .ok (.goto (-18), 3) := by decide +kernel
theorem dX3_isAllDone_23 : decode cX3_isAllDone 23 = .ok (.iconst 1, 1) := by decide +kernel
theorem dX3_isAllDone_24 : decode cX3_isAllDone 24 = .ok (.ireturn, 1) := by decide +kernel
theorem dX3_takeStep_0 : decode cX3_takeStep 0 = .ok (.aload_n 0, 1) := by decide +kernel
theorem dX3_takeStep_1 : decode cX3_takeStep 1 = .ok (.iconst 0, 1) := by decide +kernel
theorem dX3_takeStep_2 : decode cX3_takeStep 2 = .ok (.putfield 57, 3) := by decide +kernel
theorem dX3_takeStep_5 : decode cX3_takeStep 5 = .ok (.aload_n 0, 1) := by decide +kernel
theorem dX3_takeStep_6 : decode cX3_takeStep 6 = .ok (.iload_n 1, 1) := by decide +kernel
theorem dX3_takeStep_7 : decode cX3_takeStep 7 = .ok (.invokevirtual 92, 3) := by decide +kernel
theorem dX3_takeStep_10 : decode cX3_takeStep 10 = .ok (.ifCond .ne 5, 3) := by decide +kernel
theorem dX3_takeStep_13 : decode cX3_takeStep 13 = .ok (.iconst 0, 1) := by decide +kernel
theorem dX3_takeStep_14 : decode cX3_takeStep 14 = .ok (.ireturn, 1) := by decide +kernel
theorem dX3_takeStep_15 : decode cX3_takeStep 15 = .ok (.aload_n 0, 1) := by decide +kernel
theorem dX3_takeStep_16 : decode cX3_takeStep 16 = .ok (.dup, 1) := by decide +kernel
theorem dX3_takeStep_17 : decode cX3_takeStep 17 = .ok (.getfield 51, 3) := by decide +kernel
theorem dX3_takeStep_20 : decode cX3_takeStep 20 = .ok (.iconst 1, 1) := by decide +kernel
theorem dX3_takeStep_21 : decode cX3_takeStep 21 = .ok (.iadd, 1) := by decide +kernel
theorem dX3_takeStep_22 : decode cX3_takeStep 22 = .ok (.putfield 51, 3) := by decide +kernel
theorem dX3_takeStep_25 : decode cX3_takeStep 25 = .ok (.aload_n 0, 1) := by decide +kernel
theorem dX3_takeStep_26 : decode cX3_takeStep 26 = .ok (.getfield 23, 3) := by decide +kernel
theorem dX3_takeStep_29 : decode cX3_takeStep 29 = .ok (.iload_n 1, 1) := by decide +kernel
theorem dX3_takeStep_30 : decode cX3_takeStep 30 = .ok (.aaload, 1) := by decide +kernel
theorem dX3_takeStep_31 : decode cX3_takeStep 31 = .ok (.astore_n 2, 1) := by decide +kernel
theorem dX3_takeStep_32 : decode cX3_takeStep 32 = .ok (.aload_n 0, 1) := by decide +kernel
theorem dX3_takeStep_33 : decode cX3_takeStep 33 = .ok (.getfield 33, 3) := by decide +kernel
theorem dX3_takeStep_36 : decode cX3_takeStep 36 = .ok (.iload_n 1, 1) := by decide +kernel
theorem dX3_takeStep_37 : decode cX3_takeStep 37 = .ok (.aload_n 2, 1) := by decide +kernel
theorem dX3_takeStep_38 : decode cX3_takeStep 38 = .ok (.getfield 86, 3) := by decide +kernel
theorem dX3_takeStep_41 : decode cX3_takeStep 41 = .ok (.invokevirtual 95, 3) := by decide +kernel
theorem dX3_takeStep_44 : decode cX3_takeStep 44 = .ok (.istore_n 3, 1) := by decide +kernel
theorem dX3_takeStep_45 : decode cX3_takeStep 45 = .ok (.iconst 1, 1) := by decide +kernel
theorem dX3_takeStep_46 : decode cX3_takeStep 46 = .ok (.istore 4, 2) := by decide +kernel
theorem dX3_takeStep_48 : decode cX3_takeStep 48 = .ok (.aload_n 0, 1) := by decide +kernel
theorem dX3_takeStep_49 : decode cX3_takeStep 49 = .ok (.getfield 33, 3) := by decide +kernel
theorem dX3_takeStep_52 : decode cX3_takeStep 52 = .ok (.iload_n 1, 1) := by decide +kernel
theorem dX3_takeStep_53 : decode cX3_takeStep 53 = .ok (.aload_n 2, 1) := by decide +kernel
theorem dX3_takeStep_54 : decode cX3_takeStep 54 = .ok (.getfield 86, 3) := by decide +kernel
theorem dX3_takeStep_57 : decode cX3_takeStep 57 = .ok (.invokevirtual 99, 3) := by decide +kernel
theorem dX3_takeStep_60 : decode cX3_takeStep 60 = .ok (.tableswitch 112 0 5 #[40, 51, 60, 71, 82, 93], 40) := by decide +kernel
theorem dX3_takeStep_100 : decode cX3_takeStep 100 = .ok (.aload_n 0, 1) := by decide +kernel
theorem dX3_takeStep_101 : decode cX3_takeStep 101 = .ok (.iload_n 1, 1) := by decide +kernel
theorem dX3_takeStep_102 : decode cX3_takeStep 102 = .ok (.aload_n 2, 1) := by decide +kernel
theorem dX3_takeStep_103 : decode cX3_takeStep 103 = .ok (.invokevirtual 102, 3) := by decide +kernel
theorem dX3_takeStep_106 : decode cX3_takeStep 106 = .ok (.istore 4, 2) := by decide +kernel
theorem dX3_takeStep_108 : decode cX3_takeStep 108 = .ok (.goto 80, 3) := by decide +kernel
theorem dX3_takeStep_111 : decode cX3_takeStep 111 = .ok (.aload_n 0, 1) := by decide +kernel
theorem dX3_takeStep_112 : decode cX3_takeStep 112 = .ok (.iload_n 1, 1) := by decide +kernel
theorem dX3_takeStep_113 : decode cX3_takeStep 113 = .ok (.aload_n 2, 1) := by decide +kernel
theorem dX3_takeStep_114 : decode cX3_takeStep 114 = .ok (.invokevirtual 106, 3) := by decide +kernel
theorem dX3_takeStep_117 : decode cX3_takeStep 117 = .ok (.goto 71, 3) := by decide +kernel
theorem dX3_takeStep_120 : decode cX3_takeStep 120 = .ok (.aload_n 2, 1) := by decide +kernel
theorem dX3_takeStep_121 : decode cX3_takeStep 121 = .ok (.aload_n 2, 1) := by decide +kernel
theorem dX3_takeStep_122 : decode cX3_takeStep 122 = .ok (.getfield 110, 3) := by decide +kernel
theorem dX3_takeStep_125 : decode cX3_takeStep 125 = .ok (.putfield 113, 3) := by decide +kernel
theorem dX3_takeStep_128 : decode cX3_takeStep 128 = .ok (.goto 60, 3) := by decide +kernel
theorem dX3_takeStep_131 : decode cX3_takeStep 131 = .ok (.aload_n 0, 1) := by decide +kernel
theorem dX3_takeStep_132 : decode cX3_takeStep 132 = .ok (.iload_n 1, 1) := by decide +kernel
theorem dX3_takeStep_133 : decode cX3_takeStep 133 = .ok (.aload_n 2, 1) := by decide +kernel
theorem dX3_takeStep_134 : decode cX3_takeStep 134 = .ok (.invokevirtual 116, 3) := by decide +kernel
theorem dX3_takeStep_137 : decode cX3_takeStep 137 = .ok (.istore 4, 2) := by decide +kernel
theorem dX3_takeStep_139 : decode cX3_takeStep 139 = .ok (.goto 49, 3) := by decide +kernel
theorem dX3_takeStep_142 : decode cX3_takeStep 142 = .ok (.aload_n 0, 1) := by decide +kernel
theorem dX3_takeStep_143 : decode cX3_takeStep 143 = .ok (.iload_n 1, 1) := by decide +kernel
theorem dX3_takeStep_144 : decode cX3_takeStep 144 = .ok (.aload_n 2, 1) := by decide +kernel
theorem dX3_takeStep_145 : decode cX3_takeStep 145 = .ok (.invokevirtual 119, 3) := by decide +kernel
theorem dX3_takeStep_148 : decode cX3_takeStep 148 = .ok (.istore 4, 2) := by decide +kernel
theorem dX3_takeStep_150 : decode cX3_takeStep 150 = .ok (.goto 38, 3) := by decide +kernel
theorem dX3_takeStep_153 : decode cX3_takeStep 153 = .ok (.aload_n 2, 1) := by decide +kernel
theorem dX3_takeStep_154 : decode cX3_takeStep 154 = .ok (.aload_n 2, 1) := by decide +kernel
theorem dX3_takeStep_155 : decode cX3_takeStep 155 = .ok (.getfield 110, 3) := by decide +kernel
theorem dX3_takeStep_158 : decode cX3_takeStep 158 = .ok (.iload_n 3, 1) := by decide +kernel
theorem dX3_takeStep_159 : decode cX3_takeStep 159 = .ok (.iadd, 1) := by decide +kernel
theorem dX3_takeStep_160 : decode cX3_takeStep 160 = .ok (.sipush 1000, 3) := by decide +kernel
theorem dX3_takeStep_163 : decode cX3_takeStep 163 = .ok (.invokestatic 122, 3) := by decide +kernel
theorem dX3_takeStep_166 : decode cX3_takeStep 166 = .ok (.putfield 110, 3) := by decide +kernel
theorem dX3_takeStep_169 : decode cX3_takeStep 169 = .ok (.goto 19, 3) := by decide +kernel
theorem dX3_takeStep_172 : decode cX3_takeStep 172 = .ok (.aload_n 2, 1) := by decide +kernel
theorem dX3_takeStep_173 : decode cX3_takeStep 173 = .ok (.aload_n 2, 1) := by decide +kernel
theorem dX3_takeStep_174 : decode cX3_takeStep 174 = .ok (.getfield 110, 3) := by decide +kernel
theorem dX3_takeStep_177 : decode cX3_takeStep 177 = .ok (.iload_n 3, 1) := by decide +kernel
theorem dX3_takeStep_178 : decode cX3_takeStep 178 = .ok (.isub, 1) := by decide +kernel
theorem dX3_takeStep_179 : decode cX3_takeStep 179 = .ok (.sipush 1000, 3) := by decide +kernel
theorem dX3_takeStep_182 : decode cX3_takeStep 182 = .ok (.invokestatic 122, 3) := by decide +kernel
theorem dX3_takeStep_185 : decode cX3_takeStep 185 = .ok (.putfield 110, 3) := by decide +kernel
theorem dX3_takeStep_188 : decode cX3_takeStep 188 = .ok (.iload 4, 2) := by decide +kernel
theorem dX3_takeStep_190 : decode cX3_takeStep 190 = .ok (.iconst 1, 1) := by decide +kernel
theorem dX3_takeStep_191 : decode cX3_takeStep 191 = .ok (.if_icmp .ne 16, 3) := by decide +kernel
theorem dX3_takeStep_194 : decode cX3_takeStep 194 = .ok (.aload_n 2, 1) := by decide +kernel
theorem dX3_takeStep_195 : decode cX3_takeStep 195 = .ok (.dup, 1) := by decide +kernel
theorem dX3_takeStep_196 : decode cX3_takeStep 196 = .ok (.getfield 86, 3) := by decide +kernel
theorem dX3_takeStep_199 : decode cX3_takeStep 199 = .ok (.iconst 1, 1) := by decide +kernel
theorem dX3_takeStep_200 : decode cX3_takeStep 200 = .ok (.iadd, 1) := by decide +kernel
theorem dX3_takeStep_201 : decode cX3_takeStep 201 = .ok (.putfield 86, 3) := by decide +kernel
theorem dX3_takeStep_204 : decode cX3_takeStep 204 = .ok (.goto 20, 3) := by decide +kernel
theorem dX3_takeStep_207 : decode cX3_takeStep 207 = .ok (.iload 4, 2) := by decide +kernel
theorem dX3_takeStep_209 : decode cX3_takeStep 209 = .ok (.iconst 2, 1) := by decide +kernel
theorem dX3_takeStep_210 : decode cX3_takeStep 210 = .ok (.if_icmp .ne 14, 3) := by decide +kernel
theorem dX3_takeStep_213 : decode cX3_takeStep 213 = .ok (.aload_n 2, 1) := by decide +kernel
theorem dX3_takeStep_214 : decode cX3_takeStep 214 = .ok (.getfield 127, 3) := by decide +kernel
theorem dX3_takeStep_217 : decode cX3_takeStep 217 = .ok (.bipush 6, 2) := by decide +kernel
theorem dX3_takeStep_219 : decode cX3_takeStep 219 = .ok (.dup2, 1) := by decide +kernel
theorem dX3_takeStep_220 : decode cX3_takeStep 220 = .ok (.iaload, 1) := by decide +kernel
theorem dX3_takeStep_221 : decode cX3_takeStep 221 = .ok (.iconst 1, 1) := by decide +kernel
theorem dX3_takeStep_222 : decode cX3_takeStep 222 = .ok (.iadd, 1) := by decide +kernel
theorem dX3_takeStep_223 : decode cX3_takeStep 223 = .ok (.iastore, 1) := by decide +kernel
theorem dX3_takeStep_224 : decode cX3_takeStep 224 = .ok (.iload 4, 2) := by decide +kernel
theorem dX3_takeStep_226 : decode cX3_takeStep 226 = .ok (.ireturn, 1) := by decide +kernel
theorem dX3_doBegin_0 : decode cX3_doBegin 0 = .ok (.aload_n 0, 1) := by decide +kernel
theorem dX3_doBegin_1 : decode cX3_doBegin 1 = .ok (.getfield 54, 3) := by decide +kernel
theorem dX3_doBegin_4 : decode cX3_doBegin 4 = .ok (.bipush (-2), 2) := by decide +kernel
theorem dX3_doBegin_6 : decode cX3_doBegin 6 = .ok (.if_icmp .eq 5, 3) := by decide +kernel
theorem dX3_doBegin_9 : decode cX3_doBegin 9 = .ok (.iconst 2, 1) := by decide +kernel
theorem dX3_doBegin_10 : decode cX3_doBegin 10 = .ok (.ireturn, 1) := by decide +kernel
theorem dX3_doBegin_11 : decode cX3_doBegin 11 = .ok (.aload_n 2, 1) := by decide +kernel
theorem dX3_doBegin_12 : decode cX3_doBegin 12 = .ok (.getfield 130, 3) := by decide +kernel
theorem dX3_doBegin_15 : decode cX3_doBegin 15 = .ok (.aload_n 0, 1) := by decide +kernel
theorem dX3_doBegin_16 : decode cX3_doBegin 16 = .ok (.getfield 45, 3) := by decide +kernel
theorem dX3_doBegin_19 : decode cX3_doBegin 19 = .ok (.if_icmp .ge 35, 3) := by decide +kernel
theorem dX3_doBegin_22 : decode cX3_doBegin 22 = .ok (.aload_n 0, 1) := by decide +kernel
theorem dX3_doBegin_23 : decode cX3_doBegin 23 = .ok (.iload_n 1, 1) := by decide +kernel
theorem dX3_doBegin_24 : decode cX3_doBegin 24 = .ok (.bipush 16, 2) := by decide +kernel
theorem dX3_doBegin_26 : decode cX3_doBegin 26 = .ok (.iconst 0, 1) := by decide +kernel
theorem dX3_doBegin_27 : decode cX3_doBegin 27 = .ok (.invokevirtual 133, 3) := by decide +kernel
theorem dX3_doBegin_30 : decode cX3_doBegin 30 = .ok (.istore_n 3, 1) := by decide +kernel
theorem dX3_doBegin_31 : decode cX3_doBegin 31 = .ok (.iload_n 3, 1) := by decide +kernel
theorem dX3_doBegin_32 : decode cX3_doBegin 32 = .ok (.iconst 1, 1) := by decide +kernel
theorem dX3_doBegin_33 : decode cX3_doBegin 33 = .ok (.if_icmp .eq 5, 3) := by decide +kernel
theorem dX3_doBegin_36 : decode cX3_doBegin 36 = .ok (.iload_n 3, 1) := by decide +kernel
theorem dX3_doBegin_37 : decode cX3_doBegin 37 = .ok (.ireturn, 1) := by decide +kernel
theorem dX3_doBegin_38 : decode cX3_doBegin 38 = .ok (.aload_n 0, 1) := by decide +kernel
theorem dX3_doBegin_39 : decode cX3_doBegin 39 = .ok (.iload_n 1, 1) := by decide +kernel
theorem dX3_doBegin_40 : decode cX3_doBegin 40 = .ok (.bipush 16, 2) := by decide +kernel
theorem dX3_doBegin_42 : decode cX3_doBegin 42 = .ok (.iconst 0, 1) := by decide +kernel
theorem dX3_doBegin_43 : decode cX3_doBegin 43 = .ok (.invokevirtual 137, 3) := by decide +kernel
theorem dX3_doBegin_46 : decode cX3_doBegin 46 = .ok (.aload_n 2, 1) := by decide +kernel
theorem dX3_doBegin_47 : decode cX3_doBegin 47 = .ok (.iconst 1, 1) := by decide +kernel
theorem dX3_doBegin_48 : decode cX3_doBegin 48 = .ok (.putfield 141, 3) := by decide +kernel
theorem dX3_doBegin_51 : decode cX3_doBegin 51 = .ok (.goto 42, 3) := by decide +kernel
theorem dX3_doBegin_54 : decode cX3_doBegin 54 = .ok (.aload_n 0, 1) := by decide +kernel
theorem dX3_doBegin_55 : decode cX3_doBegin 55 = .ok (.aload_n 0, 1) := by decide +kernel
theorem dX3_doBegin_56 : decode cX3_doBegin 56 = .ok (.iload_n 1, 1) := by decide +kernel
theorem dX3_doBegin_57 : decode cX3_doBegin 57 = .ok (.bipush 16, 2) := by decide +kernel
theorem dX3_doBegin_59 : decode cX3_doBegin 59 = .ok (.iconst 0, 1) := by decide +kernel
theorem dX3_doBegin_60 : decode cX3_doBegin 60 = .ok (.invokevirtual 144, 3) := by decide +kernel
theorem dX3_doBegin_63 : decode cX3_doBegin 63 = .ok (.iconst 3, 1) := by decide +kernel
theorem dX3_doBegin_64 : decode cX3_doBegin 64 = .ok (.invokevirtual 147, 3) := by decide +kernel
theorem dX3_doBegin_67 : decode cX3_doBegin 67 = .ok (.aload_n 0, 1) := by decide +kernel
theorem dX3_doBegin_68 : decode cX3_doBegin 68 = .ok (.iload_n 1, 1) := by decide +kernel
theorem dX3_doBegin_69 : decode cX3_doBegin 69 = .ok (.bipush 16, 2) := by decide +kernel
theorem dX3_doBegin_71 : decode cX3_doBegin 71 = .ok (.iconst 1, 1) := by decide +kernel
theorem dX3_doBegin_72 : decode cX3_doBegin 72 = .ok (.invokevirtual 133, 3) := by decide +kernel
theorem dX3_doBegin_75 : decode cX3_doBegin 75 = .ok (.istore_n 3, 1) := by decide +kernel
theorem dX3_doBegin_76 : decode cX3_doBegin 76 = .ok (.iload_n 3, 1) := by decide +kernel
theorem dX3_doBegin_77 : decode cX3_doBegin 77 = .ok (.iconst 1, 1) := by decide +kernel
theorem dX3_doBegin_78 : decode cX3_doBegin 78 = .ok (.if_icmp .eq 5, 3) := by decide +kernel
theorem dX3_doBegin_81 : decode cX3_doBegin 81 = .ok (.iload_n 3, 1) := by decide +kernel
theorem dX3_doBegin_82 : decode cX3_doBegin 82 = .ok (.ireturn, 1) := by decide +kernel
theorem dX3_doBegin_83 : decode cX3_doBegin 83 = .ok (.aload_n 0, 1) := by decide +kernel
theorem dX3_doBegin_84 : decode cX3_doBegin 84 = .ok (.iload_n 1, 1) := by decide +kernel
theorem dX3_doBegin_85 : decode cX3_doBegin 85 = .ok (.putfield 54, 3) := by decide +kernel
theorem dX3_doBegin_88 : decode cX3_doBegin 88 = .ok (.aload_n 2, 1) := by decide +kernel
theorem dX3_doBegin_89 : decode cX3_doBegin 89 = .ok (.iconst 2, 1) := by decide +kernel
theorem dX3_doBegin_90 : decode cX3_doBegin 90 = .ok (.putfield 141, 3) := by decide +kernel
theorem dX3_doBegin_93 : decode cX3_doBegin 93 = .ok (.aload_n 2, 1) := by decide +kernel
theorem dX3_doBegin_94 : decode cX3_doBegin 94 = .ok (.iconst 0, 1) := by decide +kernel
theorem dX3_doBegin_95 : decode cX3_doBegin 95 = .ok (.putfield 110, 3) := by decide +kernel
theorem dX3_doBegin_98 : decode cX3_doBegin 98 = .ok (.aload_n 2, 1) := by decide +kernel
theorem dX3_doBegin_99 : decode cX3_doBegin 99 = .ok (.iconst 0, 1) := by decide +kernel
theorem dX3_doBegin_100 : decode cX3_doBegin 100 = .ok (.putfield 113, 3) := by decide +kernel
theorem dX3_doBegin_103 : decode cX3_doBegin 103 = .ok (.aload_n 2, 1) := by decide +kernel
theorem dX3_doBegin_104 : decode cX3_doBegin 104 = .ok (.aload_n 2, 1) := by decide +kernel
theorem dX3_doBegin_105 : decode cX3_doBegin 105 = .ok (.getfield 86, 3) := by decide +kernel
theorem dX3_doBegin_108 : decode cX3_doBegin 108 = .ok (.putfield 151, 3) := by decide +kernel
theorem dX3_doBegin_111 : decode cX3_doBegin 111 = .ok (.aload_n 2, 1) := by decide +kernel
theorem dX3_doBegin_112 : decode cX3_doBegin 112 = .ok (.getfield 154, 3) := by decide +kernel
theorem dX3_doBegin_115 : decode cX3_doBegin 115 = .ok (.bipush (-2), 2) := by decide +kernel
theorem dX3_doBegin_117 : decode cX3_doBegin 117 = .ok (.if_icmp .ne 11, 3) := by decide +kernel
theorem dX3_doBegin_120 : decode cX3_doBegin 120 = .ok (.aload_n 2, 1) := by decide +kernel
theorem dX3_doBegin_121 : decode cX3_doBegin 121 = .ok (.aload_n 0, 1) := by decide +kernel
theorem dX3_doBegin_122 : decode cX3_doBegin 122 = .ok (.getfield 51, 3) := by decide +kernel
theorem dX3_doBegin_125 : decode cX3_doBegin 125 = .ok (.putfield 154, 3) := by decide +kernel
theorem dX3_doBegin_128 : decode cX3_doBegin 128 = .ok (.iconst 1, 1) := by decide +kernel
theorem dX3_doBegin_129 : decode cX3_doBegin 129 = .ok (.ireturn, 1) := by decide +kernel
theorem dX3_doGet_0 : decode cX3_doGet 0 = .ok (.aload_n 0, 1) := by decide +kernel
theorem dX3_doGet_1 : decode cX3_doGet 1 = .ok (.getfield 33, 3) := by decide +kernel
theorem dX3_doGet_4 : decode cX3_doGet 4 = .ok (.iload_n 1, 1) := by decide +kernel
theorem dX3_doGet_5 : decode cX3_doGet 5 = .ok (.aload_n 2, 1) := by decide +kernel
theorem dX3_doGet_6 : decode cX3_doGet 6 = .ok (.getfield 86, 3) := by decide +kernel
theorem dX3_doGet_9 : decode cX3_doGet 9 = .ok (.aload_n 2, 1) := by decide +kernel
theorem dX3_doGet_10 : decode cX3_doGet 10 = .ok (.getfield 113, 3) := by decide +kernel
theorem dX3_doGet_13 : decode cX3_doGet 13 = .ok (.invokevirtual 157, 3) := by decide +kernel
theorem dX3_doGet_16 : decode cX3_doGet 16 = .ok (.istore_n 3, 1) := by decide +kernel
theorem dX3_doGet_17 : decode cX3_doGet 17 = .ok (.aload_n 0, 1) := by decide +kernel
theorem dX3_doGet_18 : decode cX3_doGet 18 = .ok (.getfield 33, 3) := by decide +kernel
theorem dX3_doGet_21 : decode cX3_doGet 21 = .ok (.iload_n 3, 1) := by decide +kernel
theorem dX3_doGet_22 : decode cX3_doGet 22 = .ok (.invokevirtual 161, 3) := by decide +kernel
theorem dX3_doGet_25 : decode cX3_doGet 25 = .ok (.istore 4, 2) := by decide +kernel
theorem dX3_doGet_27 : decode cX3_doGet 27 = .ok (.aload_n 0, 1) := by decide +kernel
theorem dX3_doGet_28 : decode cX3_doGet 28 = .ok (.iload_n 1, 1) := by decide +kernel
theorem dX3_doGet_29 : decode cX3_doGet 29 = .ok (.iload 4, 2) := by decide +kernel
theorem dX3_doGet_31 : decode cX3_doGet 31 = .ok (.iconst 0, 1) := by decide +kernel
theorem dX3_doGet_32 : decode cX3_doGet 32 = .ok (.invokevirtual 133, 3) := by decide +kernel
theorem dX3_doGet_35 : decode cX3_doGet 35 = .ok (.istore 5, 2) := by decide +kernel
theorem dX3_doGet_37 : decode cX3_doGet 37 = .ok (.iload 5, 2) := by decide +kernel
theorem dX3_doGet_39 : decode cX3_doGet 39 = .ok (.iconst 1, 1) := by decide +kernel
theorem dX3_doGet_40 : decode cX3_doGet 40 = .ok (.if_icmp .eq 6, 3) := by decide +kernel
theorem dX3_doGet_43 : decode cX3_doGet 43 = .ok (.iload 5, 2) := by decide +kernel
theorem dX3_doGet_45 : decode cX3_doGet 45 = .ok (.ireturn, 1) := by decide +kernel
theorem dX3_doGet_46 : decode cX3_doGet 46 = .ok (.aload_n 2, 1) := by decide +kernel
theorem dX3_doGet_47 : decode cX3_doGet 47 = .ok (.getfield 141, 3) := by decide +kernel
theorem dX3_doGet_50 : decode cX3_doGet 50 = .ok (.iconst 1, 1) := by decide +kernel
theorem dX3_doGet_51 : decode cX3_doGet 51 = .ok (.if_icmp .ne 11, 3) := by decide +kernel
theorem dX3_doGet_54 : decode cX3_doGet 54 = .ok (.aload_n 0, 1) := by decide +kernel
theorem dX3_doGet_55 : decode cX3_doGet 55 = .ok (.iload_n 1, 1) := by decide +kernel
theorem dX3_doGet_56 : decode cX3_doGet 56 = .ok (.iload 4, 2) := by decide +kernel
theorem dX3_doGet_58 : decode cX3_doGet 58 = .ok (.iconst 0, 1) := by decide +kernel
theorem dX3_doGet_59 : decode cX3_doGet 59 = .ok (.invokevirtual 137, 3) := by decide +kernel
theorem dX3_doGet_62 : decode cX3_doGet 62 = .ok (.aload_n 2, 1) := by decide +kernel
theorem dX3_doGet_63 : decode cX3_doGet 63 = .ok (.aload_n 0, 1) := by decide +kernel
theorem dX3_doGet_64 : decode cX3_doGet 64 = .ok (.getfield 17, 3) := by decide +kernel
theorem dX3_doGet_67 : decode cX3_doGet 67 = .ok (.iload_n 1, 1) := by decide +kernel
theorem dX3_doGet_68 : decode cX3_doGet 68 = .ok (.aaload, 1) := by decide +kernel
theorem dX3_doGet_69 : decode cX3_doGet 69 = .ok (.aload_n 0, 1) := by decide +kernel
theorem dX3_doGet_70 : decode cX3_doGet 70 = .ok (.getfield 17, 3) := by decide +kernel
theorem dX3_doGet_73 : decode cX3_doGet 73 = .ok (.iload_n 1, 1) := by decide +kernel
theorem dX3_doGet_74 : decode cX3_doGet 74 = .ok (.aaload, 1) := by decide +kernel
theorem dX3_doGet_75 : decode cX3_doGet 75 = .ok (.iload 4, 2) := by decide +kernel
theorem dX3_doGet_77 : decode cX3_doGet 77 = .ok (.invokevirtual 165, 3) := by decide +kernel
theorem dX3_doGet_80 : decode cX3_doGet 80 = .ok (.aload_n 0, 1) := by decide +kernel
theorem dX3_doGet_81 : decode cX3_doGet 81 = .ok (.getfield 33, 3) := by decide +kernel
theorem dX3_doGet_84 : decode cX3_doGet 84 = .ok (.iload_n 3, 1) := by decide +kernel
theorem dX3_doGet_85 : decode cX3_doGet 85 = .ok (.invokevirtual 168, 3) := by decide +kernel
theorem dX3_doGet_88 : decode cX3_doGet 88 = .ok (.invokevirtual 171, 3) := by decide +kernel
theorem dX3_doGet_91 : decode cX3_doGet 91 = .ok (.putfield 110, 3) := by decide +kernel
theorem dX3_doGet_94 : decode cX3_doGet 94 = .ok (.iconst 1, 1) := by decide +kernel
theorem dX3_doGet_95 : decode cX3_doGet 95 = .ok (.ireturn, 1) := by decide +kernel
theorem dX3_doPut_0 : decode cX3_doPut 0 = .ok (.aload_n 0, 1) := by decide +kernel
theorem dX3_doPut_1 : decode cX3_doPut 1 = .ok (.getfield 17, 3) := by decide +kernel
theorem dX3_doPut_4 : decode cX3_doPut 4 = .ok (.iload_n 1, 1) := by decide +kernel
theorem dX3_doPut_5 : decode cX3_doPut 5 = .ok (.aaload, 1) := by decide +kernel
theorem dX3_doPut_6 : decode cX3_doPut 6 = .ok (.astore_n 3, 1) := by decide +kernel
theorem dX3_doPut_7 : decode cX3_doPut 7 = .ok (.aload_n 0, 1) := by decide +kernel
theorem dX3_doPut_8 : decode cX3_doPut 8 = .ok (.getfield 33, 3) := by decide +kernel
theorem dX3_doPut_11 : decode cX3_doPut 11 = .ok (.iload_n 1, 1) := by decide +kernel
theorem dX3_doPut_12 : decode cX3_doPut 12 = .ok (.aload_n 2, 1) := by decide +kernel
theorem dX3_doPut_13 : decode cX3_doPut 13 = .ok (.getfield 86, 3) := by decide +kernel
theorem dX3_doPut_16 : decode cX3_doPut 16 = .ok (.aload_n 2, 1) := by decide +kernel
theorem dX3_doPut_17 : decode cX3_doPut 17 = .ok (.getfield 113, 3) := by decide +kernel
theorem dX3_doPut_20 : decode cX3_doPut 20 = .ok (.invokevirtual 157, 3) := by decide +kernel
theorem dX3_doPut_23 : decode cX3_doPut 23 = .ok (.istore 4, 2) := by decide +kernel
theorem dX3_doPut_25 : decode cX3_doPut 25 = .ok (.aload_n 0, 1) := by decide +kernel
theorem dX3_doPut_26 : decode cX3_doPut 26 = .ok (.getfield 33, 3) := by decide +kernel
theorem dX3_doPut_29 : decode cX3_doPut 29 = .ok (.iload 4, 2) := by decide +kernel
theorem dX3_doPut_31 : decode cX3_doPut 31 = .ok (.invokevirtual 161, 3) := by decide +kernel
theorem dX3_doPut_34 : decode cX3_doPut 34 = .ok (.istore 5, 2) := by decide +kernel
theorem dX3_doPut_36 : decode cX3_doPut 36 = .ok (.aload_n 3, 1) := by decide +kernel
theorem dX3_doPut_37 : decode cX3_doPut 37 = .ok (.iload 5, 2) := by decide +kernel
theorem dX3_doPut_39 : decode cX3_doPut 39 = .ok (.invokevirtual 165, 3) := by decide +kernel
theorem dX3_doPut_42 : decode cX3_doPut 42 = .ok (.istore 6, 2) := by decide +kernel
theorem dX3_doPut_44 : decode cX3_doPut 44 = .ok (.iload 6, 2) := by decide +kernel
theorem dX3_doPut_46 : decode cX3_doPut 46 = .ok (.iconst (-1), 1) := by decide +kernel
theorem dX3_doPut_47 : decode cX3_doPut 47 = .ok (.if_icmp .eq 28, 3) := by decide +kernel
theorem dX3_doPut_50 : decode cX3_doPut 50 = .ok (.aload_n 3, 1) := by decide +kernel
theorem dX3_doPut_51 : decode cX3_doPut 51 = .ok (.getfield 174, 3) := by decide +kernel
theorem dX3_doPut_54 : decode cX3_doPut 54 = .ok (.iload 6, 2) := by decide +kernel
theorem dX3_doPut_56 : decode cX3_doPut 56 = .ok (.iaload, 1) := by decide +kernel
theorem dX3_doPut_57 : decode cX3_doPut 57 = .ok (.iconst 3, 1) := by decide +kernel
theorem dX3_doPut_58 : decode cX3_doPut 58 = .ok (.if_icmp .ne 17, 3) := by decide +kernel
theorem dX3_doPut_61 : decode cX3_doPut 61 = .ok (.aload_n 3, 1) := by decide +kernel
theorem dX3_doPut_62 : decode cX3_doPut 62 = .ok (.getfield 177, 3) := by decide +kernel
theorem dX3_doPut_65 : decode cX3_doPut 65 = .ok (.iload 6, 2) := by decide +kernel
theorem dX3_doPut_67 : decode cX3_doPut 67 = .ok (.baload, 1) := by decide +kernel
theorem dX3_doPut_68 : decode cX3_doPut 68 = .ok (.ifCond .ne 7, 3) := by decide +kernel
theorem dX3_doPut_71 : decode cX3_doPut 71 = .ok (.iconst 1, 1) := by decide +kernel
theorem dX3_doPut_72 : decode cX3_doPut 72 = .ok (.goto 4, 3) := by decide +kernel
theorem dX3_doPut_75 : decode cX3_doPut 75 = .ok (.iconst 0, 1) := by decide +kernel
theorem dX3_doPut_76 : decode cX3_doPut 76 = .ok (.istore 7, 2) := by decide +kernel
theorem dX3_doPut_78 : decode cX3_doPut 78 = .ok (.aload_n 0, 1) := by decide +kernel
theorem dX3_doPut_79 : decode cX3_doPut 79 = .ok (.iload_n 1, 1) := by decide +kernel
theorem dX3_doPut_80 : decode cX3_doPut 80 = .ok (.iload 5, 2) := by decide +kernel
theorem dX3_doPut_82 : decode cX3_doPut 82 = .ok (.iconst 1, 1) := by decide +kernel
theorem dX3_doPut_83 : decode cX3_doPut 83 = .ok (.invokevirtual 133, 3) := by decide +kernel
theorem dX3_doPut_86 : decode cX3_doPut 86 = .ok (.istore 8, 2) := by decide +kernel
theorem dX3_doPut_88 : decode cX3_doPut 88 = .ok (.iload 8, 2) := by decide +kernel
theorem dX3_doPut_90 : decode cX3_doPut 90 = .ok (.iconst 1, 1) := by decide +kernel
theorem dX3_doPut_91 : decode cX3_doPut 91 = .ok (.if_icmp .eq 6, 3) := by decide +kernel
theorem dX3_doPut_94 : decode cX3_doPut 94 = .ok (.iload 8, 2) := by decide +kernel
theorem dX3_doPut_96 : decode cX3_doPut 96 = .ok (.ireturn, 1) := by decide +kernel
theorem dX3_doPut_97 : decode cX3_doPut 97 = .ok (.aload_n 3, 1) := by decide +kernel
theorem dX3_doPut_98 : decode cX3_doPut 98 = .ok (.iload 5, 2) := by decide +kernel
theorem dX3_doPut_100 : decode cX3_doPut 100 = .ok (.invokevirtual 165, 3) := by decide +kernel
theorem dX3_doPut_103 : decode cX3_doPut 103 = .ok (.istore 9, 2) := by decide +kernel
theorem dX3_doPut_105 : decode cX3_doPut 105 = .ok (.aload_n 2, 1) := by decide +kernel
theorem dX3_doPut_106 : decode cX3_doPut 106 = .ok (.getfield 141, 3) := by decide +kernel
theorem dX3_doPut_109 : decode cX3_doPut 109 = .ok (.iconst 1, 1) := by decide +kernel
theorem dX3_doPut_110 : decode cX3_doPut 110 = .ok (.if_icmp .ne 23, 3) := by decide +kernel
theorem dX3_doPut_113 : decode cX3_doPut 113 = .ok (.iload 7, 2) := by decide +kernel
theorem dX3_doPut_115 : decode cX3_doPut 115 = .ok (.ifCond .eq 10, 3) := by decide +kernel
theorem dX3_doPut_118 : decode cX3_doPut 118 = .ok (.aload_n 0, 1) := by decide +kernel
theorem dX3_doPut_119 : decode cX3_doPut 119 = .ok (.aload_n 3, 1) := by decide +kernel
theorem dX3_doPut_120 : decode cX3_doPut 120 = .ok (.iload 9, 2) := by decide +kernel
theorem dX3_doPut_122 : decode cX3_doPut 122 = .ok (.invokevirtual 181, 3) := by decide +kernel
theorem dX3_doPut_125 : decode cX3_doPut 125 = .ok (.aload_n 0, 1) := by decide +kernel
theorem dX3_doPut_126 : decode cX3_doPut 126 = .ok (.iload_n 1, 1) := by decide +kernel
theorem dX3_doPut_127 : decode cX3_doPut 127 = .ok (.iload 5, 2) := by decide +kernel
theorem dX3_doPut_129 : decode cX3_doPut 129 = .ok (.iconst 1, 1) := by decide +kernel
theorem dX3_doPut_130 : decode cX3_doPut 130 = .ok (.invokevirtual 137, 3) := by decide +kernel
theorem dX3_doPut_133 : decode cX3_doPut 133 = .ok (.aload_n 3, 1) := by decide +kernel
theorem dX3_doPut_134 : decode cX3_doPut 134 = .ok (.iload 9, 2) := by decide +kernel
theorem dX3_doPut_136 : decode cX3_doPut 136 = .ok (.aload_n 0, 1) := by decide +kernel
theorem dX3_doPut_137 : decode cX3_doPut 137 = .ok (.getfield 33, 3) := by decide +kernel
theorem dX3_doPut_140 : decode cX3_doPut 140 = .ok (.iload 4, 2) := by decide +kernel
theorem dX3_doPut_142 : decode cX3_doPut 142 = .ok (.invokevirtual 168, 3) := by decide +kernel
theorem dX3_doPut_145 : decode cX3_doPut 145 = .ok (.aload_n 2, 1) := by decide +kernel
theorem dX3_doPut_146 : decode cX3_doPut 146 = .ok (.getfield 110, 3) := by decide +kernel
theorem dX3_doPut_149 : decode cX3_doPut 149 = .ok (.invokevirtual 185, 3) := by decide +kernel
theorem dX3_doPut_152 : decode cX3_doPut 152 = .ok (.iconst 1, 1) := by decide +kernel
theorem dX3_doPut_153 : decode cX3_doPut 153 = .ok (.ireturn, 1) := by decide +kernel
theorem dX3_doEnd_0 : decode cX3_doEnd 0 = .ok (.aload_n 2, 1) := by decide +kernel
theorem dX3_doEnd_1 : decode cX3_doEnd 1 = .ok (.getfield 141, 3) := by decide +kernel
theorem dX3_doEnd_4 : decode cX3_doEnd 4 = .ok (.iconst 2, 1) := by decide +kernel
theorem dX3_doEnd_5 : decode cX3_doEnd 5 = .ok (.if_icmp .ne 7, 3) := by decide +kernel
theorem dX3_doEnd_8 : decode cX3_doEnd 8 = .ok (.iconst 1, 1) := by decide +kernel
theorem dX3_doEnd_9 : decode cX3_doEnd 9 = .ok (.goto 4, 3) := by decide +kernel
theorem dX3_doEnd_12 : decode cX3_doEnd 12 = .ok (.iconst 0, 1) := by decide +kernel
theorem dX3_doEnd_13 : decode cX3_doEnd 13 = .ok (.istore_n 3, 1) := by decide +kernel
theorem dX3_doEnd_14 : decode cX3_doEnd 14 = .ok (.iload_n 3, 1) := by decide +kernel
theorem dX3_doEnd_15 : decode cX3_doEnd 15 = .ok (.ifCond .eq 22, 3) := by decide +kernel
theorem dX3_doEnd_18 : decode cX3_doEnd 18 = .ok (.aload_n 0, 1) := by decide +kernel
theorem dX3_doEnd_19 : decode cX3_doEnd 19 = .ok (.bipush (-2), 2) := by decide +kernel
theorem dX3_doEnd_21 : decode cX3_doEnd 21 = .ok (.putfield 54, 3) := by decide +kernel
theorem dX3_doEnd_24 : decode cX3_doEnd 24 = .ok (.aload_n 2, 1) := by decide +kernel
theorem dX3_doEnd_25 : decode cX3_doEnd 25 = .ok (.getfield 127, 3) := by decide +kernel
theorem dX3_doEnd_28 : decode cX3_doEnd 28 = .ok (.iconst 5, 1) := by decide +kernel
theorem dX3_doEnd_29 : decode cX3_doEnd 29 = .ok (.dup2, 1) := by decide +kernel
theorem dX3_doEnd_30 : decode cX3_doEnd 30 = .ok (.iaload, 1) := by decide +kernel
theorem dX3_doEnd_31 : decode cX3_doEnd 31 = .ok (.iconst 1, 1) := by decide +kernel
theorem dX3_doEnd_32 : decode cX3_doEnd 32 = .ok (.iadd, 1) := by decide +kernel
theorem dX3_doEnd_33 : decode cX3_doEnd 33 = .ok (.iastore, 1) := by decide +kernel
theorem dX3_doEnd_34 : decode cX3_doEnd 34 = .ok (.goto 13, 3) := by decide +kernel
theorem dX3_doEnd_37 : decode cX3_doEnd 37 = .ok (.aload_n 0, 1) := by decide +kernel
theorem dX3_doEnd_38 : decode cX3_doEnd 38 = .ok (.getfield 17, 3) := by decide +kernel
theorem dX3_doEnd_41 : decode cX3_doEnd 41 = .ok (.iload_n 1, 1) := by decide +kernel
theorem dX3_doEnd_42 : decode cX3_doEnd 42 = .ok (.aaload, 1) := by decide +kernel
theorem dX3_doEnd_43 : decode cX3_doEnd 43 = .ok (.iconst 0, 1) := by decide +kernel
theorem dX3_doEnd_44 : decode cX3_doEnd 44 = .ok (.invokevirtual 189, 3) := by decide +kernel
theorem dX3_doEnd_47 : decode cX3_doEnd 47 = .ok (.aload_n 2, 1) := by decide +kernel
theorem dX3_doEnd_48 : decode cX3_doEnd 48 = .ok (.getfield 127, 3) := by decide +kernel
theorem dX3_doEnd_51 : decode cX3_doEnd 51 = .ok (.iconst 4, 1) := by decide +kernel
theorem dX3_doEnd_52 : decode cX3_doEnd 52 = .ok (.dup2, 1) := by decide +kernel
theorem dX3_doEnd_53 : decode cX3_doEnd 53 = .ok (.iaload, 1) := by decide +kernel
theorem dX3_doEnd_54 : decode cX3_doEnd 54 = .ok (.iconst 1, 1) := by decide +kernel
theorem dX3_doEnd_55 : decode cX3_doEnd 55 = .ok (.iadd, 1) := by decide +kernel
theorem dX3_doEnd_56 : decode cX3_doEnd 56 = .ok (.iastore, 1) := by decide +kernel
theorem dX3_doEnd_57 : decode cX3_doEnd 57 = .ok (.aload_n 0, 1) := by decide +kernel
theorem dX3_doEnd_58 : decode cX3_doEnd 58 = .ok (.getfield 48, 3) := by decide +kernel
theorem dX3_doEnd_61 : decode cX3_doEnd 61 = .ok (.bipush 48, 2) := by decide +kernel
theorem dX3_doEnd_63 : decode cX3_doEnd 63 = .ok (.if_icmp .ge 73, 3) := by decide +kernel
theorem dX3_doEnd_66 : decode cX3_doEnd 66 = .ok (.aload_n 0, 1) := by decide +kernel
theorem dX3_doEnd_67 : decode cX3_doEnd 67 = .ok (.getfield 48, 3) := by decide +kernel
theorem dX3_doEnd_70 : decode cX3_doEnd 70 = .ok (.iconst 4, 1) := by decide +kernel
theorem dX3_doEnd_71 : decode cX3_doEnd 71 = .ok (.imul, 1) := by decide +kernel
theorem dX3_doEnd_72 : decode cX3_doEnd 72 = .ok (.istore 4, 2) := by decide +kernel
theorem dX3_doEnd_74 : decode cX3_doEnd 74 = .ok (.aload_n 0, 1) := by decide +kernel
theorem dX3_doEnd_75 : decode cX3_doEnd 75 = .ok (.getfield 30, 3) := by decide +kernel
theorem dX3_doEnd_78 : decode cX3_doEnd 78 = .ok (.iload 4, 2) := by decide +kernel
theorem dX3_doEnd_80 : decode cX3_doEnd 80 = .ok (.iload_n 1, 1) := by decide +kernel
theorem dX3_doEnd_81 : decode cX3_doEnd 81 = .ok (.iastore, 1) := by decide +kernel
theorem dX3_doEnd_82 : decode cX3_doEnd 82 = .ok (.aload_n 0, 1) := by decide +kernel
theorem dX3_doEnd_83 : decode cX3_doEnd 83 = .ok (.getfield 30, 3) := by decide +kernel
theorem dX3_doEnd_86 : decode cX3_doEnd 86 = .ok (.iload 4, 2) := by decide +kernel
theorem dX3_doEnd_88 : decode cX3_doEnd 88 = .ok (.iconst 1, 1) := by decide +kernel
theorem dX3_doEnd_89 : decode cX3_doEnd 89 = .ok (.iadd, 1) := by decide +kernel
theorem dX3_doEnd_90 : decode cX3_doEnd 90 = .ok (.aload_n 2, 1) := by decide +kernel
theorem dX3_doEnd_91 : decode cX3_doEnd 91 = .ok (.getfield 151, 3) := by decide +kernel
theorem dX3_doEnd_94 : decode cX3_doEnd 94 = .ok (.iastore, 1) := by decide +kernel
theorem dX3_doEnd_95 : decode cX3_doEnd 95 = .ok (.aload_n 0, 1) := by decide +kernel
theorem dX3_doEnd_96 : decode cX3_doEnd 96 = .ok (.getfield 30, 3) := by decide +kernel
theorem dX3_doEnd_99 : decode cX3_doEnd 99 = .ok (.iload 4, 2) := by decide +kernel
theorem dX3_doEnd_101 : decode cX3_doEnd 101 = .ok (.iconst 2, 1) := by decide +kernel
theorem dX3_doEnd_102 : decode cX3_doEnd 102 = .ok (.iadd, 1) := by decide +kernel
theorem dX3_doEnd_103 : decode cX3_doEnd 103 = .ok (.aload_n 0, 1) := by decide +kernel
theorem dX3_doEnd_104 : decode cX3_doEnd 104 = .ok (.getfield 51, 3) := by decide +kernel
theorem dX3_doEnd_107 : decode cX3_doEnd 107 = .ok (.iastore, 1) := by decide +kernel
theorem dX3_doEnd_108 : decode cX3_doEnd 108 = .ok (.aload_n 0, 1) := by decide +kernel
theorem dX3_doEnd_109 : decode cX3_doEnd 109 = .ok (.getfield 30, 3) := by decide +kernel
theorem dX3_doEnd_112 : decode cX3_doEnd 112 = .ok (.iload 4, 2) := by decide +kernel
theorem dX3_doEnd_114 : decode cX3_doEnd 114 = .ok (.iconst 3, 1) := by decide +kernel
theorem dX3_doEnd_115 : decode cX3_doEnd 115 = .ok (.iadd, 1) := by decide +kernel
theorem dX3_doEnd_116 : decode cX3_doEnd 116 = .ok (.iload_n 3, 1) := by decide +kernel
theorem dX3_doEnd_117 : decode cX3_doEnd 117 = .ok (.ifCond .eq 7, 3) := by decide +kernel
theorem dX3_doEnd_120 : decode cX3_doEnd 120 = .ok (.iconst 1, 1) := by decide +kernel
theorem dX3_doEnd_121 : decode cX3_doEnd 121 = .ok (.goto 4, 3) := by decide +kernel
theorem dX3_doEnd_124 : decode cX3_doEnd 124 = .ok (.iconst 0, 1) := by decide +kernel
theorem dX3_doEnd_125 : decode cX3_doEnd 125 = .ok (.iastore, 1) := by decide +kernel
theorem dX3_doEnd_126 : decode cX3_doEnd 126 = .ok (.aload_n 0, 1) := by decide +kernel
theorem dX3_doEnd_127 : decode cX3_doEnd 127 = .ok (.dup, 1) := by decide +kernel
theorem dX3_doEnd_128 : decode cX3_doEnd 128 = .ok (.getfield 48, 3) := by decide +kernel
theorem dX3_doEnd_131 : decode cX3_doEnd 131 = .ok (.iconst 1, 1) := by decide +kernel
theorem dX3_doEnd_132 : decode cX3_doEnd 132 = .ok (.iadd, 1) := by decide +kernel
theorem dX3_doEnd_133 : decode cX3_doEnd 133 = .ok (.putfield 48, 3) := by decide +kernel
theorem dX3_doEnd_136 : decode cX3_doEnd 136 = .ok (.aload_n 2, 1) := by decide +kernel
theorem dX3_doEnd_137 : decode cX3_doEnd 137 = .ok (.iconst 0, 1) := by decide +kernel
theorem dX3_doEnd_138 : decode cX3_doEnd 138 = .ok (.putfield 130, 3) := by decide +kernel
theorem dX3_doEnd_141 : decode cX3_doEnd 141 = .ok (.aload_n 2, 1) := by decide +kernel
theorem dX3_doEnd_142 : decode cX3_doEnd 142 = .ok (.bipush (-2), 2) := by decide +kernel
theorem dX3_doEnd_144 : decode cX3_doEnd 144 = .ok (.putfield 154, 3) := by decide +kernel
theorem dX3_doEnd_147 : decode cX3_doEnd 147 = .ok (.aload_n 2, 1) := by decide +kernel
theorem dX3_doEnd_148 : decode cX3_doEnd 148 = .ok (.iconst 0, 1) := by decide +kernel
theorem dX3_doEnd_149 : decode cX3_doEnd 149 = .ok (.putfield 141, 3) := by decide +kernel
theorem dX3_doEnd_152 : decode cX3_doEnd 152 = .ok (.return_, 1) := by decide +kernel
theorem dX3_reach_0 : decode cX3_reach 0 = .ok (.aload_n 0, 1) := by decide +kernel
theorem dX3_reach_1 : decode cX3_reach 1 = .ok (.iload_n 1, 1) := by decide +kernel
theorem dX3_reach_2 : decode cX3_reach 2 = .ok (.iload_n 2, 1) := by decide +kernel
theorem dX3_reach_3 : decode cX3_reach 3 = .ok (.iload_n 3, 1) := by decide +kernel
theorem dX3_reach_4 : decode cX3_reach 4 = .ok (.invokevirtual 193, 3) := by decide +kernel
theorem dX3_reach_7 : decode cX3_reach 7 = .ok (.istore 4, 2) := by decide +kernel
theorem dX3_reach_9 : decode cX3_reach 9 = .ok (.iload 4, 2) := by decide +kernel
theorem dX3_reach_11 : decode cX3_reach 11 = .ok (.iconst 1, 1) := by decide +kernel
theorem dX3_reach_12 : decode cX3_reach 12 = .ok (.if_icmp .eq 6, 3) := by decide +kernel
theorem dX3_reach_15 : decode cX3_reach 15 = .ok (.iload 4, 2) := by decide +kernel
theorem dX3_reach_17 : decode cX3_reach 17 = .ok (.ireturn, 1) := by decide +kernel
theorem dX3_reach_18 : decode cX3_reach 18 = .ok (.aload_n 0, 1) := by decide +kernel
theorem dX3_reach_19 : decode cX3_reach 19 = .ok (.getfield 17, 3) := by decide +kernel
theorem dX3_reach_22 : decode cX3_reach 22 = .ok (.iload_n 1, 1) := by decide +kernel
theorem dX3_reach_23 : decode cX3_reach 23 = .ok (.aaload, 1) := by decide +kernel
theorem dX3_reach_24 : decode cX3_reach 24 = .ok (.astore 5, 2) := by decide +kernel
theorem dX3_reach_26 : decode cX3_reach 26 = .ok (.aload 5, 2) := by decide +kernel
theorem dX3_reach_28 : decode cX3_reach 28 = .ok (.iload_n 2, 1) := by decide +kernel
theorem dX3_reach_29 : decode cX3_reach 29 = .ok (.invokevirtual 165, 3) := by decide +kernel
theorem dX3_reach_32 : decode cX3_reach 32 = .ok (.istore 6, 2) := by decide +kernel
theorem dX3_reach_34 : decode cX3_reach 34 = .ok (.iload 6, 2) := by decide +kernel
theorem dX3_reach_36 : decode cX3_reach 36 = .ok (.iconst (-1), 1) := by decide +kernel
theorem dX3_reach_37 : decode cX3_reach 37 = .ok (.if_icmp .ne 7, 3) := by decide +kernel
theorem dX3_reach_40 : decode cX3_reach 40 = .ok (.iconst 1, 1) := by decide +kernel
theorem dX3_reach_41 : decode cX3_reach 41 = .ok (.goto 4, 3) := by decide +kernel
theorem dX3_reach_44 : decode cX3_reach 44 = .ok (.iconst 0, 1) := by decide +kernel
theorem dX3_reach_45 : decode cX3_reach 45 = .ok (.istore 7, 2) := by decide +kernel
theorem dX3_reach_47 : decode cX3_reach 47 = .ok (.iload 7, 2) := by decide +kernel
theorem dX3_reach_49 : decode cX3_reach 49 = .ok (.ifCond .eq 54, 3) := by decide +kernel
theorem dX3_reach_52 : decode cX3_reach 52 = .ok (.aload 5, 2) := by decide +kernel
theorem dX3_reach_54 : decode cX3_reach 54 = .ok (.iload_n 2, 1) := by decide +kernel
theorem dX3_reach_55 : decode cX3_reach 55 = .ok (.invokevirtual 196, 3) := by decide +kernel
theorem dX3_reach_58 : decode cX3_reach 58 = .ok (.istore 6, 2) := by decide +kernel
theorem dX3_reach_60 : decode cX3_reach 60 = .ok (.iload 6, 2) := by decide +kernel
theorem dX3_reach_62 : decode cX3_reach 62 = .ok (.iconst (-1), 1) := by decide +kernel
theorem dX3_reach_63 : decode cX3_reach 63 = .ok (.if_icmp .ne 13, 3) := by decide +kernel
theorem dX3_reach_66 : decode cX3_reach 66 = .ok (.aload_n 0, 1) := by decide +kernel
theorem dX3_reach_67 : decode cX3_reach 67 = .ok (.iconst 1, 1) := by decide +kernel
theorem dX3_reach_68 : decode cX3_reach 68 = .ok (.iload_n 1, 1) := by decide +kernel
theorem dX3_reach_69 : decode cX3_reach 69 = .ok (.ishl, 1) := by decide +kernel
theorem dX3_reach_70 : decode cX3_reach 70 = .ok (.iconst 1, 1) := by decide +kernel
theorem dX3_reach_71 : decode cX3_reach 71 = .ok (.invokevirtual 147, 3) := by decide +kernel
theorem dX3_reach_74 : decode cX3_reach 74 = .ok (.iconst 3, 1) := by decide +kernel
theorem dX3_reach_75 : decode cX3_reach 75 = .ok (.ireturn, 1) := by decide +kernel
theorem dX3_reach_76 : decode cX3_reach 76 = .ok (.aload 5, 2) := by decide +kernel
theorem dX3_reach_78 : decode cX3_reach 78 = .ok (.getfield 174, 3) := by decide +kernel
theorem dX3_reach_81 : decode cX3_reach 81 = .ok (.iload 6, 2) := by decide +kernel
theorem dX3_reach_83 : decode cX3_reach 83 = .ok (.iaload, 1) := by decide +kernel
theorem dX3_reach_84 : decode cX3_reach 84 = .ok (.iconst 3, 1) := by decide +kernel
theorem dX3_reach_85 : decode cX3_reach 85 = .ok (.if_icmp .ne 11, 3) := by decide +kernel
theorem dX3_reach_88 : decode cX3_reach 88 = .ok (.aload_n 0, 1) := by decide +kernel
theorem dX3_reach_89 : decode cX3_reach 89 = .ok (.aload 5, 2) := by decide +kernel
theorem dX3_reach_91 : decode cX3_reach 91 = .ok (.iload 6, 2) := by decide +kernel
theorem dX3_reach_93 : decode cX3_reach 93 = .ok (.invokevirtual 181, 3) := by decide +kernel
theorem dX3_reach_96 : decode cX3_reach 96 = .ok (.aload 5, 2) := by decide +kernel
theorem dX3_reach_98 : decode cX3_reach 98 = .ok (.iload 6, 2) := by decide +kernel
theorem dX3_reach_100 : decode cX3_reach 100 = .ok (.invokevirtual 199, 3) := by decide +kernel
theorem dX3_reach_103 : decode cX3_reach 103 = .ok (.aload_n 0, 1) := by decide +kernel
theorem dX3_reach_104 : decode cX3_reach 104 = .ok (.iload_n 1, 1) := by decide +kernel
theorem dX3_reach_105 : decode cX3_reach 105 = .ok (.iload_n 2, 1) := by decide +kernel
theorem dX3_reach_106 : decode cX3_reach 106 = .ok (.iload_n 3, 1) := by decide +kernel
theorem dX3_reach_107 : decode cX3_reach 107 = .ok (.invokevirtual 203, 3) := by decide +kernel
theorem dX3_reach_110 : decode cX3_reach 110 = .ok (.istore 8, 2) := by decide +kernel
theorem dX3_reach_112 : decode cX3_reach 112 = .ok (.iload 7, 2) := by decide +kernel
theorem dX3_reach_114 : decode cX3_reach 114 = .ok (.ifCond .eq 30, 3) := by decide +kernel
theorem dX3_reach_117 : decode cX3_reach 117 = .ok (.aload_n 0, 1) := by decide +kernel
theorem dX3_reach_118 : decode cX3_reach 118 = .ok (.aload 5, 2) := by decide +kernel
theorem dX3_reach_120 : decode cX3_reach 120 = .ok (.iload 6, 2) := by decide +kernel
theorem dX3_reach_122 : decode cX3_reach 122 = .ok (.iload_n 2, 1) := by decide +kernel
theorem dX3_reach_123 : decode cX3_reach 123 = .ok (.invokevirtual 207, 3) := by decide +kernel
theorem dX3_reach_126 : decode cX3_reach 126 = .ok (.aload 5, 2) := by decide +kernel
theorem dX3_reach_128 : decode cX3_reach 128 = .ok (.getfield 174, 3) := by decide +kernel
theorem dX3_reach_131 : decode cX3_reach 131 = .ok (.iload 6, 2) := by decide +kernel
theorem dX3_reach_133 : decode cX3_reach 133 = .ok (.iload 8, 2) := by decide +kernel
theorem dX3_reach_135 : decode cX3_reach 135 = .ok (.ifCond .eq 7, 3) := by decide +kernel
theorem dX3_reach_138 : decode cX3_reach 138 = .ok (.iconst 1, 1) := by decide +kernel
theorem dX3_reach_139 : decode cX3_reach 139 = .ok (.goto 4, 3) := by decide +kernel
theorem dX3_reach_142 : decode cX3_reach 142 = .ok (.iconst 2, 1) := by decide +kernel
theorem dX3_reach_143 : decode cX3_reach 143 = .ok (.iastore, 1) := by decide +kernel
theorem dX3_reach_144 : decode cX3_reach 144 = .ok (.iload_n 3, 1) := by decide +kernel
theorem dX3_reach_145 : decode cX3_reach 145 = .ok (.ifCond .eq 12, 3) := by decide +kernel
theorem dX3_reach_148 : decode cX3_reach 148 = .ok (.aload 5, 2) := by decide +kernel
theorem dX3_reach_150 : decode cX3_reach 150 = .ok (.getfield 174, 3) := by decide +kernel
theorem dX3_reach_153 : decode cX3_reach 153 = .ok (.iload 6, 2) := by decide +kernel
theorem dX3_reach_155 : decode cX3_reach 155 = .ok (.iconst 3, 1) := by decide +kernel
theorem dX3_reach_156 : decode cX3_reach 156 = .ok (.iastore, 1) := by decide +kernel
theorem dX3_reach_157 : decode cX3_reach 157 = .ok (.aload 5, 2) := by decide +kernel
theorem dX3_reach_159 : decode cX3_reach 159 = .ok (.getfield 211, 3) := by decide +kernel
theorem dX3_reach_162 : decode cX3_reach 162 = .ok (.iload 6, 2) := by decide +kernel
theorem dX3_reach_164 : decode cX3_reach 164 = .ok (.aload_n 0, 1) := by decide +kernel
theorem dX3_reach_165 : decode cX3_reach 165 = .ok (.getfield 51, 3) := by decide +kernel
theorem dX3_reach_168 : decode cX3_reach 168 = .ok (.iastore, 1) := by decide +kernel
theorem dX3_reach_169 : decode cX3_reach 169 = .ok (.iconst 1, 1) := by decide +kernel
theorem dX3_reach_170 : decode cX3_reach 170 = .ok (.ireturn, 1) := by decide +kernel
theorem dX3_ask_0 : decode cX3_ask 0 = .ok (.aload_n 0, 1) := by decide +kernel
theorem dX3_ask_1 : decode cX3_ask 1 = .ok (.iload_n 1, 1) := by decide +kernel
theorem dX3_ask_2 : decode cX3_ask 2 = .ok (.iload_n 2, 1) := by decide +kernel
theorem dX3_ask_3 : decode cX3_ask 3 = .ok (.iload_n 3, 1) := by decide +kernel
theorem dX3_ask_4 : decode cX3_ask 4 = .ok (.ifCond .ne 7, 3) := by decide +kernel
theorem dX3_ask_7 : decode cX3_ask 7 = .ok (.iconst 1, 1) := by decide +kernel
theorem dX3_ask_8 : decode cX3_ask 8 = .ok (.goto 4, 3) := by decide +kernel
theorem dX3_ask_11 : decode cX3_ask 11 = .ok (.iconst 0, 1) := by decide +kernel
theorem dX3_ask_12 : decode cX3_ask 12 = .ok (.invokevirtual 144, 3) := by decide +kernel
theorem dX3_ask_15 : decode cX3_ask 15 = .ok (.istore 4, 2) := by decide +kernel
theorem dX3_ask_17 : decode cX3_ask 17 = .ok (.iload 4, 2) := by decide +kernel
theorem dX3_ask_19 : decode cX3_ask 19 = .ok (.ifCond .ne 5, 3) := by decide +kernel
theorem dX3_ask_22 : decode cX3_ask 22 = .ok (.iconst 1, 1) := by decide +kernel
theorem dX3_ask_23 : decode cX3_ask 23 = .ok (.ireturn, 1) := by decide +kernel
theorem dX3_ask_24 : decode cX3_ask 24 = .ok (.aload_n 0, 1) := by decide +kernel
theorem dX3_ask_25 : decode cX3_ask 25 = .ok (.getfield 41, 3) := by decide +kernel
theorem dX3_ask_28 : decode cX3_ask 28 = .ok (.iconst 2, 1) := by decide +kernel
theorem dX3_ask_29 : decode cX3_ask 29 = .ok (.if_icmp .ne 13, 3) := by decide +kernel
theorem dX3_ask_32 : decode cX3_ask 32 = .ok (.aload_n 0, 1) := by decide +kernel
theorem dX3_ask_33 : decode cX3_ask 33 = .ok (.iconst 1, 1) := by decide +kernel
theorem dX3_ask_34 : decode cX3_ask 34 = .ok (.iload_n 1, 1) := by decide +kernel
theorem dX3_ask_35 : decode cX3_ask 35 = .ok (.ishl, 1) := by decide +kernel
theorem dX3_ask_36 : decode cX3_ask 36 = .ok (.iconst 0, 1) := by decide +kernel
theorem dX3_ask_37 : decode cX3_ask 37 = .ok (.invokevirtual 147, 3) := by decide +kernel
theorem dX3_ask_40 : decode cX3_ask 40 = .ok (.iconst 3, 1) := by decide +kernel
theorem dX3_ask_41 : decode cX3_ask 41 = .ok (.ireturn, 1) := by decide +kernel
theorem dX3_ask_42 : decode cX3_ask 42 = .ok (.aload_n 0, 1) := by decide +kernel
theorem dX3_ask_43 : decode cX3_ask 43 = .ok (.getfield 41, 3) := by decide +kernel
theorem dX3_ask_46 : decode cX3_ask 46 = .ok (.iconst 1, 1) := by decide +kernel
theorem dX3_ask_47 : decode cX3_ask 47 = .ok (.if_icmp .ne 53, 3) := by decide +kernel
theorem dX3_ask_50 : decode cX3_ask 50 = .ok (.iconst 0, 1) := by decide +kernel
theorem dX3_ask_51 : decode cX3_ask 51 = .ok (.istore 5, 2) := by decide +kernel
theorem dX3_ask_53 : decode cX3_ask 53 = .ok (.iload 5, 2) := by decide +kernel
theorem dX3_ask_55 : decode cX3_ask 55 = .ok (.iconst 4, 1) := by decide +kernel
theorem dX3_ask_56 : decode cX3_ask 56 = .ok (.if_icmp .ge 44, 3) := by decide +kernel
theorem dX3_ask_59 : decode cX3_ask 59 = .ok (.iload 4, 2) := by decide +kernel
theorem dX3_ask_61 : decode cX3_ask 61 = .ok (.iload 5, 2) := by decide +kernel
theorem dX3_ask_63 : decode cX3_ask 63 = .ok (.ishr, 1) := by decide +kernel
theorem dX3_ask_64 : decode cX3_ask 64 = .ok (.iconst 1, 1) := by decide +kernel
theorem dX3_ask_65 : decode cX3_ask 65 = .ok (.iand, 1) := by decide +kernel
theorem dX3_ask_66 : decode cX3_ask 66 = .ok (.iconst 1, 1) := by decide +kernel
theorem dX3_ask_67 : decode cX3_ask 67 = .ok (.if_icmp .ne 27, 3) := by decide +kernel
theorem dX3_ask_70 : decode cX3_ask 70 = .ok (.aload_n 0, 1) := by decide +kernel
theorem dX3_ask_71 : decode cX3_ask 71 = .ok (.getfield 23, 3) := by decide +kernel
theorem dX3_ask_74 : decode cX3_ask 74 = .ok (.iload 5, 2) := by decide +kernel
theorem dX3_ask_76 : decode cX3_ask 76 = .ok (.aaload, 1) := by decide +kernel
theorem dX3_ask_77 : decode cX3_ask 77 = .ok (.getfield 154, 3) := by decide +kernel
theorem dX3_ask_80 : decode cX3_ask 80 = .ok (.aload_n 0, 1) := by decide +kernel
theorem dX3_ask_81 : decode cX3_ask 81 = .ok (.getfield 23, 3) := by decide +kernel
theorem dX3_ask_84 : decode cX3_ask 84 = .ok (.iload_n 1, 1) := by decide +kernel
theorem dX3_ask_85 : decode cX3_ask 85 = .ok (.aaload, 1) := by decide +kernel
theorem dX3_ask_86 : decode cX3_ask 86 = .ok (.getfield 154, 3) := by decide +kernel
theorem dX3_ask_89 : decode cX3_ask 89 = .ok (.if_icmp .gt 5, 3) := by decide +kernel
theorem dX3_ask_92 : decode cX3_ask 92 = .ok (.iconst 2, 1) := by decide +kernel
theorem dX3_ask_93 : decode cX3_ask 93 = .ok (.ireturn, 1) := by decide +kernel
theorem dX3_ask_94 : decode cX3_ask 94 = .ok (.iinc 5 1, 3) := by decide +kernel
theorem dX3_ask_97 : decode cX3_ask 97 = .ok (.goto (-44), 3) := by decide +kernel
theorem dX3_ask_100 : decode cX3_ask 100 = .ok (.aload_n 0, 1) := by decide +kernel
theorem dX3_ask_101 : decode cX3_ask 101 = .ok (.iload 4, 2) := by decide +kernel
theorem dX3_ask_103 : decode cX3_ask 103 = .ok (.iconst 0, 1) := by decide +kernel
theorem dX3_ask_104 : decode cX3_ask 104 = .ok (.invokevirtual 147, 3) := by decide +kernel
theorem dX3_ask_107 : decode cX3_ask 107 = .ok (.iconst 1, 1) := by decide +kernel
theorem dX3_ask_108 : decode cX3_ask 108 = .ok (.ireturn, 1) := by decide +kernel
theorem dX3_marking_0 : decode cX3_marking 0 = .ok (.iconst 0, 1) := by decide +kernel
theorem dX3_marking_1 : decode cX3_marking 1 = .ok (.istore 4, 2) := by decide +kernel
theorem dX3_marking_3 : decode cX3_marking 3 = .ok (.iconst 0, 1) := by decide +kernel
theorem dX3_marking_4 : decode cX3_marking 4 = .ok (.istore 5, 2) := by decide +kernel
theorem dX3_marking_6 : decode cX3_marking 6 = .ok (.iload 5, 2) := by decide +kernel
theorem dX3_marking_8 : decode cX3_marking 8 = .ok (.iconst 4, 1) := by decide +kernel
theorem dX3_marking_9 : decode cX3_marking 9 = .ok (.if_icmp .ge 83, 3) := by decide +kernel
theorem dX3_marking_12 : decode cX3_marking 12 = .ok (.iload 5, 2) := by decide +kernel
theorem dX3_marking_14 : decode cX3_marking 14 = .ok (.iload_n 1, 1) := by decide +kernel
theorem dX3_marking_15 : decode cX3_marking 15 = .ok (.if_icmp .ne 7, 3) := by decide +kernel
theorem dX3_marking_18 : decode cX3_marking 18 = .ok (.iconst (-1), 1) := by decide +kernel
theorem dX3_marking_19 : decode cX3_marking 19 = .ok (.goto 14, 3) := by decide +kernel
theorem dX3_marking_22 : decode cX3_marking 22 = .ok (.aload_n 0, 1) := by decide +kernel
theorem dX3_marking_23 : decode cX3_marking 23 = .ok (.getfield 17, 3) := by decide +kernel
theorem dX3_marking_26 : decode cX3_marking 26 = .ok (.iload 5, 2) := by decide +kernel
theorem dX3_marking_28 : decode cX3_marking 28 = .ok (.aaload, 1) := by decide +kernel
theorem dX3_marking_29 : decode cX3_marking 29 = .ok (.iload_n 2, 1) := by decide +kernel
theorem dX3_marking_30 : decode cX3_marking 30 = .ok (.invokevirtual 165, 3) := by decide +kernel
theorem dX3_marking_33 : decode cX3_marking 33 = .ok (.istore 6, 2) := by decide +kernel
theorem dX3_marking_35 : decode cX3_marking 35 = .ok (.iload 6, 2) := by decide +kernel
theorem dX3_marking_37 : decode cX3_marking 37 = .ok (.iconst (-1), 1) := by decide +kernel
theorem dX3_marking_38 : decode cX3_marking 38 = .ok (.if_icmp .eq 48, 3) := by decide +kernel
theorem dX3_marking_41 : decode cX3_marking 41 = .ok (.aload_n 0, 1) := by decide +kernel
theorem dX3_marking_42 : decode cX3_marking 42 = .ok (.getfield 17, 3) := by decide +kernel
theorem dX3_marking_45 : decode cX3_marking 45 = .ok (.iload 5, 2) := by decide +kernel
theorem dX3_marking_47 : decode cX3_marking 47 = .ok (.aaload, 1) := by decide +kernel
theorem dX3_marking_48 : decode cX3_marking 48 = .ok (.getfield 177, 3) := by decide +kernel
theorem dX3_marking_51 : decode cX3_marking 51 = .ok (.iload 6, 2) := by decide +kernel
theorem dX3_marking_53 : decode cX3_marking 53 = .ok (.baload, 1) := by decide +kernel
theorem dX3_marking_54 : decode cX3_marking 54 = .ok (.ifCond .ne 23, 3) := by decide +kernel
theorem dX3_marking_57 : decode cX3_marking 57 = .ok (.iload_n 3, 1) := by decide +kernel
theorem dX3_marking_58 : decode cX3_marking 58 = .ok (.ifCond .ne 28, 3) := by decide +kernel
theorem dX3_marking_61 : decode cX3_marking 61 = .ok (.aload_n 0, 1) := by decide +kernel
theorem dX3_marking_62 : decode cX3_marking 62 = .ok (.getfield 17, 3) := by decide +kernel
theorem dX3_marking_65 : decode cX3_marking 65 = .ok (.iload 5, 2) := by decide +kernel
theorem dX3_marking_67 : decode cX3_marking 67 = .ok (.aaload, 1) := by decide +kernel
theorem dX3_marking_68 : decode cX3_marking 68 = .ok (.getfield 214, 3) := by decide +kernel
theorem dX3_marking_71 : decode cX3_marking 71 = .ok (.iload 6, 2) := by decide +kernel
theorem dX3_marking_73 : decode cX3_marking 73 = .ok (.baload, 1) := by decide +kernel
theorem dX3_marking_74 : decode cX3_marking 74 = .ok (.ifCond .eq 12, 3) := by decide +kernel
theorem dX3_marking_77 : decode cX3_marking 77 = .ok (.iload 4, 2) := by decide +kernel
theorem dX3_marking_79 : decode cX3_marking 79 = .ok (.iconst 1, 1) := by decide +kernel
theorem dX3_marking_80 : decode cX3_marking 80 = .ok (.iload 5, 2) := by decide +kernel
theorem dX3_marking_82 : decode cX3_marking 82 = .ok (.ishl, 1) := by decide +kernel
theorem dX3_marking_83 : decode cX3_marking 83 = .ok (.ior, 1) := by decide +kernel
theorem dX3_marking_84 : decode cX3_marking 84 = .ok (.istore 4, 2) := by decide +kernel
theorem dX3_marking_86 : decode cX3_marking 86 = .ok (.iinc 5 1, 3) := by decide +kernel
theorem dX3_marking_89 : decode cX3_marking 89 = .ok (.goto (-83), 3) := by decide +kernel
theorem dX3_marking_92 : decode cX3_marking 92 = .ok (.iload 4, 2) := by decide +kernel
theorem dX3_marking_94 : decode cX3_marking 94 = .ok (.ireturn, 1) := by decide +kernel
theorem dX3_changeOthers_0 : decode cX3_changeOthers 0 = .ok (.iconst 0, 1) := by decide +kernel
theorem dX3_changeOthers_1 : decode cX3_changeOthers 1 = .ok (.istore 4, 2) := by decide +kernel
theorem dX3_changeOthers_3 : decode cX3_changeOthers 3 = .ok (.iconst 0, 1) := by decide +kernel
theorem dX3_changeOthers_4 : decode cX3_changeOthers 4 = .ok (.istore 5, 2) := by decide +kernel
theorem dX3_changeOthers_6 : decode cX3_changeOthers 6 = .ok (.iload 5, 2) := by decide +kernel
theorem dX3_changeOthers_8 : decode cX3_changeOthers 8 = .ok (.iconst 4, 1) := by decide +kernel
theorem dX3_changeOthers_9 : decode cX3_changeOthers 9 = .ok (.if_icmp .ge 117, 3) := by decide +kernel
theorem dX3_changeOthers_12 : decode cX3_changeOthers 12 = .ok (.iload 5, 2) := by decide +kernel
theorem dX3_changeOthers_14 : decode cX3_changeOthers 14 = .ok (.iload_n 1, 1) := by decide +kernel
theorem dX3_changeOthers_15 : decode cX3_changeOthers 15 = .ok (.if_icmp .ne 7, 3) := by decide +kernel
theorem dX3_changeOthers_18 : decode cX3_changeOthers 18 = .ok (.iconst (-1), 1) := by decide +kernel
theorem dX3_changeOthers_19 : decode cX3_changeOthers 19 = .ok (.goto 14, 3) := by decide +kernel
theorem dX3_changeOthers_22 : decode cX3_changeOthers 22 = .ok (.aload_n 0, 1) := by decide +kernel
theorem dX3_changeOthers_23 : decode cX3_changeOthers 23 = .ok (.getfield 17, 3) := by decide +kernel
theorem dX3_changeOthers_26 : decode cX3_changeOthers 26 = .ok (.iload 5, 2) := by decide +kernel
theorem dX3_changeOthers_28 : decode cX3_changeOthers 28 = .ok (.aaload, 1) := by decide +kernel
theorem dX3_changeOthers_29 : decode cX3_changeOthers 29 = .ok (.iload_n 2, 1) := by decide +kernel
theorem dX3_changeOthers_30 : decode cX3_changeOthers 30 = .ok (.invokevirtual 165, 3) := by decide +kernel
theorem dX3_changeOthers_33 : decode cX3_changeOthers 33 = .ok (.istore 6, 2) := by decide +kernel
theorem dX3_changeOthers_35 : decode cX3_changeOthers 35 = .ok (.iload 6, 2) := by decide +kernel
theorem dX3_changeOthers_37 : decode cX3_changeOthers 37 = .ok (.iconst (-1), 1) := by decide +kernel
theorem dX3_changeOthers_38 : decode cX3_changeOthers 38 = .ok (.if_icmp .ne 6, 3) := by decide +kernel
theorem dX3_changeOthers_41 : decode cX3_changeOthers 41 = .ok (.goto 79, 3) := by decide +kernel
theorem dX3_changeOthers_44 : decode cX3_changeOthers 44 = .ok (.aload_n 0, 1) := by decide +kernel
theorem dX3_changeOthers_45 : decode cX3_changeOthers 45 = .ok (.getfield 17, 3) := by decide +kernel
theorem dX3_changeOthers_48 : decode cX3_changeOthers 48 = .ok (.iload 5, 2) := by decide +kernel
theorem dX3_changeOthers_50 : decode cX3_changeOthers 50 = .ok (.aaload, 1) := by decide +kernel
theorem dX3_changeOthers_51 : decode cX3_changeOthers 51 = .ok (.getfield 174, 3) := by decide +kernel
theorem dX3_changeOthers_54 : decode cX3_changeOthers 54 = .ok (.iload 6, 2) := by decide +kernel
theorem dX3_changeOthers_56 : decode cX3_changeOthers 56 = .ok (.iaload, 1) := by decide +kernel
theorem dX3_changeOthers_57 : decode cX3_changeOthers 57 = .ok (.iconst 3, 1) := by decide +kernel
theorem dX3_changeOthers_58 : decode cX3_changeOthers 58 = .ok (.if_icmp .ne 16, 3) := by decide +kernel
theorem dX3_changeOthers_61 : decode cX3_changeOthers 61 = .ok (.aload_n 0, 1) := by decide +kernel
theorem dX3_changeOthers_62 : decode cX3_changeOthers 62 = .ok (.aload_n 0, 1) := by decide +kernel
theorem dX3_changeOthers_63 : decode cX3_changeOthers 63 = .ok (.getfield 17, 3) := by decide +kernel
theorem dX3_changeOthers_66 : decode cX3_changeOthers 66 = .ok (.iload 5, 2) := by decide +kernel
theorem dX3_changeOthers_68 : decode cX3_changeOthers 68 = .ok (.aaload, 1) := by decide +kernel
theorem dX3_changeOthers_69 : decode cX3_changeOthers 69 = .ok (.iload 6, 2) := by decide +kernel
theorem dX3_changeOthers_71 : decode cX3_changeOthers 71 = .ok (.invokevirtual 181, 3) := by decide +kernel
theorem dX3_changeOthers_74 : decode cX3_changeOthers 74 = .ok (.iload_n 3, 1) := by decide +kernel
theorem dX3_changeOthers_75 : decode cX3_changeOthers 75 = .ok (.ifCond .eq 28, 3) := by decide +kernel
theorem dX3_changeOthers_78 : decode cX3_changeOthers 78 = .ok (.aload_n 0, 1) := by decide +kernel
theorem dX3_changeOthers_79 : decode cX3_changeOthers 79 = .ok (.getfield 17, 3) := by decide +kernel
theorem dX3_changeOthers_82 : decode cX3_changeOthers 82 = .ok (.iload 5, 2) := by decide +kernel
theorem dX3_changeOthers_84 : decode cX3_changeOthers 84 = .ok (.aaload, 1) := by decide +kernel
theorem dX3_changeOthers_85 : decode cX3_changeOthers 85 = .ok (.iload 6, 2) := by decide +kernel
theorem dX3_changeOthers_87 : decode cX3_changeOthers 87 = .ok (.invokevirtual 199, 3) := by decide +kernel
theorem dX3_changeOthers_90 : decode cX3_changeOthers 90 = .ok (.aload_n 0, 1) := by decide +kernel
theorem dX3_changeOthers_91 : decode cX3_changeOthers 91 = .ok (.getfield 27, 3) := by decide +kernel
theorem dX3_changeOthers_94 : decode cX3_changeOthers 94 = .ok (.iconst 2, 1) := by decide +kernel
theorem dX3_changeOthers_95 : decode cX3_changeOthers 95 = .ok (.dup2, 1) := by decide +kernel
theorem dX3_changeOthers_96 : decode cX3_changeOthers 96 = .ok (.iaload, 1) := by decide +kernel
theorem dX3_changeOthers_97 : decode cX3_changeOthers 97 = .ok (.iconst 1, 1) := by decide +kernel
theorem dX3_changeOthers_98 : decode cX3_changeOthers 98 = .ok (.iadd, 1) := by decide +kernel
theorem dX3_changeOthers_99 : decode cX3_changeOthers 99 = .ok (.iastore, 1) := by decide +kernel
theorem dX3_changeOthers_100 : decode cX3_changeOthers 100 = .ok (.goto 20, 3) := by decide +kernel
theorem dX3_changeOthers_103 : decode cX3_changeOthers 103 = .ok (.aload_n 0, 1) := by decide +kernel
theorem dX3_changeOthers_104 : decode cX3_changeOthers 104 = .ok (.getfield 17, 3) := by decide +kernel
theorem dX3_changeOthers_107 : decode cX3_changeOthers 107 = .ok (.iload 5, 2) := by decide +kernel
theorem dX3_changeOthers_109 : decode cX3_changeOthers 109 = .ok (.aaload, 1) := by decide +kernel
theorem dX3_changeOthers_110 : decode cX3_changeOthers 110 = .ok (.getfield 174, 3) := by decide +kernel
theorem dX3_changeOthers_113 : decode cX3_changeOthers 113 = .ok (.iload 6, 2) := by decide +kernel
theorem dX3_changeOthers_115 : decode cX3_changeOthers 115 = .ok (.iconst 1, 1) := by decide +kernel
theorem dX3_changeOthers_116 : decode cX3_changeOthers 116 = .ok (.iastore, 1) := by decide +kernel
theorem dX3_changeOthers_117 : decode cX3_changeOthers 117 = .ok (.iconst 1, 1) := by decide +kernel
theorem dX3_changeOthers_118 : decode cX3_changeOthers 118 = .ok (.istore 4, 2) := by decide +kernel
theorem dX3_changeOthers_120 : decode cX3_changeOthers 120 = .ok (.iinc 5 1, 3) := by decide +kernel
theorem dX3_changeOthers_123 : decode cX3_changeOthers 123 = .ok (.goto (-117), 3) := by decide +kernel
theorem dX3_changeOthers_126 : decode cX3_changeOthers 126 = .ok (.iload 4, 2) := by decide +kernel
theorem dX3_changeOthers_128 : decode cX3_changeOthers 128 = .ok (.ireturn, 1) := by decide +kernel
theorem dX3_bringLine_0 : decode cX3_bringLine 0 = .ok (.aload_n 1, 1) := by decide +kernel
theorem dX3_bringLine_1 : decode cX3_bringLine 1 = .ok (.getfield 217, 3) := by decide +kernel
theorem dX3_bringLine_4 : decode cX3_bringLine 4 = .ok (.iload_n 2, 1) := by decide +kernel
theorem dX3_bringLine_5 : decode cX3_bringLine 5 = .ok (.iload_n 3, 1) := by decide +kernel
theorem dX3_bringLine_6 : decode cX3_bringLine 6 = .ok (.iastore, 1) := by decide +kernel
theorem dX3_bringLine_7 : decode cX3_bringLine 7 = .ok (.iconst 0, 1) := by decide +kernel
theorem dX3_bringLine_8 : decode cX3_bringLine 8 = .ok (.istore 4, 2) := by decide +kernel
theorem dX3_bringLine_10 : decode cX3_bringLine 10 = .ok (.iload 4, 2) := by decide +kernel
theorem dX3_bringLine_12 : decode cX3_bringLine 12 = .ok (.aload_n 0, 1) := by decide +kernel
theorem dX3_bringLine_13 : decode cX3_bringLine 13 = .ok (.getfield 33, 3) := by decide +kernel
theorem dX3_bringLine_16 : decode cX3_bringLine 16 = .ok (.getfield 220, 3) := by decide +kernel
theorem dX3_bringLine_19 : decode cX3_bringLine 19 = .ok (.if_icmp .ge 53, 3) := by decide +kernel
theorem dX3_bringLine_22 : decode cX3_bringLine 22 = .ok (.iload_n 3, 1) := by decide +kernel
theorem dX3_bringLine_23 : decode cX3_bringLine 23 = .ok (.aload_n 0, 1) := by decide +kernel
theorem dX3_bringLine_24 : decode cX3_bringLine 24 = .ok (.getfield 33, 3) := by decide +kernel
theorem dX3_bringLine_27 : decode cX3_bringLine 27 = .ok (.getfield 220, 3) := by decide +kernel
theorem dX3_bringLine_30 : decode cX3_bringLine 30 = .ok (.imul, 1) := by decide +kernel
theorem dX3_bringLine_31 : decode cX3_bringLine 31 = .ok (.iload 4, 2) := by decide +kernel
theorem dX3_bringLine_33 : decode cX3_bringLine 33 = .ok (.iadd, 1) := by decide +kernel
theorem dX3_bringLine_34 : decode cX3_bringLine 34 = .ok (.istore 5, 2) := by decide +kernel
theorem dX3_bringLine_36 : decode cX3_bringLine 36 = .ok (.aload_n 1, 1) := by decide +kernel
theorem dX3_bringLine_37 : decode cX3_bringLine 37 = .ok (.iload_n 2, 1) := by decide +kernel
theorem dX3_bringLine_38 : decode cX3_bringLine 38 = .ok (.iload 4, 2) := by decide +kernel
theorem dX3_bringLine_40 : decode cX3_bringLine 40 = .ok (.iload 5, 2) := by decide +kernel
theorem dX3_bringLine_42 : decode cX3_bringLine 42 = .ok (.ifCond .lt 20, 3) := by decide +kernel
theorem dX3_bringLine_45 : decode cX3_bringLine 45 = .ok (.iload 5, 2) := by decide +kernel
theorem dX3_bringLine_47 : decode cX3_bringLine 47 = .ok (.bipush 68, 2) := by decide +kernel
theorem dX3_bringLine_49 : decode cX3_bringLine 49 = .ok (.if_icmp .ge 13, 3) := by decide +kernel
theorem dX3_bringLine_52 : decode cX3_bringLine 52 = .ok (.aload_n 0, 1) := by decide +kernel
theorem dX3_bringLine_53 : decode cX3_bringLine 53 = .ok (.getfield 9, 3) := by decide +kernel
theorem dX3_bringLine_56 : decode cX3_bringLine 56 = .ok (.iload 5, 2) := by decide +kernel
theorem dX3_bringLine_58 : decode cX3_bringLine 58 = .ok (.iaload, 1) := by decide +kernel
theorem dX3_bringLine_59 : decode cX3_bringLine 59 = .ok (.goto 4, 3) := by decide +kernel
theorem dX3_bringLine_62 : decode cX3_bringLine 62 = .ok (.iconst 0, 1) := by decide +kernel
theorem dX3_bringLine_63 : decode cX3_bringLine 63 = .ok (.invokevirtual 185, 3) := by decide +kernel
theorem dX3_bringLine_66 : decode cX3_bringLine 66 = .ok (.iinc 4 1, 3) := by decide +kernel
theorem dX3_bringLine_69 : decode cX3_bringLine 69 = .ok (.goto (-59), 3) := by decide +kernel
theorem dX3_bringLine_72 : decode cX3_bringLine 72 = .ok (.aload_n 0, 1) := by decide +kernel
theorem dX3_bringLine_73 : decode cX3_bringLine 73 = .ok (.getfield 27, 3) := by decide +kernel
theorem dX3_bringLine_76 : decode cX3_bringLine 76 = .ok (.iconst 0, 1) := by decide +kernel
theorem dX3_bringLine_77 : decode cX3_bringLine 77 = .ok (.dup2, 1) := by decide +kernel
theorem dX3_bringLine_78 : decode cX3_bringLine 78 = .ok (.iaload, 1) := by decide +kernel
theorem dX3_bringLine_79 : decode cX3_bringLine 79 = .ok (.iconst 1, 1) := by decide +kernel
theorem dX3_bringLine_80 : decode cX3_bringLine 80 = .ok (.iadd, 1) := by decide +kernel
theorem dX3_bringLine_81 : decode cX3_bringLine 81 = .ok (.iastore, 1) := by decide +kernel
theorem dX3_bringLine_82 : decode cX3_bringLine 82 = .ok (.return_, 1) := by decide +kernel
theorem dX3_writeBack_0 : decode cX3_writeBack 0 = .ok (.iload_n 2, 1) := by decide +kernel
theorem dX3_writeBack_1 : decode cX3_writeBack 1 = .ok (.ifCond .lt 9, 3) := by decide +kernel
theorem dX3_writeBack_4 : decode cX3_writeBack 4 = .ok (.iload_n 2, 1) := by decide +kernel
theorem dX3_writeBack_5 : decode cX3_writeBack 5 = .ok (.bipush 16, 2) := by decide +kernel
theorem dX3_writeBack_7 : decode cX3_writeBack 7 = .ok (.if_icmp .lt 4, 3) := by decide +kernel
theorem dX3_writeBack_10 : decode cX3_writeBack 10 = .ok (.return_, 1) := by decide +kernel
theorem dX3_writeBack_11 : decode cX3_writeBack 11 = .ok (.iconst 0, 1) := by decide +kernel
theorem dX3_writeBack_12 : decode cX3_writeBack 12 = .ok (.istore_n 3, 1) := by decide +kernel
theorem dX3_writeBack_13 : decode cX3_writeBack 13 = .ok (.iload_n 3, 1) := by decide +kernel
theorem dX3_writeBack_14 : decode cX3_writeBack 14 = .ok (.aload_n 0, 1) := by decide +kernel
theorem dX3_writeBack_15 : decode cX3_writeBack 15 = .ok (.getfield 33, 3) := by decide +kernel
theorem dX3_writeBack_18 : decode cX3_writeBack 18 = .ok (.getfield 220, 3) := by decide +kernel
theorem dX3_writeBack_21 : decode cX3_writeBack 21 = .ok (.if_icmp .ge 52, 3) := by decide +kernel
theorem dX3_writeBack_24 : decode cX3_writeBack 24 = .ok (.aload_n 1, 1) := by decide +kernel
theorem dX3_writeBack_25 : decode cX3_writeBack 25 = .ok (.getfield 217, 3) := by decide +kernel
theorem dX3_writeBack_28 : decode cX3_writeBack 28 = .ok (.iload_n 2, 1) := by decide +kernel
theorem dX3_writeBack_29 : decode cX3_writeBack 29 = .ok (.iaload, 1) := by decide +kernel
theorem dX3_writeBack_30 : decode cX3_writeBack 30 = .ok (.aload_n 0, 1) := by decide +kernel
theorem dX3_writeBack_31 : decode cX3_writeBack 31 = .ok (.getfield 33, 3) := by decide +kernel
theorem dX3_writeBack_34 : decode cX3_writeBack 34 = .ok (.getfield 220, 3) := by decide +kernel
theorem dX3_writeBack_37 : decode cX3_writeBack 37 = .ok (.imul, 1) := by decide +kernel
theorem dX3_writeBack_38 : decode cX3_writeBack 38 = .ok (.iload_n 3, 1) := by decide +kernel
theorem dX3_writeBack_39 : decode cX3_writeBack 39 = .ok (.iadd, 1) := by decide +kernel
theorem dX3_writeBack_40 : decode cX3_writeBack 40 = .ok (.istore 4, 2) := by decide +kernel
theorem dX3_writeBack_42 : decode cX3_writeBack 42 = .ok (.iload 4, 2) := by decide +kernel
theorem dX3_writeBack_44 : decode cX3_writeBack 44 = .ok (.ifCond .lt 23, 3) := by decide +kernel
theorem dX3_writeBack_47 : decode cX3_writeBack 47 = .ok (.iload 4, 2) := by decide +kernel
theorem dX3_writeBack_49 : decode cX3_writeBack 49 = .ok (.bipush 68, 2) := by decide +kernel
theorem dX3_writeBack_51 : decode cX3_writeBack 51 = .ok (.if_icmp .ge 16, 3) := by decide +kernel
theorem dX3_writeBack_54 : decode cX3_writeBack 54 = .ok (.aload_n 0, 1) := by decide +kernel
theorem dX3_writeBack_55 : decode cX3_writeBack 55 = .ok (.getfield 9, 3) := by decide +kernel
theorem dX3_writeBack_58 : decode cX3_writeBack 58 = .ok (.iload 4, 2) := by decide +kernel
theorem dX3_writeBack_60 : decode cX3_writeBack 60 = .ok (.aload_n 1, 1) := by decide +kernel
theorem dX3_writeBack_61 : decode cX3_writeBack 61 = .ok (.iload_n 2, 1) := by decide +kernel
theorem dX3_writeBack_62 : decode cX3_writeBack 62 = .ok (.iload_n 3, 1) := by decide +kernel
theorem dX3_writeBack_63 : decode cX3_writeBack 63 = .ok (.invokevirtual 171, 3) := by decide +kernel
theorem dX3_writeBack_66 : decode cX3_writeBack 66 = .ok (.iastore, 1) := by decide +kernel
theorem dX3_writeBack_67 : decode cX3_writeBack 67 = .ok (.iinc 3 1, 3) := by decide +kernel
theorem dX3_writeBack_70 : decode cX3_writeBack 70 = .ok (.goto (-57), 3) := by decide +kernel
theorem dX3_writeBack_73 : decode cX3_writeBack 73 = .ok (.aload_n 0, 1) := by decide +kernel
theorem dX3_writeBack_74 : decode cX3_writeBack 74 = .ok (.getfield 27, 3) := by decide +kernel
theorem dX3_writeBack_77 : decode cX3_writeBack 77 = .ok (.iconst 1, 1) := by decide +kernel
theorem dX3_writeBack_78 : decode cX3_writeBack 78 = .ok (.dup2, 1) := by decide +kernel
theorem dX3_writeBack_79 : decode cX3_writeBack 79 = .ok (.iaload, 1) := by decide +kernel
theorem dX3_writeBack_80 : decode cX3_writeBack 80 = .ok (.iconst 1, 1) := by decide +kernel
theorem dX3_writeBack_81 : decode cX3_writeBack 81 = .ok (.iadd, 1) := by decide +kernel
theorem dX3_writeBack_82 : decode cX3_writeBack 82 = .ok (.iastore, 1) := by decide +kernel
theorem dX3_writeBack_83 : decode cX3_writeBack 83 = .ok (.return_, 1) := by decide +kernel
theorem dX3_markLine_0 : decode cX3_markLine 0 = .ok (.aload_n 0, 1) := by decide +kernel
theorem dX3_markLine_1 : decode cX3_markLine 1 = .ok (.getfield 17, 3) := by decide +kernel
theorem dX3_markLine_4 : decode cX3_markLine 4 = .ok (.iload_n 1, 1) := by decide +kernel
theorem dX3_markLine_5 : decode cX3_markLine 5 = .ok (.aaload, 1) := by decide +kernel
theorem dX3_markLine_6 : decode cX3_markLine 6 = .ok (.iload_n 2, 1) := by decide +kernel
theorem dX3_markLine_7 : decode cX3_markLine 7 = .ok (.invokevirtual 165, 3) := by decide +kernel
theorem dX3_markLine_10 : decode cX3_markLine 10 = .ok (.istore 4, 2) := by decide +kernel
theorem dX3_markLine_12 : decode cX3_markLine 12 = .ok (.iload 4, 2) := by decide +kernel
theorem dX3_markLine_14 : decode cX3_markLine 14 = .ok (.iconst (-1), 1) := by decide +kernel
theorem dX3_markLine_15 : decode cX3_markLine 15 = .ok (.if_icmp .ne 4, 3) := by decide +kernel
theorem dX3_markLine_18 : decode cX3_markLine 18 = .ok (.return_, 1) := by decide +kernel
theorem dX3_markLine_19 : decode cX3_markLine 19 = .ok (.iload_n 3, 1) := by decide +kernel
theorem dX3_markLine_20 : decode cX3_markLine 20 = .ok (.ifCond .eq 19, 3) := by decide +kernel
theorem dX3_markLine_23 : decode cX3_markLine 23 = .ok (.aload_n 0, 1) := by decide +kernel
theorem dX3_markLine_24 : decode cX3_markLine 24 = .ok (.getfield 17, 3) := by decide +kernel
theorem dX3_markLine_27 : decode cX3_markLine 27 = .ok (.iload_n 1, 1) := by decide +kernel
theorem dX3_markLine_28 : decode cX3_markLine 28 = .ok (.aaload, 1) := by decide +kernel
theorem dX3_markLine_29 : decode cX3_markLine 29 = .ok (.getfield 177, 3) := by decide +kernel
theorem dX3_markLine_32 : decode cX3_markLine 32 = .ok (.iload 4, 2) := by decide +kernel
theorem dX3_markLine_34 : decode cX3_markLine 34 = .ok (.iconst 1, 1) := by decide +kernel
theorem dX3_markLine_35 : decode cX3_markLine 35 = .ok (.bastore, 1) := by decide +kernel
theorem dX3_markLine_36 : decode cX3_markLine 36 = .ok (.goto 16, 3) := by decide +kernel
theorem dX3_markLine_39 : decode cX3_markLine 39 = .ok (.aload_n 0, 1) := by decide +kernel
theorem dX3_markLine_40 : decode cX3_markLine 40 = .ok (.getfield 17, 3) := by decide +kernel
theorem dX3_markLine_43 : decode cX3_markLine 43 = .ok (.iload_n 1, 1) := by decide +kernel
theorem dX3_markLine_44 : decode cX3_markLine 44 = .ok (.aaload, 1) := by decide +kernel
theorem dX3_markLine_45 : decode cX3_markLine 45 = .ok (.getfield 214, 3) := by decide +kernel
theorem dX3_markLine_48 : decode cX3_markLine 48 = .ok (.iload 4, 2) := by decide +kernel
theorem dX3_markLine_50 : decode cX3_markLine 50 = .ok (.iconst 1, 1) := by decide +kernel
theorem dX3_markLine_51 : decode cX3_markLine 51 = .ok (.bastore, 1) := by decide +kernel
theorem dX3_markLine_52 : decode cX3_markLine 52 = .ok (.return_, 1) := by decide +kernel
theorem dX3_endTries_0 : decode cX3_endTries 0 = .ok (.iconst 0, 1) := by decide +kernel
theorem dX3_endTries_1 : decode cX3_endTries 1 = .ok (.istore_n 3, 1) := by decide +kernel
theorem dX3_endTries_2 : decode cX3_endTries 2 = .ok (.iload_n 3, 1) := by decide +kernel
theorem dX3_endTries_3 : decode cX3_endTries 3 = .ok (.iconst 4, 1) := by decide +kernel
theorem dX3_endTries_4 : decode cX3_endTries 4 = .ok (.if_icmp .ge 86, 3) := by decide +kernel
theorem dX3_endTries_7 : decode cX3_endTries 7 = .ok (.iload_n 1, 1) := by decide +kernel
theorem dX3_endTries_8 : decode cX3_endTries 8 = .ok (.iload_n 3, 1) := by decide +kernel
theorem dX3_endTries_9 : decode cX3_endTries 9 = .ok (.ishr, 1) := by decide +kernel
theorem dX3_endTries_10 : decode cX3_endTries 10 = .ok (.iconst 1, 1) := by decide +kernel
theorem dX3_endTries_11 : decode cX3_endTries 11 = .ok (.iand, 1) := by decide +kernel
theorem dX3_endTries_12 : decode cX3_endTries 12 = .ok (.iconst 1, 1) := by decide +kernel
theorem dX3_endTries_13 : decode cX3_endTries 13 = .ok (.if_icmp .ne 71, 3) := by decide +kernel
theorem dX3_endTries_16 : decode cX3_endTries 16 = .ok (.aload_n 0, 1) := by decide +kernel
theorem dX3_endTries_17 : decode cX3_endTries 17 = .ok (.getfield 23, 3) := by decide +kernel
theorem dX3_endTries_20 : decode cX3_endTries 20 = .ok (.iload_n 3, 1) := by decide +kernel
theorem dX3_endTries_21 : decode cX3_endTries 21 = .ok (.aaload, 1) := by decide +kernel
theorem dX3_endTries_22 : decode cX3_endTries 22 = .ok (.astore 4, 2) := by decide +kernel
theorem dX3_endTries_24 : decode cX3_endTries 24 = .ok (.aload_n 0, 1) := by decide +kernel
theorem dX3_endTries_25 : decode cX3_endTries 25 = .ok (.getfield 17, 3) := by decide +kernel
theorem dX3_endTries_28 : decode cX3_endTries 28 = .ok (.iload_n 3, 1) := by decide +kernel
theorem dX3_endTries_29 : decode cX3_endTries 29 = .ok (.aaload, 1) := by decide +kernel
theorem dX3_endTries_30 : decode cX3_endTries 30 = .ok (.iconst 1, 1) := by decide +kernel
theorem dX3_endTries_31 : decode cX3_endTries 31 = .ok (.invokevirtual 189, 3) := by decide +kernel
theorem dX3_endTries_34 : decode cX3_endTries 34 = .ok (.aload 4, 2) := by decide +kernel
theorem dX3_endTries_36 : decode cX3_endTries 36 = .ok (.iconst 0, 1) := by decide +kernel
theorem dX3_endTries_37 : decode cX3_endTries 37 = .ok (.putfield 110, 3) := by decide +kernel
theorem dX3_endTries_40 : decode cX3_endTries 40 = .ok (.aload 4, 2) := by decide +kernel
theorem dX3_endTries_42 : decode cX3_endTries 42 = .ok (.iconst 0, 1) := by decide +kernel
theorem dX3_endTries_43 : decode cX3_endTries 43 = .ok (.putfield 113, 3) := by decide +kernel
theorem dX3_endTries_46 : decode cX3_endTries 46 = .ok (.aload 4, 2) := by decide +kernel
theorem dX3_endTries_48 : decode cX3_endTries 48 = .ok (.aload 4, 2) := by decide +kernel
theorem dX3_endTries_50 : decode cX3_endTries 50 = .ok (.getfield 151, 3) := by decide +kernel
theorem dX3_endTries_53 : decode cX3_endTries 53 = .ok (.putfield 86, 3) := by decide +kernel
theorem dX3_endTries_56 : decode cX3_endTries 56 = .ok (.aload 4, 2) := by decide +kernel
theorem dX3_endTries_58 : decode cX3_endTries 58 = .ok (.iconst 0, 1) := by decide +kernel
theorem dX3_endTries_59 : decode cX3_endTries 59 = .ok (.putfield 141, 3) := by decide +kernel
theorem dX3_endTries_62 : decode cX3_endTries 62 = .ok (.aload 4, 2) := by decide +kernel
theorem dX3_endTries_64 : decode cX3_endTries 64 = .ok (.aload_n 0, 1) := by decide +kernel
theorem dX3_endTries_65 : decode cX3_endTries 65 = .ok (.iload_n 3, 1) := by decide +kernel
theorem dX3_endTries_66 : decode cX3_endTries 66 = .ok (.iload_n 2, 1) := by decide +kernel
theorem dX3_endTries_67 : decode cX3_endTries 67 = .ok (.invokevirtual 223, 3) := by decide +kernel
theorem dX3_endTries_70 : decode cX3_endTries 70 = .ok (.putfield 130, 3) := by decide +kernel
theorem dX3_endTries_73 : decode cX3_endTries 73 = .ok (.aload 4, 2) := by decide +kernel
theorem dX3_endTries_75 : decode cX3_endTries 75 = .ok (.getfield 127, 3) := by decide +kernel
theorem dX3_endTries_78 : decode cX3_endTries 78 = .ok (.iload_n 2, 1) := by decide +kernel
theorem dX3_endTries_79 : decode cX3_endTries 79 = .ok (.dup2, 1) := by decide +kernel
theorem dX3_endTries_80 : decode cX3_endTries 80 = .ok (.iaload, 1) := by decide +kernel
theorem dX3_endTries_81 : decode cX3_endTries 81 = .ok (.iconst 1, 1) := by decide +kernel
theorem dX3_endTries_82 : decode cX3_endTries 82 = .ok (.iadd, 1) := by decide +kernel
theorem dX3_endTries_83 : decode cX3_endTries 83 = .ok (.iastore, 1) := by decide +kernel
theorem dX3_endTries_84 : decode cX3_endTries 84 = .ok (.iinc 3 1, 3) := by decide +kernel
theorem dX3_endTries_87 : decode cX3_endTries 87 = .ok (.goto (-85), 3) := by decide +kernel
theorem dX3_endTries_90 : decode cX3_endTries 90 = .ok (.aload_n 0, 1) := by decide +kernel
theorem dX3_endTries_91 : decode cX3_endTries 91 = .ok (.dup, 1) := by decide +kernel
theorem dX3_endTries_92 : decode cX3_endTries 92 = .ok (.getfield 57, 3) := by decide +kernel
theorem dX3_endTries_95 : decode cX3_endTries 95 = .ok (.iload_n 1, 1) := by decide +kernel
theorem dX3_endTries_96 : decode cX3_endTries 96 = .ok (.ior, 1) := by decide +kernel
theorem dX3_endTries_97 : decode cX3_endTries 97 = .ok (.putfield 57, 3) := by decide +kernel
theorem dX3_endTries_100 : decode cX3_endTries 100 = .ok (.return_, 1) := by decide +kernel
theorem dX3_lostAfter_0 : decode cX3_lostAfter 0 = .ok (.iload_n 2, 1) := by decide +kernel
theorem dX3_lostAfter_1 : decode cX3_lostAfter 1 = .ok (.iconst 1, 1) := by decide +kernel
theorem dX3_lostAfter_2 : decode cX3_lostAfter 2 = .ok (.if_icmp .ne 8, 3) := by decide +kernel
theorem dX3_lostAfter_5 : decode cX3_lostAfter 5 = .ok (.aload_n 0, 1) := by decide +kernel
theorem dX3_lostAfter_6 : decode cX3_lostAfter 6 = .ok (.getfield 45, 3) := by decide +kernel
theorem dX3_lostAfter_9 : decode cX3_lostAfter 9 = .ok (.ireturn, 1) := by decide +kernel
theorem dX3_lostAfter_10 : decode cX3_lostAfter 10 = .ok (.iload_n 2, 1) := by decide +kernel
theorem dX3_lostAfter_11 : decode cX3_lostAfter 11 = .ok (.ifCond .ne 17, 3) := by decide +kernel
theorem dX3_lostAfter_14 : decode cX3_lostAfter 14 = .ok (.aload_n 0, 1) := by decide +kernel
theorem dX3_lostAfter_15 : decode cX3_lostAfter 15 = .ok (.getfield 23, 3) := by decide +kernel
theorem dX3_lostAfter_18 : decode cX3_lostAfter 18 = .ok (.iload_n 1, 1) := by decide +kernel
theorem dX3_lostAfter_19 : decode cX3_lostAfter 19 = .ok (.aaload, 1) := by decide +kernel
theorem dX3_lostAfter_20 : decode cX3_lostAfter 20 = .ok (.getfield 130, 3) := by decide +kernel
theorem dX3_lostAfter_23 : decode cX3_lostAfter 23 = .ok (.iconst 1, 1) := by decide +kernel
theorem dX3_lostAfter_24 : decode cX3_lostAfter 24 = .ok (.iadd, 1) := by decide +kernel
theorem dX3_lostAfter_25 : decode cX3_lostAfter 25 = .ok (.goto 12, 3) := by decide +kernel
theorem dX3_lostAfter_28 : decode cX3_lostAfter 28 = .ok (.aload_n 0, 1) := by decide +kernel
theorem dX3_lostAfter_29 : decode cX3_lostAfter 29 = .ok (.getfield 23, 3) := by decide +kernel
theorem dX3_lostAfter_32 : decode cX3_lostAfter 32 = .ok (.iload_n 1, 1) := by decide +kernel
theorem dX3_lostAfter_33 : decode cX3_lostAfter 33 = .ok (.aaload, 1) := by decide +kernel
theorem dX3_lostAfter_34 : decode cX3_lostAfter 34 = .ok (.getfield 130, 3) := by decide +kernel
theorem dX3_lostAfter_37 : decode cX3_lostAfter 37 = .ok (.ireturn, 1) := by decide +kernel
theorem dX3_takeRounds_0 : decode cX3_takeRounds 0 = .ok (.iconst 0, 1) := by decide +kernel
theorem dX3_takeRounds_1 : decode cX3_takeRounds 1 = .ok (.istore_n 2, 1) := by decide +kernel
theorem dX3_takeRounds_2 : decode cX3_takeRounds 2 = .ok (.iconst 0, 1) := by decide +kernel
theorem dX3_takeRounds_3 : decode cX3_takeRounds 3 = .ok (.istore_n 3, 1) := by decide +kernel
theorem dX3_takeRounds_4 : decode cX3_takeRounds 4 = .ok (.iload_n 3, 1) := by decide +kernel
theorem dX3_takeRounds_5 : decode cX3_takeRounds 5 = .ok (.iload_n 1, 1) := by decide +kernel
theorem dX3_takeRounds_6 : decode cX3_takeRounds 6 = .ok (.if_icmp .ge 36, 3) := by decide +kernel
theorem dX3_takeRounds_9 : decode cX3_takeRounds 9 = .ok (.iconst 0, 1) := by decide +kernel
theorem dX3_takeRounds_10 : decode cX3_takeRounds 10 = .ok (.istore 4, 2) := by decide +kernel
theorem dX3_takeRounds_12 : decode cX3_takeRounds 12 = .ok (.iload 4, 2) := by decide +kernel
theorem dX3_takeRounds_14 : decode cX3_takeRounds 14 = .ok (.iconst 4, 1) := by decide +kernel
theorem dX3_takeRounds_15 : decode cX3_takeRounds 15 = .ok (.if_icmp .ge 21, 3) := by decide +kernel
theorem dX3_takeRounds_18 : decode cX3_takeRounds 18 = .ok (.aload_n 0, 1) := by decide +kernel
theorem dX3_takeRounds_19 : decode cX3_takeRounds 19 = .ok (.iload 4, 2) := by decide +kernel
theorem dX3_takeRounds_21 : decode cX3_takeRounds 21 = .ok (.invokevirtual 226, 3) := by decide +kernel
theorem dX3_takeRounds_24 : decode cX3_takeRounds 24 = .ok (.ifCond .eq 6, 3) := by decide +kernel
theorem dX3_takeRounds_27 : decode cX3_takeRounds 27 = .ok (.iinc 2 1, 3) := by decide +kernel
theorem dX3_takeRounds_30 : decode cX3_takeRounds 30 = .ok (.iinc 4 1, 3) := by decide +kernel
theorem dX3_takeRounds_33 : decode cX3_takeRounds 33 = .ok (.goto (-21), 3) := by decide +kernel
theorem dX3_takeRounds_36 : decode cX3_takeRounds 36 = .ok (.iinc 3 1, 3) := by decide +kernel
theorem dX3_takeRounds_39 : decode cX3_takeRounds 39 = .ok (.goto (-35), 3) := by decide +kernel
theorem dX3_takeRounds_42 : decode cX3_takeRounds 42 = .ok (.iload_n 2, 1) := by decide +kernel
theorem dX3_takeRounds_43 : decode cX3_takeRounds 43 = .ok (.ireturn, 1) := by decide +kernel
theorem dX3_takeDraws_0 : decode cX3_takeDraws 0 = .ok (.iconst 0, 1) := by decide +kernel
theorem dX3_takeDraws_1 : decode cX3_takeDraws 1 = .ok (.istore_n 3, 1) := by decide +kernel
theorem dX3_takeDraws_2 : decode cX3_takeDraws 2 = .ok (.iload_n 2, 1) := by decide +kernel
theorem dX3_takeDraws_3 : decode cX3_takeDraws 3 = .ok (.istore 4, 2) := by decide +kernel
theorem dX3_takeDraws_5 : decode cX3_takeDraws 5 = .ok (.iconst 0, 1) := by decide +kernel
theorem dX3_takeDraws_6 : decode cX3_takeDraws 6 = .ok (.istore 5, 2) := by decide +kernel
theorem dX3_takeDraws_8 : decode cX3_takeDraws 8 = .ok (.iload 5, 2) := by decide +kernel
theorem dX3_takeDraws_10 : decode cX3_takeDraws 10 = .ok (.iload_n 1, 1) := by decide +kernel
theorem dX3_takeDraws_11 : decode cX3_takeDraws 11 = .ok (.if_icmp .ge 65, 3) := by decide +kernel
theorem dX3_takeDraws_14 : decode cX3_takeDraws 14 = .ok (.aload_n 0, 1) := by decide +kernel
theorem dX3_takeDraws_15 : decode cX3_takeDraws 15 = .ok (.getfield 33, 3) := by decide +kernel
theorem dX3_takeDraws_18 : decode cX3_takeDraws 18 = .ok (.getfield 229, 3) := by decide +kernel
theorem dX3_takeDraws_21 : decode cX3_takeDraws 21 = .ok (.ifCond .le 55, 3) := by decide +kernel
theorem dX3_takeDraws_24 : decode cX3_takeDraws 24 = .ok (.aload_n 0, 1) := by decide +kernel
theorem dX3_takeDraws_25 : decode cX3_takeDraws 25 = .ok (.invokevirtual 231, 3) := by decide +kernel
theorem dX3_takeDraws_28 : decode cX3_takeDraws 28 = .ok (.ifCond .ne 48, 3) := by decide +kernel
theorem dX3_takeDraws_31 : decode cX3_takeDraws 31 = .ok (.sipush 25173, 3) := by decide +kernel
theorem dX3_takeDraws_34 : decode cX3_takeDraws 34 = .ok (.iload 4, 2) := by decide +kernel
theorem dX3_takeDraws_36 : decode cX3_takeDraws 36 = .ok (.imul, 1) := by decide +kernel
theorem dX3_takeDraws_37 : decode cX3_takeDraws 37 = .ok (.sipush 13849, 3) := by decide +kernel
theorem dX3_takeDraws_40 : decode cX3_takeDraws 40 = .ok (.iadd, 1) := by decide +kernel
theorem dX3_takeDraws_41 : decode cX3_takeDraws 41 = .ok (.ldc 235, 2) := by decide +kernel
theorem dX3_takeDraws_43 : decode cX3_takeDraws 43 = .ok (.irem, 1) := by decide +kernel
theorem dX3_takeDraws_44 : decode cX3_takeDraws 44 = .ok (.istore 4, 2) := by decide +kernel
theorem dX3_takeDraws_46 : decode cX3_takeDraws 46 = .ok (.aload_n 0, 1) := by decide +kernel
theorem dX3_takeDraws_47 : decode cX3_takeDraws 47 = .ok (.iload 4, 2) := by decide +kernel
theorem dX3_takeDraws_49 : decode cX3_takeDraws 49 = .ok (.sipush 256, 3) := by decide +kernel
theorem dX3_takeDraws_52 : decode cX3_takeDraws 52 = .ok (.idiv, 1) := by decide +kernel
theorem dX3_takeDraws_53 : decode cX3_takeDraws 53 = .ok (.aload_n 0, 1) := by decide +kernel
theorem dX3_takeDraws_54 : decode cX3_takeDraws 54 = .ok (.getfield 33, 3) := by decide +kernel
theorem dX3_takeDraws_57 : decode cX3_takeDraws 57 = .ok (.getfield 229, 3) := by decide +kernel
theorem dX3_takeDraws_60 : decode cX3_takeDraws 60 = .ok (.irem, 1) := by decide +kernel
theorem dX3_takeDraws_61 : decode cX3_takeDraws 61 = .ok (.invokevirtual 226, 3) := by decide +kernel
theorem dX3_takeDraws_64 : decode cX3_takeDraws 64 = .ok (.ifCond .eq 6, 3) := by decide +kernel
theorem dX3_takeDraws_67 : decode cX3_takeDraws 67 = .ok (.iinc 3 1, 3) := by decide +kernel
theorem dX3_takeDraws_70 : decode cX3_takeDraws 70 = .ok (.iinc 5 1, 3) := by decide +kernel
theorem dX3_takeDraws_73 : decode cX3_takeDraws 73 = .ok (.goto (-65), 3) := by decide +kernel
theorem dX3_takeDraws_76 : decode cX3_takeDraws 76 = .ok (.iload_n 3, 1) := by decide +kernel
theorem dX3_takeDraws_77 : decode cX3_takeDraws 77 = .ok (.ireturn, 1) := by decide +kernel
theorem dX3_wordAt_0 : decode cX3_wordAt 0 = .ok (.aload_n 0, 1) := by decide +kernel
theorem dX3_wordAt_1 : decode cX3_wordAt 1 = .ok (.getfield 33, 3) := by decide +kernel
theorem dX3_wordAt_4 : decode cX3_wordAt 4 = .ok (.iload_n 1, 1) := by decide +kernel
theorem dX3_wordAt_5 : decode cX3_wordAt 5 = .ok (.invokevirtual 161, 3) := by decide +kernel
theorem dX3_wordAt_8 : decode cX3_wordAt 8 = .ok (.istore_n 2, 1) := by decide +kernel
theorem dX3_wordAt_9 : decode cX3_wordAt 9 = .ok (.iconst 0, 1) := by decide +kernel
theorem dX3_wordAt_10 : decode cX3_wordAt 10 = .ok (.istore_n 3, 1) := by decide +kernel
theorem dX3_wordAt_11 : decode cX3_wordAt 11 = .ok (.iload_n 3, 1) := by decide +kernel
theorem dX3_wordAt_12 : decode cX3_wordAt 12 = .ok (.iconst 4, 1) := by decide +kernel
theorem dX3_wordAt_13 : decode cX3_wordAt 13 = .ok (.if_icmp .ge 78, 3) := by decide +kernel
theorem dX3_wordAt_16 : decode cX3_wordAt 16 = .ok (.aload_n 0, 1) := by decide +kernel
theorem dX3_wordAt_17 : decode cX3_wordAt 17 = .ok (.getfield 17, 3) := by decide +kernel
theorem dX3_wordAt_20 : decode cX3_wordAt 20 = .ok (.iload_n 3, 1) := by decide +kernel
theorem dX3_wordAt_21 : decode cX3_wordAt 21 = .ok (.aaload, 1) := by decide +kernel
theorem dX3_wordAt_22 : decode cX3_wordAt 22 = .ok (.iload_n 2, 1) := by decide +kernel
theorem dX3_wordAt_23 : decode cX3_wordAt 23 = .ok (.invokevirtual 165, 3) := by decide +kernel
theorem dX3_wordAt_26 : decode cX3_wordAt 26 = .ok (.istore 4, 2) := by decide +kernel
theorem dX3_wordAt_28 : decode cX3_wordAt 28 = .ok (.iload 4, 2) := by decide +kernel
theorem dX3_wordAt_30 : decode cX3_wordAt 30 = .ok (.iconst (-1), 1) := by decide +kernel
theorem dX3_wordAt_31 : decode cX3_wordAt 31 = .ok (.if_icmp .eq 54, 3) := by decide +kernel
theorem dX3_wordAt_34 : decode cX3_wordAt 34 = .ok (.aload_n 0, 1) := by decide +kernel
theorem dX3_wordAt_35 : decode cX3_wordAt 35 = .ok (.getfield 17, 3) := by decide +kernel
theorem dX3_wordAt_38 : decode cX3_wordAt 38 = .ok (.iload_n 3, 1) := by decide +kernel
theorem dX3_wordAt_39 : decode cX3_wordAt 39 = .ok (.aaload, 1) := by decide +kernel
theorem dX3_wordAt_40 : decode cX3_wordAt 40 = .ok (.getfield 174, 3) := by decide +kernel
theorem dX3_wordAt_43 : decode cX3_wordAt 43 = .ok (.iload 4, 2) := by decide +kernel
theorem dX3_wordAt_45 : decode cX3_wordAt 45 = .ok (.iaload, 1) := by decide +kernel
theorem dX3_wordAt_46 : decode cX3_wordAt 46 = .ok (.iconst 3, 1) := by decide +kernel
theorem dX3_wordAt_47 : decode cX3_wordAt 47 = .ok (.if_icmp .ne 38, 3) := by decide +kernel
theorem dX3_wordAt_50 : decode cX3_wordAt 50 = .ok (.aload_n 0, 1) := by decide +kernel
theorem dX3_wordAt_51 : decode cX3_wordAt 51 = .ok (.getfield 17, 3) := by decide +kernel
theorem dX3_wordAt_54 : decode cX3_wordAt 54 = .ok (.iload_n 3, 1) := by decide +kernel
theorem dX3_wordAt_55 : decode cX3_wordAt 55 = .ok (.aaload, 1) := by decide +kernel
theorem dX3_wordAt_56 : decode cX3_wordAt 56 = .ok (.getfield 177, 3) := by decide +kernel
theorem dX3_wordAt_59 : decode cX3_wordAt 59 = .ok (.iload 4, 2) := by decide +kernel
theorem dX3_wordAt_61 : decode cX3_wordAt 61 = .ok (.baload, 1) := by decide +kernel
theorem dX3_wordAt_62 : decode cX3_wordAt 62 = .ok (.ifCond .ne 23, 3) := by decide +kernel
theorem dX3_wordAt_65 : decode cX3_wordAt 65 = .ok (.aload_n 0, 1) := by decide +kernel
theorem dX3_wordAt_66 : decode cX3_wordAt 66 = .ok (.getfield 17, 3) := by decide +kernel
theorem dX3_wordAt_69 : decode cX3_wordAt 69 = .ok (.iload_n 3, 1) := by decide +kernel
theorem dX3_wordAt_70 : decode cX3_wordAt 70 = .ok (.aaload, 1) := by decide +kernel
theorem dX3_wordAt_71 : decode cX3_wordAt 71 = .ok (.iload 4, 2) := by decide +kernel
theorem dX3_wordAt_73 : decode cX3_wordAt 73 = .ok (.aload_n 0, 1) := by decide +kernel
theorem dX3_wordAt_74 : decode cX3_wordAt 74 = .ok (.getfield 33, 3) := by decide +kernel
theorem dX3_wordAt_77 : decode cX3_wordAt 77 = .ok (.iload_n 1, 1) := by decide +kernel
theorem dX3_wordAt_78 : decode cX3_wordAt 78 = .ok (.invokevirtual 168, 3) := by decide +kernel
theorem dX3_wordAt_81 : decode cX3_wordAt 81 = .ok (.invokevirtual 171, 3) := by decide +kernel
theorem dX3_wordAt_84 : decode cX3_wordAt 84 = .ok (.ireturn, 1) := by decide +kernel
theorem dX3_wordAt_85 : decode cX3_wordAt 85 = .ok (.iinc 3 1, 3) := by decide +kernel
theorem dX3_wordAt_88 : decode cX3_wordAt 88 = .ok (.goto (-77), 3) := by decide +kernel
theorem dX3_wordAt_91 : decode cX3_wordAt 91 = .ok (.iload_n 1, 1) := by decide +kernel
theorem dX3_wordAt_92 : decode cX3_wordAt 92 = .ok (.ifCond .lt 18, 3) := by decide +kernel
theorem dX3_wordAt_95 : decode cX3_wordAt 95 = .ok (.iload_n 1, 1) := by decide +kernel
theorem dX3_wordAt_96 : decode cX3_wordAt 96 = .ok (.bipush 68, 2) := by decide +kernel
theorem dX3_wordAt_98 : decode cX3_wordAt 98 = .ok (.if_icmp .ge 12, 3) := by decide +kernel
theorem dX3_wordAt_101 : decode cX3_wordAt 101 = .ok (.aload_n 0, 1) := by decide +kernel
theorem dX3_wordAt_102 : decode cX3_wordAt 102 = .ok (.getfield 9, 3) := by decide +kernel
theorem dX3_wordAt_105 : decode cX3_wordAt 105 = .ok (.iload_n 1, 1) := by decide +kernel
theorem dX3_wordAt_106 : decode cX3_wordAt 106 = .ok (.iaload, 1) := by decide +kernel
theorem dX3_wordAt_107 : decode cX3_wordAt 107 = .ok (.goto 4, 3) := by decide +kernel
theorem dX3_wordAt_110 : decode cX3_wordAt 110 = .ok (.iconst 0, 1) := by decide +kernel
theorem dX3_wordAt_111 : decode cX3_wordAt 111 = .ok (.ireturn, 1) := by decide +kernel
theorem dX3_countInAll_0 : decode cX3_countInAll 0 = .ok (.iconst 0, 1) := by decide +kernel
theorem dX3_countInAll_1 : decode cX3_countInAll 1 = .ok (.istore_n 2, 1) := by decide +kernel
theorem dX3_countInAll_2 : decode cX3_countInAll 2 = .ok (.iconst 0, 1) := by decide +kernel
theorem dX3_countInAll_3 : decode cX3_countInAll 3 = .ok (.istore_n 3, 1) := by decide +kernel
theorem dX3_countInAll_4 : decode cX3_countInAll 4 = .ok (.iload_n 3, 1) := by decide +kernel
theorem dX3_countInAll_5 : decode cX3_countInAll 5 = .ok (.iconst 4, 1) := by decide +kernel
theorem dX3_countInAll_6 : decode cX3_countInAll 6 = .ok (.if_icmp .ge 33, 3) := by decide +kernel
theorem dX3_countInAll_9 : decode cX3_countInAll 9 = .ok (.iload_n 1, 1) := by decide +kernel
theorem dX3_countInAll_10 : decode cX3_countInAll 10 = .ok (.ifCond .lt 23, 3) := by decide +kernel
theorem dX3_countInAll_13 : decode cX3_countInAll 13 = .ok (.iload_n 1, 1) := by decide +kernel
theorem dX3_countInAll_14 : decode cX3_countInAll 14 = .ok (.bipush 7, 2) := by decide +kernel
theorem dX3_countInAll_16 : decode cX3_countInAll 16 = .ok (.if_icmp .ge 17, 3) := by decide +kernel
theorem dX3_countInAll_19 : decode cX3_countInAll 19 = .ok (.iload_n 2, 1) := by decide +kernel
theorem dX3_countInAll_20 : decode cX3_countInAll 20 = .ok (.aload_n 0, 1) := by decide +kernel
theorem dX3_countInAll_21 : decode cX3_countInAll 21 = .ok (.getfield 23, 3) := by decide +kernel
theorem dX3_countInAll_24 : decode cX3_countInAll 24 = .ok (.iload_n 3, 1) := by decide +kernel
theorem dX3_countInAll_25 : decode cX3_countInAll 25 = .ok (.aaload, 1) := by decide +kernel
theorem dX3_countInAll_26 : decode cX3_countInAll 26 = .ok (.getfield 127, 3) := by decide +kernel
theorem dX3_countInAll_29 : decode cX3_countInAll 29 = .ok (.iload_n 1, 1) := by decide +kernel
theorem dX3_countInAll_30 : decode cX3_countInAll 30 = .ok (.iaload, 1) := by decide +kernel
theorem dX3_countInAll_31 : decode cX3_countInAll 31 = .ok (.iadd, 1) := by decide +kernel
theorem dX3_countInAll_32 : decode cX3_countInAll 32 = .ok (.istore_n 2, 1) := by decide +kernel
theorem dX3_countInAll_33 : decode cX3_countInAll 33 = .ok (.iinc 3 1, 3) := by decide +kernel
theorem dX3_countInAll_36 : decode cX3_countInAll 36 = .ok (.goto (-32), 3) := by decide +kernel
theorem dX3_countInAll_39 : decode cX3_countInAll 39 = .ok (.iload_n 2, 1) := by decide +kernel
theorem dX3_countInAll_40 : decode cX3_countInAll 40 = .ok (.ireturn, 1) := by decide +kernel
theorem dX4_init_0 : decode cX4_init 0 = .ok (.aload_n 0, 1) := by decide +kernel
theorem dX4_init_1 : decode cX4_init 1 = .ok (.invokespecial 3, 3) := by decide +kernel
theorem dX4_init_4 : decode cX4_init 4 = .ok (.aload_n 0, 1) := by decide +kernel
theorem dX4_init_5 : decode cX4_init 5 = .ok (.bipush 64, 2) := by decide +kernel
theorem dX4_init_7 : decode cX4_init 7 = .ok (.newarray .int, 2) := by decide +kernel
theorem dX4_init_9 : decode cX4_init 9 = .ok (.putfield 9, 3) := by decide +kernel
theorem dX4_init_12 : decode cX4_init 12 = .ok (.aload_n 0, 1) := by decide +kernel
theorem dX4_init_13 : decode cX4_init 13 = .ok (.aload_n 1, 1) := by decide +kernel
theorem dX4_init_14 : decode cX4_init 14 = .ok (.putfield 15, 3) := by decide +kernel
theorem dX4_init_17 : decode cX4_init 17 = .ok (.return_, 1) := by decide +kernel
theorem dX4_startOver_0 : decode cX4_startOver 0 = .ok (.aload_n 0, 1) := by decide +kernel
theorem dX4_startOver_1 : decode cX4_startOver 1 = .ok (.getfield 15, 3) := by decide +kernel
theorem dX4_startOver_4 : decode cX4_startOver 4 = .ok (.getfield 19, 3) := by decide +kernel
theorem dX4_startOver_7 : decode cX4_startOver 7 = .ok (.iconst 0, 1) := by decide +kernel
theorem dX4_startOver_8 : decode cX4_startOver 8 = .ok (.aload_n 0, 1) := by decide +kernel
theorem dX4_startOver_9 : decode cX4_startOver 9 = .ok (.getfield 9, 3) := by decide +kernel
theorem dX4_startOver_12 : decode cX4_startOver 12 = .ok (.iconst 0, 1) := by decide +kernel
theorem dX4_startOver_13 : decode cX4_startOver 13 = .ok (.bipush 64, 2) := by decide +kernel
theorem dX4_startOver_15 : decode cX4_startOver 15 = .ok (.invokestatic 24, 3) := by decide +kernel
theorem dX4_startOver_18 : decode cX4_startOver 18 = .ok (.aload_n 0, 1) := by decide +kernel
theorem dX4_startOver_19 : decode cX4_startOver 19 = .ok (.iconst 0, 1) := by decide +kernel
theorem dX4_startOver_20 : decode cX4_startOver 20 = .ok (.putfield 30, 3) := by decide +kernel
theorem dX4_startOver_23 : decode cX4_startOver 23 = .ok (.aload_n 0, 1) := by decide +kernel
theorem dX4_startOver_24 : decode cX4_startOver 24 = .ok (.iconst 0, 1) := by decide +kernel
theorem dX4_startOver_25 : decode cX4_startOver 25 = .ok (.putfield 34, 3) := by decide +kernel
theorem dX4_startOver_28 : decode cX4_startOver 28 = .ok (.aload_n 0, 1) := by decide +kernel
theorem dX4_startOver_29 : decode cX4_startOver 29 = .ok (.iconst 0, 1) := by decide +kernel
theorem dX4_startOver_30 : decode cX4_startOver 30 = .ok (.putfield 37, 3) := by decide +kernel
theorem dX4_startOver_33 : decode cX4_startOver 33 = .ok (.aload_n 0, 1) := by decide +kernel
theorem dX4_startOver_34 : decode cX4_startOver 34 = .ok (.iconst 1, 1) := by decide +kernel
theorem dX4_startOver_35 : decode cX4_startOver 35 = .ok (.putfield 40, 3) := by decide +kernel
theorem dX4_startOver_38 : decode cX4_startOver 38 = .ok (.return_, 1) := by decide +kernel
theorem dX4_play_0 : decode cX4_play 0 = .ok (.iload_n 2, 1) := by decide +kernel
theorem dX4_play_1 : decode cX4_play 1 = .ok (.istore 4, 2) := by decide +kernel
theorem dX4_play_3 : decode cX4_play 3 = .ok (.iload 4, 2) := by decide +kernel
theorem dX4_play_5 : decode cX4_play 5 = .ok (.bipush 24, 2) := by decide +kernel
theorem dX4_play_7 : decode cX4_play 7 = .ok (.if_icmp .ge 48, 3) := by decide +kernel
theorem dX4_play_10 : decode cX4_play 10 = .ok (.aload_n 0, 1) := by decide +kernel
theorem dX4_play_11 : decode cX4_play 11 = .ok (.getfield 15, 3) := by decide +kernel
theorem dX4_play_14 : decode cX4_play 14 = .ok (.iload_n 1, 1) := by decide +kernel
theorem dX4_play_15 : decode cX4_play 15 = .ok (.iload 4, 2) := by decide +kernel
theorem dX4_play_17 : decode cX4_play 17 = .ok (.invokevirtual 43, 3) := by decide +kernel
theorem dX4_play_20 : decode cX4_play 20 = .ok (.ifCond .eq 35, 3) := by decide +kernel
theorem dX4_play_23 : decode cX4_play 23 = .ok (.aload_n 0, 1) := by decide +kernel
theorem dX4_play_24 : decode cX4_play 24 = .ok (.iload_n 1, 1) := by decide +kernel
theorem dX4_play_25 : decode cX4_play 25 = .ok (.iload 4, 2) := by decide +kernel
theorem dX4_play_27 : decode cX4_play 27 = .ok (.invokevirtual 47, 3) := by decide +kernel
theorem dX4_play_30 : decode cX4_play 30 = .ok (.iload_n 3, 1) := by decide +kernel
theorem dX4_play_31 : decode cX4_play 31 = .ok (.ifCond .eq 18, 3) := by decide +kernel
theorem dX4_play_34 : decode cX4_play 34 = .ok (.aload_n 0, 1) := by decide +kernel
theorem dX4_play_35 : decode cX4_play 35 = .ok (.getfield 15, 3) := by decide +kernel
theorem dX4_play_38 : decode cX4_play 38 = .ok (.iload_n 1, 1) := by decide +kernel
theorem dX4_play_39 : decode cX4_play 39 = .ok (.iload 4, 2) := by decide +kernel
theorem dX4_play_41 : decode cX4_play 41 = .ok (.invokevirtual 51, 3) := by decide +kernel
theorem dX4_play_44 : decode cX4_play 44 = .ok (.iconst 1, 1) := by decide +kernel
theorem dX4_play_45 : decode cX4_play 45 = .ok (.if_icmp .ne 4, 3) := by decide +kernel
theorem dX4_play_48 : decode cX4_play 48 = .ok (.return_, 1) := by decide +kernel
theorem dX4_play_49 : decode cX4_play 49 = .ok (.iinc 4 1, 3) := by decide +kernel
theorem dX4_play_52 : decode cX4_play 52 = .ok (.goto (-49), 3) := by decide +kernel
theorem dX4_play_55 : decode cX4_play 55 = .ok (.return_, 1) := by decide +kernel
theorem dX4_playDeed_0 : decode cX4_playDeed 0 = .ok (.aload_n 0, 1) := by decide +kernel
theorem dX4_playDeed_1 : decode cX4_playDeed 1 = .ok (.getfield 15, 3) := by decide +kernel
theorem dX4_playDeed_4 : decode cX4_playDeed 4 = .ok (.iload_n 1, 1) := by decide +kernel
theorem dX4_playDeed_5 : decode cX4_playDeed 5 = .ok (.iload_n 2, 1) := by decide +kernel
theorem dX4_playDeed_6 : decode cX4_playDeed 6 = .ok (.invokevirtual 55, 3) := by decide +kernel
theorem dX4_playDeed_9 : decode cX4_playDeed 9 = .ok (.istore_n 3, 1) := by decide +kernel
theorem dX4_playDeed_10 : decode cX4_playDeed 10 = .ok (.aload_n 0, 1) := by decide +kernel
theorem dX4_playDeed_11 : decode cX4_playDeed 11 = .ok (.getfield 15, 3) := by decide +kernel
theorem dX4_playDeed_14 : decode cX4_playDeed 14 = .ok (.iload_n 1, 1) := by decide +kernel
theorem dX4_playDeed_15 : decode cX4_playDeed 15 = .ok (.iload_n 2, 1) := by decide +kernel
theorem dX4_playDeed_16 : decode cX4_playDeed 16 = .ok (.invokevirtual 51, 3) := by decide +kernel
theorem dX4_playDeed_19 : decode cX4_playDeed 19 = .ok (.tableswitch 129 0 5 #[37, 56, 63, 74, 92, 110], 37) := by decide +kernel
theorem dX4_playDeed_56 : decode cX4_playDeed 56 = .ok (.aload_n 0, 1) := by decide +kernel
theorem dX4_playDeed_57 : decode cX4_playDeed 57 = .ok (.iconst 0, 1) := by decide +kernel
theorem dX4_playDeed_58 : decode cX4_playDeed 58 = .ok (.putfield 30, 3) := by decide +kernel
theorem dX4_playDeed_61 : decode cX4_playDeed 61 = .ok (.aload_n 0, 1) := by decide +kernel
theorem dX4_playDeed_62 : decode cX4_playDeed 62 = .ok (.iconst 0, 1) := by decide +kernel
theorem dX4_playDeed_63 : decode cX4_playDeed 63 = .ok (.putfield 34, 3) := by decide +kernel
theorem dX4_playDeed_66 : decode cX4_playDeed 66 = .ok (.aload_n 0, 1) := by decide +kernel
theorem dX4_playDeed_67 : decode cX4_playDeed 67 = .ok (.ldc 58, 2) := by decide +kernel
theorem dX4_playDeed_69 : decode cX4_playDeed 69 = .ok (.putfield 37, 3) := by decide +kernel
theorem dX4_playDeed_72 : decode cX4_playDeed 72 = .ok (.goto 92, 3) := by decide +kernel
theorem dX4_playDeed_75 : decode cX4_playDeed 75 = .ok (.aload_n 0, 1) := by decide +kernel
theorem dX4_playDeed_76 : decode cX4_playDeed 76 = .ok (.invokevirtual 59, 3) := by decide +kernel
theorem dX4_playDeed_79 : decode cX4_playDeed 79 = .ok (.goto 85, 3) := by decide +kernel
theorem dX4_playDeed_82 : decode cX4_playDeed 82 = .ok (.aload_n 0, 1) := by decide +kernel
theorem dX4_playDeed_83 : decode cX4_playDeed 83 = .ok (.aload_n 0, 1) := by decide +kernel
theorem dX4_playDeed_84 : decode cX4_playDeed 84 = .ok (.getfield 30, 3) := by decide +kernel
theorem dX4_playDeed_87 : decode cX4_playDeed 87 = .ok (.putfield 34, 3) := by decide +kernel
theorem dX4_playDeed_90 : decode cX4_playDeed 90 = .ok (.goto 74, 3) := by decide +kernel
theorem dX4_playDeed_93 : decode cX4_playDeed 93 = .ok (.aload_n 0, 1) := by decide +kernel
theorem dX4_playDeed_94 : decode cX4_playDeed 94 = .ok (.aload_n 0, 1) := by decide +kernel
theorem dX4_playDeed_95 : decode cX4_playDeed 95 = .ok (.getfield 9, 3) := by decide +kernel
theorem dX4_playDeed_98 : decode cX4_playDeed 98 = .ok (.aload_n 0, 1) := by decide +kernel
theorem dX4_playDeed_99 : decode cX4_playDeed 99 = .ok (.iload_n 1, 1) := by decide +kernel
theorem dX4_playDeed_100 : decode cX4_playDeed 100 = .ok (.iload_n 2, 1) := by decide +kernel
theorem dX4_playDeed_101 : decode cX4_playDeed 101 = .ok (.invokevirtual 62, 3) := by decide +kernel
theorem dX4_playDeed_104 : decode cX4_playDeed 104 = .ok (.iaload, 1) := by decide +kernel
theorem dX4_playDeed_105 : decode cX4_playDeed 105 = .ok (.putfield 30, 3) := by decide +kernel
theorem dX4_playDeed_108 : decode cX4_playDeed 108 = .ok (.goto 56, 3) := by decide +kernel
theorem dX4_playDeed_111 : decode cX4_playDeed 111 = .ok (.aload_n 0, 1) := by decide +kernel
theorem dX4_playDeed_112 : decode cX4_playDeed 112 = .ok (.getfield 9, 3) := by decide +kernel
theorem dX4_playDeed_115 : decode cX4_playDeed 115 = .ok (.aload_n 0, 1) := by decide +kernel
theorem dX4_playDeed_116 : decode cX4_playDeed 116 = .ok (.iload_n 1, 1) := by decide +kernel
theorem dX4_playDeed_117 : decode cX4_playDeed 117 = .ok (.iload_n 2, 1) := by decide +kernel
theorem dX4_playDeed_118 : decode cX4_playDeed 118 = .ok (.invokevirtual 62, 3) := by decide +kernel
theorem dX4_playDeed_121 : decode cX4_playDeed 121 = .ok (.aload_n 0, 1) := by decide +kernel
theorem dX4_playDeed_122 : decode cX4_playDeed 122 = .ok (.getfield 30, 3) := by decide +kernel
theorem dX4_playDeed_125 : decode cX4_playDeed 125 = .ok (.iastore, 1) := by decide +kernel
theorem dX4_playDeed_126 : decode cX4_playDeed 126 = .ok (.goto 38, 3) := by decide +kernel
theorem dX4_playDeed_129 : decode cX4_playDeed 129 = .ok (.aload_n 0, 1) := by decide +kernel
theorem dX4_playDeed_130 : decode cX4_playDeed 130 = .ok (.aload_n 0, 1) := by decide +kernel
theorem dX4_playDeed_131 : decode cX4_playDeed 131 = .ok (.getfield 30, 3) := by decide +kernel
theorem dX4_playDeed_134 : decode cX4_playDeed 134 = .ok (.iload_n 3, 1) := by decide +kernel
theorem dX4_playDeed_135 : decode cX4_playDeed 135 = .ok (.iadd, 1) := by decide +kernel
theorem dX4_playDeed_136 : decode cX4_playDeed 136 = .ok (.sipush 1000, 3) := by decide +kernel
theorem dX4_playDeed_139 : decode cX4_playDeed 139 = .ok (.invokestatic 65, 3) := by decide +kernel
theorem dX4_playDeed_142 : decode cX4_playDeed 142 = .ok (.putfield 30, 3) := by decide +kernel
theorem dX4_playDeed_145 : decode cX4_playDeed 145 = .ok (.goto 19, 3) := by decide +kernel
theorem dX4_playDeed_148 : decode cX4_playDeed 148 = .ok (.aload_n 0, 1) := by decide +kernel
theorem dX4_playDeed_149 : decode cX4_playDeed 149 = .ok (.aload_n 0, 1) := by decide +kernel
theorem dX4_playDeed_150 : decode cX4_playDeed 150 = .ok (.getfield 30, 3) := by decide +kernel
theorem dX4_playDeed_153 : decode cX4_playDeed 153 = .ok (.iload_n 3, 1) := by decide +kernel
theorem dX4_playDeed_154 : decode cX4_playDeed 154 = .ok (.isub, 1) := by decide +kernel
theorem dX4_playDeed_155 : decode cX4_playDeed 155 = .ok (.sipush 1000, 3) := by decide +kernel
theorem dX4_playDeed_158 : decode cX4_playDeed 158 = .ok (.invokestatic 65, 3) := by decide +kernel
theorem dX4_playDeed_161 : decode cX4_playDeed 161 = .ok (.putfield 30, 3) := by decide +kernel
theorem dX4_playDeed_164 : decode cX4_playDeed 164 = .ok (.return_, 1) := by decide +kernel
theorem dX4_touch_0 : decode cX4_touch 0 = .ok (.aload_n 0, 1) := by decide +kernel
theorem dX4_touch_1 : decode cX4_touch 1 = .ok (.getfield 15, 3) := by decide +kernel
theorem dX4_touch_4 : decode cX4_touch 4 = .ok (.iload_n 1, 1) := by decide +kernel
theorem dX4_touch_5 : decode cX4_touch 5 = .ok (.iload_n 2, 1) := by decide +kernel
theorem dX4_touch_6 : decode cX4_touch 6 = .ok (.aload_n 0, 1) := by decide +kernel
theorem dX4_touch_7 : decode cX4_touch 7 = .ok (.getfield 34, 3) := by decide +kernel
theorem dX4_touch_10 : decode cX4_touch 10 = .ok (.invokevirtual 70, 3) := by decide +kernel
theorem dX4_touch_13 : decode cX4_touch 13 = .ok (.istore_n 3, 1) := by decide +kernel
theorem dX4_touch_14 : decode cX4_touch 14 = .ok (.aload_n 0, 1) := by decide +kernel
theorem dX4_touch_15 : decode cX4_touch 15 = .ok (.dup, 1) := by decide +kernel
theorem dX4_touch_16 : decode cX4_touch 16 = .ok (.getfield 37, 3) := by decide +kernel
theorem dX4_touch_19 : decode cX4_touch 19 = .ok (.iconst 1, 1) := by decide +kernel
theorem dX4_touch_20 : decode cX4_touch 20 = .ok (.aload_n 0, 1) := by decide +kernel
theorem dX4_touch_21 : decode cX4_touch 21 = .ok (.getfield 15, 3) := by decide +kernel
theorem dX4_touch_24 : decode cX4_touch 24 = .ok (.iload_n 3, 1) := by decide +kernel
theorem dX4_touch_25 : decode cX4_touch 25 = .ok (.invokevirtual 74, 3) := by decide +kernel
theorem dX4_touch_28 : decode cX4_touch 28 = .ok (.ishl, 1) := by decide +kernel
theorem dX4_touch_29 : decode cX4_touch 29 = .ok (.ior, 1) := by decide +kernel
theorem dX4_touch_30 : decode cX4_touch 30 = .ok (.putfield 37, 3) := by decide +kernel
theorem dX4_touch_33 : decode cX4_touch 33 = .ok (.iload_n 3, 1) := by decide +kernel
theorem dX4_touch_34 : decode cX4_touch 34 = .ok (.ireturn, 1) := by decide +kernel
theorem dX4_widen_0 : decode cX4_widen 0 = .ok (.iconst 0, 1) := by decide +kernel
theorem dX4_widen_1 : decode cX4_widen 1 = .ok (.istore_n 1, 1) := by decide +kernel
theorem dX4_widen_2 : decode cX4_widen 2 = .ok (.iload_n 1, 1) := by decide +kernel
theorem dX4_widen_3 : decode cX4_widen 3 = .ok (.aload_n 0, 1) := by decide +kernel
theorem dX4_widen_4 : decode cX4_widen 4 = .ok (.getfield 15, 3) := by decide +kernel
theorem dX4_widen_7 : decode cX4_widen 7 = .ok (.getfield 78, 3) := by decide +kernel
theorem dX4_widen_10 : decode cX4_widen 10 = .ok (.if_icmp .ge 64, 3) := by decide +kernel
theorem dX4_widen_13 : decode cX4_widen 13 = .ok (.iconst 0, 1) := by decide +kernel
theorem dX4_widen_14 : decode cX4_widen 14 = .ok (.istore_n 2, 1) := by decide +kernel
theorem dX4_widen_15 : decode cX4_widen 15 = .ok (.iconst 0, 1) := by decide +kernel
theorem dX4_widen_16 : decode cX4_widen 16 = .ok (.istore_n 3, 1) := by decide +kernel
theorem dX4_widen_17 : decode cX4_widen 17 = .ok (.iload_n 3, 1) := by decide +kernel
theorem dX4_widen_18 : decode cX4_widen 18 = .ok (.bipush 16, 2) := by decide +kernel
theorem dX4_widen_20 : decode cX4_widen 20 = .ok (.if_icmp .gt 36, 3) := by decide +kernel
theorem dX4_widen_23 : decode cX4_widen 23 = .ok (.aload_n 0, 1) := by decide +kernel
theorem dX4_widen_24 : decode cX4_widen 24 = .ok (.getfield 15, 3) := by decide +kernel
theorem dX4_widen_27 : decode cX4_widen 27 = .ok (.iload_n 3, 1) := by decide +kernel
theorem dX4_widen_28 : decode cX4_widen 28 = .ok (.invokevirtual 81, 3) := by decide +kernel
theorem dX4_widen_31 : decode cX4_widen 31 = .ok (.iload_n 1, 1) := by decide +kernel
theorem dX4_widen_32 : decode cX4_widen 32 = .ok (.if_icmp .ne 18, 3) := by decide +kernel
theorem dX4_widen_35 : decode cX4_widen 35 = .ok (.aload_n 0, 1) := by decide +kernel
theorem dX4_widen_36 : decode cX4_widen 36 = .ok (.getfield 37, 3) := by decide +kernel
theorem dX4_widen_39 : decode cX4_widen 39 = .ok (.iload_n 3, 1) := by decide +kernel
theorem dX4_widen_40 : decode cX4_widen 40 = .ok (.ishr, 1) := by decide +kernel
theorem dX4_widen_41 : decode cX4_widen 41 = .ok (.iconst 1, 1) := by decide +kernel
theorem dX4_widen_42 : decode cX4_widen 42 = .ok (.iand, 1) := by decide +kernel
theorem dX4_widen_43 : decode cX4_widen 43 = .ok (.iconst 1, 1) := by decide +kernel
theorem dX4_widen_44 : decode cX4_widen 44 = .ok (.if_icmp .ne 6, 3) := by decide +kernel
theorem dX4_widen_47 : decode cX4_widen 47 = .ok (.iinc 2 1, 3) := by decide +kernel
theorem dX4_widen_50 : decode cX4_widen 50 = .ok (.iinc 3 1, 3) := by decide +kernel
theorem dX4_widen_53 : decode cX4_widen 53 = .ok (.goto (-36), 3) := by decide +kernel
theorem dX4_widen_56 : decode cX4_widen 56 = .ok (.aload_n 0, 1) := by decide +kernel
theorem dX4_widen_57 : decode cX4_widen 57 = .ok (.aload_n 0, 1) := by decide +kernel
theorem dX4_widen_58 : decode cX4_widen 58 = .ok (.getfield 40, 3) := by decide +kernel
theorem dX4_widen_61 : decode cX4_widen 61 = .ok (.iload_n 2, 1) := by decide +kernel
theorem dX4_widen_62 : decode cX4_widen 62 = .ok (.invokestatic 84, 3) := by decide +kernel
theorem dX4_widen_65 : decode cX4_widen 65 = .ok (.putfield 40, 3) := by decide +kernel
theorem dX4_widen_68 : decode cX4_widen 68 = .ok (.iinc 1 1, 3) := by decide +kernel
theorem dX4_widen_71 : decode cX4_widen 71 = .ok (.goto (-69), 3) := by decide +kernel
theorem dX4_widen_74 : decode cX4_widen 74 = .ok (.return_, 1) := by decide +kernel
theorem dX5_init_0 : decode cX5_init 0 = .ok (.aload_n 0, 1) := by decide +kernel
theorem dX5_init_1 : decode cX5_init 1 = .ok (.invokespecial 3, 3) := by decide +kernel
theorem dX5_init_4 : decode cX5_init 4 = .ok (.aload_n 0, 1) := by decide +kernel
theorem dX5_init_5 : decode cX5_init 5 = .ok (.bipush 64, 2) := by decide +kernel
theorem dX5_init_7 : decode cX5_init 7 = .ok (.newarray .boolean, 2) := by decide +kernel
theorem dX5_init_9 : decode cX5_init 9 = .ok (.putfield 9, 3) := by decide +kernel
theorem dX5_init_12 : decode cX5_init 12 = .ok (.aload_n 0, 1) := by decide +kernel
theorem dX5_init_13 : decode cX5_init 13 = .ok (.aload_n 1, 1) := by decide +kernel
theorem dX5_init_14 : decode cX5_init 14 = .ok (.putfield 15, 3) := by decide +kernel
theorem dX5_init_17 : decode cX5_init 17 = .ok (.aload_n 0, 1) := by decide +kernel
theorem dX5_init_18 : decode cX5_init 18 = .ok (.aload_n 2, 1) := by decide +kernel
theorem dX5_init_19 : decode cX5_init 19 = .ok (.putfield 19, 3) := by decide +kernel
theorem dX5_init_22 : decode cX5_init 22 = .ok (.return_, 1) := by decide +kernel
theorem dX5_readText_0 : decode cX5_readText 0 = .ok (.aload_n 0, 1) := by decide +kernel
theorem dX5_readText_1 : decode cX5_readText 1 = .ok (.getfield 15, 3) := by decide +kernel
theorem dX5_readText_4 : decode cX5_readText 4 = .ok (.invokevirtual 23, 3) := by decide +kernel
theorem dX5_readText_7 : decode cX5_readText 7 = .ok (.aload_n 0, 1) := by decide +kernel
theorem dX5_readText_8 : decode cX5_readText 8 = .ok (.iconst 0, 1) := by decide +kernel
theorem dX5_readText_9 : decode cX5_readText 9 = .ok (.iload_n 1, 1) := by decide +kernel
theorem dX5_readText_10 : decode cX5_readText 10 = .ok (.aload_n 0, 1) := by decide +kernel
theorem dX5_readText_11 : decode cX5_readText 11 = .ok (.getfield 19, 3) := by decide +kernel
theorem dX5_readText_14 : decode cX5_readText 14 = .ok (.arraylength, 1) := by decide +kernel
theorem dX5_readText_15 : decode cX5_readText 15 = .ok (.invokestatic 28, 3) := by decide +kernel
theorem dX5_readText_18 : decode cX5_readText 18 = .ok (.invokestatic 34, 3) := by decide +kernel
theorem dX5_readText_21 : decode cX5_readText 21 = .ok (.putfield 37, 3) := by decide +kernel
theorem dX5_readText_24 : decode cX5_readText 24 = .ok (.aload_n 0, 1) := by decide +kernel
theorem dX5_readText_25 : decode cX5_readText 25 = .ok (.iconst 0, 1) := by decide +kernel
theorem dX5_readText_26 : decode cX5_readText 26 = .ok (.putfield 41, 3) := by decide +kernel
theorem dX5_readText_29 : decode cX5_readText 29 = .ok (.aload_n 0, 1) := by decide +kernel
theorem dX5_readText_30 : decode cX5_readText 30 = .ok (.iconst 0, 1) := by decide +kernel
theorem dX5_readText_31 : decode cX5_readText 31 = .ok (.putfield 44, 3) := by decide +kernel
theorem dX5_readText_34 : decode cX5_readText 34 = .ok (.aload_n 0, 1) := by decide +kernel
theorem dX5_readText_35 : decode cX5_readText 35 = .ok (.iconst 0, 1) := by decide +kernel
theorem dX5_readText_36 : decode cX5_readText 36 = .ok (.putfield 48, 3) := by decide +kernel
theorem dX5_readText_39 : decode cX5_readText 39 = .ok (.aload_n 0, 1) := by decide +kernel
theorem dX5_readText_40 : decode cX5_readText 40 = .ok (.iconst 0, 1) := by decide +kernel
theorem dX5_readText_41 : decode cX5_readText 41 = .ok (.putfield 51, 3) := by decide +kernel
theorem dX5_readText_44 : decode cX5_readText 44 = .ok (.aload_n 0, 1) := by decide +kernel
theorem dX5_readText_45 : decode cX5_readText 45 = .ok (.iconst 0, 1) := by decide +kernel
theorem dX5_readText_46 : decode cX5_readText 46 = .ok (.putfield 54, 3) := by decide +kernel
theorem dX5_readText_49 : decode cX5_readText 49 = .ok (.iconst 0, 1) := by decide +kernel
theorem dX5_readText_50 : decode cX5_readText 50 = .ok (.istore_n 2, 1) := by decide +kernel
theorem dX5_readText_51 : decode cX5_readText 51 = .ok (.iload_n 2, 1) := by decide +kernel
theorem dX5_readText_52 : decode cX5_readText 52 = .ok (.bipush 64, 2) := by decide +kernel
theorem dX5_readText_54 : decode cX5_readText 54 = .ok (.if_icmp .ge 16, 3) := by decide +kernel
theorem dX5_readText_57 : decode cX5_readText 57 = .ok (.aload_n 0, 1) := by decide +kernel
theorem dX5_readText_58 : decode cX5_readText 58 = .ok (.getfield 9, 3) := by decide +kernel
theorem dX5_readText_61 : decode cX5_readText 61 = .ok (.iload_n 2, 1) := by decide +kernel
theorem dX5_readText_62 : decode cX5_readText 62 = .ok (.iconst 0, 1) := by decide +kernel
theorem dX5_readText_63 : decode cX5_readText 63 = .ok (.bastore, 1) := by decide +kernel
theorem dX5_readText_64 : decode cX5_readText 64 = .ok (.iinc 2 1, 3) := by decide +kernel
theorem dX5_readText_67 : decode cX5_readText 67 = .ok (.goto (-16), 3) := by decide +kernel
theorem dX5_readText_70 : decode cX5_readText 70 = .ok (.aload_n 0, 1) := by decide +kernel
theorem dX5_readText_71 : decode cX5_readText 71 = .ok (.invokevirtual 57, 3) := by decide +kernel
theorem dX5_readText_74 : decode cX5_readText 74 = .ok (.iconst 0, 1) := by decide +kernel
theorem dX5_readText_75 : decode cX5_readText 75 = .ok (.istore_n 2, 1) := by decide +kernel
theorem dX5_readText_76 : decode cX5_readText 76 = .ok (.iload_n 2, 1) := by decide +kernel
theorem dX5_readText_77 : decode cX5_readText 77 = .ok (.sipush 900, 3) := by decide +kernel
theorem dX5_readText_80 : decode cX5_readText 80 = .ok (.if_icmp .gt 52, 3) := by decide +kernel
theorem dX5_readText_83 : decode cX5_readText 83 = .ok (.aload_n 0, 1) := by decide +kernel
theorem dX5_readText_84 : decode cX5_readText 84 = .ok (.invokevirtual 60, 3) := by decide +kernel
theorem dX5_readText_87 : decode cX5_readText 87 = .ok (.ifCond .ne 5, 3) := by decide +kernel
theorem dX5_readText_90 : decode cX5_readText 90 = .ok (.iconst 0, 1) := by decide +kernel
theorem dX5_readText_91 : decode cX5_readText 91 = .ok (.ireturn, 1) := by decide +kernel
theorem dX5_readText_92 : decode cX5_readText 92 = .ok (.aload_n 0, 1) := by decide +kernel
theorem dX5_readText_93 : decode cX5_readText 93 = .ok (.getfield 64, 3) := by decide +kernel
theorem dX5_readText_96 : decode cX5_readText 96 = .ok (.ifCond .ne 8, 3) := by decide +kernel
theorem dX5_readText_99 : decode cX5_readText 99 = .ok (.aload_n 0, 1) := by decide +kernel
theorem dX5_readText_100 : decode cX5_readText 100 = .ok (.invokevirtual 67, 3) := by decide +kernel
theorem dX5_readText_103 : decode cX5_readText 103 = .ok (.ireturn, 1) := by decide +kernel
theorem dX5_readText_104 : decode cX5_readText 104 = .ok (.aload_n 0, 1) := by decide +kernel
theorem dX5_readText_105 : decode cX5_readText 105 = .ok (.getfield 64, 3) := by decide +kernel
theorem dX5_readText_108 : decode cX5_readText 108 = .ok (.iconst 3, 1) := by decide +kernel
theorem dX5_readText_109 : decode cX5_readText 109 = .ok (.if_icmp .eq 13, 3) := by decide +kernel
theorem dX5_readText_112 : decode cX5_readText 112 = .ok (.aload_n 0, 1) := by decide +kernel
theorem dX5_readText_113 : decode cX5_readText 113 = .ok (.iconst 1, 1) := by decide +kernel
theorem dX5_readText_114 : decode cX5_readText 114 = .ok (.aload_n 0, 1) := by decide +kernel
theorem dX5_readText_115 : decode cX5_readText 115 = .ok (.getfield 70, 3) := by decide +kernel
theorem dX5_readText_118 : decode cX5_readText 118 = .ok (.invokevirtual 73, 3) := by decide +kernel
theorem dX5_readText_121 : decode cX5_readText 121 = .ok (.ireturn, 1) := by decide +kernel
theorem dX5_readText_122 : decode cX5_readText 122 = .ok (.aload_n 0, 1) := by decide +kernel
theorem dX5_readText_123 : decode cX5_readText 123 = .ok (.invokevirtual 57, 3) := by decide +kernel
theorem dX5_readText_126 : decode cX5_readText 126 = .ok (.iinc 2 1, 3) := by decide +kernel
theorem dX5_readText_129 : decode cX5_readText 129 = .ok (.goto (-53), 3) := by decide +kernel
theorem dX5_readText_132 : decode cX5_readText 132 = .ok (.aload_n 0, 1) := by decide +kernel
theorem dX5_readText_133 : decode cX5_readText 133 = .ok (.iconst 1, 1) := by decide +kernel
theorem dX5_readText_134 : decode cX5_readText 134 = .ok (.aload_n 0, 1) := by decide +kernel
theorem dX5_readText_135 : decode cX5_readText 135 = .ok (.getfield 70, 3) := by decide +kernel
theorem dX5_readText_138 : decode cX5_readText 138 = .ok (.invokevirtual 73, 3) := by decide +kernel
theorem dX5_readText_141 : decode cX5_readText 141 = .ok (.ireturn, 1) := by decide +kernel
theorem dX5_fail_0 : decode cX5_fail 0 = .ok (.aload_n 0, 1) := by decide +kernel
theorem dX5_fail_1 : decode cX5_fail 1 = .ok (.iload_n 1, 1) := by decide +kernel
theorem dX5_fail_2 : decode cX5_fail 2 = .ok (.putfield 51, 3) := by decide +kernel
theorem dX5_fail_5 : decode cX5_fail 5 = .ok (.aload_n 0, 1) := by decide +kernel
theorem dX5_fail_6 : decode cX5_fail 6 = .ok (.iload_n 2, 1) := by decide +kernel
theorem dX5_fail_7 : decode cX5_fail 7 = .ok (.putfield 54, 3) := by decide +kernel
theorem dX5_fail_10 : decode cX5_fail 10 = .ok (.iconst 0, 1) := by decide +kernel
theorem dX5_fail_11 : decode cX5_fail 11 = .ok (.ireturn, 1) := by decide +kernel
theorem dX5_readEnd_0 : decode cX5_readEnd 0 = .ok (.aload_n 0, 1) := by decide +kernel
theorem dX5_readEnd_1 : decode cX5_readEnd 1 = .ok (.getfield 15, 3) := by decide +kernel
theorem dX5_readEnd_4 : decode cX5_readEnd 4 = .ok (.getfield 77, 3) := by decide +kernel
theorem dX5_readEnd_7 : decode cX5_readEnd 7 = .ok (.ifCond .ne 13, 3) := by decide +kernel
theorem dX5_readEnd_10 : decode cX5_readEnd 10 = .ok (.aload_n 0, 1) := by decide +kernel
theorem dX5_readEnd_11 : decode cX5_readEnd 11 = .ok (.iconst 5, 1) := by decide +kernel
theorem dX5_readEnd_12 : decode cX5_readEnd 12 = .ok (.aload_n 0, 1) := by decide +kernel
theorem dX5_readEnd_13 : decode cX5_readEnd 13 = .ok (.getfield 37, 3) := by decide +kernel
theorem dX5_readEnd_16 : decode cX5_readEnd 16 = .ok (.invokevirtual 73, 3) := by decide +kernel
theorem dX5_readEnd_19 : decode cX5_readEnd 19 = .ok (.ireturn, 1) := by decide +kernel
theorem dX5_readEnd_20 : decode cX5_readEnd 20 = .ok (.aload_n 0, 1) := by decide +kernel
theorem dX5_readEnd_21 : decode cX5_readEnd 21 = .ok (.getfield 48, 3) := by decide +kernel
theorem dX5_readEnd_24 : decode cX5_readEnd 24 = .ok (.ifCond .eq 14, 3) := by decide +kernel
theorem dX5_readEnd_27 : decode cX5_readEnd 27 = .ok (.aload_n 0, 1) := by decide +kernel
theorem dX5_readEnd_28 : decode cX5_readEnd 28 = .ok (.bipush 6, 2) := by decide +kernel
theorem dX5_readEnd_30 : decode cX5_readEnd 30 = .ok (.aload_n 0, 1) := by decide +kernel
theorem dX5_readEnd_31 : decode cX5_readEnd 31 = .ok (.getfield 37, 3) := by decide +kernel
theorem dX5_readEnd_34 : decode cX5_readEnd 34 = .ok (.invokevirtual 73, 3) := by decide +kernel
theorem dX5_readEnd_37 : decode cX5_readEnd 37 = .ok (.ireturn, 1) := by decide +kernel
theorem dX5_readEnd_38 : decode cX5_readEnd 38 = .ok (.iconst 1, 1) := by decide +kernel
theorem dX5_readEnd_39 : decode cX5_readEnd 39 = .ok (.ireturn, 1) := by decide +kernel
theorem dX5_advance_0 : decode cX5_advance 0 = .ok (.aload_n 0, 1) := by decide +kernel
theorem dX5_advance_1 : decode cX5_advance 1 = .ok (.aload_n 0, 1) := by decide +kernel
theorem dX5_advance_2 : decode cX5_advance 2 = .ok (.getfield 41, 3) := by decide +kernel
theorem dX5_advance_5 : decode cX5_advance 5 = .ok (.putfield 70, 3) := by decide +kernel
theorem dX5_advance_8 : decode cX5_advance 8 = .ok (.aload_n 0, 1) := by decide +kernel
theorem dX5_advance_9 : decode cX5_advance 9 = .ok (.getfield 70, 3) := by decide +kernel
theorem dX5_advance_12 : decode cX5_advance 12 = .ok (.aload_n 0, 1) := by decide +kernel
theorem dX5_advance_13 : decode cX5_advance 13 = .ok (.getfield 37, 3) := by decide +kernel
theorem dX5_advance_16 : decode cX5_advance 16 = .ok (.if_icmp .ge 30, 3) := by decide +kernel
theorem dX5_advance_19 : decode cX5_advance 19 = .ok (.aload_n 0, 1) := by decide +kernel
theorem dX5_advance_20 : decode cX5_advance 20 = .ok (.getfield 19, 3) := by decide +kernel
theorem dX5_advance_23 : decode cX5_advance 23 = .ok (.aload_n 0, 1) := by decide +kernel
theorem dX5_advance_24 : decode cX5_advance 24 = .ok (.getfield 70, 3) := by decide +kernel
theorem dX5_advance_27 : decode cX5_advance 27 = .ok (.iaload, 1) := by decide +kernel
theorem dX5_advance_28 : decode cX5_advance 28 = .ok (.bipush 32, 2) := by decide +kernel
theorem dX5_advance_30 : decode cX5_advance 30 = .ok (.if_icmp .ne 16, 3) := by decide +kernel
theorem dX5_advance_33 : decode cX5_advance 33 = .ok (.aload_n 0, 1) := by decide +kernel
theorem dX5_advance_34 : decode cX5_advance 34 = .ok (.dup, 1) := by decide +kernel
theorem dX5_advance_35 : decode cX5_advance 35 = .ok (.getfield 70, 3) := by decide +kernel
theorem dX5_advance_38 : decode cX5_advance 38 = .ok (.iconst 1, 1) := by decide +kernel
theorem dX5_advance_39 : decode cX5_advance 39 = .ok (.iadd, 1) := by decide +kernel
theorem dX5_advance_40 : decode cX5_advance 40 = .ok (.putfield 70, 3) := by decide +kernel
theorem dX5_advance_43 : decode cX5_advance 43 = .ok (.goto (-35), 3) := by decide +kernel
theorem dX5_advance_46 : decode cX5_advance 46 = .ok (.aload_n 0, 1) := by decide +kernel
theorem dX5_advance_47 : decode cX5_advance 47 = .ok (.aload_n 0, 1) := by decide +kernel
theorem dX5_advance_48 : decode cX5_advance 48 = .ok (.getfield 70, 3) := by decide +kernel
theorem dX5_advance_51 : decode cX5_advance 51 = .ok (.putfield 41, 3) := by decide +kernel
theorem dX5_advance_54 : decode cX5_advance 54 = .ok (.aload_n 0, 1) := by decide +kernel
theorem dX5_advance_55 : decode cX5_advance 55 = .ok (.getfield 70, 3) := by decide +kernel
theorem dX5_advance_58 : decode cX5_advance 58 = .ok (.aload_n 0, 1) := by decide +kernel
theorem dX5_advance_59 : decode cX5_advance 59 = .ok (.getfield 37, 3) := by decide +kernel
theorem dX5_advance_62 : decode cX5_advance 62 = .ok (.if_icmp .lt 9, 3) := by decide +kernel
theorem dX5_advance_65 : decode cX5_advance 65 = .ok (.aload_n 0, 1) := by decide +kernel
theorem dX5_advance_66 : decode cX5_advance 66 = .ok (.iconst 0, 1) := by decide +kernel
theorem dX5_advance_67 : decode cX5_advance 67 = .ok (.putfield 64, 3) := by decide +kernel
theorem dX5_advance_70 : decode cX5_advance 70 = .ok (.return_, 1) := by decide +kernel
theorem dX5_advance_71 : decode cX5_advance 71 = .ok (.aload_n 0, 1) := by decide +kernel
theorem dX5_advance_72 : decode cX5_advance 72 = .ok (.aload_n 0, 1) := by decide +kernel
theorem dX5_advance_73 : decode cX5_advance 73 = .ok (.getfield 19, 3) := by decide +kernel
theorem dX5_advance_76 : decode cX5_advance 76 = .ok (.aload_n 0, 1) := by decide +kernel
theorem dX5_advance_77 : decode cX5_advance 77 = .ok (.getfield 70, 3) := by decide +kernel
theorem dX5_advance_80 : decode cX5_advance 80 = .ok (.iaload, 1) := by decide +kernel
theorem dX5_advance_81 : decode cX5_advance 81 = .ok (.invokestatic 80, 3) := by decide +kernel
theorem dX5_advance_84 : decode cX5_advance 84 = .ok (.putfield 64, 3) := by decide +kernel
theorem dX5_advance_87 : decode cX5_advance 87 = .ok (.aload_n 0, 1) := by decide +kernel
theorem dX5_advance_88 : decode cX5_advance 88 = .ok (.dup, 1) := by decide +kernel
theorem dX5_advance_89 : decode cX5_advance 89 = .ok (.getfield 41, 3) := by decide +kernel
theorem dX5_advance_92 : decode cX5_advance 92 = .ok (.iconst 1, 1) := by decide +kernel
theorem dX5_advance_93 : decode cX5_advance 93 = .ok (.iadd, 1) := by decide +kernel
theorem dX5_advance_94 : decode cX5_advance 94 = .ok (.putfield 41, 3) := by decide +kernel
theorem dX5_advance_97 : decode cX5_advance 97 = .ok (.aload_n 0, 1) := by decide +kernel
theorem dX5_advance_98 : decode cX5_advance 98 = .ok (.getfield 64, 3) := by decide +kernel
theorem dX5_advance_101 : decode cX5_advance 101 = .ok (.iconst 1, 1) := by decide +kernel
theorem dX5_advance_102 : decode cX5_advance 102 = .ok (.if_icmp .eq 12, 3) := by decide +kernel
theorem dX5_advance_105 : decode cX5_advance 105 = .ok (.aload_n 0, 1) := by decide +kernel
theorem dX5_advance_106 : decode cX5_advance 106 = .ok (.getfield 64, 3) := by decide +kernel
theorem dX5_advance_109 : decode cX5_advance 109 = .ok (.iconst 2, 1) := by decide +kernel
theorem dX5_advance_110 : decode cX5_advance 110 = .ok (.if_icmp .eq 4, 3) := by decide +kernel
theorem dX5_advance_113 : decode cX5_advance 113 = .ok (.return_, 1) := by decide +kernel
theorem dX5_advance_114 : decode cX5_advance 114 = .ok (.aload_n 0, 1) := by decide +kernel
theorem dX5_advance_115 : decode cX5_advance 115 = .ok (.getfield 41, 3) := by decide +kernel
theorem dX5_advance_118 : decode cX5_advance 118 = .ok (.aload_n 0, 1) := by decide +kernel
theorem dX5_advance_119 : decode cX5_advance 119 = .ok (.getfield 37, 3) := by decide +kernel
theorem dX5_advance_122 : decode cX5_advance 122 = .ok (.if_icmp .ge 35, 3) := by decide +kernel
theorem dX5_advance_125 : decode cX5_advance 125 = .ok (.aload_n 0, 1) := by decide +kernel
theorem dX5_advance_126 : decode cX5_advance 126 = .ok (.getfield 19, 3) := by decide +kernel
theorem dX5_advance_129 : decode cX5_advance 129 = .ok (.aload_n 0, 1) := by decide +kernel
theorem dX5_advance_130 : decode cX5_advance 130 = .ok (.getfield 41, 3) := by decide +kernel
theorem dX5_advance_133 : decode cX5_advance 133 = .ok (.iaload, 1) := by decide +kernel
theorem dX5_advance_134 : decode cX5_advance 134 = .ok (.invokestatic 80, 3) := by decide +kernel
theorem dX5_advance_137 : decode cX5_advance 137 = .ok (.aload_n 0, 1) := by decide +kernel
theorem dX5_advance_138 : decode cX5_advance 138 = .ok (.getfield 64, 3) := by decide +kernel
theorem dX5_advance_141 : decode cX5_advance 141 = .ok (.if_icmp .ne 16, 3) := by decide +kernel
theorem dX5_advance_144 : decode cX5_advance 144 = .ok (.aload_n 0, 1) := by decide +kernel
theorem dX5_advance_145 : decode cX5_advance 145 = .ok (.dup, 1) := by decide +kernel
theorem dX5_advance_146 : decode cX5_advance 146 = .ok (.getfield 41, 3) := by decide +kernel
theorem dX5_advance_149 : decode cX5_advance 149 = .ok (.iconst 1, 1) := by decide +kernel
theorem dX5_advance_150 : decode cX5_advance 150 = .ok (.iadd, 1) := by decide +kernel
theorem dX5_advance_151 : decode cX5_advance 151 = .ok (.putfield 41, 3) := by decide +kernel
theorem dX5_advance_154 : decode cX5_advance 154 = .ok (.goto (-40), 3) := by decide +kernel
theorem dX5_advance_157 : decode cX5_advance 157 = .ok (.aload_n 0, 1) := by decide +kernel
theorem dX5_advance_158 : decode cX5_advance 158 = .ok (.getfield 41, 3) := by decide +kernel
theorem dX5_advance_161 : decode cX5_advance 161 = .ok (.aload_n 0, 1) := by decide +kernel
theorem dX5_advance_162 : decode cX5_advance 162 = .ok (.getfield 70, 3) := by decide +kernel
theorem dX5_advance_165 : decode cX5_advance 165 = .ok (.isub, 1) := by decide +kernel
theorem dX5_advance_166 : decode cX5_advance 166 = .ok (.aload_n 0, 1) := by decide +kernel
theorem dX5_advance_167 : decode cX5_advance 167 = .ok (.getfield 64, 3) := by decide +kernel
theorem dX5_advance_170 : decode cX5_advance 170 = .ok (.iconst 1, 1) := by decide +kernel
theorem dX5_advance_171 : decode cX5_advance 171 = .ok (.if_icmp .ne 8, 3) := by decide +kernel
theorem dX5_advance_174 : decode cX5_advance 174 = .ok (.bipush 7, 2) := by decide +kernel
theorem dX5_advance_176 : decode cX5_advance 176 = .ok (.goto 4, 3) := by decide +kernel
theorem dX5_advance_179 : decode cX5_advance 179 = .ok (.iconst 3, 1) := by decide +kernel
theorem dX5_advance_180 : decode cX5_advance 180 = .ok (.if_icmp .le 11, 3) := by decide +kernel
theorem dX5_advance_183 : decode cX5_advance 183 = .ok (.aload_n 0, 1) := by decide +kernel
theorem dX5_advance_184 : decode cX5_advance 184 = .ok (.iconst 4, 1) := by decide +kernel
theorem dX5_advance_185 : decode cX5_advance 185 = .ok (.putfield 64, 3) := by decide +kernel
theorem dX5_advance_188 : decode cX5_advance 188 = .ok (.goto 56, 3) := by decide +kernel
theorem dX5_advance_191 : decode cX5_advance 191 = .ok (.aload_n 0, 1) := by decide +kernel
theorem dX5_advance_192 : decode cX5_advance 192 = .ok (.getfield 64, 3) := by decide +kernel
theorem dX5_advance_195 : decode cX5_advance 195 = .ok (.iconst 2, 1) := by decide +kernel
theorem dX5_advance_196 : decode cX5_advance 196 = .ok (.if_icmp .ne 48, 3) := by decide +kernel
theorem dX5_advance_199 : decode cX5_advance 199 = .ok (.aload_n 0, 1) := by decide +kernel
theorem dX5_advance_200 : decode cX5_advance 200 = .ok (.iconst 0, 1) := by decide +kernel
theorem dX5_advance_201 : decode cX5_advance 201 = .ok (.putfield 84, 3) := by decide +kernel
theorem dX5_advance_204 : decode cX5_advance 204 = .ok (.aload_n 0, 1) := by decide +kernel
theorem dX5_advance_205 : decode cX5_advance 205 = .ok (.getfield 70, 3) := by decide +kernel
theorem dX5_advance_208 : decode cX5_advance 208 = .ok (.istore_n 1, 1) := by decide +kernel
theorem dX5_advance_209 : decode cX5_advance 209 = .ok (.iload_n 1, 1) := by decide +kernel
theorem dX5_advance_210 : decode cX5_advance 210 = .ok (.aload_n 0, 1) := by decide +kernel
theorem dX5_advance_211 : decode cX5_advance 211 = .ok (.getfield 41, 3) := by decide +kernel
theorem dX5_advance_214 : decode cX5_advance 214 = .ok (.if_icmp .ge 30, 3) := by decide +kernel
theorem dX5_advance_217 : decode cX5_advance 217 = .ok (.aload_n 0, 1) := by decide +kernel
theorem dX5_advance_218 : decode cX5_advance 218 = .ok (.aload_n 0, 1) := by decide +kernel
theorem dX5_advance_219 : decode cX5_advance 219 = .ok (.getfield 84, 3) := by decide +kernel
theorem dX5_advance_222 : decode cX5_advance 222 = .ok (.bipush 10, 2) := by decide +kernel
theorem dX5_advance_224 : decode cX5_advance 224 = .ok (.imul, 1) := by decide +kernel
theorem dX5_advance_225 : decode cX5_advance 225 = .ok (.aload_n 0, 1) := by decide +kernel
theorem dX5_advance_226 : decode cX5_advance 226 = .ok (.getfield 19, 3) := by decide +kernel
theorem dX5_advance_229 : decode cX5_advance 229 = .ok (.iload_n 1, 1) := by decide +kernel
theorem dX5_advance_230 : decode cX5_advance 230 = .ok (.iaload, 1) := by decide +kernel
theorem dX5_advance_231 : decode cX5_advance 231 = .ok (.iadd, 1) := by decide +kernel
theorem dX5_advance_232 : decode cX5_advance 232 = .ok (.bipush 48, 2) := by decide +kernel
theorem dX5_advance_234 : decode cX5_advance 234 = .ok (.isub, 1) := by decide +kernel
theorem dX5_advance_235 : decode cX5_advance 235 = .ok (.putfield 84, 3) := by decide +kernel
theorem dX5_advance_238 : decode cX5_advance 238 = .ok (.iinc 1 1, 3) := by decide +kernel
theorem dX5_advance_241 : decode cX5_advance 241 = .ok (.goto (-32), 3) := by decide +kernel
theorem dX5_advance_244 : decode cX5_advance 244 = .ok (.return_, 1) := by decide +kernel
theorem dX5_kindOf_0 : decode cX5_kindOf 0 = .ok (.iload_n 0, 1) := by decide +kernel
theorem dX5_kindOf_1 : decode cX5_kindOf 1 = .ok (.bipush 97, 2) := by decide +kernel
theorem dX5_kindOf_3 : decode cX5_kindOf 3 = .ok (.if_icmp .lt 11, 3) := by decide +kernel
theorem dX5_kindOf_6 : decode cX5_kindOf 6 = .ok (.iload_n 0, 1) := by decide +kernel
theorem dX5_kindOf_7 : decode cX5_kindOf 7 = .ok (.bipush 122, 2) := by decide +kernel
theorem dX5_kindOf_9 : decode cX5_kindOf 9 = .ok (.if_icmp .gt 5, 3) := by decide +kernel
theorem dX5_kindOf_12 : decode cX5_kindOf 12 = .ok (.iconst 1, 1) := by decide +kernel
theorem dX5_kindOf_13 : decode cX5_kindOf 13 = .ok (.ireturn, 1) := by decide +kernel
theorem dX5_kindOf_14 : decode cX5_kindOf 14 = .ok (.iload_n 0, 1) := by decide +kernel
theorem dX5_kindOf_15 : decode cX5_kindOf 15 = .ok (.bipush 48, 2) := by decide +kernel
theorem dX5_kindOf_17 : decode cX5_kindOf 17 = .ok (.if_icmp .lt 11, 3) := by decide +kernel
theorem dX5_kindOf_20 : decode cX5_kindOf 20 = .ok (.iload_n 0, 1) := by decide +kernel
theorem dX5_kindOf_21 : decode cX5_kindOf 21 = .ok (.bipush 57, 2) := by decide +kernel
theorem dX5_kindOf_23 : decode cX5_kindOf 23 = .ok (.if_icmp .gt 5, 3) := by decide +kernel
theorem dX5_kindOf_26 : decode cX5_kindOf 26 = .ok (.iconst 2, 1) := by decide +kernel
theorem dX5_kindOf_27 : decode cX5_kindOf 27 = .ok (.ireturn, 1) := by decide +kernel
theorem dX5_kindOf_28 : decode cX5_kindOf 28 = .ok (.iload_n 0, 1) := by decide +kernel
theorem dX5_kindOf_29 : decode cX5_kindOf 29 = .ok (.bipush 59, 2) := by decide +kernel
theorem dX5_kindOf_31 : decode cX5_kindOf 31 = .ok (.if_icmp .ne 7, 3) := by decide +kernel
theorem dX5_kindOf_34 : decode cX5_kindOf 34 = .ok (.iconst 3, 1) := by decide +kernel
theorem dX5_kindOf_35 : decode cX5_kindOf 35 = .ok (.goto 4, 3) := by decide +kernel
theorem dX5_kindOf_38 : decode cX5_kindOf 38 = .ok (.iconst 4, 1) := by decide +kernel
theorem dX5_kindOf_39 : decode cX5_kindOf 39 = .ok (.ireturn, 1) := by decide +kernel
theorem dX5_isName_0 : decode cX5_isName 0 = .ok (.aload_n 0, 1) := by decide +kernel
theorem dX5_isName_1 : decode cX5_isName 1 = .ok (.getfield 64, 3) := by decide +kernel
theorem dX5_isName_4 : decode cX5_isName 4 = .ok (.iconst 1, 1) := by decide +kernel
theorem dX5_isName_5 : decode cX5_isName 5 = .ok (.if_icmp .ne 19, 3) := by decide +kernel
theorem dX5_isName_8 : decode cX5_isName 8 = .ok (.aload_n 0, 1) := by decide +kernel
theorem dX5_isName_9 : decode cX5_isName 9 = .ok (.getfield 41, 3) := by decide +kernel
theorem dX5_isName_12 : decode cX5_isName 12 = .ok (.aload_n 0, 1) := by decide +kernel
theorem dX5_isName_13 : decode cX5_isName 13 = .ok (.getfield 70, 3) := by decide +kernel
theorem dX5_isName_16 : decode cX5_isName 16 = .ok (.isub, 1) := by decide +kernel
theorem dX5_isName_17 : decode cX5_isName 17 = .ok (.aload_n 1, 1) := by decide +kernel
theorem dX5_isName_18 : decode cX5_isName 18 = .ok (.invokevirtual 87, 3) := by decide +kernel
theorem dX5_isName_21 : decode cX5_isName 21 = .ok (.if_icmp .eq 5, 3) := by decide +kernel
theorem dX5_isName_24 : decode cX5_isName 24 = .ok (.iconst 0, 1) := by decide +kernel
theorem dX5_isName_25 : decode cX5_isName 25 = .ok (.ireturn, 1) := by decide +kernel
theorem dX5_isName_26 : decode cX5_isName 26 = .ok (.iconst 0, 1) := by decide +kernel
theorem dX5_isName_27 : decode cX5_isName 27 = .ok (.istore_n 2, 1) := by decide +kernel
theorem dX5_isName_28 : decode cX5_isName 28 = .ok (.iload_n 2, 1) := by decide +kernel
theorem dX5_isName_29 : decode cX5_isName 29 = .ok (.aload_n 1, 1) := by decide +kernel
theorem dX5_isName_30 : decode cX5_isName 30 = .ok (.invokevirtual 87, 3) := by decide +kernel
theorem dX5_isName_33 : decode cX5_isName 33 = .ok (.if_icmp .ge 44, 3) := by decide +kernel
theorem dX5_isName_36 : decode cX5_isName 36 = .ok (.aload_n 0, 1) := by decide +kernel
theorem dX5_isName_37 : decode cX5_isName 37 = .ok (.getfield 70, 3) := by decide +kernel
theorem dX5_isName_40 : decode cX5_isName 40 = .ok (.iload_n 2, 1) := by decide +kernel
theorem dX5_isName_41 : decode cX5_isName 41 = .ok (.iadd, 1) := by decide +kernel
theorem dX5_isName_42 : decode cX5_isName 42 = .ok (.aload_n 0, 1) := by decide +kernel
theorem dX5_isName_43 : decode cX5_isName 43 = .ok (.getfield 19, 3) := by decide +kernel
theorem dX5_isName_46 : decode cX5_isName 46 = .ok (.arraylength, 1) := by decide +kernel
theorem dX5_isName_47 : decode cX5_isName 47 = .ok (.if_icmp .ge 22, 3) := by decide +kernel
theorem dX5_isName_50 : decode cX5_isName 50 = .ok (.aload_n 0, 1) := by decide +kernel
theorem dX5_isName_51 : decode cX5_isName 51 = .ok (.getfield 19, 3) := by decide +kernel
theorem dX5_isName_54 : decode cX5_isName 54 = .ok (.aload_n 0, 1) := by decide +kernel
theorem dX5_isName_55 : decode cX5_isName 55 = .ok (.getfield 70, 3) := by decide +kernel
theorem dX5_isName_58 : decode cX5_isName 58 = .ok (.iload_n 2, 1) := by decide +kernel
theorem dX5_isName_59 : decode cX5_isName 59 = .ok (.iadd, 1) := by decide +kernel
theorem dX5_isName_60 : decode cX5_isName 60 = .ok (.iaload, 1) := by decide +kernel
theorem dX5_isName_61 : decode cX5_isName 61 = .ok (.aload_n 1, 1) := by decide +kernel
theorem dX5_isName_62 : decode cX5_isName 62 = .ok (.iload_n 2, 1) := by decide +kernel
theorem dX5_isName_63 : decode cX5_isName 63 = .ok (.invokevirtual 93, 3) := by decide +kernel
theorem dX5_isName_66 : decode cX5_isName 66 = .ok (.if_icmp .eq 5, 3) := by decide +kernel
theorem dX5_isName_69 : decode cX5_isName 69 = .ok (.iconst 0, 1) := by decide +kernel
theorem dX5_isName_70 : decode cX5_isName 70 = .ok (.ireturn, 1) := by decide +kernel
theorem dX5_isName_71 : decode cX5_isName 71 = .ok (.iinc 2 1, 3) := by decide +kernel
theorem dX5_isName_74 : decode cX5_isName 74 = .ok (.goto (-46), 3) := by decide +kernel
theorem dX5_isName_77 : decode cX5_isName 77 = .ok (.iconst 1, 1) := by decide +kernel
theorem dX5_isName_78 : decode cX5_isName 78 = .ok (.ireturn, 1) := by decide +kernel
theorem dX5_takeName_0 : decode cX5_takeName 0 = .ok (.aload_n 0, 1) := by decide +kernel
theorem dX5_takeName_1 : decode cX5_takeName 1 = .ok (.aload_n 1, 1) := by decide +kernel
theorem dX5_takeName_2 : decode cX5_takeName 2 = .ok (.invokevirtual 97, 3) := by decide +kernel
theorem dX5_takeName_5 : decode cX5_takeName 5 = .ok (.ifCond .ne 13, 3) := by decide +kernel
theorem dX5_takeName_8 : decode cX5_takeName 8 = .ok (.aload_n 0, 1) := by decide +kernel
theorem dX5_takeName_9 : decode cX5_takeName 9 = .ok (.iconst 1, 1) := by decide +kernel
theorem dX5_takeName_10 : decode cX5_takeName 10 = .ok (.aload_n 0, 1) := by decide +kernel
theorem dX5_takeName_11 : decode cX5_takeName 11 = .ok (.getfield 70, 3) := by decide +kernel
theorem dX5_takeName_14 : decode cX5_takeName 14 = .ok (.invokevirtual 73, 3) := by decide +kernel
theorem dX5_takeName_17 : decode cX5_takeName 17 = .ok (.ireturn, 1) := by decide +kernel
theorem dX5_takeName_18 : decode cX5_takeName 18 = .ok (.aload_n 0, 1) := by decide +kernel
theorem dX5_takeName_19 : decode cX5_takeName 19 = .ok (.invokevirtual 57, 3) := by decide +kernel
theorem dX5_takeName_22 : decode cX5_takeName 22 = .ok (.iconst 1, 1) := by decide +kernel
theorem dX5_takeName_23 : decode cX5_takeName 23 = .ok (.ireturn, 1) := by decide +kernel
theorem dX5_takeWhole_0 : decode cX5_takeWhole 0 = .ok (.aload_n 0, 1) := by decide +kernel
theorem dX5_takeWhole_1 : decode cX5_takeWhole 1 = .ok (.getfield 64, 3) := by decide +kernel
theorem dX5_takeWhole_4 : decode cX5_takeWhole 4 = .ok (.iconst 2, 1) := by decide +kernel
theorem dX5_takeWhole_5 : decode cX5_takeWhole 5 = .ok (.if_icmp .eq 13, 3) := by decide +kernel
theorem dX5_takeWhole_8 : decode cX5_takeWhole 8 = .ok (.aload_n 0, 1) := by decide +kernel
theorem dX5_takeWhole_9 : decode cX5_takeWhole 9 = .ok (.iconst 1, 1) := by decide +kernel
theorem dX5_takeWhole_10 : decode cX5_takeWhole 10 = .ok (.aload_n 0, 1) := by decide +kernel
theorem dX5_takeWhole_11 : decode cX5_takeWhole 11 = .ok (.getfield 70, 3) := by decide +kernel
theorem dX5_takeWhole_14 : decode cX5_takeWhole 14 = .ok (.invokevirtual 73, 3) := by decide +kernel
theorem dX5_takeWhole_17 : decode cX5_takeWhole 17 = .ok (.ireturn, 1) := by decide +kernel
theorem dX5_takeWhole_18 : decode cX5_takeWhole 18 = .ok (.aload_n 0, 1) := by decide +kernel
theorem dX5_takeWhole_19 : decode cX5_takeWhole 19 = .ok (.getfield 84, 3) := by decide +kernel
theorem dX5_takeWhole_22 : decode cX5_takeWhole 22 = .ok (.iload_n 1, 1) := by decide +kernel
theorem dX5_takeWhole_23 : decode cX5_takeWhole 23 = .ok (.if_icmp .lt 11, 3) := by decide +kernel
theorem dX5_takeWhole_26 : decode cX5_takeWhole 26 = .ok (.aload_n 0, 1) := by decide +kernel
theorem dX5_takeWhole_27 : decode cX5_takeWhole 27 = .ok (.getfield 84, 3) := by decide +kernel
theorem dX5_takeWhole_30 : decode cX5_takeWhole 30 = .ok (.iload_n 2, 1) := by decide +kernel
theorem dX5_takeWhole_31 : decode cX5_takeWhole 31 = .ok (.if_icmp .le 13, 3) := by decide +kernel
theorem dX5_takeWhole_34 : decode cX5_takeWhole 34 = .ok (.aload_n 0, 1) := by decide +kernel
theorem dX5_takeWhole_35 : decode cX5_takeWhole 35 = .ok (.iconst 2, 1) := by decide +kernel
theorem dX5_takeWhole_36 : decode cX5_takeWhole 36 = .ok (.aload_n 0, 1) := by decide +kernel
theorem dX5_takeWhole_37 : decode cX5_takeWhole 37 = .ok (.getfield 70, 3) := by decide +kernel
theorem dX5_takeWhole_40 : decode cX5_takeWhole 40 = .ok (.invokevirtual 73, 3) := by decide +kernel
theorem dX5_takeWhole_43 : decode cX5_takeWhole 43 = .ok (.ireturn, 1) := by decide +kernel
theorem dX5_takeWhole_44 : decode cX5_takeWhole 44 = .ok (.aload_n 0, 1) := by decide +kernel
theorem dX5_takeWhole_45 : decode cX5_takeWhole 45 = .ok (.invokevirtual 57, 3) := by decide +kernel
theorem dX5_takeWhole_48 : decode cX5_takeWhole 48 = .ok (.iconst 1, 1) := by decide +kernel
theorem dX5_takeWhole_49 : decode cX5_takeWhole 49 = .ok (.ireturn, 1) := by decide +kernel
theorem dX5_takeSetting_0 : decode cX5_takeSetting 0 = .ok (.aload_n 0, 1) := by decide +kernel
theorem dX5_takeSetting_1 : decode cX5_takeSetting 1 = .ok (.aload_n 1, 1) := by decide +kernel
theorem dX5_takeSetting_2 : decode cX5_takeSetting 2 = .ok (.invokevirtual 101, 3) := by decide +kernel
theorem dX5_takeSetting_5 : decode cX5_takeSetting 5 = .ok (.ifCond .ne 5, 3) := by decide +kernel
theorem dX5_takeSetting_8 : decode cX5_takeSetting 8 = .ok (.iconst (-1), 1) := by decide +kernel
theorem dX5_takeSetting_9 : decode cX5_takeSetting 9 = .ok (.ireturn, 1) := by decide +kernel
theorem dX5_takeSetting_10 : decode cX5_takeSetting 10 = .ok (.aload_n 0, 1) := by decide +kernel
theorem dX5_takeSetting_11 : decode cX5_takeSetting 11 = .ok (.getfield 84, 3) := by decide +kernel
theorem dX5_takeSetting_14 : decode cX5_takeSetting 14 = .ok (.istore 4, 2) := by decide +kernel
theorem dX5_takeSetting_16 : decode cX5_takeSetting 16 = .ok (.aload_n 0, 1) := by decide +kernel
theorem dX5_takeSetting_17 : decode cX5_takeSetting 17 = .ok (.getfield 64, 3) := by decide +kernel
theorem dX5_takeSetting_20 : decode cX5_takeSetting 20 = .ok (.iconst 2, 1) := by decide +kernel
theorem dX5_takeSetting_21 : decode cX5_takeSetting 21 = .ok (.if_icmp .ne 25, 3) := by decide +kernel
theorem dX5_takeSetting_24 : decode cX5_takeSetting 24 = .ok (.iload_n 3, 1) := by decide +kernel
theorem dX5_takeSetting_25 : decode cX5_takeSetting 25 = .ok (.ifCond .eq 21, 3) := by decide +kernel
theorem dX5_takeSetting_28 : decode cX5_takeSetting 28 = .ok (.iload 4, 2) := by decide +kernel
theorem dX5_takeSetting_30 : decode cX5_takeSetting 30 = .ok (.iconst 3, 1) := by decide +kernel
theorem dX5_takeSetting_31 : decode cX5_takeSetting 31 = .ok (.if_icmp .ne 15, 3) := by decide +kernel
theorem dX5_takeSetting_34 : decode cX5_takeSetting 34 = .ok (.aload_n 0, 1) := by decide +kernel
theorem dX5_takeSetting_35 : decode cX5_takeSetting 35 = .ok (.iconst 2, 1) := by decide +kernel
theorem dX5_takeSetting_36 : decode cX5_takeSetting 36 = .ok (.aload_n 0, 1) := by decide +kernel
theorem dX5_takeSetting_37 : decode cX5_takeSetting 37 = .ok (.getfield 70, 3) := by decide +kernel
theorem dX5_takeSetting_40 : decode cX5_takeSetting 40 = .ok (.invokevirtual 73, 3) := by decide +kernel
theorem dX5_takeSetting_43 : decode cX5_takeSetting 43 = .ok (.pop, 1) := by decide +kernel
theorem dX5_takeSetting_44 : decode cX5_takeSetting 44 = .ok (.iconst (-1), 1) := by decide +kernel
theorem dX5_takeSetting_45 : decode cX5_takeSetting 45 = .ok (.ireturn, 1) := by decide +kernel
theorem dX5_takeSetting_46 : decode cX5_takeSetting 46 = .ok (.aload_n 0, 1) := by decide +kernel
theorem dX5_takeSetting_47 : decode cX5_takeSetting 47 = .ok (.iconst 1, 1) := by decide +kernel
theorem dX5_takeSetting_48 : decode cX5_takeSetting 48 = .ok (.iload_n 2, 1) := by decide +kernel
theorem dX5_takeSetting_49 : decode cX5_takeSetting 49 = .ok (.invokevirtual 104, 3) := by decide +kernel
theorem dX5_takeSetting_52 : decode cX5_takeSetting 52 = .ok (.ifCond .eq 8, 3) := by decide +kernel
theorem dX5_takeSetting_55 : decode cX5_takeSetting 55 = .ok (.iload 4, 2) := by decide +kernel
theorem dX5_takeSetting_57 : decode cX5_takeSetting 57 = .ok (.goto 4, 3) := by decide +kernel
theorem dX5_takeSetting_60 : decode cX5_takeSetting 60 = .ok (.iconst (-1), 1) := by decide +kernel
theorem dX5_takeSetting_61 : decode cX5_takeSetting 61 = .ok (.ireturn, 1) := by decide +kernel
theorem dX5_sortHere_0 : decode cX5_sortHere 0 = .ok (.aload_n 0, 1) := by decide +kernel
theorem dX5_sortHere_1 : decode cX5_sortHere 1 = .ok (.ldc 107, 2) := by decide +kernel
theorem dX5_sortHere_3 : decode cX5_sortHere 3 = .ok (.invokevirtual 97, 3) := by decide +kernel
theorem dX5_sortHere_6 : decode cX5_sortHere 6 = .ok (.ifCond .eq 5, 3) := by decide +kernel
theorem dX5_sortHere_9 : decode cX5_sortHere 9 = .ok (.iconst 0, 1) := by decide +kernel
theorem dX5_sortHere_10 : decode cX5_sortHere 10 = .ok (.ireturn, 1) := by decide +kernel
theorem dX5_sortHere_11 : decode cX5_sortHere 11 = .ok (.aload_n 0, 1) := by decide +kernel
theorem dX5_sortHere_12 : decode cX5_sortHere 12 = .ok (.ldc 109, 2) := by decide +kernel
theorem dX5_sortHere_14 : decode cX5_sortHere 14 = .ok (.invokevirtual 97, 3) := by decide +kernel
theorem dX5_sortHere_17 : decode cX5_sortHere 17 = .ok (.ifCond .eq 5, 3) := by decide +kernel
theorem dX5_sortHere_20 : decode cX5_sortHere 20 = .ok (.iconst 1, 1) := by decide +kernel
theorem dX5_sortHere_21 : decode cX5_sortHere 21 = .ok (.ireturn, 1) := by decide +kernel
theorem dX5_sortHere_22 : decode cX5_sortHere 22 = .ok (.aload_n 0, 1) := by decide +kernel
theorem dX5_sortHere_23 : decode cX5_sortHere 23 = .ok (.ldc 110, 2) := by decide +kernel
theorem dX5_sortHere_25 : decode cX5_sortHere 25 = .ok (.invokevirtual 97, 3) := by decide +kernel
theorem dX5_sortHere_28 : decode cX5_sortHere 28 = .ok (.ifCond .eq 5, 3) := by decide +kernel
theorem dX5_sortHere_31 : decode cX5_sortHere 31 = .ok (.iconst 2, 1) := by decide +kernel
theorem dX5_sortHere_32 : decode cX5_sortHere 32 = .ok (.ireturn, 1) := by decide +kernel
theorem dX5_sortHere_33 : decode cX5_sortHere 33 = .ok (.aload_n 0, 1) := by decide +kernel
theorem dX5_sortHere_34 : decode cX5_sortHere 34 = .ok (.ldc 112, 2) := by decide +kernel
theorem dX5_sortHere_36 : decode cX5_sortHere 36 = .ok (.invokevirtual 97, 3) := by decide +kernel
theorem dX5_sortHere_39 : decode cX5_sortHere 39 = .ok (.ifCond .eq 5, 3) := by decide +kernel
theorem dX5_sortHere_42 : decode cX5_sortHere 42 = .ok (.iconst 3, 1) := by decide +kernel
theorem dX5_sortHere_43 : decode cX5_sortHere 43 = .ok (.ireturn, 1) := by decide +kernel
theorem dX5_sortHere_44 : decode cX5_sortHere 44 = .ok (.aload_n 0, 1) := by decide +kernel
theorem dX5_sortHere_45 : decode cX5_sortHere 45 = .ok (.ldc 114, 2) := by decide +kernel
theorem dX5_sortHere_47 : decode cX5_sortHere 47 = .ok (.invokevirtual 97, 3) := by decide +kernel
theorem dX5_sortHere_50 : decode cX5_sortHere 50 = .ok (.ifCond .eq 5, 3) := by decide +kernel
theorem dX5_sortHere_53 : decode cX5_sortHere 53 = .ok (.iconst 4, 1) := by decide +kernel
theorem dX5_sortHere_54 : decode cX5_sortHere 54 = .ok (.ireturn, 1) := by decide +kernel
theorem dX5_sortHere_55 : decode cX5_sortHere 55 = .ok (.aload_n 0, 1) := by decide +kernel
theorem dX5_sortHere_56 : decode cX5_sortHere 56 = .ok (.ldc 116, 2) := by decide +kernel
theorem dX5_sortHere_58 : decode cX5_sortHere 58 = .ok (.invokevirtual 97, 3) := by decide +kernel
theorem dX5_sortHere_61 : decode cX5_sortHere 61 = .ok (.ifCond .eq 5, 3) := by decide +kernel
theorem dX5_sortHere_64 : decode cX5_sortHere 64 = .ok (.iconst 5, 1) := by decide +kernel
theorem dX5_sortHere_65 : decode cX5_sortHere 65 = .ok (.ireturn, 1) := by decide +kernel
theorem dX5_sortHere_66 : decode cX5_sortHere 66 = .ok (.aload_n 0, 1) := by decide +kernel
theorem dX5_sortHere_67 : decode cX5_sortHere 67 = .ok (.ldc 118, 2) := by decide +kernel
theorem dX5_sortHere_69 : decode cX5_sortHere 69 = .ok (.invokevirtual 97, 3) := by decide +kernel
theorem dX5_sortHere_72 : decode cX5_sortHere 72 = .ok (.ifCond .eq 6, 3) := by decide +kernel
theorem dX5_sortHere_75 : decode cX5_sortHere 75 = .ok (.bipush 6, 2) := by decide +kernel
theorem dX5_sortHere_77 : decode cX5_sortHere 77 = .ok (.ireturn, 1) := by decide +kernel
theorem dX5_sortHere_78 : decode cX5_sortHere 78 = .ok (.aload_n 0, 1) := by decide +kernel
theorem dX5_sortHere_79 : decode cX5_sortHere 79 = .ok (.ldc 120, 2) := by decide +kernel
theorem dX5_sortHere_81 : decode cX5_sortHere 81 = .ok (.invokevirtual 97, 3) := by decide +kernel
theorem dX5_sortHere_84 : decode cX5_sortHere 84 = .ok (.ifCond .eq 6, 3) := by decide +kernel
theorem dX5_sortHere_87 : decode cX5_sortHere 87 = .ok (.bipush 7, 2) := by decide +kernel
theorem dX5_sortHere_89 : decode cX5_sortHere 89 = .ok (.ireturn, 1) := by decide +kernel
theorem dX5_sortHere_90 : decode cX5_sortHere 90 = .ok (.aload_n 0, 1) := by decide +kernel
theorem dX5_sortHere_91 : decode cX5_sortHere 91 = .ok (.ldc 122, 2) := by decide +kernel
theorem dX5_sortHere_93 : decode cX5_sortHere 93 = .ok (.invokevirtual 97, 3) := by decide +kernel
theorem dX5_sortHere_96 : decode cX5_sortHere 96 = .ok (.ifCond .eq 6, 3) := by decide +kernel
theorem dX5_sortHere_99 : decode cX5_sortHere 99 = .ok (.bipush 8, 2) := by decide +kernel
theorem dX5_sortHere_101 : decode cX5_sortHere 101 = .ok (.ireturn, 1) := by decide +kernel
theorem dX5_sortHere_102 : decode cX5_sortHere 102 = .ok (.aload_n 0, 1) := by decide +kernel
theorem dX5_sortHere_103 : decode cX5_sortHere 103 = .ok (.ldc 124, 2) := by decide +kernel
theorem dX5_sortHere_105 : decode cX5_sortHere 105 = .ok (.invokevirtual 97, 3) := by decide +kernel
theorem dX5_sortHere_108 : decode cX5_sortHere 108 = .ok (.ifCond .eq 8, 3) := by decide +kernel
theorem dX5_sortHere_111 : decode cX5_sortHere 111 = .ok (.bipush 9, 2) := by decide +kernel
theorem dX5_sortHere_113 : decode cX5_sortHere 113 = .ok (.goto 4, 3) := by decide +kernel
theorem dX5_sortHere_116 : decode cX5_sortHere 116 = .ok (.iconst (-1), 1) := by decide +kernel
theorem dX5_sortHere_117 : decode cX5_sortHere 117 = .ok (.ireturn, 1) := by decide +kernel
theorem dX5_readLine_0 : decode cX5_readLine 0 = .ok (.aload_n 0, 1) := by decide +kernel
theorem dX5_readLine_1 : decode cX5_readLine 1 = .ok (.invokevirtual 126, 3) := by decide +kernel
theorem dX5_readLine_4 : decode cX5_readLine 4 = .ok (.istore_n 1, 1) := by decide +kernel
theorem dX5_readLine_5 : decode cX5_readLine 5 = .ok (.iload_n 1, 1) := by decide +kernel
theorem dX5_readLine_6 : decode cX5_readLine 6 = .ok (.iconst (-1), 1) := by decide +kernel
theorem dX5_readLine_7 : decode cX5_readLine 7 = .ok (.if_icmp .ne 13, 3) := by decide +kernel
theorem dX5_readLine_10 : decode cX5_readLine 10 = .ok (.aload_n 0, 1) := by decide +kernel
theorem dX5_readLine_11 : decode cX5_readLine 11 = .ok (.iconst 1, 1) := by decide +kernel
theorem dX5_readLine_12 : decode cX5_readLine 12 = .ok (.aload_n 0, 1) := by decide +kernel
theorem dX5_readLine_13 : decode cX5_readLine 13 = .ok (.getfield 70, 3) := by decide +kernel
theorem dX5_readLine_16 : decode cX5_readLine 16 = .ok (.invokevirtual 73, 3) := by decide +kernel
theorem dX5_readLine_19 : decode cX5_readLine 19 = .ok (.ireturn, 1) := by decide +kernel
theorem dX5_readLine_20 : decode cX5_readLine 20 = .ok (.iload_n 1, 1) := by decide +kernel
theorem dX5_readLine_21 : decode cX5_readLine 21 = .ok (.bipush 7, 2) := by decide +kernel
theorem dX5_readLine_23 : decode cX5_readLine 23 = .ok (.if_icmp .ne 8, 3) := by decide +kernel
theorem dX5_readLine_26 : decode cX5_readLine 26 = .ok (.aload_n 0, 1) := by decide +kernel
theorem dX5_readLine_27 : decode cX5_readLine 27 = .ok (.invokevirtual 129, 3) := by decide +kernel
theorem dX5_readLine_30 : decode cX5_readLine 30 = .ok (.ireturn, 1) := by decide +kernel
theorem dX5_readLine_31 : decode cX5_readLine 31 = .ok (.aload_n 0, 1) := by decide +kernel
theorem dX5_readLine_32 : decode cX5_readLine 32 = .ok (.getfield 44, 3) := by decide +kernel
theorem dX5_readLine_35 : decode cX5_readLine 35 = .ok (.ifCond .ne 13, 3) := by decide +kernel
theorem dX5_readLine_38 : decode cX5_readLine 38 = .ok (.aload_n 0, 1) := by decide +kernel
theorem dX5_readLine_39 : decode cX5_readLine 39 = .ok (.iconst 5, 1) := by decide +kernel
theorem dX5_readLine_40 : decode cX5_readLine 40 = .ok (.aload_n 0, 1) := by decide +kernel
theorem dX5_readLine_41 : decode cX5_readLine 41 = .ok (.getfield 70, 3) := by decide +kernel
theorem dX5_readLine_44 : decode cX5_readLine 44 = .ok (.invokevirtual 73, 3) := by decide +kernel
theorem dX5_readLine_47 : decode cX5_readLine 47 = .ok (.ireturn, 1) := by decide +kernel
theorem dX5_readLine_48 : decode cX5_readLine 48 = .ok (.iload_n 1, 1) := by decide +kernel
theorem dX5_readLine_49 : decode cX5_readLine 49 = .ok (.bipush 8, 2) := by decide +kernel
theorem dX5_readLine_51 : decode cX5_readLine 51 = .ok (.if_icmp .ne 8, 3) := by decide +kernel
theorem dX5_readLine_54 : decode cX5_readLine 54 = .ok (.aload_n 0, 1) := by decide +kernel
theorem dX5_readLine_55 : decode cX5_readLine 55 = .ok (.invokevirtual 132, 3) := by decide +kernel
theorem dX5_readLine_58 : decode cX5_readLine 58 = .ok (.ireturn, 1) := by decide +kernel
theorem dX5_readLine_59 : decode cX5_readLine 59 = .ok (.iload_n 1, 1) := by decide +kernel
theorem dX5_readLine_60 : decode cX5_readLine 60 = .ok (.bipush 9, 2) := by decide +kernel
theorem dX5_readLine_62 : decode cX5_readLine 62 = .ok (.if_icmp .ne 10, 3) := by decide +kernel
theorem dX5_readLine_65 : decode cX5_readLine 65 = .ok (.aload_n 0, 1) := by decide +kernel
theorem dX5_readLine_66 : decode cX5_readLine 66 = .ok (.invokevirtual 135, 3) := by decide +kernel
theorem dX5_readLine_69 : decode cX5_readLine 69 = .ok (.goto 8, 3) := by decide +kernel
theorem dX5_readLine_72 : decode cX5_readLine 72 = .ok (.aload_n 0, 1) := by decide +kernel
theorem dX5_readLine_73 : decode cX5_readLine 73 = .ok (.iload_n 1, 1) := by decide +kernel
theorem dX5_readLine_74 : decode cX5_readLine 74 = .ok (.invokevirtual 138, 3) := by decide +kernel
theorem dX5_readLine_77 : decode cX5_readLine 77 = .ok (.ireturn, 1) := by decide +kernel
theorem dX5_readMachine_0 : decode cX5_readMachine 0 = .ok (.aload_n 0, 1) := by decide +kernel
theorem dX5_readMachine_1 : decode cX5_readMachine 1 = .ok (.getfield 44, 3) := by decide +kernel
theorem dX5_readMachine_4 : decode cX5_readMachine 4 = .ok (.ifCond .eq 13, 3) := by decide +kernel
theorem dX5_readMachine_7 : decode cX5_readMachine 7 = .ok (.aload_n 0, 1) := by decide +kernel
theorem dX5_readMachine_8 : decode cX5_readMachine 8 = .ok (.iconst 3, 1) := by decide +kernel
theorem dX5_readMachine_9 : decode cX5_readMachine 9 = .ok (.aload_n 0, 1) := by decide +kernel
theorem dX5_readMachine_10 : decode cX5_readMachine 10 = .ok (.getfield 70, 3) := by decide +kernel
theorem dX5_readMachine_13 : decode cX5_readMachine 13 = .ok (.invokevirtual 73, 3) := by decide +kernel
theorem dX5_readMachine_16 : decode cX5_readMachine 16 = .ok (.ireturn, 1) := by decide +kernel
theorem dX5_readMachine_17 : decode cX5_readMachine 17 = .ok (.aload_n 0, 1) := by decide +kernel
theorem dX5_readMachine_18 : decode cX5_readMachine 18 = .ok (.iconst 1, 1) := by decide +kernel
theorem dX5_readMachine_19 : decode cX5_readMachine 19 = .ok (.putfield 44, 3) := by decide +kernel
theorem dX5_readMachine_22 : decode cX5_readMachine 22 = .ok (.aload_n 0, 1) := by decide +kernel
theorem dX5_readMachine_23 : decode cX5_readMachine 23 = .ok (.invokevirtual 57, 3) := by decide +kernel
theorem dX5_readMachine_26 : decode cX5_readMachine 26 = .ok (.aload_n 0, 1) := by decide +kernel
theorem dX5_readMachine_27 : decode cX5_readMachine 27 = .ok (.getfield 15, 3) := by decide +kernel
theorem dX5_readMachine_30 : decode cX5_readMachine 30 = .ok (.aload_n 0, 1) := by decide +kernel
theorem dX5_readMachine_31 : decode cX5_readMachine 31 = .ok (.ldc 142, 2) := by decide +kernel
theorem dX5_readMachine_33 : decode cX5_readMachine 33 = .ok (.iconst 4, 1) := by decide +kernel
theorem dX5_readMachine_34 : decode cX5_readMachine 34 = .ok (.iconst 1, 1) := by decide +kernel
theorem dX5_readMachine_35 : decode cX5_readMachine 35 = .ok (.invokevirtual 144, 3) := by decide +kernel
theorem dX5_readMachine_38 : decode cX5_readMachine 38 = .ok (.putfield 148, 3) := by decide +kernel
theorem dX5_readMachine_41 : decode cX5_readMachine 41 = .ok (.aload_n 0, 1) := by decide +kernel
theorem dX5_readMachine_42 : decode cX5_readMachine 42 = .ok (.getfield 15, 3) := by decide +kernel
theorem dX5_readMachine_45 : decode cX5_readMachine 45 = .ok (.getfield 148, 3) := by decide +kernel
theorem dX5_readMachine_48 : decode cX5_readMachine 48 = .ok (.iconst (-1), 1) := by decide +kernel
theorem dX5_readMachine_49 : decode cX5_readMachine 49 = .ok (.if_icmp .ne 5, 3) := by decide +kernel
theorem dX5_readMachine_52 : decode cX5_readMachine 52 = .ok (.iconst 0, 1) := by decide +kernel
theorem dX5_readMachine_53 : decode cX5_readMachine 53 = .ok (.ireturn, 1) := by decide +kernel
theorem dX5_readMachine_54 : decode cX5_readMachine 54 = .ok (.aload_n 0, 1) := by decide +kernel
theorem dX5_readMachine_55 : decode cX5_readMachine 55 = .ok (.getfield 15, 3) := by decide +kernel
theorem dX5_readMachine_58 : decode cX5_readMachine 58 = .ok (.aload_n 0, 1) := by decide +kernel
theorem dX5_readMachine_59 : decode cX5_readMachine 59 = .ok (.ldc 150, 2) := by decide +kernel
theorem dX5_readMachine_61 : decode cX5_readMachine 61 = .ok (.iconst 4, 1) := by decide +kernel
theorem dX5_readMachine_62 : decode cX5_readMachine 62 = .ok (.iconst 0, 1) := by decide +kernel
theorem dX5_readMachine_63 : decode cX5_readMachine 63 = .ok (.invokevirtual 144, 3) := by decide +kernel
theorem dX5_readMachine_66 : decode cX5_readMachine 66 = .ok (.putfield 152, 3) := by decide +kernel
theorem dX5_readMachine_69 : decode cX5_readMachine 69 = .ok (.aload_n 0, 1) := by decide +kernel
theorem dX5_readMachine_70 : decode cX5_readMachine 70 = .ok (.getfield 15, 3) := by decide +kernel
theorem dX5_readMachine_73 : decode cX5_readMachine 73 = .ok (.getfield 152, 3) := by decide +kernel
theorem dX5_readMachine_76 : decode cX5_readMachine 76 = .ok (.iconst (-1), 1) := by decide +kernel
theorem dX5_readMachine_77 : decode cX5_readMachine 77 = .ok (.if_icmp .ne 5, 3) := by decide +kernel
theorem dX5_readMachine_80 : decode cX5_readMachine 80 = .ok (.iconst 0, 1) := by decide +kernel
theorem dX5_readMachine_81 : decode cX5_readMachine 81 = .ok (.ireturn, 1) := by decide +kernel
theorem dX5_readMachine_82 : decode cX5_readMachine 82 = .ok (.aload_n 0, 1) := by decide +kernel
theorem dX5_readMachine_83 : decode cX5_readMachine 83 = .ok (.getfield 15, 3) := by decide +kernel
theorem dX5_readMachine_86 : decode cX5_readMachine 86 = .ok (.aload_n 0, 1) := by decide +kernel
theorem dX5_readMachine_87 : decode cX5_readMachine 87 = .ok (.ldc 154, 2) := by decide +kernel
theorem dX5_readMachine_89 : decode cX5_readMachine 89 = .ok (.iconst 4, 1) := by decide +kernel
theorem dX5_readMachine_90 : decode cX5_readMachine 90 = .ok (.iconst 1, 1) := by decide +kernel
theorem dX5_readMachine_91 : decode cX5_readMachine 91 = .ok (.invokevirtual 144, 3) := by decide +kernel
theorem dX5_readMachine_94 : decode cX5_readMachine 94 = .ok (.putfield 156, 3) := by decide +kernel
theorem dX5_readMachine_97 : decode cX5_readMachine 97 = .ok (.aload_n 0, 1) := by decide +kernel
theorem dX5_readMachine_98 : decode cX5_readMachine 98 = .ok (.getfield 15, 3) := by decide +kernel
theorem dX5_readMachine_101 : decode cX5_readMachine 101 = .ok (.getfield 156, 3) := by decide +kernel
theorem dX5_readMachine_104 : decode cX5_readMachine 104 = .ok (.iconst (-1), 1) := by decide +kernel
theorem dX5_readMachine_105 : decode cX5_readMachine 105 = .ok (.if_icmp .eq 19, 3) := by decide +kernel
theorem dX5_readMachine_108 : decode cX5_readMachine 108 = .ok (.aload_n 0, 1) := by decide +kernel
theorem dX5_readMachine_109 : decode cX5_readMachine 109 = .ok (.ldc 159, 2) := by decide +kernel
theorem dX5_readMachine_111 : decode cX5_readMachine 111 = .ok (.invokevirtual 101, 3) := by decide +kernel
theorem dX5_readMachine_114 : decode cX5_readMachine 114 = .ok (.ifCond .eq 10, 3) := by decide +kernel
theorem dX5_readMachine_117 : decode cX5_readMachine 117 = .ok (.aload_n 0, 1) := by decide +kernel
theorem dX5_readMachine_118 : decode cX5_readMachine 118 = .ok (.invokevirtual 161, 3) := by decide +kernel
theorem dX5_readMachine_121 : decode cX5_readMachine 121 = .ok (.ifCond .ne 5, 3) := by decide +kernel
theorem dX5_readMachine_124 : decode cX5_readMachine 124 = .ok (.iconst 0, 1) := by decide +kernel
theorem dX5_readMachine_125 : decode cX5_readMachine 125 = .ok (.ireturn, 1) := by decide +kernel
theorem dX5_readMachine_126 : decode cX5_readMachine 126 = .ok (.aload_n 0, 1) := by decide +kernel
theorem dX5_readMachine_127 : decode cX5_readMachine 127 = .ok (.getfield 15, 3) := by decide +kernel
theorem dX5_readMachine_130 : decode cX5_readMachine 130 = .ok (.aload_n 0, 1) := by decide +kernel
theorem dX5_readMachine_131 : decode cX5_readMachine 131 = .ok (.ldc 164, 2) := by decide +kernel
theorem dX5_readMachine_133 : decode cX5_readMachine 133 = .ok (.bipush 9, 2) := by decide +kernel
theorem dX5_readMachine_135 : decode cX5_readMachine 135 = .ok (.iconst 0, 1) := by decide +kernel
theorem dX5_readMachine_136 : decode cX5_readMachine 136 = .ok (.invokevirtual 144, 3) := by decide +kernel
theorem dX5_readMachine_139 : decode cX5_readMachine 139 = .ok (.putfield 166, 3) := by decide +kernel
theorem dX5_readMachine_142 : decode cX5_readMachine 142 = .ok (.aload_n 0, 1) := by decide +kernel
theorem dX5_readMachine_143 : decode cX5_readMachine 143 = .ok (.getfield 15, 3) := by decide +kernel
theorem dX5_readMachine_146 : decode cX5_readMachine 146 = .ok (.getfield 166, 3) := by decide +kernel
theorem dX5_readMachine_149 : decode cX5_readMachine 149 = .ok (.iconst (-1), 1) := by decide +kernel
theorem dX5_readMachine_150 : decode cX5_readMachine 150 = .ok (.if_icmp .eq 7, 3) := by decide +kernel
theorem dX5_readMachine_153 : decode cX5_readMachine 153 = .ok (.iconst 1, 1) := by decide +kernel
theorem dX5_readMachine_154 : decode cX5_readMachine 154 = .ok (.goto 4, 3) := by decide +kernel
theorem dX5_readMachine_157 : decode cX5_readMachine 157 = .ok (.iconst 0, 1) := by decide +kernel
theorem dX5_readMachine_158 : decode cX5_readMachine 158 = .ok (.ireturn, 1) := by decide +kernel
theorem dX5_readRule_0 : decode cX5_readRule 0 = .ok (.aload_n 0, 1) := by decide +kernel
theorem dX5_readRule_1 : decode cX5_readRule 1 = .ok (.ldc 168, 2) := by decide +kernel
theorem dX5_readRule_3 : decode cX5_readRule 3 = .ok (.invokevirtual 97, 3) := by decide +kernel
theorem dX5_readRule_6 : decode cX5_readRule 6 = .ok (.ifCond .eq 14, 3) := by decide +kernel
theorem dX5_readRule_9 : decode cX5_readRule 9 = .ok (.aload_n 0, 1) := by decide +kernel
theorem dX5_readRule_10 : decode cX5_readRule 10 = .ok (.getfield 15, 3) := by decide +kernel
theorem dX5_readRule_13 : decode cX5_readRule 13 = .ok (.iconst 0, 1) := by decide +kernel
theorem dX5_readRule_14 : decode cX5_readRule 14 = .ok (.putfield 170, 3) := by decide +kernel
theorem dX5_readRule_17 : decode cX5_readRule 17 = .ok (.goto 53, 3) := by decide +kernel
theorem dX5_readRule_20 : decode cX5_readRule 20 = .ok (.aload_n 0, 1) := by decide +kernel
theorem dX5_readRule_21 : decode cX5_readRule 21 = .ok (.ldc 172, 2) := by decide +kernel
theorem dX5_readRule_23 : decode cX5_readRule 23 = .ok (.invokevirtual 97, 3) := by decide +kernel
theorem dX5_readRule_26 : decode cX5_readRule 26 = .ok (.ifCond .eq 14, 3) := by decide +kernel
theorem dX5_readRule_29 : decode cX5_readRule 29 = .ok (.aload_n 0, 1) := by decide +kernel
theorem dX5_readRule_30 : decode cX5_readRule 30 = .ok (.getfield 15, 3) := by decide +kernel
theorem dX5_readRule_33 : decode cX5_readRule 33 = .ok (.iconst 1, 1) := by decide +kernel
theorem dX5_readRule_34 : decode cX5_readRule 34 = .ok (.putfield 170, 3) := by decide +kernel
theorem dX5_readRule_37 : decode cX5_readRule 37 = .ok (.goto 33, 3) := by decide +kernel
theorem dX5_readRule_40 : decode cX5_readRule 40 = .ok (.aload_n 0, 1) := by decide +kernel
theorem dX5_readRule_41 : decode cX5_readRule 41 = .ok (.ldc 174, 2) := by decide +kernel
theorem dX5_readRule_43 : decode cX5_readRule 43 = .ok (.invokevirtual 97, 3) := by decide +kernel
theorem dX5_readRule_46 : decode cX5_readRule 46 = .ok (.ifCond .eq 14, 3) := by decide +kernel
theorem dX5_readRule_49 : decode cX5_readRule 49 = .ok (.aload_n 0, 1) := by decide +kernel
theorem dX5_readRule_50 : decode cX5_readRule 50 = .ok (.getfield 15, 3) := by decide +kernel
theorem dX5_readRule_53 : decode cX5_readRule 53 = .ok (.iconst 2, 1) := by decide +kernel
theorem dX5_readRule_54 : decode cX5_readRule 54 = .ok (.putfield 170, 3) := by decide +kernel
theorem dX5_readRule_57 : decode cX5_readRule 57 = .ok (.goto 13, 3) := by decide +kernel
theorem dX5_readRule_60 : decode cX5_readRule 60 = .ok (.aload_n 0, 1) := by decide +kernel
theorem dX5_readRule_61 : decode cX5_readRule 61 = .ok (.iconst 1, 1) := by decide +kernel
theorem dX5_readRule_62 : decode cX5_readRule 62 = .ok (.aload_n 0, 1) := by decide +kernel
theorem dX5_readRule_63 : decode cX5_readRule 63 = .ok (.getfield 70, 3) := by decide +kernel
theorem dX5_readRule_66 : decode cX5_readRule 66 = .ok (.invokevirtual 73, 3) := by decide +kernel
theorem dX5_readRule_69 : decode cX5_readRule 69 = .ok (.ireturn, 1) := by decide +kernel
theorem dX5_readRule_70 : decode cX5_readRule 70 = .ok (.aload_n 0, 1) := by decide +kernel
theorem dX5_readRule_71 : decode cX5_readRule 71 = .ok (.invokevirtual 57, 3) := by decide +kernel
theorem dX5_readRule_74 : decode cX5_readRule 74 = .ok (.iconst 1, 1) := by decide +kernel
theorem dX5_readRule_75 : decode cX5_readRule 75 = .ok (.ireturn, 1) := by decide +kernel
theorem dX5_readWord_0 : decode cX5_readWord 0 = .ok (.aload_n 0, 1) := by decide +kernel
theorem dX5_readWord_1 : decode cX5_readWord 1 = .ok (.getfield 15, 3) := by decide +kernel
theorem dX5_readWord_4 : decode cX5_readWord 4 = .ok (.getfield 176, 3) := by decide +kernel
theorem dX5_readWord_7 : decode cX5_readWord 7 = .ok (.bipush 12, 2) := by decide +kernel
theorem dX5_readWord_9 : decode cX5_readWord 9 = .ok (.if_icmp .lt 13, 3) := by decide +kernel
theorem dX5_readWord_12 : decode cX5_readWord 12 = .ok (.aload_n 0, 1) := by decide +kernel
theorem dX5_readWord_13 : decode cX5_readWord 13 = .ok (.iconst 4, 1) := by decide +kernel
theorem dX5_readWord_14 : decode cX5_readWord 14 = .ok (.aload_n 0, 1) := by decide +kernel
theorem dX5_readWord_15 : decode cX5_readWord 15 = .ok (.getfield 70, 3) := by decide +kernel
theorem dX5_readWord_18 : decode cX5_readWord 18 = .ok (.invokevirtual 73, 3) := by decide +kernel
theorem dX5_readWord_21 : decode cX5_readWord 21 = .ok (.ireturn, 1) := by decide +kernel
theorem dX5_readWord_22 : decode cX5_readWord 22 = .ok (.aload_n 0, 1) := by decide +kernel
theorem dX5_readWord_23 : decode cX5_readWord 23 = .ok (.invokevirtual 57, 3) := by decide +kernel
theorem dX5_readWord_26 : decode cX5_readWord 26 = .ok (.aload_n 0, 1) := by decide +kernel
theorem dX5_readWord_27 : decode cX5_readWord 27 = .ok (.getfield 84, 3) := by decide +kernel
theorem dX5_readWord_30 : decode cX5_readWord 30 = .ok (.istore_n 1, 1) := by decide +kernel
theorem dX5_readWord_31 : decode cX5_readWord 31 = .ok (.aload_n 0, 1) := by decide +kernel
theorem dX5_readWord_32 : decode cX5_readWord 32 = .ok (.getfield 70, 3) := by decide +kernel
theorem dX5_readWord_35 : decode cX5_readWord 35 = .ok (.istore_n 2, 1) := by decide +kernel
theorem dX5_readWord_36 : decode cX5_readWord 36 = .ok (.aload_n 0, 1) := by decide +kernel
theorem dX5_readWord_37 : decode cX5_readWord 37 = .ok (.iconst 0, 1) := by decide +kernel
theorem dX5_readWord_38 : decode cX5_readWord 38 = .ok (.aload_n 0, 1) := by decide +kernel
theorem dX5_readWord_39 : decode cX5_readWord 39 = .ok (.getfield 15, 3) := by decide +kernel
theorem dX5_readWord_42 : decode cX5_readWord 42 = .ok (.invokevirtual 179, 3) := by decide +kernel
theorem dX5_readWord_45 : decode cX5_readWord 45 = .ok (.iconst 1, 1) := by decide +kernel
theorem dX5_readWord_46 : decode cX5_readWord 46 = .ok (.isub, 1) := by decide +kernel
theorem dX5_readWord_47 : decode cX5_readWord 47 = .ok (.invokevirtual 104, 3) := by decide +kernel
theorem dX5_readWord_50 : decode cX5_readWord 50 = .ok (.ifCond .ne 5, 3) := by decide +kernel
theorem dX5_readWord_53 : decode cX5_readWord 53 = .ok (.iconst 0, 1) := by decide +kernel
theorem dX5_readWord_54 : decode cX5_readWord 54 = .ok (.ireturn, 1) := by decide +kernel
theorem dX5_readWord_55 : decode cX5_readWord 55 = .ok (.aload_n 0, 1) := by decide +kernel
theorem dX5_readWord_56 : decode cX5_readWord 56 = .ok (.getfield 15, 3) := by decide +kernel
theorem dX5_readWord_59 : decode cX5_readWord 59 = .ok (.iload_n 1, 1) := by decide +kernel
theorem dX5_readWord_60 : decode cX5_readWord 60 = .ok (.invokevirtual 182, 3) := by decide +kernel
theorem dX5_readWord_63 : decode cX5_readWord 63 = .ok (.ifCond .eq 12, 3) := by decide +kernel
theorem dX5_readWord_66 : decode cX5_readWord 66 = .ok (.aload_n 0, 1) := by decide +kernel
theorem dX5_readWord_67 : decode cX5_readWord 67 = .ok (.getfield 9, 3) := by decide +kernel
theorem dX5_readWord_70 : decode cX5_readWord 70 = .ok (.iload_n 1, 1) := by decide +kernel
theorem dX5_readWord_71 : decode cX5_readWord 71 = .ok (.baload, 1) := by decide +kernel
theorem dX5_readWord_72 : decode cX5_readWord 72 = .ok (.ifCond .eq 10, 3) := by decide +kernel
theorem dX5_readWord_75 : decode cX5_readWord 75 = .ok (.aload_n 0, 1) := by decide +kernel
theorem dX5_readWord_76 : decode cX5_readWord 76 = .ok (.iconst 3, 1) := by decide +kernel
theorem dX5_readWord_77 : decode cX5_readWord 77 = .ok (.iload_n 2, 1) := by decide +kernel
theorem dX5_readWord_78 : decode cX5_readWord 78 = .ok (.invokevirtual 73, 3) := by decide +kernel
theorem dX5_readWord_81 : decode cX5_readWord 81 = .ok (.ireturn, 1) := by decide +kernel
theorem dX5_readWord_82 : decode cX5_readWord 82 = .ok (.aload_n 0, 1) := by decide +kernel
theorem dX5_readWord_83 : decode cX5_readWord 83 = .ok (.getfield 84, 3) := by decide +kernel
theorem dX5_readWord_86 : decode cX5_readWord 86 = .ok (.istore_n 3, 1) := by decide +kernel
theorem dX5_readWord_87 : decode cX5_readWord 87 = .ok (.aload_n 0, 1) := by decide +kernel
theorem dX5_readWord_88 : decode cX5_readWord 88 = .ok (.iconst 0, 1) := by decide +kernel
theorem dX5_readWord_89 : decode cX5_readWord 89 = .ok (.sipush 999, 3) := by decide +kernel
theorem dX5_readWord_92 : decode cX5_readWord 92 = .ok (.invokevirtual 104, 3) := by decide +kernel
theorem dX5_readWord_95 : decode cX5_readWord 95 = .ok (.ifCond .ne 5, 3) := by decide +kernel
theorem dX5_readWord_98 : decode cX5_readWord 98 = .ok (.iconst 0, 1) := by decide +kernel
theorem dX5_readWord_99 : decode cX5_readWord 99 = .ok (.ireturn, 1) := by decide +kernel
theorem dX5_readWord_100 : decode cX5_readWord 100 = .ok (.aload_n 0, 1) := by decide +kernel
theorem dX5_readWord_101 : decode cX5_readWord 101 = .ok (.getfield 9, 3) := by decide +kernel
theorem dX5_readWord_104 : decode cX5_readWord 104 = .ok (.iload_n 1, 1) := by decide +kernel
theorem dX5_readWord_105 : decode cX5_readWord 105 = .ok (.iconst 1, 1) := by decide +kernel
theorem dX5_readWord_106 : decode cX5_readWord 106 = .ok (.bastore, 1) := by decide +kernel
theorem dX5_readWord_107 : decode cX5_readWord 107 = .ok (.aload_n 0, 1) := by decide +kernel
theorem dX5_readWord_108 : decode cX5_readWord 108 = .ok (.getfield 15, 3) := by decide +kernel
theorem dX5_readWord_111 : decode cX5_readWord 111 = .ok (.iload_n 1, 1) := by decide +kernel
theorem dX5_readWord_112 : decode cX5_readWord 112 = .ok (.iload_n 3, 1) := by decide +kernel
theorem dX5_readWord_113 : decode cX5_readWord 113 = .ok (.invokevirtual 185, 3) := by decide +kernel
theorem dX5_readWord_116 : decode cX5_readWord 116 = .ok (.iconst 1, 1) := by decide +kernel
theorem dX5_readWord_117 : decode cX5_readWord 117 = .ok (.ireturn, 1) := by decide +kernel
theorem dX5_readCore_0 : decode cX5_readCore 0 = .ok (.aload_n 0, 1) := by decide +kernel
theorem dX5_readCore_1 : decode cX5_readCore 1 = .ok (.getfield 15, 3) := by decide +kernel
theorem dX5_readCore_4 : decode cX5_readCore 4 = .ok (.getfield 77, 3) := by decide +kernel
theorem dX5_readCore_7 : decode cX5_readCore 7 = .ok (.iconst 4, 1) := by decide +kernel
theorem dX5_readCore_8 : decode cX5_readCore 8 = .ok (.if_icmp .lt 13, 3) := by decide +kernel
theorem dX5_readCore_11 : decode cX5_readCore 11 = .ok (.aload_n 0, 1) := by decide +kernel
theorem dX5_readCore_12 : decode cX5_readCore 12 = .ok (.iconst 4, 1) := by decide +kernel
theorem dX5_readCore_13 : decode cX5_readCore 13 = .ok (.aload_n 0, 1) := by decide +kernel
theorem dX5_readCore_14 : decode cX5_readCore 14 = .ok (.getfield 70, 3) := by decide +kernel
theorem dX5_readCore_17 : decode cX5_readCore 17 = .ok (.invokevirtual 73, 3) := by decide +kernel
theorem dX5_readCore_20 : decode cX5_readCore 20 = .ok (.ireturn, 1) := by decide +kernel
theorem dX5_readCore_21 : decode cX5_readCore 21 = .ok (.aload_n 0, 1) := by decide +kernel
theorem dX5_readCore_22 : decode cX5_readCore 22 = .ok (.getfield 48, 3) := by decide +kernel
theorem dX5_readCore_25 : decode cX5_readCore 25 = .ok (.ifCond .eq 14, 3) := by decide +kernel
theorem dX5_readCore_28 : decode cX5_readCore 28 = .ok (.aload_n 0, 1) := by decide +kernel
theorem dX5_readCore_29 : decode cX5_readCore 29 = .ok (.bipush 6, 2) := by decide +kernel
theorem dX5_readCore_31 : decode cX5_readCore 31 = .ok (.aload_n 0, 1) := by decide +kernel
theorem dX5_readCore_32 : decode cX5_readCore 32 = .ok (.getfield 70, 3) := by decide +kernel
theorem dX5_readCore_35 : decode cX5_readCore 35 = .ok (.invokevirtual 73, 3) := by decide +kernel
theorem dX5_readCore_38 : decode cX5_readCore 38 = .ok (.ireturn, 1) := by decide +kernel
theorem dX5_readCore_39 : decode cX5_readCore 39 = .ok (.aload_n 0, 1) := by decide +kernel
theorem dX5_readCore_40 : decode cX5_readCore 40 = .ok (.getfield 15, 3) := by decide +kernel
theorem dX5_readCore_43 : decode cX5_readCore 43 = .ok (.dup, 1) := by decide +kernel
theorem dX5_readCore_44 : decode cX5_readCore 44 = .ok (.getfield 77, 3) := by decide +kernel
theorem dX5_readCore_47 : decode cX5_readCore 47 = .ok (.iconst 1, 1) := by decide +kernel
theorem dX5_readCore_48 : decode cX5_readCore 48 = .ok (.iadd, 1) := by decide +kernel
theorem dX5_readCore_49 : decode cX5_readCore 49 = .ok (.putfield 77, 3) := by decide +kernel
theorem dX5_readCore_52 : decode cX5_readCore 52 = .ok (.aload_n 0, 1) := by decide +kernel
theorem dX5_readCore_53 : decode cX5_readCore 53 = .ok (.invokevirtual 57, 3) := by decide +kernel
theorem dX5_readCore_56 : decode cX5_readCore 56 = .ok (.iconst 1, 1) := by decide +kernel
theorem dX5_readCore_57 : decode cX5_readCore 57 = .ok (.ireturn, 1) := by decide +kernel
theorem dX5_readDeed_0 : decode cX5_readDeed 0 = .ok (.aload_n 0, 1) := by decide +kernel
theorem dX5_readDeed_1 : decode cX5_readDeed 1 = .ok (.getfield 15, 3) := by decide +kernel
theorem dX5_readDeed_4 : decode cX5_readDeed 4 = .ok (.getfield 77, 3) := by decide +kernel
theorem dX5_readDeed_7 : decode cX5_readDeed 7 = .ok (.iconst 1, 1) := by decide +kernel
theorem dX5_readDeed_8 : decode cX5_readDeed 8 = .ok (.isub, 1) := by decide +kernel
theorem dX5_readDeed_9 : decode cX5_readDeed 9 = .ok (.istore_n 2, 1) := by decide +kernel
theorem dX5_readDeed_10 : decode cX5_readDeed 10 = .ok (.aload_n 0, 1) := by decide +kernel
theorem dX5_readDeed_11 : decode cX5_readDeed 11 = .ok (.getfield 15, 3) := by decide +kernel
theorem dX5_readDeed_14 : decode cX5_readDeed 14 = .ok (.iload_n 2, 1) := by decide +kernel
theorem dX5_readDeed_15 : decode cX5_readDeed 15 = .ok (.invokevirtual 189, 3) := by decide +kernel
theorem dX5_readDeed_18 : decode cX5_readDeed 18 = .ok (.ifCond .eq 27, 3) := by decide +kernel
theorem dX5_readDeed_21 : decode cX5_readDeed 21 = .ok (.aload_n 0, 1) := by decide +kernel
theorem dX5_readDeed_22 : decode cX5_readDeed 22 = .ok (.getfield 15, 3) := by decide +kernel
theorem dX5_readDeed_25 : decode cX5_readDeed 25 = .ok (.getfield 192, 3) := by decide +kernel
theorem dX5_readDeed_28 : decode cX5_readDeed 28 = .ok (.iload_n 2, 1) := by decide +kernel
theorem dX5_readDeed_29 : decode cX5_readDeed 29 = .ok (.iaload, 1) := by decide +kernel
theorem dX5_readDeed_30 : decode cX5_readDeed 30 = .ok (.bipush 24, 2) := by decide +kernel
theorem dX5_readDeed_32 : decode cX5_readDeed 32 = .ok (.if_icmp .lt 13, 3) := by decide +kernel
theorem dX5_readDeed_35 : decode cX5_readDeed 35 = .ok (.aload_n 0, 1) := by decide +kernel
theorem dX5_readDeed_36 : decode cX5_readDeed 36 = .ok (.iconst 4, 1) := by decide +kernel
theorem dX5_readDeed_37 : decode cX5_readDeed 37 = .ok (.aload_n 0, 1) := by decide +kernel
theorem dX5_readDeed_38 : decode cX5_readDeed 38 = .ok (.getfield 70, 3) := by decide +kernel
theorem dX5_readDeed_41 : decode cX5_readDeed 41 = .ok (.invokevirtual 73, 3) := by decide +kernel
theorem dX5_readDeed_44 : decode cX5_readDeed 44 = .ok (.ireturn, 1) := by decide +kernel
theorem dX5_readDeed_45 : decode cX5_readDeed 45 = .ok (.aload_n 0, 1) := by decide +kernel
theorem dX5_readDeed_46 : decode cX5_readDeed 46 = .ok (.getfield 15, 3) := by decide +kernel
theorem dX5_readDeed_49 : decode cX5_readDeed 49 = .ok (.iload_n 2, 1) := by decide +kernel
theorem dX5_readDeed_50 : decode cX5_readDeed 50 = .ok (.invokevirtual 189, 3) := by decide +kernel
theorem dX5_readDeed_53 : decode cX5_readDeed 53 = .ok (.ifCond .ne 13, 3) := by decide +kernel
theorem dX5_readDeed_56 : decode cX5_readDeed 56 = .ok (.aload_n 0, 1) := by decide +kernel
theorem dX5_readDeed_57 : decode cX5_readDeed 57 = .ok (.iconst 5, 1) := by decide +kernel
theorem dX5_readDeed_58 : decode cX5_readDeed 58 = .ok (.aload_n 0, 1) := by decide +kernel
theorem dX5_readDeed_59 : decode cX5_readDeed 59 = .ok (.getfield 70, 3) := by decide +kernel
theorem dX5_readDeed_62 : decode cX5_readDeed 62 = .ok (.invokevirtual 73, 3) := by decide +kernel
theorem dX5_readDeed_65 : decode cX5_readDeed 65 = .ok (.ireturn, 1) := by decide +kernel
theorem dX5_readDeed_66 : decode cX5_readDeed 66 = .ok (.iload_n 1, 1) := by decide +kernel
theorem dX5_readDeed_67 : decode cX5_readDeed 67 = .ok (.iconst 1, 1) := by decide +kernel
theorem dX5_readDeed_68 : decode cX5_readDeed 68 = .ok (.if_icmp .eq 13, 3) := by decide +kernel
theorem dX5_readDeed_71 : decode cX5_readDeed 71 = .ok (.iload_n 1, 1) := by decide +kernel
theorem dX5_readDeed_72 : decode cX5_readDeed 72 = .ok (.iconst 3, 1) := by decide +kernel
theorem dX5_readDeed_73 : decode cX5_readDeed 73 = .ok (.if_icmp .eq 8, 3) := by decide +kernel
theorem dX5_readDeed_76 : decode cX5_readDeed 76 = .ok (.iload_n 1, 1) := by decide +kernel
theorem dX5_readDeed_77 : decode cX5_readDeed 77 = .ok (.iconst 4, 1) := by decide +kernel
theorem dX5_readDeed_78 : decode cX5_readDeed 78 = .ok (.if_icmp .ne 7, 3) := by decide +kernel
theorem dX5_readDeed_81 : decode cX5_readDeed 81 = .ok (.iconst 1, 1) := by decide +kernel
theorem dX5_readDeed_82 : decode cX5_readDeed 82 = .ok (.goto 4, 3) := by decide +kernel
theorem dX5_readDeed_85 : decode cX5_readDeed 85 = .ok (.iconst 0, 1) := by decide +kernel
theorem dX5_readDeed_86 : decode cX5_readDeed 86 = .ok (.istore_n 3, 1) := by decide +kernel
theorem dX5_readDeed_87 : decode cX5_readDeed 87 = .ok (.iload_n 1, 1) := by decide +kernel
theorem dX5_readDeed_88 : decode cX5_readDeed 88 = .ok (.ifCond .ne 10, 3) := by decide +kernel
theorem dX5_readDeed_91 : decode cX5_readDeed 91 = .ok (.aload_n 0, 1) := by decide +kernel
theorem dX5_readDeed_92 : decode cX5_readDeed 92 = .ok (.getfield 48, 3) := by decide +kernel
theorem dX5_readDeed_95 : decode cX5_readDeed 95 = .ok (.ifCond .ne 14, 3) := by decide +kernel
theorem dX5_readDeed_98 : decode cX5_readDeed 98 = .ok (.iload_n 3, 1) := by decide +kernel
theorem dX5_readDeed_99 : decode cX5_readDeed 99 = .ok (.ifCond .eq 21, 3) := by decide +kernel
theorem dX5_readDeed_102 : decode cX5_readDeed 102 = .ok (.aload_n 0, 1) := by decide +kernel
theorem dX5_readDeed_103 : decode cX5_readDeed 103 = .ok (.getfield 48, 3) := by decide +kernel
theorem dX5_readDeed_106 : decode cX5_readDeed 106 = .ok (.ifCond .ne 14, 3) := by decide +kernel
theorem dX5_readDeed_109 : decode cX5_readDeed 109 = .ok (.aload_n 0, 1) := by decide +kernel
theorem dX5_readDeed_110 : decode cX5_readDeed 110 = .ok (.bipush 6, 2) := by decide +kernel
theorem dX5_readDeed_112 : decode cX5_readDeed 112 = .ok (.aload_n 0, 1) := by decide +kernel
theorem dX5_readDeed_113 : decode cX5_readDeed 113 = .ok (.getfield 70, 3) := by decide +kernel
theorem dX5_readDeed_116 : decode cX5_readDeed 116 = .ok (.invokevirtual 73, 3) := by decide +kernel
theorem dX5_readDeed_119 : decode cX5_readDeed 119 = .ok (.ireturn, 1) := by decide +kernel
theorem dX5_readDeed_120 : decode cX5_readDeed 120 = .ok (.iload_n 1, 1) := by decide +kernel
theorem dX5_readDeed_121 : decode cX5_readDeed 121 = .ok (.ifCond .eq 8, 3) := by decide +kernel
theorem dX5_readDeed_124 : decode cX5_readDeed 124 = .ok (.iload_n 1, 1) := by decide +kernel
theorem dX5_readDeed_125 : decode cX5_readDeed 125 = .ok (.iconst 1, 1) := by decide +kernel
theorem dX5_readDeed_126 : decode cX5_readDeed 126 = .ok (.if_icmp .ne 16, 3) := by decide +kernel
theorem dX5_readDeed_129 : decode cX5_readDeed 129 = .ok (.aload_n 0, 1) := by decide +kernel
theorem dX5_readDeed_130 : decode cX5_readDeed 130 = .ok (.iload_n 1, 1) := by decide +kernel
theorem dX5_readDeed_131 : decode cX5_readDeed 131 = .ok (.ifCond .ne 7, 3) := by decide +kernel
theorem dX5_readDeed_134 : decode cX5_readDeed 134 = .ok (.iconst 1, 1) := by decide +kernel
theorem dX5_readDeed_135 : decode cX5_readDeed 135 = .ok (.goto 4, 3) := by decide +kernel
theorem dX5_readDeed_138 : decode cX5_readDeed 138 = .ok (.iconst 0, 1) := by decide +kernel
theorem dX5_readDeed_139 : decode cX5_readDeed 139 = .ok (.putfield 48, 3) := by decide +kernel
theorem dX5_readDeed_142 : decode cX5_readDeed 142 = .ok (.aload_n 0, 1) := by decide +kernel
theorem dX5_readDeed_143 : decode cX5_readDeed 143 = .ok (.invokevirtual 57, 3) := by decide +kernel
theorem dX5_readDeed_146 : decode cX5_readDeed 146 = .ok (.aload_n 0, 1) := by decide +kernel
theorem dX5_readDeed_147 : decode cX5_readDeed 147 = .ok (.iload_n 1, 1) := by decide +kernel
theorem dX5_readDeed_148 : decode cX5_readDeed 148 = .ok (.invokevirtual 195, 3) := by decide +kernel
theorem dX5_readDeed_151 : decode cX5_readDeed 151 = .ok (.ireturn, 1) := by decide +kernel
theorem dX5_readRest_0 : decode cX5_readRest 0 = .ok (.iload_n 1, 1) := by decide +kernel
theorem dX5_readRest_1 : decode cX5_readRest 1 = .ok (.iconst 3, 1) := by decide +kernel
theorem dX5_readRest_2 : decode cX5_readRest 2 = .ok (.if_icmp .eq 8, 3) := by decide +kernel
theorem dX5_readRest_5 : decode cX5_readRest 5 = .ok (.iload_n 1, 1) := by decide +kernel
theorem dX5_readRest_6 : decode cX5_readRest 6 = .ok (.iconst 4, 1) := by decide +kernel
theorem dX5_readRest_7 : decode cX5_readRest 7 = .ok (.if_icmp .ne 7, 3) := by decide +kernel
theorem dX5_readRest_10 : decode cX5_readRest 10 = .ok (.iconst 1, 1) := by decide +kernel
theorem dX5_readRest_11 : decode cX5_readRest 11 = .ok (.goto 4, 3) := by decide +kernel
theorem dX5_readRest_14 : decode cX5_readRest 14 = .ok (.iconst 0, 1) := by decide +kernel
theorem dX5_readRest_15 : decode cX5_readRest 15 = .ok (.istore_n 2, 1) := by decide +kernel
theorem dX5_readRest_16 : decode cX5_readRest 16 = .ok (.iload_n 2, 1) := by decide +kernel
theorem dX5_readRest_17 : decode cX5_readRest 17 = .ok (.ifCond .ne 27, 3) := by decide +kernel
theorem dX5_readRest_20 : decode cX5_readRest 20 = .ok (.iload_n 1, 1) := by decide +kernel
theorem dX5_readRest_21 : decode cX5_readRest 21 = .ok (.iconst 5, 1) := by decide +kernel
theorem dX5_readRest_22 : decode cX5_readRest 22 = .ok (.if_icmp .eq 22, 3) := by decide +kernel
theorem dX5_readRest_25 : decode cX5_readRest 25 = .ok (.iload_n 1, 1) := by decide +kernel
theorem dX5_readRest_26 : decode cX5_readRest 26 = .ok (.bipush 6, 2) := by decide +kernel
theorem dX5_readRest_28 : decode cX5_readRest 28 = .ok (.if_icmp .eq 16, 3) := by decide +kernel
theorem dX5_readRest_31 : decode cX5_readRest 31 = .ok (.aload_n 0, 1) := by decide +kernel
theorem dX5_readRest_32 : decode cX5_readRest 32 = .ok (.getfield 15, 3) := by decide +kernel
theorem dX5_readRest_35 : decode cX5_readRest 35 = .ok (.iload_n 1, 1) := by decide +kernel
theorem dX5_readRest_36 : decode cX5_readRest 36 = .ok (.bipush (-2), 2) := by decide +kernel
theorem dX5_readRest_38 : decode cX5_readRest 38 = .ok (.iconst 0, 1) := by decide +kernel
theorem dX5_readRest_39 : decode cX5_readRest 39 = .ok (.invokevirtual 198, 3) := by decide +kernel
theorem dX5_readRest_42 : decode cX5_readRest 42 = .ok (.iconst 1, 1) := by decide +kernel
theorem dX5_readRest_43 : decode cX5_readRest 43 = .ok (.ireturn, 1) := by decide +kernel
theorem dX5_readRest_44 : decode cX5_readRest 44 = .ok (.aload_n 0, 1) := by decide +kernel
theorem dX5_readRest_45 : decode cX5_readRest 45 = .ok (.getfield 84, 3) := by decide +kernel
theorem dX5_readRest_48 : decode cX5_readRest 48 = .ok (.istore_n 3, 1) := by decide +kernel
theorem dX5_readRest_49 : decode cX5_readRest 49 = .ok (.aload_n 0, 1) := by decide +kernel
theorem dX5_readRest_50 : decode cX5_readRest 50 = .ok (.iconst 0, 1) := by decide +kernel
theorem dX5_readRest_51 : decode cX5_readRest 51 = .ok (.iload_n 2, 1) := by decide +kernel
theorem dX5_readRest_52 : decode cX5_readRest 52 = .ok (.ifCond .eq 15, 3) := by decide +kernel
theorem dX5_readRest_55 : decode cX5_readRest 55 = .ok (.aload_n 0, 1) := by decide +kernel
theorem dX5_readRest_56 : decode cX5_readRest 56 = .ok (.getfield 15, 3) := by decide +kernel
theorem dX5_readRest_59 : decode cX5_readRest 59 = .ok (.invokevirtual 179, 3) := by decide +kernel
theorem dX5_readRest_62 : decode cX5_readRest 62 = .ok (.iconst 1, 1) := by decide +kernel
theorem dX5_readRest_63 : decode cX5_readRest 63 = .ok (.isub, 1) := by decide +kernel
theorem dX5_readRest_64 : decode cX5_readRest 64 = .ok (.goto 6, 3) := by decide +kernel
theorem dX5_readRest_67 : decode cX5_readRest 67 = .ok (.sipush 999, 3) := by decide +kernel
theorem dX5_readRest_70 : decode cX5_readRest 70 = .ok (.invokevirtual 104, 3) := by decide +kernel
theorem dX5_readRest_73 : decode cX5_readRest 73 = .ok (.ifCond .ne 5, 3) := by decide +kernel
theorem dX5_readRest_76 : decode cX5_readRest 76 = .ok (.iconst 0, 1) := by decide +kernel
theorem dX5_readRest_77 : decode cX5_readRest 77 = .ok (.ireturn, 1) := by decide +kernel
theorem dX5_readRest_78 : decode cX5_readRest 78 = .ok (.iload_n 2, 1) := by decide +kernel
theorem dX5_readRest_79 : decode cX5_readRest 79 = .ok (.ifCond .eq 16, 3) := by decide +kernel
theorem dX5_readRest_82 : decode cX5_readRest 82 = .ok (.aload_n 0, 1) := by decide +kernel
theorem dX5_readRest_83 : decode cX5_readRest 83 = .ok (.ldc 202, 2) := by decide +kernel
theorem dX5_readRest_85 : decode cX5_readRest 85 = .ok (.invokevirtual 97, 3) := by decide +kernel
theorem dX5_readRest_88 : decode cX5_readRest 88 = .ok (.ifCond .eq 7, 3) := by decide +kernel
theorem dX5_readRest_91 : decode cX5_readRest 91 = .ok (.iconst 1, 1) := by decide +kernel
theorem dX5_readRest_92 : decode cX5_readRest 92 = .ok (.goto 4, 3) := by decide +kernel
theorem dX5_readRest_95 : decode cX5_readRest 95 = .ok (.iconst 0, 1) := by decide +kernel
theorem dX5_readRest_96 : decode cX5_readRest 96 = .ok (.istore 4, 2) := by decide +kernel
theorem dX5_readRest_98 : decode cX5_readRest 98 = .ok (.iload 4, 2) := by decide +kernel
theorem dX5_readRest_100 : decode cX5_readRest 100 = .ok (.ifCond .eq 7, 3) := by decide +kernel
theorem dX5_readRest_103 : decode cX5_readRest 103 = .ok (.aload_n 0, 1) := by decide +kernel
theorem dX5_readRest_104 : decode cX5_readRest 104 = .ok (.invokevirtual 57, 3) := by decide +kernel
theorem dX5_readRest_107 : decode cX5_readRest 107 = .ok (.aload_n 0, 1) := by decide +kernel
theorem dX5_readRest_108 : decode cX5_readRest 108 = .ok (.getfield 15, 3) := by decide +kernel
theorem dX5_readRest_111 : decode cX5_readRest 111 = .ok (.iload_n 1, 1) := by decide +kernel
theorem dX5_readRest_112 : decode cX5_readRest 112 = .ok (.iload_n 3, 1) := by decide +kernel
theorem dX5_readRest_113 : decode cX5_readRest 113 = .ok (.iload 4, 2) := by decide +kernel
theorem dX5_readRest_115 : decode cX5_readRest 115 = .ok (.invokevirtual 198, 3) := by decide +kernel
theorem dX5_readRest_118 : decode cX5_readRest 118 = .ok (.iconst 1, 1) := by decide +kernel
theorem dX5_readRest_119 : decode cX5_readRest 119 = .ok (.ireturn, 1) := by decide +kernel
theorem dX6_init_0 : decode cX6_init 0 = .ok (.aload_n 0, 1) := by decide +kernel
theorem dX6_init_1 : decode cX6_init 1 = .ok (.invokespecial 3, 3) := by decide +kernel
theorem dX6_init_4 : decode cX6_init 4 = .ok (.aload_n 0, 1) := by decide +kernel
theorem dX6_init_5 : decode cX6_init 5 = .ok (.sipush 900, 3) := by decide +kernel
theorem dX6_init_8 : decode cX6_init 8 = .ok (.newarray .int, 2) := by decide +kernel
theorem dX6_init_10 : decode cX6_init 10 = .ok (.putfield 9, 3) := by decide +kernel
theorem dX6_init_13 : decode cX6_init 13 = .ok (.aload_n 0, 1) := by decide +kernel
theorem dX6_init_14 : decode cX6_init 14 = .ok (.new 13, 3) := by decide +kernel
theorem dX6_init_17 : decode cX6_init 17 = .ok (.dup, 1) := by decide +kernel
theorem dX6_init_18 : decode cX6_init 18 = .ok (.invokespecial 15, 3) := by decide +kernel
theorem dX6_init_21 : decode cX6_init 21 = .ok (.putfield 16, 3) := by decide +kernel
theorem dX6_init_24 : decode cX6_init 24 = .ok (.aload_n 0, 1) := by decide +kernel
theorem dX6_init_25 : decode cX6_init 25 = .ok (.new 13, 3) := by decide +kernel
theorem dX6_init_28 : decode cX6_init 28 = .ok (.dup, 1) := by decide +kernel
theorem dX6_init_29 : decode cX6_init 29 = .ok (.invokespecial 15, 3) := by decide +kernel
theorem dX6_init_32 : decode cX6_init 32 = .ok (.putfield 20, 3) := by decide +kernel
theorem dX6_init_35 : decode cX6_init 35 = .ok (.aload_n 0, 1) := by decide +kernel
theorem dX6_init_36 : decode cX6_init 36 = .ok (.new 23, 3) := by decide +kernel
theorem dX6_init_39 : decode cX6_init 39 = .ok (.dup, 1) := by decide +kernel
theorem dX6_init_40 : decode cX6_init 40 = .ok (.aload_n 0, 1) := by decide +kernel
theorem dX6_init_41 : decode cX6_init 41 = .ok (.getfield 20, 3) := by decide +kernel
theorem dX6_init_44 : decode cX6_init 44 = .ok (.aload_n 0, 1) := by decide +kernel
theorem dX6_init_45 : decode cX6_init 45 = .ok (.getfield 9, 3) := by decide +kernel
theorem dX6_init_48 : decode cX6_init 48 = .ok (.invokespecial 25, 3) := by decide +kernel
theorem dX6_init_51 : decode cX6_init 51 = .ok (.putfield 28, 3) := by decide +kernel
theorem dX6_init_54 : decode cX6_init 54 = .ok (.aload_n 0, 1) := by decide +kernel
theorem dX6_init_55 : decode cX6_init 55 = .ok (.new 32, 3) := by decide +kernel
theorem dX6_init_58 : decode cX6_init 58 = .ok (.dup, 1) := by decide +kernel
theorem dX6_init_59 : decode cX6_init 59 = .ok (.aload_n 0, 1) := by decide +kernel
theorem dX6_init_60 : decode cX6_init 60 = .ok (.getfield 16, 3) := by decide +kernel
theorem dX6_init_63 : decode cX6_init 63 = .ok (.invokespecial 34, 3) := by decide +kernel
theorem dX6_init_66 : decode cX6_init 66 = .ok (.putfield 37, 3) := by decide +kernel
theorem dX6_init_69 : decode cX6_init 69 = .ok (.aload_n 0, 1) := by decide +kernel
theorem dX6_init_70 : decode cX6_init 70 = .ok (.new 32, 3) := by decide +kernel
theorem dX6_init_73 : decode cX6_init 73 = .ok (.dup, 1) := by decide +kernel
theorem dX6_init_74 : decode cX6_init 74 = .ok (.aload_n 0, 1) := by decide +kernel
theorem dX6_init_75 : decode cX6_init 75 = .ok (.getfield 16, 3) := by decide +kernel
theorem dX6_init_78 : decode cX6_init 78 = .ok (.invokespecial 34, 3) := by decide +kernel
theorem dX6_init_81 : decode cX6_init 81 = .ok (.putfield 41, 3) := by decide +kernel
theorem dX6_init_84 : decode cX6_init 84 = .ok (.aload_n 0, 1) := by decide +kernel
theorem dX6_init_85 : decode cX6_init 85 = .ok (.new 32, 3) := by decide +kernel
theorem dX6_init_88 : decode cX6_init 88 = .ok (.dup, 1) := by decide +kernel
theorem dX6_init_89 : decode cX6_init 89 = .ok (.aload_n 0, 1) := by decide +kernel
theorem dX6_init_90 : decode cX6_init 90 = .ok (.getfield 16, 3) := by decide +kernel
theorem dX6_init_93 : decode cX6_init 93 = .ok (.invokespecial 34, 3) := by decide +kernel
theorem dX6_init_96 : decode cX6_init 96 = .ok (.putfield 44, 3) := by decide +kernel
theorem dX6_init_99 : decode cX6_init 99 = .ok (.aload_n 0, 1) := by decide +kernel
theorem dX6_init_100 : decode cX6_init 100 = .ok (.new 47, 3) := by decide +kernel
theorem dX6_init_103 : decode cX6_init 103 = .ok (.dup, 1) := by decide +kernel
theorem dX6_init_104 : decode cX6_init 104 = .ok (.aload_n 0, 1) := by decide +kernel
theorem dX6_init_105 : decode cX6_init 105 = .ok (.getfield 16, 3) := by decide +kernel
theorem dX6_init_108 : decode cX6_init 108 = .ok (.invokespecial 49, 3) := by decide +kernel
theorem dX6_init_111 : decode cX6_init 111 = .ok (.putfield 50, 3) := by decide +kernel
theorem dX6_init_114 : decode cX6_init 114 = .ok (.return_, 1) := by decide +kernel
theorem dX6_refuse_0 : decode cX6_refuse 0 = .ok (.aload_n 0, 1) := by decide +kernel
theorem dX6_refuse_1 : decode cX6_refuse 1 = .ok (.iload_n 1, 1) := by decide +kernel
theorem dX6_refuse_2 : decode cX6_refuse 2 = .ok (.putfield 54, 3) := by decide +kernel
theorem dX6_refuse_5 : decode cX6_refuse 5 = .ok (.iconst (-1), 1) := by decide +kernel
theorem dX6_refuse_6 : decode cX6_refuse 6 = .ok (.ireturn, 1) := by decide +kernel
theorem dX6_answer_0 : decode cX6_answer 0 = .ok (.aload_n 0, 1) := by decide +kernel
theorem dX6_answer_1 : decode cX6_answer 1 = .ok (.iconst 0, 1) := by decide +kernel
theorem dX6_answer_2 : decode cX6_answer 2 = .ok (.putfield 54, 3) := by decide +kernel
theorem dX6_answer_5 : decode cX6_answer 5 = .ok (.iload_n 1, 1) := by decide +kernel
theorem dX6_answer_6 : decode cX6_answer 6 = .ok (.ireturn, 1) := by decide +kernel
theorem dX6_asBit_0 : decode cX6_asBit 0 = .ok (.iload_n 0, 1) := by decide +kernel
theorem dX6_asBit_1 : decode cX6_asBit 1 = .ok (.ifCond .eq 7, 3) := by decide +kernel
theorem dX6_asBit_4 : decode cX6_asBit 4 = .ok (.iconst 1, 1) := by decide +kernel
theorem dX6_asBit_5 : decode cX6_asBit 5 = .ok (.goto 4, 3) := by decide +kernel
theorem dX6_asBit_8 : decode cX6_asBit 8 = .ok (.iconst 0, 1) := by decide +kernel
theorem dX6_asBit_9 : decode cX6_asBit 9 = .ok (.ireturn, 1) := by decide +kernel
theorem dX6_isWithin_0 : decode cX6_isWithin 0 = .ok (.iload_n 0, 1) := by decide +kernel
theorem dX6_isWithin_1 : decode cX6_isWithin 1 = .ok (.iload_n 1, 1) := by decide +kernel
theorem dX6_isWithin_2 : decode cX6_isWithin 2 = .ok (.if_icmp .lt 12, 3) := by decide +kernel
theorem dX6_isWithin_5 : decode cX6_isWithin 5 = .ok (.iload_n 0, 1) := by decide +kernel
theorem dX6_isWithin_6 : decode cX6_isWithin 6 = .ok (.iload_n 2, 1) := by decide +kernel
theorem dX6_isWithin_7 : decode cX6_isWithin 7 = .ok (.if_icmp .gt 7, 3) := by decide +kernel
theorem dX6_isWithin_10 : decode cX6_isWithin 10 = .ok (.iconst 1, 1) := by decide +kernel
theorem dX6_isWithin_11 : decode cX6_isWithin 11 = .ok (.goto 4, 3) := by decide +kernel
theorem dX6_isWithin_14 : decode cX6_isWithin 14 = .ok (.iconst 0, 1) := by decide +kernel
theorem dX6_isWithin_15 : decode cX6_isWithin 15 = .ok (.ireturn, 1) := by decide +kernel
