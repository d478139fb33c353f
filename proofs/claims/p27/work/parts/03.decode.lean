theorem dX0_init_0 : decode cX0_init 0 = .ok (.aload_n 0, 1) := by decide +kernel
theorem dX0_init_1 : decode cX0_init 1 = .ok (.invokespecial 3, 3) := by decide +kernel
theorem dX0_init_4 : decode cX0_init 4 = .ok (.aload_n 0, 1) := by decide +kernel
theorem dX0_init_5 : decode cX0_init 5 = .ok (.bipush 10, 2) := by decide +kernel
theorem dX0_init_7 : decode cX0_init 7 = .ok (.newarray .int, 2) := by decide +kernel
theorem dX0_init_9 : decode cX0_init 9 = .ok (.putfield 9, 3) := by decide +kernel
theorem dX0_init_12 : decode cX0_init 12 = .ok (.aload_n 0, 1) := by decide +kernel
theorem dX0_init_13 : decode cX0_init 13 = .ok (.aload_n 1, 1) := by decide +kernel
theorem dX0_init_14 : decode cX0_init 14 = .ok (.putfield 15, 3) := by decide +kernel
theorem dX0_init_17 : decode cX0_init 17 = .ok (.return_, 1) := by decide +kernel
theorem dX0_foresee_0 : decode cX0_foresee 0 = .ok (.aload_n 0, 1) := by decide +kernel
theorem dX0_foresee_1 : decode cX0_foresee 1 = .ok (.getfield 15, 3) := by decide +kernel
theorem dX0_foresee_4 : decode cX0_foresee 4 = .ok (.aload_n 1, 1) := by decide +kernel
theorem dX0_foresee_5 : decode cX0_foresee 5 = .ok (.invokevirtual 19, 3) := by decide +kernel
theorem dX0_foresee_8 : decode cX0_foresee 8 = .ok (.iconst 0, 1) := by decide +kernel
theorem dX0_foresee_9 : decode cX0_foresee 9 = .ok (.istore_n 3, 1) := by decide +kernel
theorem dX0_foresee_10 : decode cX0_foresee 10 = .ok (.iload_n 3, 1) := by decide +kernel
theorem dX0_foresee_11 : decode cX0_foresee 11 = .ok (.bipush 10, 2) := by decide +kernel
theorem dX0_foresee_13 : decode cX0_foresee 13 = .ok (.if_icmp .ge 30, 3) := by decide +kernel
theorem dX0_foresee_16 : decode cX0_foresee 16 = .ok (.aload_n 0, 1) := by decide +kernel
theorem dX0_foresee_17 : decode cX0_foresee 17 = .ok (.getfield 15, 3) := by decide +kernel
theorem dX0_foresee_20 : decode cX0_foresee 20 = .ok (.getfield 25, 3) := by decide +kernel
theorem dX0_foresee_23 : decode cX0_foresee 23 = .ok (.iload_n 3, 1) := by decide +kernel
theorem dX0_foresee_24 : decode cX0_foresee 24 = .ok (.aaload, 1) := by decide +kernel
theorem dX0_foresee_25 : decode cX0_foresee 25 = .ok (.iload_n 3, 1) := by decide +kernel
theorem dX0_foresee_26 : decode cX0_foresee 26 = .ok (.putfield 29, 3) := by decide +kernel
theorem dX0_foresee_29 : decode cX0_foresee 29 = .ok (.aload_n 0, 1) := by decide +kernel
theorem dX0_foresee_30 : decode cX0_foresee 30 = .ok (.getfield 9, 3) := by decide +kernel
theorem dX0_foresee_33 : decode cX0_foresee 33 = .ok (.iload_n 3, 1) := by decide +kernel
theorem dX0_foresee_34 : decode cX0_foresee 34 = .ok (.bipush (-9), 2) := by decide +kernel
theorem dX0_foresee_36 : decode cX0_foresee 36 = .ok (.iastore, 1) := by decide +kernel
theorem dX0_foresee_37 : decode cX0_foresee 37 = .ok (.iinc 3 1, 3) := by decide +kernel
theorem dX0_foresee_40 : decode cX0_foresee 40 = .ok (.goto (-30), 3) := by decide +kernel
theorem dX0_foresee_43 : decode cX0_foresee 43 = .ok (.aload_n 0, 1) := by decide +kernel
theorem dX0_foresee_44 : decode cX0_foresee 44 = .ok (.getfield 15, 3) := by decide +kernel
theorem dX0_foresee_47 : decode cX0_foresee 47 = .ok (.iload_n 2, 1) := by decide +kernel
theorem dX0_foresee_48 : decode cX0_foresee 48 = .ok (.invokevirtual 35, 3) := by decide +kernel
theorem dX0_foresee_51 : decode cX0_foresee 51 = .ok (.ifCond .eq 12, 3) := by decide +kernel
theorem dX0_foresee_54 : decode cX0_foresee 54 = .ok (.aload_n 0, 1) := by decide +kernel
theorem dX0_foresee_55 : decode cX0_foresee 55 = .ok (.getfield 15, 3) := by decide +kernel
theorem dX0_foresee_58 : decode cX0_foresee 58 = .ok (.iload_n 2, 1) := by decide +kernel
theorem dX0_foresee_59 : decode cX0_foresee 59 = .ok (.invokevirtual 39, 3) := by decide +kernel
theorem dX0_foresee_62 : decode cX0_foresee 62 = .ok (.pop, 1) := by decide +kernel
theorem dX0_foresee_63 : decode cX0_foresee 63 = .ok (.iconst 0, 1) := by decide +kernel
theorem dX0_foresee_64 : decode cX0_foresee 64 = .ok (.istore_n 3, 1) := by decide +kernel
theorem dX0_foresee_65 : decode cX0_foresee 65 = .ok (.iconst 0, 1) := by decide +kernel
theorem dX0_foresee_66 : decode cX0_foresee 66 = .ok (.istore 4, 2) := by decide +kernel
theorem dX0_foresee_68 : decode cX0_foresee 68 = .ok (.iload 4, 2) := by decide +kernel
theorem dX0_foresee_70 : decode cX0_foresee 70 = .ok (.bipush 10, 2) := by decide +kernel
theorem dX0_foresee_72 : decode cX0_foresee 72 = .ok (.if_icmp .ge 60, 3) := by decide +kernel
theorem dX0_foresee_75 : decode cX0_foresee 75 = .ok (.aload_n 0, 1) := by decide +kernel
theorem dX0_foresee_76 : decode cX0_foresee 76 = .ok (.getfield 15, 3) := by decide +kernel
theorem dX0_foresee_79 : decode cX0_foresee 79 = .ok (.invokevirtual 43, 3) := by decide +kernel
theorem dX0_foresee_82 : decode cX0_foresee 82 = .ok (.ifCond .eq 50, 3) := by decide +kernel
theorem dX0_foresee_85 : decode cX0_foresee 85 = .ok (.iload_n 3, 1) := by decide +kernel
theorem dX0_foresee_86 : decode cX0_foresee 86 = .ok (.aload_n 0, 1) := by decide +kernel
theorem dX0_foresee_87 : decode cX0_foresee 87 = .ok (.getfield 15, 3) := by decide +kernel
theorem dX0_foresee_90 : decode cX0_foresee 90 = .ok (.getfield 47, 3) := by decide +kernel
theorem dX0_foresee_93 : decode cX0_foresee 93 = .ok (.iadd, 1) := by decide +kernel
theorem dX0_foresee_94 : decode cX0_foresee 94 = .ok (.istore_n 3, 1) := by decide +kernel
theorem dX0_foresee_95 : decode cX0_foresee 95 = .ok (.aload_n 0, 1) := by decide +kernel
theorem dX0_foresee_96 : decode cX0_foresee 96 = .ok (.getfield 9, 3) := by decide +kernel
theorem dX0_foresee_99 : decode cX0_foresee 99 = .ok (.aload_n 0, 1) := by decide +kernel
theorem dX0_foresee_100 : decode cX0_foresee 100 = .ok (.getfield 15, 3) := by decide +kernel
theorem dX0_foresee_103 : decode cX0_foresee 103 = .ok (.getfield 25, 3) := by decide +kernel
theorem dX0_foresee_106 : decode cX0_foresee 106 = .ok (.aload_n 0, 1) := by decide +kernel
theorem dX0_foresee_107 : decode cX0_foresee 107 = .ok (.getfield 15, 3) := by decide +kernel
theorem dX0_foresee_110 : decode cX0_foresee 110 = .ok (.getfield 50, 3) := by decide +kernel
theorem dX0_foresee_113 : decode cX0_foresee 113 = .ok (.aaload, 1) := by decide +kernel
theorem dX0_foresee_114 : decode cX0_foresee 114 = .ok (.getfield 29, 3) := by decide +kernel
theorem dX0_foresee_117 : decode cX0_foresee 117 = .ok (.iload_n 3, 1) := by decide +kernel
theorem dX0_foresee_118 : decode cX0_foresee 118 = .ok (.iastore, 1) := by decide +kernel
theorem dX0_foresee_119 : decode cX0_foresee 119 = .ok (.aload_n 0, 1) := by decide +kernel
theorem dX0_foresee_120 : decode cX0_foresee 120 = .ok (.getfield 15, 3) := by decide +kernel
theorem dX0_foresee_123 : decode cX0_foresee 123 = .ok (.invokevirtual 53, 3) := by decide +kernel
theorem dX0_foresee_126 : decode cX0_foresee 126 = .ok (.iinc 4 1, 3) := by decide +kernel
theorem dX0_foresee_129 : decode cX0_foresee 129 = .ok (.goto (-61), 3) := by decide +kernel
theorem dX0_foresee_132 : decode cX0_foresee 132 = .ok (.return_, 1) := by decide +kernel
theorem dX1_init_0 : decode cX1_init 0 = .ok (.aload_n 0, 1) := by decide +kernel
theorem dX1_init_1 : decode cX1_init 1 = .ok (.invokespecial 3, 3) := by decide +kernel
theorem dX1_init_4 : decode cX1_init 4 = .ok (.aload_n 0, 1) := by decide +kernel
theorem dX1_init_5 : decode cX1_init 5 = .ok (.iconst 5, 1) := by decide +kernel
theorem dX1_init_6 : decode cX1_init 6 = .ok (.anewarray 9, 3) := by decide +kernel
theorem dX1_init_9 : decode cX1_init 9 = .ok (.putfield 11, 3) := by decide +kernel
theorem dX1_init_12 : decode cX1_init 12 = .ok (.iconst 0, 1) := by decide +kernel
theorem dX1_init_13 : decode cX1_init 13 = .ok (.istore_n 1, 1) := by decide +kernel
theorem dX1_init_14 : decode cX1_init 14 = .ok (.iload_n 1, 1) := by decide +kernel
theorem dX1_init_15 : decode cX1_init 15 = .ok (.iconst 5, 1) := by decide +kernel
theorem dX1_init_16 : decode cX1_init 16 = .ok (.if_icmp .ge 22, 3) := by decide +kernel
theorem dX1_init_19 : decode cX1_init 19 = .ok (.aload_n 0, 1) := by decide +kernel
theorem dX1_init_20 : decode cX1_init 20 = .ok (.getfield 11, 3) := by decide +kernel
theorem dX1_init_23 : decode cX1_init 23 = .ok (.iload_n 1, 1) := by decide +kernel
theorem dX1_init_24 : decode cX1_init 24 = .ok (.new 9, 3) := by decide +kernel
theorem dX1_init_27 : decode cX1_init 27 = .ok (.dup, 1) := by decide +kernel
theorem dX1_init_28 : decode cX1_init 28 = .ok (.invokespecial 17, 3) := by decide +kernel
theorem dX1_init_31 : decode cX1_init 31 = .ok (.aastore, 1) := by decide +kernel
theorem dX1_init_32 : decode cX1_init 32 = .ok (.iinc 1 1, 3) := by decide +kernel
theorem dX1_init_35 : decode cX1_init 35 = .ok (.goto (-21), 3) := by decide +kernel
theorem dX1_init_38 : decode cX1_init 38 = .ok (.return_, 1) := by decide +kernel
theorem dX1_record_0 : decode cX1_record 0 = .ok (.aload_n 0, 1) := by decide +kernel
theorem dX1_record_1 : decode cX1_record 1 = .ok (.getfield 18, 3) := by decide +kernel
theorem dX1_record_4 : decode cX1_record 4 = .ok (.iconst 5, 1) := by decide +kernel
theorem dX1_record_5 : decode cX1_record 5 = .ok (.if_icmp .lt 7, 3) := by decide +kernel
theorem dX1_record_8 : decode cX1_record 8 = .ok (.aload_n 0, 1) := by decide +kernel
theorem dX1_record_9 : decode cX1_record 9 = .ok (.invokevirtual 22, 3) := by decide +kernel
theorem dX1_record_12 : decode cX1_record 12 = .ok (.aload_n 0, 1) := by decide +kernel
theorem dX1_record_13 : decode cX1_record 13 = .ok (.getfield 11, 3) := by decide +kernel
theorem dX1_record_16 : decode cX1_record 16 = .ok (.aload_n 0, 1) := by decide +kernel
theorem dX1_record_17 : decode cX1_record 17 = .ok (.getfield 18, 3) := by decide +kernel
theorem dX1_record_20 : decode cX1_record 20 = .ok (.aaload, 1) := by decide +kernel
theorem dX1_record_21 : decode cX1_record 21 = .ok (.aload_n 1, 1) := by decide +kernel
theorem dX1_record_22 : decode cX1_record 22 = .ok (.invokevirtual 25, 3) := by decide +kernel
theorem dX1_record_25 : decode cX1_record 25 = .ok (.aload_n 0, 1) := by decide +kernel
theorem dX1_record_26 : decode cX1_record 26 = .ok (.dup, 1) := by decide +kernel
theorem dX1_record_27 : decode cX1_record 27 = .ok (.getfield 18, 3) := by decide +kernel
theorem dX1_record_30 : decode cX1_record 30 = .ok (.iconst 1, 1) := by decide +kernel
theorem dX1_record_31 : decode cX1_record 31 = .ok (.iadd, 1) := by decide +kernel
theorem dX1_record_32 : decode cX1_record 32 = .ok (.putfield 18, 3) := by decide +kernel
theorem dX1_record_35 : decode cX1_record 35 = .ok (.return_, 1) := by decide +kernel
theorem dX1_dropOldest_0 : decode cX1_dropOldest 0 = .ok (.aload_n 0, 1) := by decide +kernel
theorem dX1_dropOldest_1 : decode cX1_dropOldest 1 = .ok (.getfield 11, 3) := by decide +kernel
theorem dX1_dropOldest_4 : decode cX1_dropOldest 4 = .ok (.iconst 0, 1) := by decide +kernel
theorem dX1_dropOldest_5 : decode cX1_dropOldest 5 = .ok (.aaload, 1) := by decide +kernel
theorem dX1_dropOldest_6 : decode cX1_dropOldest 6 = .ok (.astore_n 1, 1) := by decide +kernel
theorem dX1_dropOldest_7 : decode cX1_dropOldest 7 = .ok (.iconst 1, 1) := by decide +kernel
theorem dX1_dropOldest_8 : decode cX1_dropOldest 8 = .ok (.istore_n 2, 1) := by decide +kernel
theorem dX1_dropOldest_9 : decode cX1_dropOldest 9 = .ok (.iload_n 2, 1) := by decide +kernel
theorem dX1_dropOldest_10 : decode cX1_dropOldest 10 = .ok (.iconst 5, 1) := by decide +kernel
theorem dX1_dropOldest_11 : decode cX1_dropOldest 11 = .ok (.if_icmp .ge 23, 3) := by decide +kernel
theorem dX1_dropOldest_14 : decode cX1_dropOldest 14 = .ok (.aload_n 0, 1) := by decide +kernel
theorem dX1_dropOldest_15 : decode cX1_dropOldest 15 = .ok (.getfield 11, 3) := by decide +kernel
theorem dX1_dropOldest_18 : decode cX1_dropOldest 18 = .ok (.iload_n 2, 1) := by decide +kernel
theorem dX1_dropOldest_19 : decode cX1_dropOldest 19 = .ok (.iconst 1, 1) := by decide +kernel
theorem dX1_dropOldest_20 : decode cX1_dropOldest 20 = .ok (.isub, 1) := by decide +kernel
theorem dX1_dropOldest_21 : decode cX1_dropOldest 21 = .ok (.aload_n 0, 1) := by decide +kernel
theorem dX1_dropOldest_22 : decode cX1_dropOldest 22 = .ok (.getfield 11, 3) := by decide +kernel
theorem dX1_dropOldest_25 : decode cX1_dropOldest 25 = .ok (.iload_n 2, 1) := by decide +kernel
theorem dX1_dropOldest_26 : decode cX1_dropOldest 26 = .ok (.aaload, 1) := by decide +kernel
theorem dX1_dropOldest_27 : decode cX1_dropOldest 27 = .ok (.aastore, 1) := by decide +kernel
theorem dX1_dropOldest_28 : decode cX1_dropOldest 28 = .ok (.iinc 2 1, 3) := by decide +kernel
theorem dX1_dropOldest_31 : decode cX1_dropOldest 31 = .ok (.goto (-22), 3) := by decide +kernel
theorem dX1_dropOldest_34 : decode cX1_dropOldest 34 = .ok (.aload_n 0, 1) := by decide +kernel
theorem dX1_dropOldest_35 : decode cX1_dropOldest 35 = .ok (.getfield 11, 3) := by decide +kernel
theorem dX1_dropOldest_38 : decode cX1_dropOldest 38 = .ok (.iconst 4, 1) := by decide +kernel
theorem dX1_dropOldest_39 : decode cX1_dropOldest 39 = .ok (.aload_n 1, 1) := by decide +kernel
theorem dX1_dropOldest_40 : decode cX1_dropOldest 40 = .ok (.aastore, 1) := by decide +kernel
theorem dX1_dropOldest_41 : decode cX1_dropOldest 41 = .ok (.aload_n 0, 1) := by decide +kernel
theorem dX1_dropOldest_42 : decode cX1_dropOldest 42 = .ok (.dup, 1) := by decide +kernel
theorem dX1_dropOldest_43 : decode cX1_dropOldest 43 = .ok (.getfield 18, 3) := by decide +kernel
theorem dX1_dropOldest_46 : decode cX1_dropOldest 46 = .ok (.iconst 1, 1) := by decide +kernel
theorem dX1_dropOldest_47 : decode cX1_dropOldest 47 = .ok (.isub, 1) := by decide +kernel
theorem dX1_dropOldest_48 : decode cX1_dropOldest 48 = .ok (.putfield 18, 3) := by decide +kernel
theorem dX1_dropOldest_51 : decode cX1_dropOldest 51 = .ok (.return_, 1) := by decide +kernel
theorem dX1_restoreLatest_0 : decode cX1_restoreLatest 0 = .ok (.aload_n 0, 1) := by decide +kernel
theorem dX1_restoreLatest_1 : decode cX1_restoreLatest 1 = .ok (.getfield 18, 3) := by decide +kernel
theorem dX1_restoreLatest_4 : decode cX1_restoreLatest 4 = .ok (.ifCond .le 26, 3) := by decide +kernel
theorem dX1_restoreLatest_7 : decode cX1_restoreLatest 7 = .ok (.aload_n 0, 1) := by decide +kernel
theorem dX1_restoreLatest_8 : decode cX1_restoreLatest 8 = .ok (.dup, 1) := by decide +kernel
theorem dX1_restoreLatest_9 : decode cX1_restoreLatest 9 = .ok (.getfield 18, 3) := by decide +kernel
theorem dX1_restoreLatest_12 : decode cX1_restoreLatest 12 = .ok (.iconst 1, 1) := by decide +kernel
theorem dX1_restoreLatest_13 : decode cX1_restoreLatest 13 = .ok (.isub, 1) := by decide +kernel
theorem dX1_restoreLatest_14 : decode cX1_restoreLatest 14 = .ok (.putfield 18, 3) := by decide +kernel
theorem dX1_restoreLatest_17 : decode cX1_restoreLatest 17 = .ok (.aload_n 1, 1) := by decide +kernel
theorem dX1_restoreLatest_18 : decode cX1_restoreLatest 18 = .ok (.aload_n 0, 1) := by decide +kernel
theorem dX1_restoreLatest_19 : decode cX1_restoreLatest 19 = .ok (.getfield 11, 3) := by decide +kernel
theorem dX1_restoreLatest_22 : decode cX1_restoreLatest 22 = .ok (.aload_n 0, 1) := by decide +kernel
theorem dX1_restoreLatest_23 : decode cX1_restoreLatest 23 = .ok (.getfield 18, 3) := by decide +kernel
theorem dX1_restoreLatest_26 : decode cX1_restoreLatest 26 = .ok (.aaload, 1) := by decide +kernel
theorem dX1_restoreLatest_27 : decode cX1_restoreLatest 27 = .ok (.invokevirtual 25, 3) := by decide +kernel
theorem dX1_restoreLatest_30 : decode cX1_restoreLatest 30 = .ok (.return_, 1) := by decide +kernel
theorem dX2_init_0 : decode cX2_init 0 = .ok (.aload_n 0, 1) := by decide +kernel
theorem dX2_init_1 : decode cX2_init 1 = .ok (.invokespecial 3, 3) := by decide +kernel
theorem dX2_init_4 : decode cX2_init 4 = .ok (.aload_n 0, 1) := by decide +kernel
theorem dX2_init_5 : decode cX2_init 5 = .ok (.bipush 12, 2) := by decide +kernel
theorem dX2_init_7 : decode cX2_init 7 = .ok (.newarray .int, 2) := by decide +kernel
theorem dX2_init_9 : decode cX2_init 9 = .ok (.putfield 9, 3) := by decide +kernel
theorem dX2_init_12 : decode cX2_init 12 = .ok (.return_, 1) := by decide +kernel
theorem dX2_add_0 : decode cX2_add 0 = .ok (.aload_n 0, 1) := by decide +kernel
theorem dX2_add_1 : decode cX2_add 1 = .ok (.getfield 15, 3) := by decide +kernel
theorem dX2_add_4 : decode cX2_add 4 = .ok (.bipush 12, 2) := by decide +kernel
theorem dX2_add_6 : decode cX2_add 6 = .ok (.if_icmp .ge 23, 3) := by decide +kernel
theorem dX2_add_9 : decode cX2_add 9 = .ok (.aload_n 0, 1) := by decide +kernel
theorem dX2_add_10 : decode cX2_add 10 = .ok (.getfield 9, 3) := by decide +kernel
theorem dX2_add_13 : decode cX2_add 13 = .ok (.aload_n 0, 1) := by decide +kernel
theorem dX2_add_14 : decode cX2_add 14 = .ok (.getfield 15, 3) := by decide +kernel
theorem dX2_add_17 : decode cX2_add 17 = .ok (.iload_n 1, 1) := by decide +kernel
theorem dX2_add_18 : decode cX2_add 18 = .ok (.iastore, 1) := by decide +kernel
theorem dX2_add_19 : decode cX2_add 19 = .ok (.aload_n 0, 1) := by decide +kernel
theorem dX2_add_20 : decode cX2_add 20 = .ok (.dup, 1) := by decide +kernel
theorem dX2_add_21 : decode cX2_add 21 = .ok (.getfield 15, 3) := by decide +kernel
theorem dX2_add_24 : decode cX2_add 24 = .ok (.iconst 1, 1) := by decide +kernel
theorem dX2_add_25 : decode cX2_add 25 = .ok (.iadd, 1) := by decide +kernel
theorem dX2_add_26 : decode cX2_add 26 = .ok (.putfield 15, 3) := by decide +kernel
theorem dX2_add_29 : decode cX2_add 29 = .ok (.return_, 1) := by decide +kernel
theorem dX2_copyFrom_0 : decode cX2_copyFrom 0 = .ok (.aload_n 0, 1) := by decide +kernel
theorem dX2_copyFrom_1 : decode cX2_copyFrom 1 = .ok (.aload_n 1, 1) := by decide +kernel
theorem dX2_copyFrom_2 : decode cX2_copyFrom 2 = .ok (.getfield 15, 3) := by decide +kernel
theorem dX2_copyFrom_5 : decode cX2_copyFrom 5 = .ok (.putfield 15, 3) := by decide +kernel
theorem dX2_copyFrom_8 : decode cX2_copyFrom 8 = .ok (.iconst 0, 1) := by decide +kernel
theorem dX2_copyFrom_9 : decode cX2_copyFrom 9 = .ok (.istore_n 2, 1) := by decide +kernel
theorem dX2_copyFrom_10 : decode cX2_copyFrom 10 = .ok (.iload_n 2, 1) := by decide +kernel
theorem dX2_copyFrom_11 : decode cX2_copyFrom 11 = .ok (.bipush 12, 2) := by decide +kernel
theorem dX2_copyFrom_13 : decode cX2_copyFrom 13 = .ok (.if_icmp .ge 21, 3) := by decide +kernel
theorem dX2_copyFrom_16 : decode cX2_copyFrom 16 = .ok (.aload_n 0, 1) := by decide +kernel
theorem dX2_copyFrom_17 : decode cX2_copyFrom 17 = .ok (.getfield 9, 3) := by decide +kernel
theorem dX2_copyFrom_20 : decode cX2_copyFrom 20 = .ok (.iload_n 2, 1) := by decide +kernel
theorem dX2_copyFrom_21 : decode cX2_copyFrom 21 = .ok (.aload_n 1, 1) := by decide +kernel
theorem dX2_copyFrom_22 : decode cX2_copyFrom 22 = .ok (.getfield 9, 3) := by decide +kernel
theorem dX2_copyFrom_25 : decode cX2_copyFrom 25 = .ok (.iload_n 2, 1) := by decide +kernel
theorem dX2_copyFrom_26 : decode cX2_copyFrom 26 = .ok (.iaload, 1) := by decide +kernel
theorem dX2_copyFrom_27 : decode cX2_copyFrom 27 = .ok (.iastore, 1) := by decide +kernel
theorem dX2_copyFrom_28 : decode cX2_copyFrom 28 = .ok (.iinc 2 1, 3) := by decide +kernel
theorem dX2_copyFrom_31 : decode cX2_copyFrom 31 = .ok (.goto (-21), 3) := by decide +kernel
theorem dX2_copyFrom_34 : decode cX2_copyFrom 34 = .ok (.return_, 1) := by decide +kernel
theorem dX2_lengthIn_0 : decode cX2_lengthIn 0 = .ok (.aload_n 0, 1) := by decide +kernel
theorem dX2_lengthIn_1 : decode cX2_lengthIn 1 = .ok (.getfield 15, 3) := by decide +kernel
theorem dX2_lengthIn_4 : decode cX2_lengthIn 4 = .ok (.ifCond .ne 5, 3) := by decide +kernel
theorem dX2_lengthIn_7 : decode cX2_lengthIn 7 = .ok (.iconst 0, 1) := by decide +kernel
theorem dX2_lengthIn_8 : decode cX2_lengthIn 8 = .ok (.ireturn, 1) := by decide +kernel
theorem dX2_lengthIn_9 : decode cX2_lengthIn 9 = .ok (.aload_n 0, 1) := by decide +kernel
theorem dX2_lengthIn_10 : decode cX2_lengthIn 10 = .ok (.getfield 15, 3) := by decide +kernel
theorem dX2_lengthIn_13 : decode cX2_lengthIn 13 = .ok (.iconst 1, 1) := by decide +kernel
theorem dX2_lengthIn_14 : decode cX2_lengthIn 14 = .ok (.isub, 1) := by decide +kernel
theorem dX2_lengthIn_15 : decode cX2_lengthIn 15 = .ok (.istore_n 2, 1) := by decide +kernel
theorem dX2_lengthIn_16 : decode cX2_lengthIn 16 = .ok (.iload_n 2, 1) := by decide +kernel
theorem dX2_lengthIn_17 : decode cX2_lengthIn 17 = .ok (.istore_n 3, 1) := by decide +kernel
theorem dX2_lengthIn_18 : decode cX2_lengthIn 18 = .ok (.iconst 0, 1) := by decide +kernel
theorem dX2_lengthIn_19 : decode cX2_lengthIn 19 = .ok (.istore 4, 2) := by decide +kernel
theorem dX2_lengthIn_21 : decode cX2_lengthIn 21 = .ok (.iload 4, 2) := by decide +kernel
theorem dX2_lengthIn_23 : decode cX2_lengthIn 23 = .ok (.aload_n 0, 1) := by decide +kernel
theorem dX2_lengthIn_24 : decode cX2_lengthIn 24 = .ok (.getfield 15, 3) := by decide +kernel
theorem dX2_lengthIn_27 : decode cX2_lengthIn 27 = .ok (.if_icmp .ge 22, 3) := by decide +kernel
theorem dX2_lengthIn_30 : decode cX2_lengthIn 30 = .ok (.iload_n 3, 1) := by decide +kernel
theorem dX2_lengthIn_31 : decode cX2_lengthIn 31 = .ok (.aload_n 0, 1) := by decide +kernel
theorem dX2_lengthIn_32 : decode cX2_lengthIn 32 = .ok (.getfield 9, 3) := by decide +kernel
theorem dX2_lengthIn_35 : decode cX2_lengthIn 35 = .ok (.iload 4, 2) := by decide +kernel
theorem dX2_lengthIn_37 : decode cX2_lengthIn 37 = .ok (.iaload, 1) := by decide +kernel
theorem dX2_lengthIn_38 : decode cX2_lengthIn 38 = .ok (.invokestatic 19, 3) := by decide +kernel
theorem dX2_lengthIn_41 : decode cX2_lengthIn 41 = .ok (.iadd, 1) := by decide +kernel
theorem dX2_lengthIn_42 : decode cX2_lengthIn 42 = .ok (.istore_n 3, 1) := by decide +kernel
theorem dX2_lengthIn_43 : decode cX2_lengthIn 43 = .ok (.iinc 4 1, 3) := by decide +kernel
theorem dX2_lengthIn_46 : decode cX2_lengthIn 46 = .ok (.goto (-25), 3) := by decide +kernel
theorem dX2_lengthIn_49 : decode cX2_lengthIn 49 = .ok (.iload_n 3, 1) := by decide +kernel
theorem dX2_lengthIn_50 : decode cX2_lengthIn 50 = .ok (.iload_n 1, 1) := by decide +kernel
theorem dX2_lengthIn_51 : decode cX2_lengthIn 51 = .ok (.imul, 1) := by decide +kernel
theorem dX2_lengthIn_52 : decode cX2_lengthIn 52 = .ok (.ireturn, 1) := by decide +kernel
theorem dX2_widthOf_0 : decode cX2_widthOf 0 = .ok (.iload_n 0, 1) := by decide +kernel
theorem dX2_widthOf_1 : decode cX2_widthOf 1 = .ok (.tableswitch 91 102 119 #[87, 91, 91, 87, 87, 91, 87, 89, 91, 91, 91, 91, 87, 91, 87, 91, 91, 89], 87) := by decide +kernel
theorem dX2_widthOf_88 : decode cX2_widthOf 88 = .ok (.iconst 2, 1) := by decide +kernel
theorem dX2_widthOf_89 : decode cX2_widthOf 89 = .ok (.ireturn, 1) := by decide +kernel
theorem dX2_widthOf_90 : decode cX2_widthOf 90 = .ok (.iconst 5, 1) := by decide +kernel
theorem dX2_widthOf_91 : decode cX2_widthOf 91 = .ok (.ireturn, 1) := by decide +kernel
theorem dX2_widthOf_92 : decode cX2_widthOf 92 = .ok (.iconst 4, 1) := by decide +kernel
theorem dX2_widthOf_93 : decode cX2_widthOf 93 = .ok (.ireturn, 1) := by decide +kernel
theorem dX3_init_0 : decode cX3_init 0 = .ok (.aload_n 0, 1) := by decide +kernel
theorem dX3_init_1 : decode cX3_init 1 = .ok (.invokespecial 1, 3) := by decide +kernel
theorem dX3_init_4 : decode cX3_init 4 = .ok (.aload_n 0, 1) := by decide +kernel
theorem dX3_init_5 : decode cX3_init 5 = .ok (.new 7, 3) := by decide +kernel
theorem dX3_init_8 : decode cX3_init 8 = .ok (.dup, 1) := by decide +kernel
theorem dX3_init_9 : decode cX3_init 9 = .ok (.invokespecial 9, 3) := by decide +kernel
theorem dX3_init_12 : decode cX3_init 12 = .ok (.putfield 10, 3) := by decide +kernel
theorem dX3_init_15 : decode cX3_init 15 = .ok (.return_, 1) := by decide +kernel
theorem dX3_copyFrom_0 : decode cX3_copyFrom 0 = .ok (.aload_n 0, 1) := by decide +kernel
theorem dX3_copyFrom_1 : decode cX3_copyFrom 1 = .ok (.getfield 10, 3) := by decide +kernel
theorem dX3_copyFrom_4 : decode cX3_copyFrom 4 = .ok (.aload_n 1, 1) := by decide +kernel
theorem dX3_copyFrom_5 : decode cX3_copyFrom 5 = .ok (.getfield 10, 3) := by decide +kernel
theorem dX3_copyFrom_8 : decode cX3_copyFrom 8 = .ok (.invokevirtual 16, 3) := by decide +kernel
theorem dX3_copyFrom_11 : decode cX3_copyFrom 11 = .ok (.aload_n 0, 1) := by decide +kernel
theorem dX3_copyFrom_12 : decode cX3_copyFrom 12 = .ok (.aload_n 1, 1) := by decide +kernel
theorem dX3_copyFrom_13 : decode cX3_copyFrom 13 = .ok (.getfield 20, 3) := by decide +kernel
theorem dX3_copyFrom_16 : decode cX3_copyFrom 16 = .ok (.putfield 20, 3) := by decide +kernel
theorem dX3_copyFrom_19 : decode cX3_copyFrom 19 = .ok (.aload_n 0, 1) := by decide +kernel
theorem dX3_copyFrom_20 : decode cX3_copyFrom 20 = .ok (.aload_n 1, 1) := by decide +kernel
theorem dX3_copyFrom_21 : decode cX3_copyFrom 21 = .ok (.getfield 24, 3) := by decide +kernel
theorem dX3_copyFrom_24 : decode cX3_copyFrom 24 = .ok (.putfield 24, 3) := by decide +kernel
theorem dX3_copyFrom_27 : decode cX3_copyFrom 27 = .ok (.aload_n 0, 1) := by decide +kernel
theorem dX3_copyFrom_28 : decode cX3_copyFrom 28 = .ok (.aload_n 1, 1) := by decide +kernel
theorem dX3_copyFrom_29 : decode cX3_copyFrom 29 = .ok (.getfield 27, 3) := by decide +kernel
theorem dX3_copyFrom_32 : decode cX3_copyFrom 32 = .ok (.putfield 27, 3) := by decide +kernel
theorem dX3_copyFrom_35 : decode cX3_copyFrom 35 = .ok (.aload_n 0, 1) := by decide +kernel
theorem dX3_copyFrom_36 : decode cX3_copyFrom 36 = .ok (.aload_n 1, 1) := by decide +kernel
theorem dX3_copyFrom_37 : decode cX3_copyFrom 37 = .ok (.getfield 30, 3) := by decide +kernel
theorem dX3_copyFrom_40 : decode cX3_copyFrom 40 = .ok (.putfield 30, 3) := by decide +kernel
theorem dX3_copyFrom_43 : decode cX3_copyFrom 43 = .ok (.aload_n 0, 1) := by decide +kernel
theorem dX3_copyFrom_44 : decode cX3_copyFrom 44 = .ok (.aload_n 1, 1) := by decide +kernel
theorem dX3_copyFrom_45 : decode cX3_copyFrom 45 = .ok (.getfield 33, 3) := by decide +kernel
theorem dX3_copyFrom_48 : decode cX3_copyFrom 48 = .ok (.putfield 33, 3) := by decide +kernel
theorem dX3_copyFrom_51 : decode cX3_copyFrom 51 = .ok (.return_, 1) := by decide +kernel
theorem dX3_nameLength_0 : decode cX3_nameLength 0 = .ok (.aload_n 0, 1) := by decide +kernel
theorem dX3_nameLength_1 : decode cX3_nameLength 1 = .ok (.getfield 10, 3) := by decide +kernel
theorem dX3_nameLength_4 : decode cX3_nameLength 4 = .ok (.aload_n 0, 1) := by decide +kernel
theorem dX3_nameLength_5 : decode cX3_nameLength 5 = .ok (.getfield 27, 3) := by decide +kernel
theorem dX3_nameLength_8 : decode cX3_nameLength 8 = .ok (.invokevirtual 37, 3) := by decide +kernel
theorem dX3_nameLength_11 : decode cX3_nameLength 11 = .ok (.ireturn, 1) := by decide +kernel
theorem dX3_effort_0 : decode cX3_effort 0 = .ok (.aload_n 0, 1) := by decide +kernel
theorem dX3_effort_1 : decode cX3_effort 1 = .ok (.getfield 10, 3) := by decide +kernel
theorem dX3_effort_4 : decode cX3_effort 4 = .ok (.getfield 41, 3) := by decide +kernel
theorem dX3_effort_7 : decode cX3_effort 7 = .ok (.aload_n 0, 1) := by decide +kernel
theorem dX3_effort_8 : decode cX3_effort 8 = .ok (.getfield 27, 3) := by decide +kernel
theorem dX3_effort_11 : decode cX3_effort 11 = .ok (.aload_n 0, 1) := by decide +kernel
theorem dX3_effort_12 : decode cX3_effort 12 = .ok (.getfield 30, 3) := by decide +kernel
theorem dX3_effort_15 : decode cX3_effort 15 = .ok (.iadd, 1) := by decide +kernel
theorem dX3_effort_16 : decode cX3_effort 16 = .ok (.imul, 1) := by decide +kernel
theorem dX3_effort_17 : decode cX3_effort 17 = .ok (.ireturn, 1) := by decide +kernel
theorem dX4_init_0 : decode cX4_init 0 = .ok (.aload_n 0, 1) := by decide +kernel
theorem dX4_init_1 : decode cX4_init 1 = .ok (.invokespecial 3, 3) := by decide +kernel
theorem dX4_init_4 : decode cX4_init 4 = .ok (.return_, 1) := by decide +kernel
theorem dX4_makeNew_0 : decode cX4_makeNew 0 = .ok (.aload_n 0, 1) := by decide +kernel
theorem dX4_makeNew_1 : decode cX4_makeNew 1 = .ok (.iload_n 1, 1) := by decide +kernel
theorem dX4_makeNew_2 : decode cX4_makeNew 2 = .ok (.putfield 9, 3) := by decide +kernel
theorem dX4_makeNew_5 : decode cX4_makeNew 5 = .ok (.aload_n 0, 1) := by decide +kernel
theorem dX4_makeNew_6 : decode cX4_makeNew 6 = .ok (.iload_n 2, 1) := by decide +kernel
theorem dX4_makeNew_7 : decode cX4_makeNew 7 = .ok (.putfield 15, 3) := by decide +kernel
theorem dX4_makeNew_10 : decode cX4_makeNew 10 = .ok (.aload_n 0, 1) := by decide +kernel
theorem dX4_makeNew_11 : decode cX4_makeNew 11 = .ok (.iconst 0, 1) := by decide +kernel
theorem dX4_makeNew_12 : decode cX4_makeNew 12 = .ok (.putfield 18, 3) := by decide +kernel
theorem dX4_makeNew_15 : decode cX4_makeNew 15 = .ok (.aload_n 0, 1) := by decide +kernel
theorem dX4_makeNew_16 : decode cX4_makeNew 16 = .ok (.iconst 0, 1) := by decide +kernel
theorem dX4_makeNew_17 : decode cX4_makeNew 17 = .ok (.putfield 21, 3) := by decide +kernel
theorem dX4_makeNew_20 : decode cX4_makeNew 20 = .ok (.aload_n 0, 1) := by decide +kernel
theorem dX4_makeNew_21 : decode cX4_makeNew 21 = .ok (.invokevirtual 24, 3) := by decide +kernel
theorem dX4_makeNew_24 : decode cX4_makeNew 24 = .ok (.return_, 1) := by decide +kernel
theorem dX4_copyFrom_0 : decode cX4_copyFrom 0 = .ok (.aload_n 0, 1) := by decide +kernel
theorem dX4_copyFrom_1 : decode cX4_copyFrom 1 = .ok (.aload_n 1, 1) := by decide +kernel
theorem dX4_copyFrom_2 : decode cX4_copyFrom 2 = .ok (.getfield 9, 3) := by decide +kernel
theorem dX4_copyFrom_5 : decode cX4_copyFrom 5 = .ok (.putfield 9, 3) := by decide +kernel
theorem dX4_copyFrom_8 : decode cX4_copyFrom 8 = .ok (.aload_n 0, 1) := by decide +kernel
theorem dX4_copyFrom_9 : decode cX4_copyFrom 9 = .ok (.aload_n 1, 1) := by decide +kernel
theorem dX4_copyFrom_10 : decode cX4_copyFrom 10 = .ok (.getfield 15, 3) := by decide +kernel
theorem dX4_copyFrom_13 : decode cX4_copyFrom 13 = .ok (.putfield 15, 3) := by decide +kernel
theorem dX4_copyFrom_16 : decode cX4_copyFrom 16 = .ok (.aload_n 0, 1) := by decide +kernel
theorem dX4_copyFrom_17 : decode cX4_copyFrom 17 = .ok (.aload_n 1, 1) := by decide +kernel
theorem dX4_copyFrom_18 : decode cX4_copyFrom 18 = .ok (.getfield 27, 3) := by decide +kernel
theorem dX4_copyFrom_21 : decode cX4_copyFrom 21 = .ok (.putfield 27, 3) := by decide +kernel
theorem dX4_copyFrom_24 : decode cX4_copyFrom 24 = .ok (.aload_n 0, 1) := by decide +kernel
theorem dX4_copyFrom_25 : decode cX4_copyFrom 25 = .ok (.aload_n 1, 1) := by decide +kernel
theorem dX4_copyFrom_26 : decode cX4_copyFrom 26 = .ok (.getfield 18, 3) := by decide +kernel
theorem dX4_copyFrom_29 : decode cX4_copyFrom 29 = .ok (.putfield 18, 3) := by decide +kernel
theorem dX4_copyFrom_32 : decode cX4_copyFrom 32 = .ok (.aload_n 0, 1) := by decide +kernel
theorem dX4_copyFrom_33 : decode cX4_copyFrom 33 = .ok (.aload_n 1, 1) := by decide +kernel
theorem dX4_copyFrom_34 : decode cX4_copyFrom 34 = .ok (.getfield 21, 3) := by decide +kernel
theorem dX4_copyFrom_37 : decode cX4_copyFrom 37 = .ok (.putfield 21, 3) := by decide +kernel
theorem dX4_copyFrom_40 : decode cX4_copyFrom 40 = .ok (.aload_n 0, 1) := by decide +kernel
theorem dX4_copyFrom_41 : decode cX4_copyFrom 41 = .ok (.aload_n 1, 1) := by decide +kernel
theorem dX4_copyFrom_42 : decode cX4_copyFrom 42 = .ok (.getfield 30, 3) := by decide +kernel
theorem dX4_copyFrom_45 : decode cX4_copyFrom 45 = .ok (.putfield 30, 3) := by decide +kernel
theorem dX4_copyFrom_48 : decode cX4_copyFrom 48 = .ok (.aload_n 0, 1) := by decide +kernel
theorem dX4_copyFrom_49 : decode cX4_copyFrom 49 = .ok (.aload_n 1, 1) := by decide +kernel
theorem dX4_copyFrom_50 : decode cX4_copyFrom 50 = .ok (.getfield 33, 3) := by decide +kernel
theorem dX4_copyFrom_53 : decode cX4_copyFrom 53 = .ok (.putfield 33, 3) := by decide +kernel
theorem dX4_copyFrom_56 : decode cX4_copyFrom 56 = .ok (.return_, 1) := by decide +kernel
theorem dX4_putIntoDrawer_0 : decode cX4_putIntoDrawer 0 = .ok (.aload_n 0, 1) := by decide +kernel
theorem dX4_putIntoDrawer_1 : decode cX4_putIntoDrawer 1 = .ok (.iconst 0, 1) := by decide +kernel
theorem dX4_putIntoDrawer_2 : decode cX4_putIntoDrawer 2 = .ok (.putfield 27, 3) := by decide +kernel
theorem dX4_putIntoDrawer_5 : decode cX4_putIntoDrawer 5 = .ok (.aload_n 0, 1) := by decide +kernel
theorem dX4_putIntoDrawer_6 : decode cX4_putIntoDrawer 6 = .ok (.bipush (-9), 2) := by decide +kernel
theorem dX4_putIntoDrawer_8 : decode cX4_putIntoDrawer 8 = .ok (.putfield 30, 3) := by decide +kernel
theorem dX4_putIntoDrawer_11 : decode cX4_putIntoDrawer 11 = .ok (.aload_n 0, 1) := by decide +kernel
theorem dX4_putIntoDrawer_12 : decode cX4_putIntoDrawer 12 = .ok (.bipush (-9), 2) := by decide +kernel
theorem dX4_putIntoDrawer_14 : decode cX4_putIntoDrawer 14 = .ok (.putfield 33, 3) := by decide +kernel
theorem dX4_putIntoDrawer_17 : decode cX4_putIntoDrawer 17 = .ok (.return_, 1) := by decide +kernel
theorem dX4_fixOn_0 : decode cX4_fixOn 0 = .ok (.aload_n 0, 1) := by decide +kernel
theorem dX4_fixOn_1 : decode cX4_fixOn 1 = .ok (.iconst 2, 1) := by decide +kernel
theorem dX4_fixOn_2 : decode cX4_fixOn 2 = .ok (.putfield 27, 3) := by decide +kernel
theorem dX4_fixOn_5 : decode cX4_fixOn 5 = .ok (.aload_n 0, 1) := by decide +kernel
theorem dX4_fixOn_6 : decode cX4_fixOn 6 = .ok (.iload_n 1, 1) := by decide +kernel
theorem dX4_fixOn_7 : decode cX4_fixOn 7 = .ok (.putfield 30, 3) := by decide +kernel
theorem dX4_fixOn_10 : decode cX4_fixOn 10 = .ok (.aload_n 0, 1) := by decide +kernel
theorem dX4_fixOn_11 : decode cX4_fixOn 11 = .ok (.iload_n 2, 1) := by decide +kernel
theorem dX4_fixOn_12 : decode cX4_fixOn 12 = .ok (.putfield 33, 3) := by decide +kernel
theorem dX4_fixOn_15 : decode cX4_fixOn 15 = .ok (.return_, 1) := by decide +kernel
theorem dX4_depthOf_0 : decode cX4_depthOf 0 = .ok (.iload_n 1, 1) := by decide +kernel
theorem dX4_depthOf_1 : decode cX4_depthOf 1 = .ok (.ifCond .ne 10, 3) := by decide +kernel
theorem dX4_depthOf_4 : decode cX4_depthOf 4 = .ok (.aload_n 0, 1) := by decide +kernel
theorem dX4_depthOf_5 : decode cX4_depthOf 5 = .ok (.getfield 18, 3) := by decide +kernel
theorem dX4_depthOf_8 : decode cX4_depthOf 8 = .ok (.goto 7, 3) := by decide +kernel
theorem dX4_depthOf_11 : decode cX4_depthOf 11 = .ok (.aload_n 0, 1) := by decide +kernel
theorem dX4_depthOf_12 : decode cX4_depthOf 12 = .ok (.getfield 21, 3) := by decide +kernel
theorem dX4_depthOf_15 : decode cX4_depthOf 15 = .ok (.ireturn, 1) := by decide +kernel
theorem dX4_isBlank_0 : decode cX4_isBlank 0 = .ok (.aload_n 0, 1) := by decide +kernel
theorem dX4_isBlank_1 : decode cX4_isBlank 1 = .ok (.iload_n 1, 1) := by decide +kernel
theorem dX4_isBlank_2 : decode cX4_isBlank 2 = .ok (.invokevirtual 36, 3) := by decide +kernel
theorem dX4_isBlank_5 : decode cX4_isBlank 5 = .ok (.ifCond .ne 7, 3) := by decide +kernel
theorem dX4_isBlank_8 : decode cX4_isBlank 8 = .ok (.iconst 1, 1) := by decide +kernel
theorem dX4_isBlank_9 : decode cX4_isBlank 9 = .ok (.goto 4, 3) := by decide +kernel
theorem dX4_isBlank_12 : decode cX4_isBlank 12 = .ok (.iconst 0, 1) := by decide +kernel
theorem dX4_isBlank_13 : decode cX4_isBlank 13 = .ok (.ireturn, 1) := by decide +kernel
theorem dX4_engrave_0 : decode cX4_engrave 0 = .ok (.iload_n 1, 1) := by decide +kernel
theorem dX4_engrave_1 : decode cX4_engrave 1 = .ok (.ifCond .ne 11, 3) := by decide +kernel
theorem dX4_engrave_4 : decode cX4_engrave 4 = .ok (.aload_n 0, 1) := by decide +kernel
theorem dX4_engrave_5 : decode cX4_engrave 5 = .ok (.iload_n 2, 1) := by decide +kernel
theorem dX4_engrave_6 : decode cX4_engrave 6 = .ok (.putfield 18, 3) := by decide +kernel
theorem dX4_engrave_9 : decode cX4_engrave 9 = .ok (.goto 8, 3) := by decide +kernel
theorem dX4_engrave_12 : decode cX4_engrave 12 = .ok (.aload_n 0, 1) := by decide +kernel
theorem dX4_engrave_13 : decode cX4_engrave 13 = .ok (.iload_n 2, 1) := by decide +kernel
theorem dX4_engrave_14 : decode cX4_engrave 14 = .ok (.putfield 21, 3) := by decide +kernel
theorem dX4_engrave_17 : decode cX4_engrave 17 = .ok (.return_, 1) := by decide +kernel
theorem dX4_grindOff_0 : decode cX4_grindOff 0 = .ok (.aload_n 0, 1) := by decide +kernel
theorem dX4_grindOff_1 : decode cX4_grindOff 1 = .ok (.dup, 1) := by decide +kernel
theorem dX4_grindOff_2 : decode cX4_grindOff 2 = .ok (.getfield 15, 3) := by decide +kernel
theorem dX4_grindOff_5 : decode cX4_grindOff 5 = .ok (.aload_n 0, 1) := by decide +kernel
theorem dX4_grindOff_6 : decode cX4_grindOff 6 = .ok (.iload_n 1, 1) := by decide +kernel
theorem dX4_grindOff_7 : decode cX4_grindOff 7 = .ok (.invokevirtual 36, 3) := by decide +kernel
theorem dX4_grindOff_10 : decode cX4_grindOff 10 = .ok (.iconst 1, 1) := by decide +kernel
theorem dX4_grindOff_11 : decode cX4_grindOff 11 = .ok (.iadd, 1) := by decide +kernel
theorem dX4_grindOff_12 : decode cX4_grindOff 12 = .ok (.isub, 1) := by decide +kernel
theorem dX4_grindOff_13 : decode cX4_grindOff 13 = .ok (.putfield 15, 3) := by decide +kernel
theorem dX4_grindOff_16 : decode cX4_grindOff 16 = .ok (.aload_n 0, 1) := by decide +kernel
theorem dX4_grindOff_17 : decode cX4_grindOff 17 = .ok (.iload_n 1, 1) := by decide +kernel
theorem dX4_grindOff_18 : decode cX4_grindOff 18 = .ok (.iconst 0, 1) := by decide +kernel
theorem dX4_grindOff_19 : decode cX4_grindOff 19 = .ok (.invokevirtual 40, 3) := by decide +kernel
theorem dX4_grindOff_22 : decode cX4_grindOff 22 = .ok (.return_, 1) := by decide +kernel
theorem dX4_bears_0 : decode cX4_bears 0 = .ok (.aload_n 0, 1) := by decide +kernel
theorem dX4_bears_1 : decode cX4_bears 1 = .ok (.getfield 15, 3) := by decide +kernel
theorem dX4_bears_4 : decode cX4_bears 4 = .ok (.aload_n 0, 1) := by decide +kernel
theorem dX4_bears_5 : decode cX4_bears 5 = .ok (.getfield 18, 3) := by decide +kernel
theorem dX4_bears_8 : decode cX4_bears 8 = .ok (.isub, 1) := by decide +kernel
theorem dX4_bears_9 : decode cX4_bears 9 = .ok (.aload_n 0, 1) := by decide +kernel
theorem dX4_bears_10 : decode cX4_bears 10 = .ok (.getfield 21, 3) := by decide +kernel
theorem dX4_bears_13 : decode cX4_bears 13 = .ok (.isub, 1) := by decide +kernel
theorem dX4_bears_14 : decode cX4_bears 14 = .ok (.iload_n 1, 1) := by decide +kernel
theorem dX4_bears_15 : decode cX4_bears 15 = .ok (.isub, 1) := by decide +kernel
theorem dX4_bears_16 : decode cX4_bears 16 = .ok (.iconst 2, 1) := by decide +kernel
theorem dX4_bears_17 : decode cX4_bears 17 = .ok (.if_icmp .lt 7, 3) := by decide +kernel
theorem dX4_bears_20 : decode cX4_bears 20 = .ok (.iconst 1, 1) := by decide +kernel
theorem dX4_bears_21 : decode cX4_bears 21 = .ok (.goto 4, 3) := by decide +kernel
theorem dX4_bears_24 : decode cX4_bears 24 = .ok (.iconst 0, 1) := by decide +kernel
theorem dX4_bears_25 : decode cX4_bears 25 = .ok (.ireturn, 1) := by decide +kernel
theorem dX4_bearsOnceGround_0 : decode cX4_bearsOnceGround 0 = .ok (.aload_n 0, 1) := by decide +kernel
theorem dX4_bearsOnceGround_1 : decode cX4_bearsOnceGround 1 = .ok (.iload_n 1, 1) := by decide +kernel
theorem dX4_bearsOnceGround_2 : decode cX4_bearsOnceGround 2 = .ok (.iconst 1, 1) := by decide +kernel
theorem dX4_bearsOnceGround_3 : decode cX4_bearsOnceGround 3 = .ok (.iadd, 1) := by decide +kernel
theorem dX4_bearsOnceGround_4 : decode cX4_bearsOnceGround 4 = .ok (.invokevirtual 44, 3) := by decide +kernel
theorem dX4_bearsOnceGround_7 : decode cX4_bearsOnceGround 7 = .ok (.ireturn, 1) := by decide +kernel
theorem dX4_isReady_0 : decode cX4_isReady 0 = .ok (.aload_n 0, 1) := by decide +kernel
theorem dX4_isReady_1 : decode cX4_isReady 1 = .ok (.iload_n 1, 1) := by decide +kernel
theorem dX4_isReady_2 : decode cX4_isReady 2 = .ok (.invokevirtual 48, 3) := by decide +kernel
theorem dX4_isReady_5 : decode cX4_isReady 5 = .ok (.ifCond .eq 15, 3) := by decide +kernel
theorem dX4_isReady_8 : decode cX4_isReady 8 = .ok (.aload_n 0, 1) := by decide +kernel
theorem dX4_isReady_9 : decode cX4_isReady 9 = .ok (.iload_n 2, 1) := by decide +kernel
theorem dX4_isReady_10 : decode cX4_isReady 10 = .ok (.invokevirtual 44, 3) := by decide +kernel
theorem dX4_isReady_13 : decode cX4_isReady 13 = .ok (.ifCond .eq 7, 3) := by decide +kernel
theorem dX4_isReady_16 : decode cX4_isReady 16 = .ok (.iconst 1, 1) := by decide +kernel
theorem dX4_isReady_17 : decode cX4_isReady 17 = .ok (.goto 4, 3) := by decide +kernel
theorem dX4_isReady_20 : decode cX4_isReady 20 = .ok (.iconst 0, 1) := by decide +kernel
theorem dX4_isReady_21 : decode cX4_isReady 21 = .ok (.ireturn, 1) := by decide +kernel
theorem dX4_canBeGround_0 : decode cX4_canBeGround 0 = .ok (.aload_n 0, 1) := by decide +kernel
theorem dX4_canBeGround_1 : decode cX4_canBeGround 1 = .ok (.iload_n 1, 1) := by decide +kernel
theorem dX4_canBeGround_2 : decode cX4_canBeGround 2 = .ok (.invokevirtual 48, 3) := by decide +kernel
theorem dX4_canBeGround_5 : decode cX4_canBeGround 5 = .ok (.ifCond .ne 15, 3) := by decide +kernel
theorem dX4_canBeGround_8 : decode cX4_canBeGround 8 = .ok (.aload_n 0, 1) := by decide +kernel
theorem dX4_canBeGround_9 : decode cX4_canBeGround 9 = .ok (.iload_n 2, 1) := by decide +kernel
theorem dX4_canBeGround_10 : decode cX4_canBeGround 10 = .ok (.invokevirtual 51, 3) := by decide +kernel
theorem dX4_canBeGround_13 : decode cX4_canBeGround 13 = .ok (.ifCond .eq 7, 3) := by decide +kernel
theorem dX4_canBeGround_16 : decode cX4_canBeGround 16 = .ok (.iconst 1, 1) := by decide +kernel
theorem dX4_canBeGround_17 : decode cX4_canBeGround 17 = .ok (.goto 4, 3) := by decide +kernel
theorem dX4_canBeGround_20 : decode cX4_canBeGround 20 = .ok (.iconst 0, 1) := by decide +kernel
theorem dX4_canBeGround_21 : decode cX4_canBeGround 21 = .ok (.ireturn, 1) := by decide +kernel
theorem dX4_readySide_0 : decode cX4_readySide 0 = .ok (.aload_n 0, 1) := by decide +kernel
theorem dX4_readySide_1 : decode cX4_readySide 1 = .ok (.iload_n 1, 1) := by decide +kernel
theorem dX4_readySide_2 : decode cX4_readySide 2 = .ok (.invokevirtual 44, 3) := by decide +kernel
theorem dX4_readySide_5 : decode cX4_readySide 5 = .ok (.ifCond .ne 6, 3) := by decide +kernel
theorem dX4_readySide_8 : decode cX4_readySide 8 = .ok (.bipush (-9), 2) := by decide +kernel
theorem dX4_readySide_10 : decode cX4_readySide 10 = .ok (.ireturn, 1) := by decide +kernel
theorem dX4_readySide_11 : decode cX4_readySide 11 = .ok (.aload_n 0, 1) := by decide +kernel
theorem dX4_readySide_12 : decode cX4_readySide 12 = .ok (.getfield 18, 3) := by decide +kernel
theorem dX4_readySide_15 : decode cX4_readySide 15 = .ok (.ifCond .ne 5, 3) := by decide +kernel
theorem dX4_readySide_18 : decode cX4_readySide 18 = .ok (.iconst 0, 1) := by decide +kernel
theorem dX4_readySide_19 : decode cX4_readySide 19 = .ok (.ireturn, 1) := by decide +kernel
theorem dX4_readySide_20 : decode cX4_readySide 20 = .ok (.aload_n 0, 1) := by decide +kernel
theorem dX4_readySide_21 : decode cX4_readySide 21 = .ok (.getfield 21, 3) := by decide +kernel
theorem dX4_readySide_24 : decode cX4_readySide 24 = .ok (.ifCond .ne 7, 3) := by decide +kernel
theorem dX4_readySide_27 : decode cX4_readySide 27 = .ok (.iconst 1, 1) := by decide +kernel
theorem dX4_readySide_28 : decode cX4_readySide 28 = .ok (.goto 5, 3) := by decide +kernel
theorem dX4_readySide_31 : decode cX4_readySide 31 = .ok (.bipush (-9), 2) := by decide +kernel
theorem dX4_readySide_33 : decode cX4_readySide 33 = .ok (.ireturn, 1) := by decide +kernel
theorem dX4_sideToGrind_0 : decode cX4_sideToGrind 0 = .ok (.aload_n 0, 1) := by decide +kernel
theorem dX4_sideToGrind_1 : decode cX4_sideToGrind 1 = .ok (.iload_n 1, 1) := by decide +kernel
theorem dX4_sideToGrind_2 : decode cX4_sideToGrind 2 = .ok (.invokevirtual 51, 3) := by decide +kernel
theorem dX4_sideToGrind_5 : decode cX4_sideToGrind 5 = .ok (.ifCond .ne 6, 3) := by decide +kernel
theorem dX4_sideToGrind_8 : decode cX4_sideToGrind 8 = .ok (.bipush (-9), 2) := by decide +kernel
theorem dX4_sideToGrind_10 : decode cX4_sideToGrind 10 = .ok (.ireturn, 1) := by decide +kernel
theorem dX4_sideToGrind_11 : decode cX4_sideToGrind 11 = .ok (.aload_n 0, 1) := by decide +kernel
theorem dX4_sideToGrind_12 : decode cX4_sideToGrind 12 = .ok (.getfield 18, 3) := by decide +kernel
theorem dX4_sideToGrind_15 : decode cX4_sideToGrind 15 = .ok (.ifCond .eq 5, 3) := by decide +kernel
theorem dX4_sideToGrind_18 : decode cX4_sideToGrind 18 = .ok (.iconst 0, 1) := by decide +kernel
theorem dX4_sideToGrind_19 : decode cX4_sideToGrind 19 = .ok (.ireturn, 1) := by decide +kernel
theorem dX4_sideToGrind_20 : decode cX4_sideToGrind 20 = .ok (.aload_n 0, 1) := by decide +kernel
theorem dX4_sideToGrind_21 : decode cX4_sideToGrind 21 = .ok (.getfield 21, 3) := by decide +kernel
theorem dX4_sideToGrind_24 : decode cX4_sideToGrind 24 = .ok (.ifCond .eq 7, 3) := by decide +kernel
theorem dX4_sideToGrind_27 : decode cX4_sideToGrind 27 = .ok (.iconst 1, 1) := by decide +kernel
theorem dX4_sideToGrind_28 : decode cX4_sideToGrind 28 = .ok (.goto 5, 3) := by decide +kernel
theorem dX4_sideToGrind_31 : decode cX4_sideToGrind 31 = .ok (.bipush (-9), 2) := by decide +kernel
theorem dX4_sideToGrind_33 : decode cX4_sideToGrind 33 = .ok (.ireturn, 1) := by decide +kernel
theorem dX4_sideFor_0 : decode cX4_sideFor 0 = .ok (.aload_n 0, 1) := by decide +kernel
theorem dX4_sideFor_1 : decode cX4_sideFor 1 = .ok (.iload_n 1, 1) := by decide +kernel
theorem dX4_sideFor_2 : decode cX4_sideFor 2 = .ok (.invokevirtual 54, 3) := by decide +kernel
theorem dX4_sideFor_5 : decode cX4_sideFor 5 = .ok (.istore_n 2, 1) := by decide +kernel
theorem dX4_sideFor_6 : decode cX4_sideFor 6 = .ok (.iload_n 2, 1) := by decide +kernel
theorem dX4_sideFor_7 : decode cX4_sideFor 7 = .ok (.bipush (-9), 2) := by decide +kernel
theorem dX4_sideFor_9 : decode cX4_sideFor 9 = .ok (.if_icmp .ne 11, 3) := by decide +kernel
theorem dX4_sideFor_12 : decode cX4_sideFor 12 = .ok (.aload_n 0, 1) := by decide +kernel
theorem dX4_sideFor_13 : decode cX4_sideFor 13 = .ok (.iload_n 1, 1) := by decide +kernel
theorem dX4_sideFor_14 : decode cX4_sideFor 14 = .ok (.invokevirtual 57, 3) := by decide +kernel
theorem dX4_sideFor_17 : decode cX4_sideFor 17 = .ok (.goto 4, 3) := by decide +kernel
theorem dX4_sideFor_20 : decode cX4_sideFor 20 = .ok (.iload_n 2, 1) := by decide +kernel
theorem dX4_sideFor_21 : decode cX4_sideFor 21 = .ok (.ireturn, 1) := by decide +kernel
theorem dX4_isBetterThan_0 : decode cX4_isBetterThan 0 = .ok (.aload_n 0, 1) := by decide +kernel
theorem dX4_isBetterThan_1 : decode cX4_isBetterThan 1 = .ok (.getfield 9, 3) := by decide +kernel
theorem dX4_isBetterThan_4 : decode cX4_isBetterThan 4 = .ok (.aload_n 1, 1) := by decide +kernel
theorem dX4_isBetterThan_5 : decode cX4_isBetterThan 5 = .ok (.getfield 9, 3) := by decide +kernel
theorem dX4_isBetterThan_8 : decode cX4_isBetterThan 8 = .ok (.if_icmp .lt 25, 3) := by decide +kernel
theorem dX4_isBetterThan_11 : decode cX4_isBetterThan 11 = .ok (.aload_n 0, 1) := by decide +kernel
theorem dX4_isBetterThan_12 : decode cX4_isBetterThan 12 = .ok (.getfield 9, 3) := by decide +kernel
theorem dX4_isBetterThan_15 : decode cX4_isBetterThan 15 = .ok (.aload_n 1, 1) := by decide +kernel
theorem dX4_isBetterThan_16 : decode cX4_isBetterThan 16 = .ok (.getfield 9, 3) := by decide +kernel
theorem dX4_isBetterThan_19 : decode cX4_isBetterThan 19 = .ok (.if_icmp .ne 18, 3) := by decide +kernel
theorem dX4_isBetterThan_22 : decode cX4_isBetterThan 22 = .ok (.aload_n 0, 1) := by decide +kernel
theorem dX4_isBetterThan_23 : decode cX4_isBetterThan 23 = .ok (.getfield 15, 3) := by decide +kernel
theorem dX4_isBetterThan_26 : decode cX4_isBetterThan 26 = .ok (.aload_n 1, 1) := by decide +kernel
theorem dX4_isBetterThan_27 : decode cX4_isBetterThan 27 = .ok (.getfield 15, 3) := by decide +kernel
theorem dX4_isBetterThan_30 : decode cX4_isBetterThan 30 = .ok (.if_icmp .ge 7, 3) := by decide +kernel
theorem dX4_isBetterThan_33 : decode cX4_isBetterThan 33 = .ok (.iconst 1, 1) := by decide +kernel
theorem dX4_isBetterThan_34 : decode cX4_isBetterThan 34 = .ok (.goto 4, 3) := by decide +kernel
theorem dX4_isBetterThan_37 : decode cX4_isBetterThan 37 = .ok (.iconst 0, 1) := by decide +kernel
theorem dX4_isBetterThan_38 : decode cX4_isBetterThan 38 = .ok (.ireturn, 1) := by decide +kernel
theorem dX5_init_0 : decode cX5_init 0 = .ok (.aload_n 0, 1) := by decide +kernel
theorem dX5_init_1 : decode cX5_init 1 = .ok (.invokespecial 3, 3) := by decide +kernel
theorem dX5_init_4 : decode cX5_init 4 = .ok (.aload_n 0, 1) := by decide +kernel
theorem dX5_init_5 : decode cX5_init 5 = .ok (.bipush 20, 2) := by decide +kernel
theorem dX5_init_7 : decode cX5_init 7 = .ok (.anewarray 9, 3) := by decide +kernel
theorem dX5_init_10 : decode cX5_init 10 = .ok (.putfield 11, 3) := by decide +kernel
theorem dX5_init_13 : decode cX5_init 13 = .ok (.aload_n 0, 1) := by decide +kernel
theorem dX5_init_14 : decode cX5_init 14 = .ok (.iconst 3, 1) := by decide +kernel
theorem dX5_init_15 : decode cX5_init 15 = .ok (.newarray .int, 2) := by decide +kernel
theorem dX5_init_17 : decode cX5_init 17 = .ok (.putfield 17, 3) := by decide +kernel
theorem dX5_init_20 : decode cX5_init 20 = .ok (.aload_n 0, 1) := by decide +kernel
theorem dX5_init_21 : decode cX5_init 21 = .ok (.bipush 10, 2) := by decide +kernel
theorem dX5_init_23 : decode cX5_init 23 = .ok (.anewarray 21, 3) := by decide +kernel
theorem dX5_init_26 : decode cX5_init 26 = .ok (.putfield 23, 3) := by decide +kernel
theorem dX5_init_29 : decode cX5_init 29 = .ok (.aload_n 0, 1) := by decide +kernel
theorem dX5_init_30 : decode cX5_init 30 = .ok (.bipush (-9), 2) := by decide +kernel
theorem dX5_init_32 : decode cX5_init 32 = .ok (.putfield 27, 3) := by decide +kernel
theorem dX5_init_35 : decode cX5_init 35 = .ok (.aload_n 0, 1) := by decide +kernel
theorem dX5_init_36 : decode cX5_init 36 = .ok (.bipush (-9), 2) := by decide +kernel
theorem dX5_init_38 : decode cX5_init 38 = .ok (.putfield 31, 3) := by decide +kernel
theorem dX5_init_41 : decode cX5_init 41 = .ok (.aload_n 0, 1) := by decide +kernel
theorem dX5_init_42 : decode cX5_init 42 = .ok (.bipush (-9), 2) := by decide +kernel
theorem dX5_init_44 : decode cX5_init 44 = .ok (.putfield 34, 3) := by decide +kernel
theorem dX5_init_47 : decode cX5_init 47 = .ok (.aload_n 0, 1) := by decide +kernel
theorem dX5_init_48 : decode cX5_init 48 = .ok (.bipush (-9), 2) := by decide +kernel
theorem dX5_init_50 : decode cX5_init 50 = .ok (.putfield 37, 3) := by decide +kernel
theorem dX5_init_53 : decode cX5_init 53 = .ok (.iconst 0, 1) := by decide +kernel
theorem dX5_init_54 : decode cX5_init 54 = .ok (.istore_n 1, 1) := by decide +kernel
theorem dX5_init_55 : decode cX5_init 55 = .ok (.iload_n 1, 1) := by decide +kernel
theorem dX5_init_56 : decode cX5_init 56 = .ok (.bipush 20, 2) := by decide +kernel
theorem dX5_init_58 : decode cX5_init 58 = .ok (.if_icmp .ge 22, 3) := by decide +kernel
theorem dX5_init_61 : decode cX5_init 61 = .ok (.aload_n 0, 1) := by decide +kernel
theorem dX5_init_62 : decode cX5_init 62 = .ok (.getfield 11, 3) := by decide +kernel
theorem dX5_init_65 : decode cX5_init 65 = .ok (.iload_n 1, 1) := by decide +kernel
theorem dX5_init_66 : decode cX5_init 66 = .ok (.new 9, 3) := by decide +kernel
theorem dX5_init_69 : decode cX5_init 69 = .ok (.dup, 1) := by decide +kernel
theorem dX5_init_70 : decode cX5_init 70 = .ok (.invokespecial 40, 3) := by decide +kernel
theorem dX5_init_73 : decode cX5_init 73 = .ok (.aastore, 1) := by decide +kernel
theorem dX5_init_74 : decode cX5_init 74 = .ok (.iinc 1 1, 3) := by decide +kernel
theorem dX5_init_77 : decode cX5_init 77 = .ok (.goto (-22), 3) := by decide +kernel
theorem dX5_init_80 : decode cX5_init 80 = .ok (.iconst 0, 1) := by decide +kernel
theorem dX5_init_81 : decode cX5_init 81 = .ok (.istore_n 1, 1) := by decide +kernel
theorem dX5_init_82 : decode cX5_init 82 = .ok (.iload_n 1, 1) := by decide +kernel
theorem dX5_init_83 : decode cX5_init 83 = .ok (.bipush 10, 2) := by decide +kernel
theorem dX5_init_85 : decode cX5_init 85 = .ok (.if_icmp .ge 22, 3) := by decide +kernel
theorem dX5_init_88 : decode cX5_init 88 = .ok (.aload_n 0, 1) := by decide +kernel
theorem dX5_init_89 : decode cX5_init 89 = .ok (.getfield 23, 3) := by decide +kernel
theorem dX5_init_92 : decode cX5_init 92 = .ok (.iload_n 1, 1) := by decide +kernel
theorem dX5_init_93 : decode cX5_init 93 = .ok (.new 21, 3) := by decide +kernel
theorem dX5_init_96 : decode cX5_init 96 = .ok (.dup, 1) := by decide +kernel
theorem dX5_init_97 : decode cX5_init 97 = .ok (.invokespecial 41, 3) := by decide +kernel
theorem dX5_init_100 : decode cX5_init 100 = .ok (.aastore, 1) := by decide +kernel
theorem dX5_init_101 : decode cX5_init 101 = .ok (.iinc 1 1, 3) := by decide +kernel
theorem dX5_init_104 : decode cX5_init 104 = .ok (.goto (-22), 3) := by decide +kernel
theorem dX5_init_107 : decode cX5_init 107 = .ok (.return_, 1) := by decide +kernel
theorem dX5_copyFrom_0 : decode cX5_copyFrom 0 = .ok (.aload_n 0, 1) := by decide +kernel
theorem dX5_copyFrom_1 : decode cX5_copyFrom 1 = .ok (.aload_n 1, 1) := by decide +kernel
theorem dX5_copyFrom_2 : decode cX5_copyFrom 2 = .ok (.getfield 42, 3) := by decide +kernel
theorem dX5_copyFrom_5 : decode cX5_copyFrom 5 = .ok (.putfield 42, 3) := by decide +kernel
theorem dX5_copyFrom_8 : decode cX5_copyFrom 8 = .ok (.iconst 0, 1) := by decide +kernel
theorem dX5_copyFrom_9 : decode cX5_copyFrom 9 = .ok (.istore_n 2, 1) := by decide +kernel
theorem dX5_copyFrom_10 : decode cX5_copyFrom 10 = .ok (.iload_n 2, 1) := by decide +kernel
theorem dX5_copyFrom_11 : decode cX5_copyFrom 11 = .ok (.aload_n 0, 1) := by decide +kernel
theorem dX5_copyFrom_12 : decode cX5_copyFrom 12 = .ok (.getfield 42, 3) := by decide +kernel
theorem dX5_copyFrom_15 : decode cX5_copyFrom 15 = .ok (.if_icmp .ge 24, 3) := by decide +kernel
theorem dX5_copyFrom_18 : decode cX5_copyFrom 18 = .ok (.aload_n 0, 1) := by decide +kernel
theorem dX5_copyFrom_19 : decode cX5_copyFrom 19 = .ok (.getfield 11, 3) := by decide +kernel
theorem dX5_copyFrom_22 : decode cX5_copyFrom 22 = .ok (.iload_n 2, 1) := by decide +kernel
theorem dX5_copyFrom_23 : decode cX5_copyFrom 23 = .ok (.aaload, 1) := by decide +kernel
theorem dX5_copyFrom_24 : decode cX5_copyFrom 24 = .ok (.aload_n 1, 1) := by decide +kernel
theorem dX5_copyFrom_25 : decode cX5_copyFrom 25 = .ok (.getfield 11, 3) := by decide +kernel
theorem dX5_copyFrom_28 : decode cX5_copyFrom 28 = .ok (.iload_n 2, 1) := by decide +kernel
theorem dX5_copyFrom_29 : decode cX5_copyFrom 29 = .ok (.aaload, 1) := by decide +kernel
theorem dX5_copyFrom_30 : decode cX5_copyFrom 30 = .ok (.invokevirtual 45, 3) := by decide +kernel
theorem dX5_copyFrom_33 : decode cX5_copyFrom 33 = .ok (.iinc 2 1, 3) := by decide +kernel
theorem dX5_copyFrom_36 : decode cX5_copyFrom 36 = .ok (.goto (-26), 3) := by decide +kernel
theorem dX5_copyFrom_39 : decode cX5_copyFrom 39 = .ok (.aload_n 0, 1) := by decide +kernel
theorem dX5_copyFrom_40 : decode cX5_copyFrom 40 = .ok (.aload_n 1, 1) := by decide +kernel
theorem dX5_copyFrom_41 : decode cX5_copyFrom 41 = .ok (.getfield 49, 3) := by decide +kernel
theorem dX5_copyFrom_44 : decode cX5_copyFrom 44 = .ok (.putfield 49, 3) := by decide +kernel
theorem dX5_copyFrom_47 : decode cX5_copyFrom 47 = .ok (.iconst 0, 1) := by decide +kernel
theorem dX5_copyFrom_48 : decode cX5_copyFrom 48 = .ok (.istore_n 2, 1) := by decide +kernel
theorem dX5_copyFrom_49 : decode cX5_copyFrom 49 = .ok (.iload_n 2, 1) := by decide +kernel
theorem dX5_copyFrom_50 : decode cX5_copyFrom 50 = .ok (.aload_n 0, 1) := by decide +kernel
theorem dX5_copyFrom_51 : decode cX5_copyFrom 51 = .ok (.getfield 49, 3) := by decide +kernel
theorem dX5_copyFrom_54 : decode cX5_copyFrom 54 = .ok (.if_icmp .ge 21, 3) := by decide +kernel
theorem dX5_copyFrom_57 : decode cX5_copyFrom 57 = .ok (.aload_n 0, 1) := by decide +kernel
theorem dX5_copyFrom_58 : decode cX5_copyFrom 58 = .ok (.getfield 17, 3) := by decide +kernel
theorem dX5_copyFrom_61 : decode cX5_copyFrom 61 = .ok (.iload_n 2, 1) := by decide +kernel
theorem dX5_copyFrom_62 : decode cX5_copyFrom 62 = .ok (.aload_n 1, 1) := by decide +kernel
theorem dX5_copyFrom_63 : decode cX5_copyFrom 63 = .ok (.getfield 17, 3) := by decide +kernel
theorem dX5_copyFrom_66 : decode cX5_copyFrom 66 = .ok (.iload_n 2, 1) := by decide +kernel
theorem dX5_copyFrom_67 : decode cX5_copyFrom 67 = .ok (.iaload, 1) := by decide +kernel
theorem dX5_copyFrom_68 : decode cX5_copyFrom 68 = .ok (.iastore, 1) := by decide +kernel
theorem dX5_copyFrom_69 : decode cX5_copyFrom 69 = .ok (.iinc 2 1, 3) := by decide +kernel
theorem dX5_copyFrom_72 : decode cX5_copyFrom 72 = .ok (.goto (-23), 3) := by decide +kernel
theorem dX5_copyFrom_75 : decode cX5_copyFrom 75 = .ok (.aload_n 0, 1) := by decide +kernel
theorem dX5_copyFrom_76 : decode cX5_copyFrom 76 = .ok (.aload_n 1, 1) := by decide +kernel
theorem dX5_copyFrom_77 : decode cX5_copyFrom 77 = .ok (.getfield 52, 3) := by decide +kernel
theorem dX5_copyFrom_80 : decode cX5_copyFrom 80 = .ok (.putfield 52, 3) := by decide +kernel
theorem dX5_copyFrom_83 : decode cX5_copyFrom 83 = .ok (.iconst 0, 1) := by decide +kernel
theorem dX5_copyFrom_84 : decode cX5_copyFrom 84 = .ok (.istore_n 2, 1) := by decide +kernel
theorem dX5_copyFrom_85 : decode cX5_copyFrom 85 = .ok (.iload_n 2, 1) := by decide +kernel
theorem dX5_copyFrom_86 : decode cX5_copyFrom 86 = .ok (.aload_n 0, 1) := by decide +kernel
theorem dX5_copyFrom_87 : decode cX5_copyFrom 87 = .ok (.getfield 52, 3) := by decide +kernel
theorem dX5_copyFrom_90 : decode cX5_copyFrom 90 = .ok (.if_icmp .ge 24, 3) := by decide +kernel
theorem dX5_copyFrom_93 : decode cX5_copyFrom 93 = .ok (.aload_n 0, 1) := by decide +kernel
theorem dX5_copyFrom_94 : decode cX5_copyFrom 94 = .ok (.getfield 23, 3) := by decide +kernel
theorem dX5_copyFrom_97 : decode cX5_copyFrom 97 = .ok (.iload_n 2, 1) := by decide +kernel
theorem dX5_copyFrom_98 : decode cX5_copyFrom 98 = .ok (.aaload, 1) := by decide +kernel
theorem dX5_copyFrom_99 : decode cX5_copyFrom 99 = .ok (.aload_n 1, 1) := by decide +kernel
theorem dX5_copyFrom_100 : decode cX5_copyFrom 100 = .ok (.getfield 23, 3) := by decide +kernel
theorem dX5_copyFrom_103 : decode cX5_copyFrom 103 = .ok (.iload_n 2, 1) := by decide +kernel
theorem dX5_copyFrom_104 : decode cX5_copyFrom 104 = .ok (.aaload, 1) := by decide +kernel
theorem dX5_copyFrom_105 : decode cX5_copyFrom 105 = .ok (.invokevirtual 55, 3) := by decide +kernel
theorem dX5_copyFrom_108 : decode cX5_copyFrom 108 = .ok (.iinc 2 1, 3) := by decide +kernel
theorem dX5_copyFrom_111 : decode cX5_copyFrom 111 = .ok (.goto (-26), 3) := by decide +kernel
theorem dX5_copyFrom_114 : decode cX5_copyFrom 114 = .ok (.aload_n 0, 1) := by decide +kernel
theorem dX5_copyFrom_115 : decode cX5_copyFrom 115 = .ok (.aload_n 1, 1) := by decide +kernel
theorem dX5_copyFrom_116 : decode cX5_copyFrom 116 = .ok (.getfield 27, 3) := by decide +kernel
theorem dX5_copyFrom_119 : decode cX5_copyFrom 119 = .ok (.putfield 27, 3) := by decide +kernel
theorem dX5_copyFrom_122 : decode cX5_copyFrom 122 = .ok (.aload_n 0, 1) := by decide +kernel
theorem dX5_copyFrom_123 : decode cX5_copyFrom 123 = .ok (.aload_n 1, 1) := by decide +kernel
theorem dX5_copyFrom_124 : decode cX5_copyFrom 124 = .ok (.getfield 31, 3) := by decide +kernel
theorem dX5_copyFrom_127 : decode cX5_copyFrom 127 = .ok (.putfield 31, 3) := by decide +kernel
theorem dX5_copyFrom_130 : decode cX5_copyFrom 130 = .ok (.aload_n 0, 1) := by decide +kernel
theorem dX5_copyFrom_131 : decode cX5_copyFrom 131 = .ok (.aload_n 1, 1) := by decide +kernel
theorem dX5_copyFrom_132 : decode cX5_copyFrom 132 = .ok (.getfield 34, 3) := by decide +kernel
theorem dX5_copyFrom_135 : decode cX5_copyFrom 135 = .ok (.putfield 34, 3) := by decide +kernel
theorem dX5_copyFrom_138 : decode cX5_copyFrom 138 = .ok (.aload_n 0, 1) := by decide +kernel
theorem dX5_copyFrom_139 : decode cX5_copyFrom 139 = .ok (.aload_n 1, 1) := by decide +kernel
theorem dX5_copyFrom_140 : decode cX5_copyFrom 140 = .ok (.getfield 37, 3) := by decide +kernel
theorem dX5_copyFrom_143 : decode cX5_copyFrom 143 = .ok (.putfield 37, 3) := by decide +kernel
theorem dX5_copyFrom_146 : decode cX5_copyFrom 146 = .ok (.aload_n 0, 1) := by decide +kernel
theorem dX5_copyFrom_147 : decode cX5_copyFrom 147 = .ok (.aload_n 1, 1) := by decide +kernel
theorem dX5_copyFrom_148 : decode cX5_copyFrom 148 = .ok (.getfield 58, 3) := by decide +kernel
theorem dX5_copyFrom_151 : decode cX5_copyFrom 151 = .ok (.putfield 58, 3) := by decide +kernel
theorem dX5_copyFrom_154 : decode cX5_copyFrom 154 = .ok (.aload_n 0, 1) := by decide +kernel
theorem dX5_copyFrom_155 : decode cX5_copyFrom 155 = .ok (.aload_n 1, 1) := by decide +kernel
theorem dX5_copyFrom_156 : decode cX5_copyFrom 156 = .ok (.getfield 61, 3) := by decide +kernel
theorem dX5_copyFrom_159 : decode cX5_copyFrom 159 = .ok (.putfield 61, 3) := by decide +kernel
theorem dX5_copyFrom_162 : decode cX5_copyFrom 162 = .ok (.aload_n 0, 1) := by decide +kernel
theorem dX5_copyFrom_163 : decode cX5_copyFrom 163 = .ok (.aload_n 1, 1) := by decide +kernel
theorem dX5_copyFrom_164 : decode cX5_copyFrom 164 = .ok (.getfield 64, 3) := by decide +kernel
theorem dX5_copyFrom_167 : decode cX5_copyFrom 167 = .ok (.putfield 64, 3) := by decide +kernel
theorem dX5_copyFrom_170 : decode cX5_copyFrom 170 = .ok (.return_, 1) := by decide +kernel
theorem dX5_hasPlate_0 : decode cX5_hasPlate 0 = .ok (.iload_n 1, 1) := by decide +kernel
theorem dX5_hasPlate_1 : decode cX5_hasPlate 1 = .ok (.ifCond .lt 15, 3) := by decide +kernel
theorem dX5_hasPlate_4 : decode cX5_hasPlate 4 = .ok (.iload_n 1, 1) := by decide +kernel
theorem dX5_hasPlate_5 : decode cX5_hasPlate 5 = .ok (.aload_n 0, 1) := by decide +kernel
theorem dX5_hasPlate_6 : decode cX5_hasPlate 6 = .ok (.getfield 42, 3) := by decide +kernel
theorem dX5_hasPlate_9 : decode cX5_hasPlate 9 = .ok (.if_icmp .ge 7, 3) := by decide +kernel
theorem dX5_hasPlate_12 : decode cX5_hasPlate 12 = .ok (.iconst 1, 1) := by decide +kernel
theorem dX5_hasPlate_13 : decode cX5_hasPlate 13 = .ok (.goto 4, 3) := by decide +kernel
theorem dX5_hasPlate_16 : decode cX5_hasPlate 16 = .ok (.iconst 0, 1) := by decide +kernel
theorem dX5_hasPlate_17 : decode cX5_hasPlate 17 = .ok (.ireturn, 1) := by decide +kernel
theorem dX5_hasShield_0 : decode cX5_hasShield 0 = .ok (.iload_n 1, 1) := by decide +kernel
theorem dX5_hasShield_1 : decode cX5_hasShield 1 = .ok (.ifCond .lt 15, 3) := by decide +kernel
theorem dX5_hasShield_4 : decode cX5_hasShield 4 = .ok (.iload_n 1, 1) := by decide +kernel
theorem dX5_hasShield_5 : decode cX5_hasShield 5 = .ok (.aload_n 0, 1) := by decide +kernel
theorem dX5_hasShield_6 : decode cX5_hasShield 6 = .ok (.getfield 49, 3) := by decide +kernel
theorem dX5_hasShield_9 : decode cX5_hasShield 9 = .ok (.if_icmp .ge 7, 3) := by decide +kernel
theorem dX5_hasShield_12 : decode cX5_hasShield 12 = .ok (.iconst 1, 1) := by decide +kernel
theorem dX5_hasShield_13 : decode cX5_hasShield 13 = .ok (.goto 4, 3) := by decide +kernel
theorem dX5_hasShield_16 : decode cX5_hasShield 16 = .ok (.iconst 0, 1) := by decide +kernel
theorem dX5_hasShield_17 : decode cX5_hasShield 17 = .ok (.ireturn, 1) := by decide +kernel
theorem dX5_hasOrder_0 : decode cX5_hasOrder 0 = .ok (.iload_n 1, 1) := by decide +kernel
theorem dX5_hasOrder_1 : decode cX5_hasOrder 1 = .ok (.ifCond .lt 15, 3) := by decide +kernel
theorem dX5_hasOrder_4 : decode cX5_hasOrder 4 = .ok (.iload_n 1, 1) := by decide +kernel
theorem dX5_hasOrder_5 : decode cX5_hasOrder 5 = .ok (.aload_n 0, 1) := by decide +kernel
theorem dX5_hasOrder_6 : decode cX5_hasOrder 6 = .ok (.getfield 52, 3) := by decide +kernel
theorem dX5_hasOrder_9 : decode cX5_hasOrder 9 = .ok (.if_icmp .ge 7, 3) := by decide +kernel
theorem dX5_hasOrder_12 : decode cX5_hasOrder 12 = .ok (.iconst 1, 1) := by decide +kernel
theorem dX5_hasOrder_13 : decode cX5_hasOrder 13 = .ok (.goto 4, 3) := by decide +kernel
theorem dX5_hasOrder_16 : decode cX5_hasOrder 16 = .ok (.iconst 0, 1) := by decide +kernel
theorem dX5_hasOrder_17 : decode cX5_hasOrder 17 = .ok (.ireturn, 1) := by decide +kernel
theorem dX5_isWorking_0 : decode cX5_isWorking 0 = .ok (.aload_n 0, 1) := by decide +kernel
theorem dX5_isWorking_1 : decode cX5_isWorking 1 = .ok (.aload_n 0, 1) := by decide +kernel
theorem dX5_isWorking_2 : decode cX5_isWorking 2 = .ok (.getfield 27, 3) := by decide +kernel
theorem dX5_isWorking_5 : decode cX5_isWorking 5 = .ok (.invokevirtual 67, 3) := by decide +kernel
theorem dX5_isWorking_8 : decode cX5_isWorking 8 = .ok (.ifCond .eq 18, 3) := by decide +kernel
theorem dX5_isWorking_11 : decode cX5_isWorking 11 = .ok (.aload_n 0, 1) := by decide +kernel
theorem dX5_isWorking_12 : decode cX5_isWorking 12 = .ok (.aload_n 0, 1) := by decide +kernel
theorem dX5_isWorking_13 : decode cX5_isWorking 13 = .ok (.getfield 31, 3) := by decide +kernel
theorem dX5_isWorking_16 : decode cX5_isWorking 16 = .ok (.invokevirtual 71, 3) := by decide +kernel
theorem dX5_isWorking_19 : decode cX5_isWorking 19 = .ok (.ifCond .eq 7, 3) := by decide +kernel
theorem dX5_isWorking_22 : decode cX5_isWorking 22 = .ok (.iconst 1, 1) := by decide +kernel
theorem dX5_isWorking_23 : decode cX5_isWorking 23 = .ok (.goto 4, 3) := by decide +kernel
theorem dX5_isWorking_26 : decode cX5_isWorking 26 = .ok (.iconst 0, 1) := by decide +kernel
theorem dX5_isWorking_27 : decode cX5_isWorking 27 = .ok (.ireturn, 1) := by decide +kernel
theorem dX5_addPlate_0 : decode cX5_addPlate 0 = .ok (.aload_n 0, 1) := by decide +kernel
theorem dX5_addPlate_1 : decode cX5_addPlate 1 = .ok (.getfield 11, 3) := by decide +kernel
theorem dX5_addPlate_4 : decode cX5_addPlate 4 = .ok (.aload_n 0, 1) := by decide +kernel
theorem dX5_addPlate_5 : decode cX5_addPlate 5 = .ok (.getfield 42, 3) := by decide +kernel
theorem dX5_addPlate_8 : decode cX5_addPlate 8 = .ok (.aaload, 1) := by decide +kernel
theorem dX5_addPlate_9 : decode cX5_addPlate 9 = .ok (.iload_n 1, 1) := by decide +kernel
theorem dX5_addPlate_10 : decode cX5_addPlate 10 = .ok (.iload_n 2, 1) := by decide +kernel
theorem dX5_addPlate_11 : decode cX5_addPlate 11 = .ok (.invokevirtual 74, 3) := by decide +kernel
theorem dX5_addPlate_14 : decode cX5_addPlate 14 = .ok (.aload_n 0, 1) := by decide +kernel
theorem dX5_addPlate_15 : decode cX5_addPlate 15 = .ok (.dup, 1) := by decide +kernel
theorem dX5_addPlate_16 : decode cX5_addPlate 16 = .ok (.getfield 42, 3) := by decide +kernel
theorem dX5_addPlate_19 : decode cX5_addPlate 19 = .ok (.iconst 1, 1) := by decide +kernel
theorem dX5_addPlate_20 : decode cX5_addPlate 20 = .ok (.iadd, 1) := by decide +kernel
theorem dX5_addPlate_21 : decode cX5_addPlate 21 = .ok (.putfield 42, 3) := by decide +kernel
theorem dX5_addPlate_24 : decode cX5_addPlate 24 = .ok (.aload_n 0, 1) := by decide +kernel
theorem dX5_addPlate_25 : decode cX5_addPlate 25 = .ok (.getfield 42, 3) := by decide +kernel
theorem dX5_addPlate_28 : decode cX5_addPlate 28 = .ok (.iconst 1, 1) := by decide +kernel
theorem dX5_addPlate_29 : decode cX5_addPlate 29 = .ok (.isub, 1) := by decide +kernel
theorem dX5_addPlate_30 : decode cX5_addPlate 30 = .ok (.ireturn, 1) := by decide +kernel
theorem dX5_hangShield_0 : decode cX5_hangShield 0 = .ok (.aload_n 0, 1) := by decide +kernel
theorem dX5_hangShield_1 : decode cX5_hangShield 1 = .ok (.getfield 17, 3) := by decide +kernel
theorem dX5_hangShield_4 : decode cX5_hangShield 4 = .ok (.aload_n 0, 1) := by decide +kernel
theorem dX5_hangShield_5 : decode cX5_hangShield 5 = .ok (.getfield 49, 3) := by decide +kernel
theorem dX5_hangShield_8 : decode cX5_hangShield 8 = .ok (.iload_n 1, 1) := by decide +kernel
theorem dX5_hangShield_9 : decode cX5_hangShield 9 = .ok (.iastore, 1) := by decide +kernel
theorem dX5_hangShield_10 : decode cX5_hangShield 10 = .ok (.aload_n 0, 1) := by decide +kernel
theorem dX5_hangShield_11 : decode cX5_hangShield 11 = .ok (.dup, 1) := by decide +kernel
theorem dX5_hangShield_12 : decode cX5_hangShield 12 = .ok (.getfield 49, 3) := by decide +kernel
theorem dX5_hangShield_15 : decode cX5_hangShield 15 = .ok (.iconst 1, 1) := by decide +kernel
theorem dX5_hangShield_16 : decode cX5_hangShield 16 = .ok (.iadd, 1) := by decide +kernel
theorem dX5_hangShield_17 : decode cX5_hangShield 17 = .ok (.putfield 49, 3) := by decide +kernel
theorem dX5_hangShield_20 : decode cX5_hangShield 20 = .ok (.aload_n 0, 1) := by decide +kernel
theorem dX5_hangShield_21 : decode cX5_hangShield 21 = .ok (.getfield 49, 3) := by decide +kernel
theorem dX5_hangShield_24 : decode cX5_hangShield 24 = .ok (.iconst 1, 1) := by decide +kernel
theorem dX5_hangShield_25 : decode cX5_hangShield 25 = .ok (.isub, 1) := by decide +kernel
theorem dX5_hangShield_26 : decode cX5_hangShield 26 = .ok (.ireturn, 1) := by decide +kernel
theorem dX5_grindSide_0 : decode cX5_grindSide 0 = .ok (.aload_n 1, 1) := by decide +kernel
theorem dX5_grindSide_1 : decode cX5_grindSide 1 = .ok (.iload_n 2, 1) := by decide +kernel
theorem dX5_grindSide_2 : decode cX5_grindSide 2 = .ok (.invokevirtual 78, 3) := by decide +kernel
theorem dX5_grindSide_5 : decode cX5_grindSide 5 = .ok (.aload_n 0, 1) := by decide +kernel
theorem dX5_grindSide_6 : decode cX5_grindSide 6 = .ok (.dup, 1) := by decide +kernel
theorem dX5_grindSide_7 : decode cX5_grindSide 7 = .ok (.getfield 64, 3) := by decide +kernel
theorem dX5_grindSide_10 : decode cX5_grindSide 10 = .ok (.iconst 1, 1) := by decide +kernel
theorem dX5_grindSide_11 : decode cX5_grindSide 11 = .ok (.iadd, 1) := by decide +kernel
theorem dX5_grindSide_12 : decode cX5_grindSide 12 = .ok (.putfield 64, 3) := by decide +kernel
theorem dX5_grindSide_15 : decode cX5_grindSide 15 = .ok (.return_, 1) := by decide +kernel
theorem dX5_platesIn_0 : decode cX5_platesIn 0 = .ok (.iconst 0, 1) := by decide +kernel
theorem dX5_platesIn_1 : decode cX5_platesIn 1 = .ok (.istore_n 2, 1) := by decide +kernel
theorem dX5_platesIn_2 : decode cX5_platesIn 2 = .ok (.iconst 0, 1) := by decide +kernel
theorem dX5_platesIn_3 : decode cX5_platesIn 3 = .ok (.istore_n 3, 1) := by decide +kernel
theorem dX5_platesIn_4 : decode cX5_platesIn 4 = .ok (.iload_n 3, 1) := by decide +kernel
theorem dX5_platesIn_5 : decode cX5_platesIn 5 = .ok (.aload_n 0, 1) := by decide +kernel
theorem dX5_platesIn_6 : decode cX5_platesIn 6 = .ok (.getfield 42, 3) := by decide +kernel
theorem dX5_platesIn_9 : decode cX5_platesIn 9 = .ok (.if_icmp .ge 25, 3) := by decide +kernel
theorem dX5_platesIn_12 : decode cX5_platesIn 12 = .ok (.aload_n 0, 1) := by decide +kernel
theorem dX5_platesIn_13 : decode cX5_platesIn 13 = .ok (.getfield 11, 3) := by decide +kernel
theorem dX5_platesIn_16 : decode cX5_platesIn 16 = .ok (.iload_n 3, 1) := by decide +kernel
theorem dX5_platesIn_17 : decode cX5_platesIn 17 = .ok (.aaload, 1) := by decide +kernel
theorem dX5_platesIn_18 : decode cX5_platesIn 18 = .ok (.getfield 82, 3) := by decide +kernel
theorem dX5_platesIn_21 : decode cX5_platesIn 21 = .ok (.iload_n 1, 1) := by decide +kernel
theorem dX5_platesIn_22 : decode cX5_platesIn 22 = .ok (.if_icmp .ne 6, 3) := by decide +kernel
theorem dX5_platesIn_25 : decode cX5_platesIn 25 = .ok (.iinc 2 1, 3) := by decide +kernel
theorem dX5_platesIn_28 : decode cX5_platesIn 28 = .ok (.iinc 3 1, 3) := by decide +kernel
theorem dX5_platesIn_31 : decode cX5_platesIn 31 = .ok (.goto (-27), 3) := by decide +kernel
theorem dX5_platesIn_34 : decode cX5_platesIn 34 = .ok (.iload_n 2, 1) := by decide +kernel
theorem dX5_platesIn_35 : decode cX5_platesIn 35 = .ok (.ireturn, 1) := by decide +kernel
theorem dX5_platesOn_0 : decode cX5_platesOn 0 = .ok (.iconst 0, 1) := by decide +kernel
theorem dX5_platesOn_1 : decode cX5_platesOn 1 = .ok (.istore_n 2, 1) := by decide +kernel
theorem dX5_platesOn_2 : decode cX5_platesOn 2 = .ok (.iconst 0, 1) := by decide +kernel
theorem dX5_platesOn_3 : decode cX5_platesOn 3 = .ok (.istore_n 3, 1) := by decide +kernel
theorem dX5_platesOn_4 : decode cX5_platesOn 4 = .ok (.iload_n 3, 1) := by decide +kernel
theorem dX5_platesOn_5 : decode cX5_platesOn 5 = .ok (.aload_n 0, 1) := by decide +kernel
theorem dX5_platesOn_6 : decode cX5_platesOn 6 = .ok (.getfield 42, 3) := by decide +kernel
theorem dX5_platesOn_9 : decode cX5_platesOn 9 = .ok (.if_icmp .ge 25, 3) := by decide +kernel
theorem dX5_platesOn_12 : decode cX5_platesOn 12 = .ok (.aload_n 0, 1) := by decide +kernel
theorem dX5_platesOn_13 : decode cX5_platesOn 13 = .ok (.getfield 11, 3) := by decide +kernel
theorem dX5_platesOn_16 : decode cX5_platesOn 16 = .ok (.iload_n 3, 1) := by decide +kernel
theorem dX5_platesOn_17 : decode cX5_platesOn 17 = .ok (.aaload, 1) := by decide +kernel
theorem dX5_platesOn_18 : decode cX5_platesOn 18 = .ok (.getfield 85, 3) := by decide +kernel
theorem dX5_platesOn_21 : decode cX5_platesOn 21 = .ok (.iload_n 1, 1) := by decide +kernel
theorem dX5_platesOn_22 : decode cX5_platesOn 22 = .ok (.if_icmp .ne 6, 3) := by decide +kernel
theorem dX5_platesOn_25 : decode cX5_platesOn 25 = .ok (.iinc 2 1, 3) := by decide +kernel
theorem dX5_platesOn_28 : decode cX5_platesOn 28 = .ok (.iinc 3 1, 3) := by decide +kernel
theorem dX5_platesOn_31 : decode cX5_platesOn 31 = .ok (.goto (-27), 3) := by decide +kernel
theorem dX5_platesOn_34 : decode cX5_platesOn 34 = .ok (.iload_n 2, 1) := by decide +kernel
theorem dX5_platesOn_35 : decode cX5_platesOn 35 = .ok (.ireturn, 1) := by decide +kernel
theorem dX5_plateOfYear_0 : decode cX5_plateOfYear 0 = .ok (.iconst 0, 1) := by decide +kernel
theorem dX5_plateOfYear_1 : decode cX5_plateOfYear 1 = .ok (.istore_n 3, 1) := by decide +kernel
theorem dX5_plateOfYear_2 : decode cX5_plateOfYear 2 = .ok (.iload_n 3, 1) := by decide +kernel
theorem dX5_plateOfYear_3 : decode cX5_plateOfYear 3 = .ok (.aload_n 0, 1) := by decide +kernel
theorem dX5_plateOfYear_4 : decode cX5_plateOfYear 4 = .ok (.getfield 42, 3) := by decide +kernel
theorem dX5_plateOfYear_7 : decode cX5_plateOfYear 7 = .ok (.if_icmp .ge 37, 3) := by decide +kernel
theorem dX5_plateOfYear_10 : decode cX5_plateOfYear 10 = .ok (.aload_n 0, 1) := by decide +kernel
theorem dX5_plateOfYear_11 : decode cX5_plateOfYear 11 = .ok (.getfield 11, 3) := by decide +kernel
theorem dX5_plateOfYear_14 : decode cX5_plateOfYear 14 = .ok (.iload_n 3, 1) := by decide +kernel
theorem dX5_plateOfYear_15 : decode cX5_plateOfYear 15 = .ok (.aaload, 1) := by decide +kernel
theorem dX5_plateOfYear_16 : decode cX5_plateOfYear 16 = .ok (.getfield 85, 3) := by decide +kernel
theorem dX5_plateOfYear_19 : decode cX5_plateOfYear 19 = .ok (.iload_n 1, 1) := by decide +kernel
theorem dX5_plateOfYear_20 : decode cX5_plateOfYear 20 = .ok (.if_icmp .ne 18, 3) := by decide +kernel
theorem dX5_plateOfYear_23 : decode cX5_plateOfYear 23 = .ok (.aload_n 0, 1) := by decide +kernel
theorem dX5_plateOfYear_24 : decode cX5_plateOfYear 24 = .ok (.getfield 11, 3) := by decide +kernel
theorem dX5_plateOfYear_27 : decode cX5_plateOfYear 27 = .ok (.iload_n 3, 1) := by decide +kernel
theorem dX5_plateOfYear_28 : decode cX5_plateOfYear 28 = .ok (.aaload, 1) := by decide +kernel
theorem dX5_plateOfYear_29 : decode cX5_plateOfYear 29 = .ok (.getfield 88, 3) := by decide +kernel
theorem dX5_plateOfYear_32 : decode cX5_plateOfYear 32 = .ok (.iload_n 2, 1) := by decide +kernel
theorem dX5_plateOfYear_33 : decode cX5_plateOfYear 33 = .ok (.if_icmp .ne 5, 3) := by decide +kernel
theorem dX5_plateOfYear_36 : decode cX5_plateOfYear 36 = .ok (.iload_n 3, 1) := by decide +kernel
theorem dX5_plateOfYear_37 : decode cX5_plateOfYear 37 = .ok (.ireturn, 1) := by decide +kernel
theorem dX5_plateOfYear_38 : decode cX5_plateOfYear 38 = .ok (.iinc 3 1, 3) := by decide +kernel
theorem dX5_plateOfYear_41 : decode cX5_plateOfYear 41 = .ok (.goto (-39), 3) := by decide +kernel
theorem dX5_plateOfYear_44 : decode cX5_plateOfYear 44 = .ok (.bipush (-9), 2) := by decide +kernel
theorem dX5_plateOfYear_46 : decode cX5_plateOfYear 46 = .ok (.ireturn, 1) := by decide +kernel
theorem dX5_earliestYear_0 : decode cX5_earliestYear 0 = .ok (.bipush (-9), 2) := by decide +kernel
theorem dX5_earliestYear_2 : decode cX5_earliestYear 2 = .ok (.istore_n 2, 1) := by decide +kernel
theorem dX5_earliestYear_3 : decode cX5_earliestYear 3 = .ok (.iconst 0, 1) := by decide +kernel
theorem dX5_earliestYear_4 : decode cX5_earliestYear 4 = .ok (.istore_n 3, 1) := by decide +kernel
theorem dX5_earliestYear_5 : decode cX5_earliestYear 5 = .ok (.iload_n 3, 1) := by decide +kernel
theorem dX5_earliestYear_6 : decode cX5_earliestYear 6 = .ok (.aload_n 0, 1) := by decide +kernel
theorem dX5_earliestYear_7 : decode cX5_earliestYear 7 = .ok (.getfield 42, 3) := by decide +kernel
theorem dX5_earliestYear_10 : decode cX5_earliestYear 10 = .ok (.if_icmp .ge 48, 3) := by decide +kernel
theorem dX5_earliestYear_13 : decode cX5_earliestYear 13 = .ok (.aload_n 0, 1) := by decide +kernel
theorem dX5_earliestYear_14 : decode cX5_earliestYear 14 = .ok (.getfield 11, 3) := by decide +kernel
theorem dX5_earliestYear_17 : decode cX5_earliestYear 17 = .ok (.iload_n 3, 1) := by decide +kernel
theorem dX5_earliestYear_18 : decode cX5_earliestYear 18 = .ok (.aaload, 1) := by decide +kernel
theorem dX5_earliestYear_19 : decode cX5_earliestYear 19 = .ok (.getfield 88, 3) := by decide +kernel
theorem dX5_earliestYear_22 : decode cX5_earliestYear 22 = .ok (.istore 4, 2) := by decide +kernel
theorem dX5_earliestYear_24 : decode cX5_earliestYear 24 = .ok (.aload_n 0, 1) := by decide +kernel
theorem dX5_earliestYear_25 : decode cX5_earliestYear 25 = .ok (.getfield 11, 3) := by decide +kernel
theorem dX5_earliestYear_28 : decode cX5_earliestYear 28 = .ok (.iload_n 3, 1) := by decide +kernel
theorem dX5_earliestYear_29 : decode cX5_earliestYear 29 = .ok (.aaload, 1) := by decide +kernel
theorem dX5_earliestYear_30 : decode cX5_earliestYear 30 = .ok (.getfield 85, 3) := by decide +kernel
theorem dX5_earliestYear_33 : decode cX5_earliestYear 33 = .ok (.iload_n 1, 1) := by decide +kernel
theorem dX5_earliestYear_34 : decode cX5_earliestYear 34 = .ok (.if_icmp .ne 18, 3) := by decide +kernel
theorem dX5_earliestYear_37 : decode cX5_earliestYear 37 = .ok (.iload_n 2, 1) := by decide +kernel
theorem dX5_earliestYear_38 : decode cX5_earliestYear 38 = .ok (.bipush (-9), 2) := by decide +kernel
theorem dX5_earliestYear_40 : decode cX5_earliestYear 40 = .ok (.if_icmp .eq 9, 3) := by decide +kernel
theorem dX5_earliestYear_43 : decode cX5_earliestYear 43 = .ok (.iload 4, 2) := by decide +kernel
theorem dX5_earliestYear_45 : decode cX5_earliestYear 45 = .ok (.iload_n 2, 1) := by decide +kernel
theorem dX5_earliestYear_46 : decode cX5_earliestYear 46 = .ok (.if_icmp .ge 6, 3) := by decide +kernel
theorem dX5_earliestYear_49 : decode cX5_earliestYear 49 = .ok (.iload 4, 2) := by decide +kernel
theorem dX5_earliestYear_51 : decode cX5_earliestYear 51 = .ok (.istore_n 2, 1) := by decide +kernel
theorem dX5_earliestYear_52 : decode cX5_earliestYear 52 = .ok (.iinc 3 1, 3) := by decide +kernel
theorem dX5_earliestYear_55 : decode cX5_earliestYear 55 = .ok (.goto (-50), 3) := by decide +kernel
theorem dX5_earliestYear_58 : decode cX5_earliestYear 58 = .ok (.iload_n 2, 1) := by decide +kernel
theorem dX5_earliestYear_59 : decode cX5_earliestYear 59 = .ok (.ireturn, 1) := by decide +kernel
theorem dX5_latestYear_0 : decode cX5_latestYear 0 = .ok (.bipush (-9), 2) := by decide +kernel
theorem dX5_latestYear_2 : decode cX5_latestYear 2 = .ok (.istore_n 2, 1) := by decide +kernel
theorem dX5_latestYear_3 : decode cX5_latestYear 3 = .ok (.iconst 0, 1) := by decide +kernel
theorem dX5_latestYear_4 : decode cX5_latestYear 4 = .ok (.istore_n 3, 1) := by decide +kernel
theorem dX5_latestYear_5 : decode cX5_latestYear 5 = .ok (.iload_n 3, 1) := by decide +kernel
theorem dX5_latestYear_6 : decode cX5_latestYear 6 = .ok (.aload_n 0, 1) := by decide +kernel
theorem dX5_latestYear_7 : decode cX5_latestYear 7 = .ok (.getfield 42, 3) := by decide +kernel
theorem dX5_latestYear_10 : decode cX5_latestYear 10 = .ok (.if_icmp .ge 48, 3) := by decide +kernel
theorem dX5_latestYear_13 : decode cX5_latestYear 13 = .ok (.aload_n 0, 1) := by decide +kernel
theorem dX5_latestYear_14 : decode cX5_latestYear 14 = .ok (.getfield 11, 3) := by decide +kernel
theorem dX5_latestYear_17 : decode cX5_latestYear 17 = .ok (.iload_n 3, 1) := by decide +kernel
theorem dX5_latestYear_18 : decode cX5_latestYear 18 = .ok (.aaload, 1) := by decide +kernel
theorem dX5_latestYear_19 : decode cX5_latestYear 19 = .ok (.getfield 88, 3) := by decide +kernel
theorem dX5_latestYear_22 : decode cX5_latestYear 22 = .ok (.istore 4, 2) := by decide +kernel
theorem dX5_latestYear_24 : decode cX5_latestYear 24 = .ok (.aload_n 0, 1) := by decide +kernel
theorem dX5_latestYear_25 : decode cX5_latestYear 25 = .ok (.getfield 11, 3) := by decide +kernel
theorem dX5_latestYear_28 : decode cX5_latestYear 28 = .ok (.iload_n 3, 1) := by decide +kernel
theorem dX5_latestYear_29 : decode cX5_latestYear 29 = .ok (.aaload, 1) := by decide +kernel
theorem dX5_latestYear_30 : decode cX5_latestYear 30 = .ok (.getfield 85, 3) := by decide +kernel
theorem dX5_latestYear_33 : decode cX5_latestYear 33 = .ok (.iload_n 1, 1) := by decide +kernel
theorem dX5_latestYear_34 : decode cX5_latestYear 34 = .ok (.if_icmp .ne 18, 3) := by decide +kernel
theorem dX5_latestYear_37 : decode cX5_latestYear 37 = .ok (.iload_n 2, 1) := by decide +kernel
theorem dX5_latestYear_38 : decode cX5_latestYear 38 = .ok (.bipush (-9), 2) := by decide +kernel
theorem dX5_latestYear_40 : decode cX5_latestYear 40 = .ok (.if_icmp .eq 9, 3) := by decide +kernel
theorem dX5_latestYear_43 : decode cX5_latestYear 43 = .ok (.iload 4, 2) := by decide +kernel
theorem dX5_latestYear_45 : decode cX5_latestYear 45 = .ok (.iload_n 2, 1) := by decide +kernel
theorem dX5_latestYear_46 : decode cX5_latestYear 46 = .ok (.if_icmp .le 6, 3) := by decide +kernel
theorem dX5_latestYear_49 : decode cX5_latestYear 49 = .ok (.iload 4, 2) := by decide +kernel
theorem dX5_latestYear_51 : decode cX5_latestYear 51 = .ok (.istore_n 2, 1) := by decide +kernel
theorem dX5_latestYear_52 : decode cX5_latestYear 52 = .ok (.iinc 3 1, 3) := by decide +kernel
theorem dX5_latestYear_55 : decode cX5_latestYear 55 = .ok (.goto (-50), 3) := by decide +kernel
theorem dX5_latestYear_58 : decode cX5_latestYear 58 = .ok (.iload_n 2, 1) := by decide +kernel
theorem dX5_latestYear_59 : decode cX5_latestYear 59 = .ok (.ireturn, 1) := by decide +kernel
theorem dX5_yearsLeftOut_0 : decode cX5_yearsLeftOut 0 = .ok (.aload_n 0, 1) := by decide +kernel
theorem dX5_yearsLeftOut_1 : decode cX5_yearsLeftOut 1 = .ok (.iload_n 1, 1) := by decide +kernel
theorem dX5_yearsLeftOut_2 : decode cX5_yearsLeftOut 2 = .ok (.invokevirtual 91, 3) := by decide +kernel
theorem dX5_yearsLeftOut_5 : decode cX5_yearsLeftOut 5 = .ok (.istore_n 2, 1) := by decide +kernel
theorem dX5_yearsLeftOut_6 : decode cX5_yearsLeftOut 6 = .ok (.iload_n 2, 1) := by decide +kernel
theorem dX5_yearsLeftOut_7 : decode cX5_yearsLeftOut 7 = .ok (.ifCond .ne 7, 3) := by decide +kernel
theorem dX5_yearsLeftOut_10 : decode cX5_yearsLeftOut 10 = .ok (.iconst 0, 1) := by decide +kernel
theorem dX5_yearsLeftOut_11 : decode cX5_yearsLeftOut 11 = .ok (.goto 18, 3) := by decide +kernel
theorem dX5_yearsLeftOut_14 : decode cX5_yearsLeftOut 14 = .ok (.aload_n 0, 1) := by decide +kernel
theorem dX5_yearsLeftOut_15 : decode cX5_yearsLeftOut 15 = .ok (.iload_n 1, 1) := by decide +kernel
theorem dX5_yearsLeftOut_16 : decode cX5_yearsLeftOut 16 = .ok (.invokevirtual 95, 3) := by decide +kernel
theorem dX5_yearsLeftOut_19 : decode cX5_yearsLeftOut 19 = .ok (.aload_n 0, 1) := by decide +kernel
theorem dX5_yearsLeftOut_20 : decode cX5_yearsLeftOut 20 = .ok (.iload_n 1, 1) := by decide +kernel
theorem dX5_yearsLeftOut_21 : decode cX5_yearsLeftOut 21 = .ok (.invokevirtual 98, 3) := by decide +kernel
theorem dX5_yearsLeftOut_24 : decode cX5_yearsLeftOut 24 = .ok (.isub, 1) := by decide +kernel
theorem dX5_yearsLeftOut_25 : decode cX5_yearsLeftOut 25 = .ok (.iconst 1, 1) := by decide +kernel
theorem dX5_yearsLeftOut_26 : decode cX5_yearsLeftOut 26 = .ok (.iadd, 1) := by decide +kernel
theorem dX5_yearsLeftOut_27 : decode cX5_yearsLeftOut 27 = .ok (.iload_n 2, 1) := by decide +kernel
theorem dX5_yearsLeftOut_28 : decode cX5_yearsLeftOut 28 = .ok (.isub, 1) := by decide +kernel
theorem dX5_yearsLeftOut_29 : decode cX5_yearsLeftOut 29 = .ok (.ireturn, 1) := by decide +kernel
theorem dX5_fixPlate_0 : decode cX5_fixPlate 0 = .ok (.aload_n 1, 1) := by decide +kernel
theorem dX5_fixPlate_1 : decode cX5_fixPlate 1 = .ok (.iload_n 2, 1) := by decide +kernel
theorem dX5_fixPlate_2 : decode cX5_fixPlate 2 = .ok (.iload_n 3, 1) := by decide +kernel
theorem dX5_fixPlate_3 : decode cX5_fixPlate 3 = .ok (.invokevirtual 101, 3) := by decide +kernel
theorem dX5_fixPlate_6 : decode cX5_fixPlate 6 = .ok (.aload_n 0, 1) := by decide +kernel
theorem dX5_fixPlate_7 : decode cX5_fixPlate 7 = .ok (.iload_n 2, 1) := by decide +kernel
theorem dX5_fixPlate_8 : decode cX5_fixPlate 8 = .ok (.invokevirtual 104, 3) := by decide +kernel
theorem dX5_fixPlate_11 : decode cX5_fixPlate 11 = .ok (.ifCond .eq 48, 3) := by decide +kernel
theorem dX5_fixPlate_14 : decode cX5_fixPlate 14 = .ok (.aload_n 0, 1) := by decide +kernel
theorem dX5_fixPlate_15 : decode cX5_fixPlate 15 = .ok (.iload_n 2, 1) := by decide +kernel
theorem dX5_fixPlate_16 : decode cX5_fixPlate 16 = .ok (.invokevirtual 91, 3) := by decide +kernel
theorem dX5_fixPlate_19 : decode cX5_fixPlate 19 = .ok (.aload_n 0, 1) := by decide +kernel
theorem dX5_fixPlate_20 : decode cX5_fixPlate 20 = .ok (.getfield 17, 3) := by decide +kernel
theorem dX5_fixPlate_23 : decode cX5_fixPlate 23 = .ok (.iload_n 2, 1) := by decide +kernel
theorem dX5_fixPlate_24 : decode cX5_fixPlate 24 = .ok (.iaload, 1) := by decide +kernel
theorem dX5_fixPlate_25 : decode cX5_fixPlate 25 = .ok (.if_icmp .le 34, 3) := by decide +kernel
theorem dX5_fixPlate_28 : decode cX5_fixPlate 28 = .ok (.aload_n 0, 1) := by decide +kernel
theorem dX5_fixPlate_29 : decode cX5_fixPlate 29 = .ok (.iload_n 2, 1) := by decide +kernel
theorem dX5_fixPlate_30 : decode cX5_fixPlate 30 = .ok (.aload_n 0, 1) := by decide +kernel
theorem dX5_fixPlate_31 : decode cX5_fixPlate 31 = .ok (.iload_n 2, 1) := by decide +kernel
theorem dX5_fixPlate_32 : decode cX5_fixPlate 32 = .ok (.invokevirtual 98, 3) := by decide +kernel
theorem dX5_fixPlate_35 : decode cX5_fixPlate 35 = .ok (.invokevirtual 107, 3) := by decide +kernel
theorem dX5_fixPlate_38 : decode cX5_fixPlate 38 = .ok (.istore 4, 2) := by decide +kernel
theorem dX5_fixPlate_40 : decode cX5_fixPlate 40 = .ok (.aload_n 0, 1) := by decide +kernel
theorem dX5_fixPlate_41 : decode cX5_fixPlate 41 = .ok (.iload 4, 2) := by decide +kernel
theorem dX5_fixPlate_43 : decode cX5_fixPlate 43 = .ok (.invokevirtual 71, 3) := by decide +kernel
theorem dX5_fixPlate_46 : decode cX5_fixPlate 46 = .ok (.ifCond .eq 13, 3) := by decide +kernel
theorem dX5_fixPlate_49 : decode cX5_fixPlate 49 = .ok (.aload_n 0, 1) := by decide +kernel
theorem dX5_fixPlate_50 : decode cX5_fixPlate 50 = .ok (.getfield 11, 3) := by decide +kernel
theorem dX5_fixPlate_53 : decode cX5_fixPlate 53 = .ok (.iload 4, 2) := by decide +kernel
theorem dX5_fixPlate_55 : decode cX5_fixPlate 55 = .ok (.aaload, 1) := by decide +kernel
theorem dX5_fixPlate_56 : decode cX5_fixPlate 56 = .ok (.invokevirtual 111, 3) := by decide +kernel
theorem dX5_fixPlate_59 : decode cX5_fixPlate 59 = .ok (.return_, 1) := by decide +kernel
theorem dX5_findPlate_0 : decode cX5_findPlate 0 = .ok (.aload_n 0, 1) := by decide +kernel
theorem dX5_findPlate_1 : decode cX5_findPlate 1 = .ok (.iload_n 1, 1) := by decide +kernel
theorem dX5_findPlate_2 : decode cX5_findPlate 2 = .ok (.iload_n 2, 1) := by decide +kernel
theorem dX5_findPlate_3 : decode cX5_findPlate 3 = .ok (.iconst 0, 1) := by decide +kernel
theorem dX5_findPlate_4 : decode cX5_findPlate 4 = .ok (.invokevirtual 114, 3) := by decide +kernel
theorem dX5_findPlate_7 : decode cX5_findPlate 7 = .ok (.istore_n 3, 1) := by decide +kernel
theorem dX5_findPlate_8 : decode cX5_findPlate 8 = .ok (.iload_n 3, 1) := by decide +kernel
theorem dX5_findPlate_9 : decode cX5_findPlate 9 = .ok (.bipush (-9), 2) := by decide +kernel
theorem dX5_findPlate_11 : decode cX5_findPlate 11 = .ok (.if_icmp .ne 13, 3) := by decide +kernel
theorem dX5_findPlate_14 : decode cX5_findPlate 14 = .ok (.aload_n 0, 1) := by decide +kernel
theorem dX5_findPlate_15 : decode cX5_findPlate 15 = .ok (.iload_n 1, 1) := by decide +kernel
theorem dX5_findPlate_16 : decode cX5_findPlate 16 = .ok (.iload_n 2, 1) := by decide +kernel
theorem dX5_findPlate_17 : decode cX5_findPlate 17 = .ok (.iconst 1, 1) := by decide +kernel
theorem dX5_findPlate_18 : decode cX5_findPlate 18 = .ok (.invokevirtual 114, 3) := by decide +kernel
theorem dX5_findPlate_21 : decode cX5_findPlate 21 = .ok (.goto 4, 3) := by decide +kernel
theorem dX5_findPlate_24 : decode cX5_findPlate 24 = .ok (.iload_n 3, 1) := by decide +kernel
theorem dX5_findPlate_25 : decode cX5_findPlate 25 = .ok (.ireturn, 1) := by decide +kernel
theorem dX5_bestPlate_0 : decode cX5_bestPlate 0 = .ok (.bipush (-9), 2) := by decide +kernel
theorem dX5_bestPlate_2 : decode cX5_bestPlate 2 = .ok (.istore 4, 2) := by decide +kernel
theorem dX5_bestPlate_4 : decode cX5_bestPlate 4 = .ok (.iconst 0, 1) := by decide +kernel
theorem dX5_bestPlate_5 : decode cX5_bestPlate 5 = .ok (.istore 5, 2) := by decide +kernel
theorem dX5_bestPlate_7 : decode cX5_bestPlate 7 = .ok (.iload 5, 2) := by decide +kernel
theorem dX5_bestPlate_9 : decode cX5_bestPlate 9 = .ok (.aload_n 0, 1) := by decide +kernel
theorem dX5_bestPlate_10 : decode cX5_bestPlate 10 = .ok (.getfield 42, 3) := by decide +kernel
theorem dX5_bestPlate_13 : decode cX5_bestPlate 13 = .ok (.if_icmp .ge 101, 3) := by decide +kernel
theorem dX5_bestPlate_16 : decode cX5_bestPlate 16 = .ok (.aload_n 0, 1) := by decide +kernel
theorem dX5_bestPlate_17 : decode cX5_bestPlate 17 = .ok (.getfield 11, 3) := by decide +kernel
theorem dX5_bestPlate_20 : decode cX5_bestPlate 20 = .ok (.iload 5, 2) := by decide +kernel
theorem dX5_bestPlate_22 : decode cX5_bestPlate 22 = .ok (.aaload, 1) := by decide +kernel
theorem dX5_bestPlate_23 : decode cX5_bestPlate 23 = .ok (.astore 6, 2) := by decide +kernel
theorem dX5_bestPlate_25 : decode cX5_bestPlate 25 = .ok (.iload_n 3, 1) := by decide +kernel
theorem dX5_bestPlate_26 : decode cX5_bestPlate 26 = .ok (.ifCond .eq 12, 3) := by decide +kernel
theorem dX5_bestPlate_29 : decode cX5_bestPlate 29 = .ok (.aload 6, 2) := by decide +kernel
theorem dX5_bestPlate_31 : decode cX5_bestPlate 31 = .ok (.iload_n 2, 1) := by decide +kernel
theorem dX5_bestPlate_32 : decode cX5_bestPlate 32 = .ok (.invokevirtual 118, 3) := by decide +kernel
theorem dX5_bestPlate_35 : decode cX5_bestPlate 35 = .ok (.goto 9, 3) := by decide +kernel
theorem dX5_bestPlate_38 : decode cX5_bestPlate 38 = .ok (.aload 6, 2) := by decide +kernel
theorem dX5_bestPlate_40 : decode cX5_bestPlate 40 = .ok (.iload_n 2, 1) := by decide +kernel
theorem dX5_bestPlate_41 : decode cX5_bestPlate 41 = .ok (.invokevirtual 121, 3) := by decide +kernel
theorem dX5_bestPlate_44 : decode cX5_bestPlate 44 = .ok (.istore 7, 2) := by decide +kernel
theorem dX5_bestPlate_46 : decode cX5_bestPlate 46 = .ok (.aload 6, 2) := by decide +kernel
theorem dX5_bestPlate_48 : decode cX5_bestPlate 48 = .ok (.getfield 82, 3) := by decide +kernel
theorem dX5_bestPlate_51 : decode cX5_bestPlate 51 = .ok (.ifCond .ne 23, 3) := by decide +kernel
theorem dX5_bestPlate_54 : decode cX5_bestPlate 54 = .ok (.aload 6, 2) := by decide +kernel
theorem dX5_bestPlate_56 : decode cX5_bestPlate 56 = .ok (.getfield 124, 3) := by decide +kernel
theorem dX5_bestPlate_59 : decode cX5_bestPlate 59 = .ok (.iload_n 1, 1) := by decide +kernel
theorem dX5_bestPlate_60 : decode cX5_bestPlate 60 = .ok (.if_icmp .lt 14, 3) := by decide +kernel
theorem dX5_bestPlate_63 : decode cX5_bestPlate 63 = .ok (.iload 7, 2) := by decide +kernel
theorem dX5_bestPlate_65 : decode cX5_bestPlate 65 = .ok (.bipush (-9), 2) := by decide +kernel
theorem dX5_bestPlate_67 : decode cX5_bestPlate 67 = .ok (.if_icmp .eq 7, 3) := by decide +kernel
theorem dX5_bestPlate_70 : decode cX5_bestPlate 70 = .ok (.iconst 1, 1) := by decide +kernel
theorem dX5_bestPlate_71 : decode cX5_bestPlate 71 = .ok (.goto 4, 3) := by decide +kernel
theorem dX5_bestPlate_74 : decode cX5_bestPlate 74 = .ok (.iconst 0, 1) := by decide +kernel
theorem dX5_bestPlate_75 : decode cX5_bestPlate 75 = .ok (.istore 8, 2) := by decide +kernel
theorem dX5_bestPlate_77 : decode cX5_bestPlate 77 = .ok (.iload 8, 2) := by decide +kernel
theorem dX5_bestPlate_79 : decode cX5_bestPlate 79 = .ok (.ifCond .eq 29, 3) := by decide +kernel
theorem dX5_bestPlate_82 : decode cX5_bestPlate 82 = .ok (.iload 4, 2) := by decide +kernel
theorem dX5_bestPlate_84 : decode cX5_bestPlate 84 = .ok (.bipush (-9), 2) := by decide +kernel
theorem dX5_bestPlate_86 : decode cX5_bestPlate 86 = .ok (.if_icmp .eq 18, 3) := by decide +kernel
theorem dX5_bestPlate_89 : decode cX5_bestPlate 89 = .ok (.aload 6, 2) := by decide +kernel
theorem dX5_bestPlate_91 : decode cX5_bestPlate 91 = .ok (.aload_n 0, 1) := by decide +kernel
theorem dX5_bestPlate_92 : decode cX5_bestPlate 92 = .ok (.getfield 11, 3) := by decide +kernel
theorem dX5_bestPlate_95 : decode cX5_bestPlate 95 = .ok (.iload 4, 2) := by decide +kernel
theorem dX5_bestPlate_97 : decode cX5_bestPlate 97 = .ok (.aaload, 1) := by decide +kernel
theorem dX5_bestPlate_98 : decode cX5_bestPlate 98 = .ok (.invokevirtual 127, 3) := by decide +kernel
theorem dX5_bestPlate_101 : decode cX5_bestPlate 101 = .ok (.ifCond .eq 7, 3) := by decide +kernel
theorem dX5_bestPlate_104 : decode cX5_bestPlate 104 = .ok (.iload 5, 2) := by decide +kernel
theorem dX5_bestPlate_106 : decode cX5_bestPlate 106 = .ok (.istore 4, 2) := by decide +kernel
theorem dX5_bestPlate_108 : decode cX5_bestPlate 108 = .ok (.iinc 5 1, 3) := by decide +kernel
theorem dX5_bestPlate_111 : decode cX5_bestPlate 111 = .ok (.goto (-104), 3) := by decide +kernel
theorem dX5_bestPlate_114 : decode cX5_bestPlate 114 = .ok (.iload 4, 2) := by decide +kernel
theorem dX5_bestPlate_116 : decode cX5_bestPlate 116 = .ok (.ireturn, 1) := by decide +kernel
theorem dX5_rushes_0 : decode cX5_rushes 0 = .ok (.iconst 0, 1) := by decide +kernel
theorem dX5_rushes_1 : decode cX5_rushes 1 = .ok (.istore_n 1, 1) := by decide +kernel
theorem dX5_rushes_2 : decode cX5_rushes 2 = .ok (.iconst 0, 1) := by decide +kernel
theorem dX5_rushes_3 : decode cX5_rushes 3 = .ok (.istore_n 2, 1) := by decide +kernel
theorem dX5_rushes_4 : decode cX5_rushes 4 = .ok (.iload_n 2, 1) := by decide +kernel
theorem dX5_rushes_5 : decode cX5_rushes 5 = .ok (.aload_n 0, 1) := by decide +kernel
theorem dX5_rushes_6 : decode cX5_rushes 6 = .ok (.getfield 52, 3) := by decide +kernel
theorem dX5_rushes_9 : decode cX5_rushes 9 = .ok (.if_icmp .ge 24, 3) := by decide +kernel
theorem dX5_rushes_12 : decode cX5_rushes 12 = .ok (.aload_n 0, 1) := by decide +kernel
theorem dX5_rushes_13 : decode cX5_rushes 13 = .ok (.getfield 23, 3) := by decide +kernel
theorem dX5_rushes_16 : decode cX5_rushes 16 = .ok (.iload_n 2, 1) := by decide +kernel
theorem dX5_rushes_17 : decode cX5_rushes 17 = .ok (.aaload, 1) := by decide +kernel
theorem dX5_rushes_18 : decode cX5_rushes 18 = .ok (.getfield 131, 3) := by decide +kernel
theorem dX5_rushes_21 : decode cX5_rushes 21 = .ok (.ifCond .eq 6, 3) := by decide +kernel
theorem dX5_rushes_24 : decode cX5_rushes 24 = .ok (.iinc 1 1, 3) := by decide +kernel
theorem dX5_rushes_27 : decode cX5_rushes 27 = .ok (.iinc 2 1, 3) := by decide +kernel
theorem dX5_rushes_30 : decode cX5_rushes 30 = .ok (.goto (-26), 3) := by decide +kernel
theorem dX5_rushes_33 : decode cX5_rushes 33 = .ok (.iload_n 1, 1) := by decide +kernel
theorem dX5_rushes_34 : decode cX5_rushes 34 = .ok (.ireturn, 1) := by decide +kernel
theorem dX5_isOrdered_0 : decode cX5_isOrdered 0 = .ok (.iconst 0, 1) := by decide +kernel
theorem dX5_isOrdered_1 : decode cX5_isOrdered 1 = .ok (.istore_n 3, 1) := by decide +kernel
theorem dX5_isOrdered_2 : decode cX5_isOrdered 2 = .ok (.iload_n 3, 1) := by decide +kernel
theorem dX5_isOrdered_3 : decode cX5_isOrdered 3 = .ok (.aload_n 0, 1) := by decide +kernel
theorem dX5_isOrdered_4 : decode cX5_isOrdered 4 = .ok (.getfield 52, 3) := by decide +kernel
theorem dX5_isOrdered_7 : decode cX5_isOrdered 7 = .ok (.if_icmp .ge 37, 3) := by decide +kernel
theorem dX5_isOrdered_10 : decode cX5_isOrdered 10 = .ok (.aload_n 0, 1) := by decide +kernel
theorem dX5_isOrdered_11 : decode cX5_isOrdered 11 = .ok (.getfield 23, 3) := by decide +kernel
theorem dX5_isOrdered_14 : decode cX5_isOrdered 14 = .ok (.iload_n 3, 1) := by decide +kernel
theorem dX5_isOrdered_15 : decode cX5_isOrdered 15 = .ok (.aaload, 1) := by decide +kernel
theorem dX5_isOrdered_16 : decode cX5_isOrdered 16 = .ok (.getfield 135, 3) := by decide +kernel
theorem dX5_isOrdered_19 : decode cX5_isOrdered 19 = .ok (.iload_n 1, 1) := by decide +kernel
theorem dX5_isOrdered_20 : decode cX5_isOrdered 20 = .ok (.if_icmp .ne 18, 3) := by decide +kernel
theorem dX5_isOrdered_23 : decode cX5_isOrdered 23 = .ok (.aload_n 0, 1) := by decide +kernel
theorem dX5_isOrdered_24 : decode cX5_isOrdered 24 = .ok (.getfield 23, 3) := by decide +kernel
theorem dX5_isOrdered_27 : decode cX5_isOrdered 27 = .ok (.iload_n 3, 1) := by decide +kernel
theorem dX5_isOrdered_28 : decode cX5_isOrdered 28 = .ok (.aaload, 1) := by decide +kernel
theorem dX5_isOrdered_29 : decode cX5_isOrdered 29 = .ok (.getfield 136, 3) := by decide +kernel
theorem dX5_isOrdered_32 : decode cX5_isOrdered 32 = .ok (.iload_n 2, 1) := by decide +kernel
theorem dX5_isOrdered_33 : decode cX5_isOrdered 33 = .ok (.if_icmp .ne 5, 3) := by decide +kernel
theorem dX5_isOrdered_36 : decode cX5_isOrdered 36 = .ok (.iconst 1, 1) := by decide +kernel
theorem dX5_isOrdered_37 : decode cX5_isOrdered 37 = .ok (.ireturn, 1) := by decide +kernel
theorem dX5_isOrdered_38 : decode cX5_isOrdered 38 = .ok (.iinc 3 1, 3) := by decide +kernel
theorem dX5_isOrdered_41 : decode cX5_isOrdered 41 = .ok (.goto (-39), 3) := by decide +kernel
theorem dX5_isOrdered_44 : decode cX5_isOrdered 44 = .ok (.iconst 0, 1) := by decide +kernel
theorem dX5_isOrdered_45 : decode cX5_isOrdered 45 = .ok (.ireturn, 1) := by decide +kernel
theorem dX5_takeInOrder_0 : decode cX5_takeInOrder 0 = .ok (.aload_n 0, 1) := by decide +kernel
theorem dX5_takeInOrder_1 : decode cX5_takeInOrder 1 = .ok (.getfield 52, 3) := by decide +kernel
theorem dX5_takeInOrder_4 : decode cX5_takeInOrder 4 = .ok (.istore_n 1, 1) := by decide +kernel
theorem dX5_takeInOrder_5 : decode cX5_takeInOrder 5 = .ok (.aload_n 0, 1) := by decide +kernel
theorem dX5_takeInOrder_6 : decode cX5_takeInOrder 6 = .ok (.getfield 23, 3) := by decide +kernel
theorem dX5_takeInOrder_9 : decode cX5_takeInOrder 9 = .ok (.iload_n 1, 1) := by decide +kernel
theorem dX5_takeInOrder_10 : decode cX5_takeInOrder 10 = .ok (.aaload, 1) := by decide +kernel
theorem dX5_takeInOrder_11 : decode cX5_takeInOrder 11 = .ok (.getfield 131, 3) := by decide +kernel
theorem dX5_takeInOrder_14 : decode cX5_takeInOrder 14 = .ok (.ifCond .eq 10, 3) := by decide +kernel
theorem dX5_takeInOrder_17 : decode cX5_takeInOrder 17 = .ok (.aload_n 0, 1) := by decide +kernel
theorem dX5_takeInOrder_18 : decode cX5_takeInOrder 18 = .ok (.invokevirtual 137, 3) := by decide +kernel
theorem dX5_takeInOrder_21 : decode cX5_takeInOrder 21 = .ok (.goto 4, 3) := by decide +kernel
theorem dX5_takeInOrder_24 : decode cX5_takeInOrder 24 = .ok (.iload_n 1, 1) := by decide +kernel
theorem dX5_takeInOrder_25 : decode cX5_takeInOrder 25 = .ok (.istore_n 2, 1) := by decide +kernel
theorem dX5_takeInOrder_26 : decode cX5_takeInOrder 26 = .ok (.aload_n 0, 1) := by decide +kernel
theorem dX5_takeInOrder_27 : decode cX5_takeInOrder 27 = .ok (.dup, 1) := by decide +kernel
theorem dX5_takeInOrder_28 : decode cX5_takeInOrder 28 = .ok (.getfield 52, 3) := by decide +kernel
theorem dX5_takeInOrder_31 : decode cX5_takeInOrder 31 = .ok (.iconst 1, 1) := by decide +kernel
theorem dX5_takeInOrder_32 : decode cX5_takeInOrder 32 = .ok (.iadd, 1) := by decide +kernel
theorem dX5_takeInOrder_33 : decode cX5_takeInOrder 33 = .ok (.putfield 52, 3) := by decide +kernel
theorem dX5_takeInOrder_36 : decode cX5_takeInOrder 36 = .ok (.aload_n 0, 1) := by decide +kernel
theorem dX5_takeInOrder_37 : decode cX5_takeInOrder 37 = .ok (.iload_n 1, 1) := by decide +kernel
theorem dX5_takeInOrder_38 : decode cX5_takeInOrder 38 = .ok (.iload_n 2, 1) := by decide +kernel
theorem dX5_takeInOrder_39 : decode cX5_takeInOrder 39 = .ok (.invokevirtual 141, 3) := by decide +kernel
theorem dX5_takeInOrder_42 : decode cX5_takeInOrder 42 = .ok (.iload_n 2, 1) := by decide +kernel
theorem dX5_takeInOrder_43 : decode cX5_takeInOrder 43 = .ok (.ireturn, 1) := by decide +kernel
theorem dX5_makeRush_0 : decode cX5_makeRush 0 = .ok (.aload_n 0, 1) := by decide +kernel
theorem dX5_makeRush_1 : decode cX5_makeRush 1 = .ok (.invokevirtual 137, 3) := by decide +kernel
theorem dX5_makeRush_4 : decode cX5_makeRush 4 = .ok (.istore_n 2, 1) := by decide +kernel
theorem dX5_makeRush_5 : decode cX5_makeRush 5 = .ok (.aload_n 0, 1) := by decide +kernel
theorem dX5_makeRush_6 : decode cX5_makeRush 6 = .ok (.getfield 23, 3) := by decide +kernel
theorem dX5_makeRush_9 : decode cX5_makeRush 9 = .ok (.iload_n 1, 1) := by decide +kernel
theorem dX5_makeRush_10 : decode cX5_makeRush 10 = .ok (.aaload, 1) := by decide +kernel
theorem dX5_makeRush_11 : decode cX5_makeRush 11 = .ok (.iconst 1, 1) := by decide +kernel
theorem dX5_makeRush_12 : decode cX5_makeRush 12 = .ok (.putfield 131, 3) := by decide +kernel
theorem dX5_makeRush_15 : decode cX5_makeRush 15 = .ok (.aload_n 0, 1) := by decide +kernel
theorem dX5_makeRush_16 : decode cX5_makeRush 16 = .ok (.iload_n 1, 1) := by decide +kernel
theorem dX5_makeRush_17 : decode cX5_makeRush 17 = .ok (.iload_n 2, 1) := by decide +kernel
theorem dX5_makeRush_18 : decode cX5_makeRush 18 = .ok (.invokevirtual 141, 3) := by decide +kernel
theorem dX5_makeRush_21 : decode cX5_makeRush 21 = .ok (.iload_n 2, 1) := by decide +kernel
theorem dX5_makeRush_22 : decode cX5_makeRush 22 = .ok (.ireturn, 1) := by decide +kernel
theorem dX5_moveAhead_0 : decode cX5_moveAhead 0 = .ok (.aload_n 0, 1) := by decide +kernel
theorem dX5_moveAhead_1 : decode cX5_moveAhead 1 = .ok (.getfield 23, 3) := by decide +kernel
theorem dX5_moveAhead_4 : decode cX5_moveAhead 4 = .ok (.iload_n 1, 1) := by decide +kernel
theorem dX5_moveAhead_5 : decode cX5_moveAhead 5 = .ok (.aaload, 1) := by decide +kernel
theorem dX5_moveAhead_6 : decode cX5_moveAhead 6 = .ok (.astore_n 3, 1) := by decide +kernel
theorem dX5_moveAhead_7 : decode cX5_moveAhead 7 = .ok (.iload_n 1, 1) := by decide +kernel
theorem dX5_moveAhead_8 : decode cX5_moveAhead 8 = .ok (.istore 4, 2) := by decide +kernel
theorem dX5_moveAhead_10 : decode cX5_moveAhead 10 = .ok (.iload 4, 2) := by decide +kernel
theorem dX5_moveAhead_12 : decode cX5_moveAhead 12 = .ok (.iload_n 2, 1) := by decide +kernel
theorem dX5_moveAhead_13 : decode cX5_moveAhead 13 = .ok (.if_icmp .le 25, 3) := by decide +kernel
theorem dX5_moveAhead_16 : decode cX5_moveAhead 16 = .ok (.aload_n 0, 1) := by decide +kernel
theorem dX5_moveAhead_17 : decode cX5_moveAhead 17 = .ok (.getfield 23, 3) := by decide +kernel
theorem dX5_moveAhead_20 : decode cX5_moveAhead 20 = .ok (.iload 4, 2) := by decide +kernel
theorem dX5_moveAhead_22 : decode cX5_moveAhead 22 = .ok (.aload_n 0, 1) := by decide +kernel
theorem dX5_moveAhead_23 : decode cX5_moveAhead 23 = .ok (.getfield 23, 3) := by decide +kernel
theorem dX5_moveAhead_26 : decode cX5_moveAhead 26 = .ok (.iload 4, 2) := by decide +kernel
theorem dX5_moveAhead_28 : decode cX5_moveAhead 28 = .ok (.iconst 1, 1) := by decide +kernel
theorem dX5_moveAhead_29 : decode cX5_moveAhead 29 = .ok (.isub, 1) := by decide +kernel
theorem dX5_moveAhead_30 : decode cX5_moveAhead 30 = .ok (.aaload, 1) := by decide +kernel
theorem dX5_moveAhead_31 : decode cX5_moveAhead 31 = .ok (.aastore, 1) := by decide +kernel
theorem dX5_moveAhead_32 : decode cX5_moveAhead 32 = .ok (.iinc 4 (-1), 3) := by decide +kernel
theorem dX5_moveAhead_35 : decode cX5_moveAhead 35 = .ok (.goto (-25), 3) := by decide +kernel
theorem dX5_moveAhead_38 : decode cX5_moveAhead 38 = .ok (.aload_n 0, 1) := by decide +kernel
theorem dX5_moveAhead_39 : decode cX5_moveAhead 39 = .ok (.getfield 23, 3) := by decide +kernel
theorem dX5_moveAhead_42 : decode cX5_moveAhead 42 = .ok (.iload_n 2, 1) := by decide +kernel
theorem dX5_moveAhead_43 : decode cX5_moveAhead 43 = .ok (.aload_n 3, 1) := by decide +kernel
theorem dX5_moveAhead_44 : decode cX5_moveAhead 44 = .ok (.aastore, 1) := by decide +kernel
theorem dX5_moveAhead_45 : decode cX5_moveAhead 45 = .ok (.aload_n 0, 1) := by decide +kernel
theorem dX5_moveAhead_46 : decode cX5_moveAhead 46 = .ok (.getfield 27, 3) := by decide +kernel
theorem dX5_moveAhead_49 : decode cX5_moveAhead 49 = .ok (.iload_n 1, 1) := by decide +kernel
theorem dX5_moveAhead_50 : decode cX5_moveAhead 50 = .ok (.if_icmp .ne 11, 3) := by decide +kernel
theorem dX5_moveAhead_53 : decode cX5_moveAhead 53 = .ok (.aload_n 0, 1) := by decide +kernel
theorem dX5_moveAhead_54 : decode cX5_moveAhead 54 = .ok (.iload_n 2, 1) := by decide +kernel
theorem dX5_moveAhead_55 : decode cX5_moveAhead 55 = .ok (.putfield 27, 3) := by decide +kernel
theorem dX5_moveAhead_58 : decode cX5_moveAhead 58 = .ok (.goto 29, 3) := by decide +kernel
theorem dX5_moveAhead_61 : decode cX5_moveAhead 61 = .ok (.aload_n 0, 1) := by decide +kernel
theorem dX5_moveAhead_62 : decode cX5_moveAhead 62 = .ok (.getfield 27, 3) := by decide +kernel
theorem dX5_moveAhead_65 : decode cX5_moveAhead 65 = .ok (.iload_n 2, 1) := by decide +kernel
theorem dX5_moveAhead_66 : decode cX5_moveAhead 66 = .ok (.if_icmp .lt 21, 3) := by decide +kernel
theorem dX5_moveAhead_69 : decode cX5_moveAhead 69 = .ok (.aload_n 0, 1) := by decide +kernel
theorem dX5_moveAhead_70 : decode cX5_moveAhead 70 = .ok (.getfield 27, 3) := by decide +kernel
theorem dX5_moveAhead_73 : decode cX5_moveAhead 73 = .ok (.iload_n 1, 1) := by decide +kernel
theorem dX5_moveAhead_74 : decode cX5_moveAhead 74 = .ok (.if_icmp .ge 13, 3) := by decide +kernel
theorem dX5_moveAhead_77 : decode cX5_moveAhead 77 = .ok (.aload_n 0, 1) := by decide +kernel
theorem dX5_moveAhead_78 : decode cX5_moveAhead 78 = .ok (.dup, 1) := by decide +kernel
theorem dX5_moveAhead_79 : decode cX5_moveAhead 79 = .ok (.getfield 27, 3) := by decide +kernel
theorem dX5_moveAhead_82 : decode cX5_moveAhead 82 = .ok (.iconst 1, 1) := by decide +kernel
theorem dX5_moveAhead_83 : decode cX5_moveAhead 83 = .ok (.iadd, 1) := by decide +kernel
theorem dX5_moveAhead_84 : decode cX5_moveAhead 84 = .ok (.putfield 27, 3) := by decide +kernel
theorem dX5_moveAhead_87 : decode cX5_moveAhead 87 = .ok (.return_, 1) := by decide +kernel
theorem dX5_dropOrder_0 : decode cX5_dropOrder 0 = .ok (.iload_n 1, 1) := by decide +kernel
theorem dX5_dropOrder_1 : decode cX5_dropOrder 1 = .ok (.aload_n 0, 1) := by decide +kernel
theorem dX5_dropOrder_2 : decode cX5_dropOrder 2 = .ok (.getfield 27, 3) := by decide +kernel
theorem dX5_dropOrder_5 : decode cX5_dropOrder 5 = .ok (.if_icmp .ne 26, 3) := by decide +kernel
theorem dX5_dropOrder_8 : decode cX5_dropOrder 8 = .ok (.aload_n 0, 1) := by decide +kernel
theorem dX5_dropOrder_9 : decode cX5_dropOrder 9 = .ok (.invokevirtual 144, 3) := by decide +kernel
theorem dX5_dropOrder_12 : decode cX5_dropOrder 12 = .ok (.ifCond .eq 19, 3) := by decide +kernel
theorem dX5_dropOrder_15 : decode cX5_dropOrder 15 = .ok (.aload_n 0, 1) := by decide +kernel
theorem dX5_dropOrder_16 : decode cX5_dropOrder 16 = .ok (.getfield 11, 3) := by decide +kernel
theorem dX5_dropOrder_19 : decode cX5_dropOrder 19 = .ok (.aload_n 0, 1) := by decide +kernel
theorem dX5_dropOrder_20 : decode cX5_dropOrder 20 = .ok (.getfield 31, 3) := by decide +kernel
theorem dX5_dropOrder_23 : decode cX5_dropOrder 23 = .ok (.aaload, 1) := by decide +kernel
theorem dX5_dropOrder_24 : decode cX5_dropOrder 24 = .ok (.invokevirtual 111, 3) := by decide +kernel
theorem dX5_dropOrder_27 : decode cX5_dropOrder 27 = .ok (.aload_n 0, 1) := by decide +kernel
theorem dX5_dropOrder_28 : decode cX5_dropOrder 28 = .ok (.invokevirtual 148, 3) := by decide +kernel
theorem dX5_dropOrder_31 : decode cX5_dropOrder 31 = .ok (.aload_n 0, 1) := by decide +kernel
theorem dX5_dropOrder_32 : decode cX5_dropOrder 32 = .ok (.iload_n 1, 1) := by decide +kernel
theorem dX5_dropOrder_33 : decode cX5_dropOrder 33 = .ok (.invokevirtual 151, 3) := by decide +kernel
theorem dX5_dropOrder_36 : decode cX5_dropOrder 36 = .ok (.return_, 1) := by decide +kernel
theorem dX5_removeOrder_0 : decode cX5_removeOrder 0 = .ok (.aload_n 0, 1) := by decide +kernel
theorem dX5_removeOrder_1 : decode cX5_removeOrder 1 = .ok (.getfield 23, 3) := by decide +kernel
theorem dX5_removeOrder_4 : decode cX5_removeOrder 4 = .ok (.iload_n 1, 1) := by decide +kernel
theorem dX5_removeOrder_5 : decode cX5_removeOrder 5 = .ok (.aaload, 1) := by decide +kernel
theorem dX5_removeOrder_6 : decode cX5_removeOrder 6 = .ok (.astore_n 2, 1) := by decide +kernel
theorem dX5_removeOrder_7 : decode cX5_removeOrder 7 = .ok (.iload_n 1, 1) := by decide +kernel
theorem dX5_removeOrder_8 : decode cX5_removeOrder 8 = .ok (.istore_n 3, 1) := by decide +kernel
theorem dX5_removeOrder_9 : decode cX5_removeOrder 9 = .ok (.iload_n 3, 1) := by decide +kernel
theorem dX5_removeOrder_10 : decode cX5_removeOrder 10 = .ok (.aload_n 0, 1) := by decide +kernel
theorem dX5_removeOrder_11 : decode cX5_removeOrder 11 = .ok (.getfield 52, 3) := by decide +kernel
theorem dX5_removeOrder_14 : decode cX5_removeOrder 14 = .ok (.iconst 1, 1) := by decide +kernel
theorem dX5_removeOrder_15 : decode cX5_removeOrder 15 = .ok (.isub, 1) := by decide +kernel
theorem dX5_removeOrder_16 : decode cX5_removeOrder 16 = .ok (.if_icmp .ge 23, 3) := by decide +kernel
theorem dX5_removeOrder_19 : decode cX5_removeOrder 19 = .ok (.aload_n 0, 1) := by decide +kernel
theorem dX5_removeOrder_20 : decode cX5_removeOrder 20 = .ok (.getfield 23, 3) := by decide +kernel
theorem dX5_removeOrder_23 : decode cX5_removeOrder 23 = .ok (.iload_n 3, 1) := by decide +kernel
theorem dX5_removeOrder_24 : decode cX5_removeOrder 24 = .ok (.aload_n 0, 1) := by decide +kernel
theorem dX5_removeOrder_25 : decode cX5_removeOrder 25 = .ok (.getfield 23, 3) := by decide +kernel
theorem dX5_removeOrder_28 : decode cX5_removeOrder 28 = .ok (.iload_n 3, 1) := by decide +kernel
theorem dX5_removeOrder_29 : decode cX5_removeOrder 29 = .ok (.iconst 1, 1) := by decide +kernel
theorem dX5_removeOrder_30 : decode cX5_removeOrder 30 = .ok (.iadd, 1) := by decide +kernel
theorem dX5_removeOrder_31 : decode cX5_removeOrder 31 = .ok (.aaload, 1) := by decide +kernel
theorem dX5_removeOrder_32 : decode cX5_removeOrder 32 = .ok (.aastore, 1) := by decide +kernel
theorem dX5_removeOrder_33 : decode cX5_removeOrder 33 = .ok (.iinc 3 1, 3) := by decide +kernel
theorem dX5_removeOrder_36 : decode cX5_removeOrder 36 = .ok (.goto (-27), 3) := by decide +kernel
theorem dX5_removeOrder_39 : decode cX5_removeOrder 39 = .ok (.aload_n 0, 1) := by decide +kernel
theorem dX5_removeOrder_40 : decode cX5_removeOrder 40 = .ok (.dup, 1) := by decide +kernel
theorem dX5_removeOrder_41 : decode cX5_removeOrder 41 = .ok (.getfield 52, 3) := by decide +kernel
theorem dX5_removeOrder_44 : decode cX5_removeOrder 44 = .ok (.iconst 1, 1) := by decide +kernel
theorem dX5_removeOrder_45 : decode cX5_removeOrder 45 = .ok (.isub, 1) := by decide +kernel
theorem dX5_removeOrder_46 : decode cX5_removeOrder 46 = .ok (.putfield 52, 3) := by decide +kernel
theorem dX5_removeOrder_49 : decode cX5_removeOrder 49 = .ok (.aload_n 0, 1) := by decide +kernel
theorem dX5_removeOrder_50 : decode cX5_removeOrder 50 = .ok (.getfield 23, 3) := by decide +kernel
theorem dX5_removeOrder_53 : decode cX5_removeOrder 53 = .ok (.aload_n 0, 1) := by decide +kernel
theorem dX5_removeOrder_54 : decode cX5_removeOrder 54 = .ok (.getfield 52, 3) := by decide +kernel
theorem dX5_removeOrder_57 : decode cX5_removeOrder 57 = .ok (.aload_n 2, 1) := by decide +kernel
theorem dX5_removeOrder_58 : decode cX5_removeOrder 58 = .ok (.aastore, 1) := by decide +kernel
theorem dX5_removeOrder_59 : decode cX5_removeOrder 59 = .ok (.aload_n 0, 1) := by decide +kernel
theorem dX5_removeOrder_60 : decode cX5_removeOrder 60 = .ok (.getfield 27, 3) := by decide +kernel
theorem dX5_removeOrder_63 : decode cX5_removeOrder 63 = .ok (.iload_n 1, 1) := by decide +kernel
theorem dX5_removeOrder_64 : decode cX5_removeOrder 64 = .ok (.if_icmp .le 13, 3) := by decide +kernel
theorem dX5_removeOrder_67 : decode cX5_removeOrder 67 = .ok (.aload_n 0, 1) := by decide +kernel
theorem dX5_removeOrder_68 : decode cX5_removeOrder 68 = .ok (.dup, 1) := by decide +kernel
theorem dX5_removeOrder_69 : decode cX5_removeOrder 69 = .ok (.getfield 27, 3) := by decide +kernel
theorem dX5_removeOrder_72 : decode cX5_removeOrder 72 = .ok (.iconst 1, 1) := by decide +kernel
theorem dX5_removeOrder_73 : decode cX5_removeOrder 73 = .ok (.isub, 1) := by decide +kernel
theorem dX5_removeOrder_74 : decode cX5_removeOrder 74 = .ok (.putfield 27, 3) := by decide +kernel
theorem dX5_removeOrder_77 : decode cX5_removeOrder 77 = .ok (.return_, 1) := by decide +kernel
theorem dX5_stopWork_0 : decode cX5_stopWork 0 = .ok (.aload_n 0, 1) := by decide +kernel
theorem dX5_stopWork_1 : decode cX5_stopWork 1 = .ok (.bipush (-9), 2) := by decide +kernel
theorem dX5_stopWork_3 : decode cX5_stopWork 3 = .ok (.putfield 27, 3) := by decide +kernel
theorem dX5_stopWork_6 : decode cX5_stopWork 6 = .ok (.aload_n 0, 1) := by decide +kernel
theorem dX5_stopWork_7 : decode cX5_stopWork 7 = .ok (.bipush (-9), 2) := by decide +kernel
theorem dX5_stopWork_9 : decode cX5_stopWork 9 = .ok (.putfield 31, 3) := by decide +kernel
theorem dX5_stopWork_12 : decode cX5_stopWork 12 = .ok (.aload_n 0, 1) := by decide +kernel
theorem dX5_stopWork_13 : decode cX5_stopWork 13 = .ok (.bipush (-9), 2) := by decide +kernel
theorem dX5_stopWork_15 : decode cX5_stopWork 15 = .ok (.putfield 34, 3) := by decide +kernel
theorem dX5_stopWork_18 : decode cX5_stopWork 18 = .ok (.aload_n 0, 1) := by decide +kernel
theorem dX5_stopWork_19 : decode cX5_stopWork 19 = .ok (.bipush (-9), 2) := by decide +kernel
theorem dX5_stopWork_21 : decode cX5_stopWork 21 = .ok (.putfield 37, 3) := by decide +kernel
theorem dX5_stopWork_24 : decode cX5_stopWork 24 = .ok (.return_, 1) := by decide +kernel
theorem dX5_spendMinutes_0 : decode cX5_spendMinutes 0 = .ok (.aload_n 0, 1) := by decide +kernel
theorem dX5_spendMinutes_1 : decode cX5_spendMinutes 1 = .ok (.getfield 58, 3) := by decide +kernel
theorem dX5_spendMinutes_4 : decode cX5_spendMinutes 4 = .ok (.istore_n 2, 1) := by decide +kernel
theorem dX5_spendMinutes_5 : decode cX5_spendMinutes 5 = .ok (.iload_n 1, 1) := by decide +kernel
theorem dX5_spendMinutes_6 : decode cX5_spendMinutes 6 = .ok (.istore_n 3, 1) := by decide +kernel
theorem dX5_spendMinutes_7 : decode cX5_spendMinutes 7 = .ok (.iconst 0, 1) := by decide +kernel
theorem dX5_spendMinutes_8 : decode cX5_spendMinutes 8 = .ok (.istore 4, 2) := by decide +kernel
theorem dX5_spendMinutes_10 : decode cX5_spendMinutes 10 = .ok (.iload 4, 2) := by decide +kernel
theorem dX5_spendMinutes_12 : decode cX5_spendMinutes 12 = .ok (.bipush 10, 2) := by decide +kernel
theorem dX5_spendMinutes_14 : decode cX5_spendMinutes 14 = .ok (.if_icmp .gt 57, 3) := by decide +kernel
theorem dX5_spendMinutes_17 : decode cX5_spendMinutes 17 = .ok (.iload_n 3, 1) := by decide +kernel
theorem dX5_spendMinutes_18 : decode cX5_spendMinutes 18 = .ok (.ifCond .le 53, 3) := by decide +kernel
theorem dX5_spendMinutes_21 : decode cX5_spendMinutes 21 = .ok (.aload_n 0, 1) := by decide +kernel
theorem dX5_spendMinutes_22 : decode cX5_spendMinutes 22 = .ok (.invokevirtual 154, 3) := by decide +kernel
theorem dX5_spendMinutes_25 : decode cX5_spendMinutes 25 = .ok (.ifCond .eq 46, 3) := by decide +kernel
theorem dX5_spendMinutes_28 : decode cX5_spendMinutes 28 = .ok (.iload_n 3, 1) := by decide +kernel
theorem dX5_spendMinutes_29 : decode cX5_spendMinutes 29 = .ok (.aload_n 0, 1) := by decide +kernel
theorem dX5_spendMinutes_30 : decode cX5_spendMinutes 30 = .ok (.getfield 37, 3) := by decide +kernel
theorem dX5_spendMinutes_33 : decode cX5_spendMinutes 33 = .ok (.invokestatic 157, 3) := by decide +kernel
theorem dX5_spendMinutes_36 : decode cX5_spendMinutes 36 = .ok (.istore 5, 2) := by decide +kernel
theorem dX5_spendMinutes_38 : decode cX5_spendMinutes 38 = .ok (.iload_n 3, 1) := by decide +kernel
theorem dX5_spendMinutes_39 : decode cX5_spendMinutes 39 = .ok (.iload 5, 2) := by decide +kernel
theorem dX5_spendMinutes_41 : decode cX5_spendMinutes 41 = .ok (.isub, 1) := by decide +kernel
theorem dX5_spendMinutes_42 : decode cX5_spendMinutes 42 = .ok (.istore_n 3, 1) := by decide +kernel
theorem dX5_spendMinutes_43 : decode cX5_spendMinutes 43 = .ok (.aload_n 0, 1) := by decide +kernel
theorem dX5_spendMinutes_44 : decode cX5_spendMinutes 44 = .ok (.dup, 1) := by decide +kernel
theorem dX5_spendMinutes_45 : decode cX5_spendMinutes 45 = .ok (.getfield 37, 3) := by decide +kernel
theorem dX5_spendMinutes_48 : decode cX5_spendMinutes 48 = .ok (.iload 5, 2) := by decide +kernel
theorem dX5_spendMinutes_50 : decode cX5_spendMinutes 50 = .ok (.isub, 1) := by decide +kernel
theorem dX5_spendMinutes_51 : decode cX5_spendMinutes 51 = .ok (.putfield 37, 3) := by decide +kernel
theorem dX5_spendMinutes_54 : decode cX5_spendMinutes 54 = .ok (.aload_n 0, 1) := by decide +kernel
theorem dX5_spendMinutes_55 : decode cX5_spendMinutes 55 = .ok (.getfield 37, 3) := by decide +kernel
theorem dX5_spendMinutes_58 : decode cX5_spendMinutes 58 = .ok (.ifCond .ne 7, 3) := by decide +kernel
theorem dX5_spendMinutes_61 : decode cX5_spendMinutes 61 = .ok (.aload_n 0, 1) := by decide +kernel
theorem dX5_spendMinutes_62 : decode cX5_spendMinutes 62 = .ok (.invokevirtual 162, 3) := by decide +kernel
theorem dX5_spendMinutes_65 : decode cX5_spendMinutes 65 = .ok (.iinc 4 1, 3) := by decide +kernel
theorem dX5_spendMinutes_68 : decode cX5_spendMinutes 68 = .ok (.goto (-58), 3) := by decide +kernel
theorem dX5_spendMinutes_71 : decode cX5_spendMinutes 71 = .ok (.aload_n 0, 1) := by decide +kernel
theorem dX5_spendMinutes_72 : decode cX5_spendMinutes 72 = .ok (.getfield 58, 3) := by decide +kernel
theorem dX5_spendMinutes_75 : decode cX5_spendMinutes 75 = .ok (.iload_n 2, 1) := by decide +kernel
theorem dX5_spendMinutes_76 : decode cX5_spendMinutes 76 = .ok (.isub, 1) := by decide +kernel
theorem dX5_spendMinutes_77 : decode cX5_spendMinutes 77 = .ok (.ireturn, 1) := by decide +kernel
theorem dX5_takesUpWork_0 : decode cX5_takesUpWork 0 = .ok (.iconst 0, 1) := by decide +kernel
theorem dX5_takesUpWork_1 : decode cX5_takesUpWork 1 = .ok (.istore_n 1, 1) := by decide +kernel
theorem dX5_takesUpWork_2 : decode cX5_takesUpWork 2 = .ok (.iload_n 1, 1) := by decide +kernel
theorem dX5_takesUpWork_3 : decode cX5_takesUpWork 3 = .ok (.aload_n 0, 1) := by decide +kernel
theorem dX5_takesUpWork_4 : decode cX5_takesUpWork 4 = .ok (.getfield 52, 3) := by decide +kernel
theorem dX5_takesUpWork_7 : decode cX5_takesUpWork 7 = .ok (.if_icmp .ge 53, 3) := by decide +kernel
theorem dX5_takesUpWork_10 : decode cX5_takesUpWork 10 = .ok (.aload_n 0, 1) := by decide +kernel
theorem dX5_takesUpWork_11 : decode cX5_takesUpWork 11 = .ok (.invokevirtual 144, 3) := by decide +kernel
theorem dX5_takesUpWork_14 : decode cX5_takesUpWork 14 = .ok (.ifCond .ne 46, 3) := by decide +kernel
theorem dX5_takesUpWork_17 : decode cX5_takesUpWork 17 = .ok (.aload_n 0, 1) := by decide +kernel
theorem dX5_takesUpWork_18 : decode cX5_takesUpWork 18 = .ok (.aload_n 0, 1) := by decide +kernel
theorem dX5_takesUpWork_19 : decode cX5_takesUpWork 19 = .ok (.getfield 23, 3) := by decide +kernel
theorem dX5_takesUpWork_22 : decode cX5_takesUpWork 22 = .ok (.iload_n 1, 1) := by decide +kernel
theorem dX5_takesUpWork_23 : decode cX5_takesUpWork 23 = .ok (.aaload, 1) := by decide +kernel
theorem dX5_takesUpWork_24 : decode cX5_takesUpWork 24 = .ok (.invokevirtual 165, 3) := by decide +kernel
theorem dX5_takesUpWork_27 : decode cX5_takesUpWork 27 = .ok (.aload_n 0, 1) := by decide +kernel
theorem dX5_takesUpWork_28 : decode cX5_takesUpWork 28 = .ok (.getfield 23, 3) := by decide +kernel
theorem dX5_takesUpWork_31 : decode cX5_takesUpWork 31 = .ok (.iload_n 1, 1) := by decide +kernel
theorem dX5_takesUpWork_32 : decode cX5_takesUpWork 32 = .ok (.aaload, 1) := by decide +kernel
theorem dX5_takesUpWork_33 : decode cX5_takesUpWork 33 = .ok (.getfield 168, 3) := by decide +kernel
theorem dX5_takesUpWork_36 : decode cX5_takesUpWork 36 = .ok (.invokevirtual 171, 3) := by decide +kernel
theorem dX5_takesUpWork_39 : decode cX5_takesUpWork 39 = .ok (.istore_n 2, 1) := by decide +kernel
theorem dX5_takesUpWork_40 : decode cX5_takesUpWork 40 = .ok (.aload_n 0, 1) := by decide +kernel
theorem dX5_takesUpWork_41 : decode cX5_takesUpWork 41 = .ok (.iload_n 2, 1) := by decide +kernel
theorem dX5_takesUpWork_42 : decode cX5_takesUpWork 42 = .ok (.invokevirtual 71, 3) := by decide +kernel
theorem dX5_takesUpWork_45 : decode cX5_takesUpWork 45 = .ok (.ifCond .eq 9, 3) := by decide +kernel
theorem dX5_takesUpWork_48 : decode cX5_takesUpWork 48 = .ok (.aload_n 0, 1) := by decide +kernel
theorem dX5_takesUpWork_49 : decode cX5_takesUpWork 49 = .ok (.iload_n 1, 1) := by decide +kernel
theorem dX5_takesUpWork_50 : decode cX5_takesUpWork 50 = .ok (.iload_n 2, 1) := by decide +kernel
theorem dX5_takesUpWork_51 : decode cX5_takesUpWork 51 = .ok (.invokevirtual 174, 3) := by decide +kernel
theorem dX5_takesUpWork_54 : decode cX5_takesUpWork 54 = .ok (.iinc 1 1, 3) := by decide +kernel
theorem dX5_takesUpWork_57 : decode cX5_takesUpWork 57 = .ok (.goto (-55), 3) := by decide +kernel
theorem dX5_takesUpWork_60 : decode cX5_takesUpWork 60 = .ok (.aload_n 0, 1) := by decide +kernel
theorem dX5_takesUpWork_61 : decode cX5_takesUpWork 61 = .ok (.invokevirtual 144, 3) := by decide +kernel
theorem dX5_takesUpWork_64 : decode cX5_takesUpWork 64 = .ok (.ireturn, 1) := by decide +kernel
theorem dX5_beginOrder_0 : decode cX5_beginOrder 0 = .ok (.aload_n 0, 1) := by decide +kernel
theorem dX5_beginOrder_1 : decode cX5_beginOrder 1 = .ok (.getfield 11, 3) := by decide +kernel
theorem dX5_beginOrder_4 : decode cX5_beginOrder 4 = .ok (.iload_n 2, 1) := by decide +kernel
theorem dX5_beginOrder_5 : decode cX5_beginOrder 5 = .ok (.aaload, 1) := by decide +kernel
theorem dX5_beginOrder_6 : decode cX5_beginOrder 6 = .ok (.astore_n 3, 1) := by decide +kernel
theorem dX5_beginOrder_7 : decode cX5_beginOrder 7 = .ok (.aload_n 0, 1) := by decide +kernel
theorem dX5_beginOrder_8 : decode cX5_beginOrder 8 = .ok (.iload_n 1, 1) := by decide +kernel
theorem dX5_beginOrder_9 : decode cX5_beginOrder 9 = .ok (.putfield 27, 3) := by decide +kernel
theorem dX5_beginOrder_12 : decode cX5_beginOrder 12 = .ok (.aload_n 0, 1) := by decide +kernel
theorem dX5_beginOrder_13 : decode cX5_beginOrder 13 = .ok (.iload_n 2, 1) := by decide +kernel
theorem dX5_beginOrder_14 : decode cX5_beginOrder 14 = .ok (.putfield 31, 3) := by decide +kernel
theorem dX5_beginOrder_17 : decode cX5_beginOrder 17 = .ok (.aload_n 0, 1) := by decide +kernel
theorem dX5_beginOrder_18 : decode cX5_beginOrder 18 = .ok (.aload_n 3, 1) := by decide +kernel
theorem dX5_beginOrder_19 : decode cX5_beginOrder 19 = .ok (.aload_n 0, 1) := by decide +kernel
theorem dX5_beginOrder_20 : decode cX5_beginOrder 20 = .ok (.getfield 23, 3) := by decide +kernel
theorem dX5_beginOrder_23 : decode cX5_beginOrder 23 = .ok (.iload_n 1, 1) := by decide +kernel
theorem dX5_beginOrder_24 : decode cX5_beginOrder 24 = .ok (.aaload, 1) := by decide +kernel
theorem dX5_beginOrder_25 : decode cX5_beginOrder 25 = .ok (.getfield 168, 3) := by decide +kernel
theorem dX5_beginOrder_28 : decode cX5_beginOrder 28 = .ok (.invokevirtual 177, 3) := by decide +kernel
theorem dX5_beginOrder_31 : decode cX5_beginOrder 31 = .ok (.putfield 34, 3) := by decide +kernel
theorem dX5_beginOrder_34 : decode cX5_beginOrder 34 = .ok (.aload_n 0, 1) := by decide +kernel
theorem dX5_beginOrder_35 : decode cX5_beginOrder 35 = .ok (.aload_n 0, 1) := by decide +kernel
theorem dX5_beginOrder_36 : decode cX5_beginOrder 36 = .ok (.getfield 23, 3) := by decide +kernel
theorem dX5_beginOrder_39 : decode cX5_beginOrder 39 = .ok (.iload_n 1, 1) := by decide +kernel
theorem dX5_beginOrder_40 : decode cX5_beginOrder 40 = .ok (.aaload, 1) := by decide +kernel
theorem dX5_beginOrder_41 : decode cX5_beginOrder 41 = .ok (.invokevirtual 180, 3) := by decide +kernel
theorem dX5_beginOrder_44 : decode cX5_beginOrder 44 = .ok (.putfield 37, 3) := by decide +kernel
theorem dX5_beginOrder_47 : decode cX5_beginOrder 47 = .ok (.aload_n 3, 1) := by decide +kernel
theorem dX5_beginOrder_48 : decode cX5_beginOrder 48 = .ok (.iconst 1, 1) := by decide +kernel
theorem dX5_beginOrder_49 : decode cX5_beginOrder 49 = .ok (.putfield 82, 3) := by decide +kernel
theorem dX5_beginOrder_52 : decode cX5_beginOrder 52 = .ok (.aload_n 3, 1) := by decide +kernel
theorem dX5_beginOrder_53 : decode cX5_beginOrder 53 = .ok (.aload_n 0, 1) := by decide +kernel
theorem dX5_beginOrder_54 : decode cX5_beginOrder 54 = .ok (.getfield 34, 3) := by decide +kernel
theorem dX5_beginOrder_57 : decode cX5_beginOrder 57 = .ok (.invokevirtual 183, 3) := by decide +kernel
theorem dX5_beginOrder_60 : decode cX5_beginOrder 60 = .ok (.ifCond .ne 23, 3) := by decide +kernel
theorem dX5_beginOrder_63 : decode cX5_beginOrder 63 = .ok (.aload_n 0, 1) := by decide +kernel
theorem dX5_beginOrder_64 : decode cX5_beginOrder 64 = .ok (.aload_n 3, 1) := by decide +kernel
theorem dX5_beginOrder_65 : decode cX5_beginOrder 65 = .ok (.aload_n 0, 1) := by decide +kernel
theorem dX5_beginOrder_66 : decode cX5_beginOrder 66 = .ok (.getfield 34, 3) := by decide +kernel
theorem dX5_beginOrder_69 : decode cX5_beginOrder 69 = .ok (.invokevirtual 186, 3) := by decide +kernel
theorem dX5_beginOrder_72 : decode cX5_beginOrder 72 = .ok (.aload_n 0, 1) := by decide +kernel
theorem dX5_beginOrder_73 : decode cX5_beginOrder 73 = .ok (.dup, 1) := by decide +kernel
theorem dX5_beginOrder_74 : decode cX5_beginOrder 74 = .ok (.getfield 37, 3) := by decide +kernel
theorem dX5_beginOrder_77 : decode cX5_beginOrder 77 = .ok (.bipush 10, 2) := by decide +kernel
theorem dX5_beginOrder_79 : decode cX5_beginOrder 79 = .ok (.iadd, 1) := by decide +kernel
theorem dX5_beginOrder_80 : decode cX5_beginOrder 80 = .ok (.putfield 37, 3) := by decide +kernel
theorem dX5_beginOrder_83 : decode cX5_beginOrder 83 = .ok (.return_, 1) := by decide +kernel
theorem dX5_finishOrder_0 : decode cX5_finishOrder 0 = .ok (.aload_n 0, 1) := by decide +kernel
theorem dX5_finishOrder_1 : decode cX5_finishOrder 1 = .ok (.invokevirtual 144, 3) := by decide +kernel
theorem dX5_finishOrder_4 : decode cX5_finishOrder 4 = .ok (.ifCond .ne 4, 3) := by decide +kernel
theorem dX5_finishOrder_7 : decode cX5_finishOrder 7 = .ok (.return_, 1) := by decide +kernel
theorem dX5_finishOrder_8 : decode cX5_finishOrder 8 = .ok (.aload_n 0, 1) := by decide +kernel
theorem dX5_finishOrder_9 : decode cX5_finishOrder 9 = .ok (.getfield 23, 3) := by decide +kernel
theorem dX5_finishOrder_12 : decode cX5_finishOrder 12 = .ok (.aload_n 0, 1) := by decide +kernel
theorem dX5_finishOrder_13 : decode cX5_finishOrder 13 = .ok (.getfield 27, 3) := by decide +kernel
theorem dX5_finishOrder_16 : decode cX5_finishOrder 16 = .ok (.aaload, 1) := by decide +kernel
theorem dX5_finishOrder_17 : decode cX5_finishOrder 17 = .ok (.astore_n 1, 1) := by decide +kernel
theorem dX5_finishOrder_18 : decode cX5_finishOrder 18 = .ok (.aload_n 0, 1) := by decide +kernel
theorem dX5_finishOrder_19 : decode cX5_finishOrder 19 = .ok (.getfield 11, 3) := by decide +kernel
theorem dX5_finishOrder_22 : decode cX5_finishOrder 22 = .ok (.aload_n 0, 1) := by decide +kernel
theorem dX5_finishOrder_23 : decode cX5_finishOrder 23 = .ok (.getfield 31, 3) := by decide +kernel
theorem dX5_finishOrder_26 : decode cX5_finishOrder 26 = .ok (.aaload, 1) := by decide +kernel
theorem dX5_finishOrder_27 : decode cX5_finishOrder 27 = .ok (.astore_n 2, 1) := by decide +kernel
theorem dX5_finishOrder_28 : decode cX5_finishOrder 28 = .ok (.aload_n 2, 1) := by decide +kernel
theorem dX5_finishOrder_29 : decode cX5_finishOrder 29 = .ok (.aload_n 0, 1) := by decide +kernel
theorem dX5_finishOrder_30 : decode cX5_finishOrder 30 = .ok (.getfield 34, 3) := by decide +kernel
theorem dX5_finishOrder_33 : decode cX5_finishOrder 33 = .ok (.aload_n 1, 1) := by decide +kernel
theorem dX5_finishOrder_34 : decode cX5_finishOrder 34 = .ok (.getfield 168, 3) := by decide +kernel
theorem dX5_finishOrder_37 : decode cX5_finishOrder 37 = .ok (.invokevirtual 190, 3) := by decide +kernel
theorem dX5_finishOrder_40 : decode cX5_finishOrder 40 = .ok (.aload_n 0, 1) := by decide +kernel
theorem dX5_finishOrder_41 : decode cX5_finishOrder 41 = .ok (.aload_n 2, 1) := by decide +kernel
theorem dX5_finishOrder_42 : decode cX5_finishOrder 42 = .ok (.aload_n 1, 1) := by decide +kernel
theorem dX5_finishOrder_43 : decode cX5_finishOrder 43 = .ok (.getfield 135, 3) := by decide +kernel
theorem dX5_finishOrder_46 : decode cX5_finishOrder 46 = .ok (.aload_n 1, 1) := by decide +kernel
theorem dX5_finishOrder_47 : decode cX5_finishOrder 47 = .ok (.getfield 136, 3) := by decide +kernel
theorem dX5_finishOrder_50 : decode cX5_finishOrder 50 = .ok (.invokevirtual 193, 3) := by decide +kernel
theorem dX5_finishOrder_53 : decode cX5_finishOrder 53 = .ok (.aload_n 0, 1) := by decide +kernel
theorem dX5_finishOrder_54 : decode cX5_finishOrder 54 = .ok (.getfield 27, 3) := by decide +kernel
theorem dX5_finishOrder_57 : decode cX5_finishOrder 57 = .ok (.istore_n 3, 1) := by decide +kernel
theorem dX5_finishOrder_58 : decode cX5_finishOrder 58 = .ok (.aload_n 0, 1) := by decide +kernel
theorem dX5_finishOrder_59 : decode cX5_finishOrder 59 = .ok (.invokevirtual 148, 3) := by decide +kernel
theorem dX5_finishOrder_62 : decode cX5_finishOrder 62 = .ok (.aload_n 0, 1) := by decide +kernel
theorem dX5_finishOrder_63 : decode cX5_finishOrder 63 = .ok (.iload_n 3, 1) := by decide +kernel
theorem dX5_finishOrder_64 : decode cX5_finishOrder 64 = .ok (.invokevirtual 151, 3) := by decide +kernel
theorem dX5_finishOrder_67 : decode cX5_finishOrder 67 = .ok (.aload_n 0, 1) := by decide +kernel
theorem dX5_finishOrder_68 : decode cX5_finishOrder 68 = .ok (.dup, 1) := by decide +kernel
theorem dX5_finishOrder_69 : decode cX5_finishOrder 69 = .ok (.getfield 58, 3) := by decide +kernel
theorem dX5_finishOrder_72 : decode cX5_finishOrder 72 = .ok (.iconst 1, 1) := by decide +kernel
theorem dX5_finishOrder_73 : decode cX5_finishOrder 73 = .ok (.iadd, 1) := by decide +kernel
theorem dX5_finishOrder_74 : decode cX5_finishOrder 74 = .ok (.putfield 58, 3) := by decide +kernel
theorem dX5_finishOrder_77 : decode cX5_finishOrder 77 = .ok (.return_, 1) := by decide +kernel
theorem dX5_misspell_0 : decode cX5_misspell 0 = .ok (.aload_n 0, 1) := by decide +kernel
theorem dX5_misspell_1 : decode cX5_misspell 1 = .ok (.invokevirtual 144, 3) := by decide +kernel
theorem dX5_misspell_4 : decode cX5_misspell 4 = .ok (.ifCond .ne 6, 3) := by decide +kernel
theorem dX5_misspell_7 : decode cX5_misspell 7 = .ok (.bipush (-2), 2) := by decide +kernel
theorem dX5_misspell_9 : decode cX5_misspell 9 = .ok (.ireturn, 1) := by decide +kernel
theorem dX5_misspell_10 : decode cX5_misspell 10 = .ok (.aload_n 0, 1) := by decide +kernel
theorem dX5_misspell_11 : decode cX5_misspell 11 = .ok (.getfield 23, 3) := by decide +kernel
theorem dX5_misspell_14 : decode cX5_misspell 14 = .ok (.aload_n 0, 1) := by decide +kernel
theorem dX5_misspell_15 : decode cX5_misspell 15 = .ok (.getfield 27, 3) := by decide +kernel
theorem dX5_misspell_18 : decode cX5_misspell 18 = .ok (.aaload, 1) := by decide +kernel
theorem dX5_misspell_19 : decode cX5_misspell 19 = .ok (.astore_n 1, 1) := by decide +kernel
theorem dX5_misspell_20 : decode cX5_misspell 20 = .ok (.aload_n 0, 1) := by decide +kernel
theorem dX5_misspell_21 : decode cX5_misspell 21 = .ok (.getfield 11, 3) := by decide +kernel
theorem dX5_misspell_24 : decode cX5_misspell 24 = .ok (.aload_n 0, 1) := by decide +kernel
theorem dX5_misspell_25 : decode cX5_misspell 25 = .ok (.getfield 31, 3) := by decide +kernel
theorem dX5_misspell_28 : decode cX5_misspell 28 = .ok (.aaload, 1) := by decide +kernel
theorem dX5_misspell_29 : decode cX5_misspell 29 = .ok (.astore_n 2, 1) := by decide +kernel
theorem dX5_misspell_30 : decode cX5_misspell 30 = .ok (.aload_n 2, 1) := by decide +kernel
theorem dX5_misspell_31 : decode cX5_misspell 31 = .ok (.aload_n 0, 1) := by decide +kernel
theorem dX5_misspell_32 : decode cX5_misspell 32 = .ok (.getfield 34, 3) := by decide +kernel
theorem dX5_misspell_35 : decode cX5_misspell 35 = .ok (.aload_n 1, 1) := by decide +kernel
theorem dX5_misspell_36 : decode cX5_misspell 36 = .ok (.getfield 168, 3) := by decide +kernel
theorem dX5_misspell_39 : decode cX5_misspell 39 = .ok (.invokevirtual 190, 3) := by decide +kernel
theorem dX5_misspell_42 : decode cX5_misspell 42 = .ok (.aload_n 0, 1) := by decide +kernel
theorem dX5_misspell_43 : decode cX5_misspell 43 = .ok (.dup, 1) := by decide +kernel
theorem dX5_misspell_44 : decode cX5_misspell 44 = .ok (.getfield 61, 3) := by decide +kernel
theorem dX5_misspell_47 : decode cX5_misspell 47 = .ok (.iconst 1, 1) := by decide +kernel
theorem dX5_misspell_48 : decode cX5_misspell 48 = .ok (.iadd, 1) := by decide +kernel
theorem dX5_misspell_49 : decode cX5_misspell 49 = .ok (.putfield 61, 3) := by decide +kernel
theorem dX5_misspell_52 : decode cX5_misspell 52 = .ok (.aload_n 0, 1) := by decide +kernel
theorem dX5_misspell_53 : decode cX5_misspell 53 = .ok (.getfield 34, 3) := by decide +kernel
theorem dX5_misspell_56 : decode cX5_misspell 56 = .ok (.ifCond .ne 7, 3) := by decide +kernel
theorem dX5_misspell_59 : decode cX5_misspell 59 = .ok (.iconst 1, 1) := by decide +kernel
theorem dX5_misspell_60 : decode cX5_misspell 60 = .ok (.goto 4, 3) := by decide +kernel
theorem dX5_misspell_63 : decode cX5_misspell 63 = .ok (.iconst 0, 1) := by decide +kernel
theorem dX5_misspell_64 : decode cX5_misspell 64 = .ok (.istore_n 3, 1) := by decide +kernel
theorem dX5_misspell_65 : decode cX5_misspell 65 = .ok (.aload_n 2, 1) := by decide +kernel
theorem dX5_misspell_66 : decode cX5_misspell 66 = .ok (.iload_n 3, 1) := by decide +kernel
theorem dX5_misspell_67 : decode cX5_misspell 67 = .ok (.aload_n 1, 1) := by decide +kernel
theorem dX5_misspell_68 : decode cX5_misspell 68 = .ok (.getfield 168, 3) := by decide +kernel
theorem dX5_misspell_71 : decode cX5_misspell 71 = .ok (.invokevirtual 197, 3) := by decide +kernel
theorem dX5_misspell_74 : decode cX5_misspell 74 = .ok (.ifCond .eq 18, 3) := by decide +kernel
theorem dX5_misspell_77 : decode cX5_misspell 77 = .ok (.aload_n 0, 1) := by decide +kernel
theorem dX5_misspell_78 : decode cX5_misspell 78 = .ok (.iload_n 3, 1) := by decide +kernel
theorem dX5_misspell_79 : decode cX5_misspell 79 = .ok (.putfield 34, 3) := by decide +kernel
theorem dX5_misspell_82 : decode cX5_misspell 82 = .ok (.aload_n 0, 1) := by decide +kernel
theorem dX5_misspell_83 : decode cX5_misspell 83 = .ok (.aload_n 1, 1) := by decide +kernel
theorem dX5_misspell_84 : decode cX5_misspell 84 = .ok (.invokevirtual 180, 3) := by decide +kernel
theorem dX5_misspell_87 : decode cX5_misspell 87 = .ok (.putfield 37, 3) := by decide +kernel
theorem dX5_misspell_90 : decode cX5_misspell 90 = .ok (.iconst 1, 1) := by decide +kernel
theorem dX5_misspell_91 : decode cX5_misspell 91 = .ok (.ireturn, 1) := by decide +kernel
theorem dX5_misspell_92 : decode cX5_misspell 92 = .ok (.aload_n 2, 1) := by decide +kernel
theorem dX5_misspell_93 : decode cX5_misspell 93 = .ok (.aload_n 0, 1) := by decide +kernel
theorem dX5_misspell_94 : decode cX5_misspell 94 = .ok (.getfield 34, 3) := by decide +kernel
theorem dX5_misspell_97 : decode cX5_misspell 97 = .ok (.aload_n 1, 1) := by decide +kernel
theorem dX5_misspell_98 : decode cX5_misspell 98 = .ok (.getfield 168, 3) := by decide +kernel
theorem dX5_misspell_101 : decode cX5_misspell 101 = .ok (.invokevirtual 201, 3) := by decide +kernel
theorem dX5_misspell_104 : decode cX5_misspell 104 = .ok (.ifCond .eq 25, 3) := by decide +kernel
theorem dX5_misspell_107 : decode cX5_misspell 107 = .ok (.aload_n 0, 1) := by decide +kernel
theorem dX5_misspell_108 : decode cX5_misspell 108 = .ok (.aload_n 2, 1) := by decide +kernel
theorem dX5_misspell_109 : decode cX5_misspell 109 = .ok (.aload_n 0, 1) := by decide +kernel
theorem dX5_misspell_110 : decode cX5_misspell 110 = .ok (.getfield 34, 3) := by decide +kernel
theorem dX5_misspell_113 : decode cX5_misspell 113 = .ok (.invokevirtual 186, 3) := by decide +kernel
theorem dX5_misspell_116 : decode cX5_misspell 116 = .ok (.aload_n 0, 1) := by decide +kernel
theorem dX5_misspell_117 : decode cX5_misspell 117 = .ok (.aload_n 1, 1) := by decide +kernel
theorem dX5_misspell_118 : decode cX5_misspell 118 = .ok (.invokevirtual 180, 3) := by decide +kernel
theorem dX5_misspell_121 : decode cX5_misspell 121 = .ok (.bipush 10, 2) := by decide +kernel
theorem dX5_misspell_123 : decode cX5_misspell 123 = .ok (.iadd, 1) := by decide +kernel
theorem dX5_misspell_124 : decode cX5_misspell 124 = .ok (.putfield 37, 3) := by decide +kernel
theorem dX5_misspell_127 : decode cX5_misspell 127 = .ok (.iconst 2, 1) := by decide +kernel
theorem dX5_misspell_128 : decode cX5_misspell 128 = .ok (.ireturn, 1) := by decide +kernel
theorem dX5_misspell_129 : decode cX5_misspell 129 = .ok (.aload_n 2, 1) := by decide +kernel
theorem dX5_misspell_130 : decode cX5_misspell 130 = .ok (.iconst 3, 1) := by decide +kernel
theorem dX5_misspell_131 : decode cX5_misspell 131 = .ok (.putfield 82, 3) := by decide +kernel
theorem dX5_misspell_134 : decode cX5_misspell 134 = .ok (.aload_n 0, 1) := by decide +kernel
theorem dX5_misspell_135 : decode cX5_misspell 135 = .ok (.invokevirtual 148, 3) := by decide +kernel
theorem dX5_misspell_138 : decode cX5_misspell 138 = .ok (.iconst 3, 1) := by decide +kernel
theorem dX5_misspell_139 : decode cX5_misspell 139 = .ok (.ireturn, 1) := by decide +kernel
theorem dX6_init_0 : decode cX6_init 0 = .ok (.aload_n 0, 1) := by decide +kernel
theorem dX6_init_1 : decode cX6_init 1 = .ok (.invokespecial 1, 3) := by decide +kernel
theorem dX6_init_4 : decode cX6_init 4 = .ok (.aload_n 0, 1) := by decide +kernel
theorem dX6_init_5 : decode cX6_init 5 = .ok (.new 7, 3) := by decide +kernel
theorem dX6_init_8 : decode cX6_init 8 = .ok (.dup, 1) := by decide +kernel
theorem dX6_init_9 : decode cX6_init 9 = .ok (.invokespecial 9, 3) := by decide +kernel
theorem dX6_init_12 : decode cX6_init 12 = .ok (.putfield 10, 3) := by decide +kernel
theorem dX6_init_15 : decode cX6_init 15 = .ok (.aload_n 0, 1) := by decide +kernel
theorem dX6_init_16 : decode cX6_init 16 = .ok (.new 16, 3) := by decide +kernel
theorem dX6_init_19 : decode cX6_init 19 = .ok (.dup, 1) := by decide +kernel
theorem dX6_init_20 : decode cX6_init 20 = .ok (.invokespecial 18, 3) := by decide +kernel
theorem dX6_init_23 : decode cX6_init 23 = .ok (.putfield 19, 3) := by decide +kernel
theorem dX6_init_26 : decode cX6_init 26 = .ok (.aload_n 0, 1) := by decide +kernel
theorem dX6_init_27 : decode cX6_init 27 = .ok (.new 23, 3) := by decide +kernel
theorem dX6_init_30 : decode cX6_init 30 = .ok (.dup, 1) := by decide +kernel
theorem dX6_init_31 : decode cX6_init 31 = .ok (.invokespecial 25, 3) := by decide +kernel
theorem dX6_init_34 : decode cX6_init 34 = .ok (.putfield 26, 3) := by decide +kernel
theorem dX6_init_37 : decode cX6_init 37 = .ok (.new 7, 3) := by decide +kernel
theorem dX6_init_40 : decode cX6_init 40 = .ok (.dup, 1) := by decide +kernel
theorem dX6_init_41 : decode cX6_init 41 = .ok (.invokespecial 9, 3) := by decide +kernel
theorem dX6_init_44 : decode cX6_init 44 = .ok (.astore_n 1, 1) := by decide +kernel
theorem dX6_init_45 : decode cX6_init 45 = .ok (.aload_n 0, 1) := by decide +kernel
theorem dX6_init_46 : decode cX6_init 46 = .ok (.new 30, 3) := by decide +kernel
theorem dX6_init_49 : decode cX6_init 49 = .ok (.dup, 1) := by decide +kernel
theorem dX6_init_50 : decode cX6_init 50 = .ok (.aload_n 1, 1) := by decide +kernel
theorem dX6_init_51 : decode cX6_init 51 = .ok (.invokespecial 32, 3) := by decide +kernel
theorem dX6_init_54 : decode cX6_init 54 = .ok (.putfield 35, 3) := by decide +kernel
theorem dX6_init_57 : decode cX6_init 57 = .ok (.aload_n 0, 1) := by decide +kernel
theorem dX6_init_58 : decode cX6_init 58 = .ok (.new 30, 3) := by decide +kernel
theorem dX6_init_61 : decode cX6_init 61 = .ok (.dup, 1) := by decide +kernel
theorem dX6_init_62 : decode cX6_init 62 = .ok (.aload_n 1, 1) := by decide +kernel
theorem dX6_init_63 : decode cX6_init 63 = .ok (.invokespecial 32, 3) := by decide +kernel
theorem dX6_init_66 : decode cX6_init 66 = .ok (.putfield 39, 3) := by decide +kernel
theorem dX6_init_69 : decode cX6_init 69 = .ok (.return_, 1) := by decide +kernel
theorem dX6_cut_0 : decode cX6_cut 0 = .ok (.iload_n 1, 1) := by decide +kernel
theorem dX6_cut_1 : decode cX6_cut 1 = .ok (.bipush 10, 2) := by decide +kernel
theorem dX6_cut_3 : decode cX6_cut 3 = .ok (.sipush 200, 3) := by decide +kernel
theorem dX6_cut_6 : decode cX6_cut 6 = .ok (.invokestatic 42, 3) := by decide +kernel
theorem dX6_cut_9 : decode cX6_cut 9 = .ok (.ifCond .eq 13, 3) := by decide +kernel
theorem dX6_cut_12 : decode cX6_cut 12 = .ok (.iload_n 2, 1) := by decide +kernel
theorem dX6_cut_13 : decode cX6_cut 13 = .ok (.iconst 5, 1) := by decide +kernel
theorem dX6_cut_14 : decode cX6_cut 14 = .ok (.bipush 30, 2) := by decide +kernel
theorem dX6_cut_16 : decode cX6_cut 16 = .ok (.invokestatic 42, 3) := by decide +kernel
theorem dX6_cut_19 : decode cX6_cut 19 = .ok (.ifCond .ne 5, 3) := by decide +kernel
theorem dX6_cut_22 : decode cX6_cut 22 = .ok (.iconst (-1), 1) := by decide +kernel
theorem dX6_cut_23 : decode cX6_cut 23 = .ok (.ireturn, 1) := by decide +kernel
theorem dX6_cut_24 : decode cX6_cut 24 = .ok (.aload_n 0, 1) := by decide +kernel
theorem dX6_cut_25 : decode cX6_cut 25 = .ok (.getfield 10, 3) := by decide +kernel
theorem dX6_cut_28 : decode cX6_cut 28 = .ok (.getfield 46, 3) := by decide +kernel
theorem dX6_cut_31 : decode cX6_cut 31 = .ok (.bipush 20, 2) := by decide +kernel
theorem dX6_cut_33 : decode cX6_cut 33 = .ok (.if_icmp .lt 6, 3) := by decide +kernel
theorem dX6_cut_36 : decode cX6_cut 36 = .ok (.bipush (-3), 2) := by decide +kernel
theorem dX6_cut_38 : decode cX6_cut 38 = .ok (.ireturn, 1) := by decide +kernel
theorem dX6_cut_39 : decode cX6_cut 39 = .ok (.aload_n 0, 1) := by decide +kernel
theorem dX6_cut_40 : decode cX6_cut 40 = .ok (.getfield 19, 3) := by decide +kernel
theorem dX6_cut_43 : decode cX6_cut 43 = .ok (.aload_n 0, 1) := by decide +kernel
theorem dX6_cut_44 : decode cX6_cut 44 = .ok (.getfield 10, 3) := by decide +kernel
theorem dX6_cut_47 : decode cX6_cut 47 = .ok (.invokevirtual 50, 3) := by decide +kernel
theorem dX6_cut_50 : decode cX6_cut 50 = .ok (.aload_n 0, 1) := by decide +kernel
theorem dX6_cut_51 : decode cX6_cut 51 = .ok (.getfield 10, 3) := by decide +kernel
theorem dX6_cut_54 : decode cX6_cut 54 = .ok (.iload_n 1, 1) := by decide +kernel
theorem dX6_cut_55 : decode cX6_cut 55 = .ok (.iload_n 2, 1) := by decide +kernel
theorem dX6_cut_56 : decode cX6_cut 56 = .ok (.invokevirtual 53, 3) := by decide +kernel
theorem dX6_cut_59 : decode cX6_cut 59 = .ok (.ireturn, 1) := by decide +kernel
theorem dX6_spoil_0 : decode cX6_spoil 0 = .ok (.aload_n 0, 1) := by decide +kernel
theorem dX6_spoil_1 : decode cX6_spoil 1 = .ok (.getfield 10, 3) := by decide +kernel
theorem dX6_spoil_4 : decode cX6_spoil 4 = .ok (.iload_n 1, 1) := by decide +kernel
theorem dX6_spoil_5 : decode cX6_spoil 5 = .ok (.invokevirtual 57, 3) := by decide +kernel
theorem dX6_spoil_8 : decode cX6_spoil 8 = .ok (.ifCond .ne 5, 3) := by decide +kernel
theorem dX6_spoil_11 : decode cX6_spoil 11 = .ok (.iconst (-1), 1) := by decide +kernel
theorem dX6_spoil_12 : decode cX6_spoil 12 = .ok (.ireturn, 1) := by decide +kernel
theorem dX6_spoil_13 : decode cX6_spoil 13 = .ok (.aload_n 0, 1) := by decide +kernel
theorem dX6_spoil_14 : decode cX6_spoil 14 = .ok (.getfield 10, 3) := by decide +kernel
theorem dX6_spoil_17 : decode cX6_spoil 17 = .ok (.getfield 61, 3) := by decide +kernel
theorem dX6_spoil_20 : decode cX6_spoil 20 = .ok (.iload_n 1, 1) := by decide +kernel
theorem dX6_spoil_21 : decode cX6_spoil 21 = .ok (.aaload, 1) := by decide +kernel
theorem dX6_spoil_22 : decode cX6_spoil 22 = .ok (.astore_n 2, 1) := by decide +kernel
theorem dX6_spoil_23 : decode cX6_spoil 23 = .ok (.aload_n 2, 1) := by decide +kernel
theorem dX6_spoil_24 : decode cX6_spoil 24 = .ok (.getfield 65, 3) := by decide +kernel
theorem dX6_spoil_27 : decode cX6_spoil 27 = .ok (.ifCond .eq 6, 3) := by decide +kernel
theorem dX6_spoil_30 : decode cX6_spoil 30 = .ok (.bipush (-2), 2) := by decide +kernel
theorem dX6_spoil_32 : decode cX6_spoil 32 = .ok (.ireturn, 1) := by decide +kernel
theorem dX6_spoil_33 : decode cX6_spoil 33 = .ok (.aload_n 0, 1) := by decide +kernel
theorem dX6_spoil_34 : decode cX6_spoil 34 = .ok (.getfield 19, 3) := by decide +kernel
theorem dX6_spoil_37 : decode cX6_spoil 37 = .ok (.aload_n 0, 1) := by decide +kernel
theorem dX6_spoil_38 : decode cX6_spoil 38 = .ok (.getfield 10, 3) := by decide +kernel
theorem dX6_spoil_41 : decode cX6_spoil 41 = .ok (.invokevirtual 50, 3) := by decide +kernel
theorem dX6_spoil_44 : decode cX6_spoil 44 = .ok (.aload_n 2, 1) := by decide +kernel
theorem dX6_spoil_45 : decode cX6_spoil 45 = .ok (.iconst 3, 1) := by decide +kernel
theorem dX6_spoil_46 : decode cX6_spoil 46 = .ok (.putfield 65, 3) := by decide +kernel
theorem dX6_spoil_49 : decode cX6_spoil 49 = .ok (.aload_n 0, 1) := by decide +kernel
theorem dX6_spoil_50 : decode cX6_spoil 50 = .ok (.getfield 10, 3) := by decide +kernel
theorem dX6_spoil_53 : decode cX6_spoil 53 = .ok (.iconst 3, 1) := by decide +kernel
theorem dX6_spoil_54 : decode cX6_spoil 54 = .ok (.invokevirtual 70, 3) := by decide +kernel
theorem dX6_spoil_57 : decode cX6_spoil 57 = .ok (.ireturn, 1) := by decide +kernel
theorem dX6_grind_0 : decode cX6_grind 0 = .ok (.aload_n 0, 1) := by decide +kernel
theorem dX6_grind_1 : decode cX6_grind 1 = .ok (.getfield 10, 3) := by decide +kernel
theorem dX6_grind_4 : decode cX6_grind 4 = .ok (.iload_n 1, 1) := by decide +kernel
theorem dX6_grind_5 : decode cX6_grind 5 = .ok (.invokevirtual 57, 3) := by decide +kernel
theorem dX6_grind_8 : decode cX6_grind 8 = .ok (.ifCond .eq 12, 3) := by decide +kernel
theorem dX6_grind_11 : decode cX6_grind 11 = .ok (.iload_n 2, 1) := by decide +kernel
theorem dX6_grind_12 : decode cX6_grind 12 = .ok (.iconst 0, 1) := by decide +kernel
theorem dX6_grind_13 : decode cX6_grind 13 = .ok (.iconst 1, 1) := by decide +kernel
theorem dX6_grind_14 : decode cX6_grind 14 = .ok (.invokestatic 42, 3) := by decide +kernel
theorem dX6_grind_17 : decode cX6_grind 17 = .ok (.ifCond .ne 5, 3) := by decide +kernel
theorem dX6_grind_20 : decode cX6_grind 20 = .ok (.iconst (-1), 1) := by decide +kernel
theorem dX6_grind_21 : decode cX6_grind 21 = .ok (.ireturn, 1) := by decide +kernel
theorem dX6_grind_22 : decode cX6_grind 22 = .ok (.aload_n 0, 1) := by decide +kernel
theorem dX6_grind_23 : decode cX6_grind 23 = .ok (.getfield 10, 3) := by decide +kernel
theorem dX6_grind_26 : decode cX6_grind 26 = .ok (.getfield 61, 3) := by decide +kernel
theorem dX6_grind_29 : decode cX6_grind 29 = .ok (.iload_n 1, 1) := by decide +kernel
theorem dX6_grind_30 : decode cX6_grind 30 = .ok (.aaload, 1) := by decide +kernel
theorem dX6_grind_31 : decode cX6_grind 31 = .ok (.astore_n 3, 1) := by decide +kernel
theorem dX6_grind_32 : decode cX6_grind 32 = .ok (.aload_n 3, 1) := by decide +kernel
theorem dX6_grind_33 : decode cX6_grind 33 = .ok (.getfield 65, 3) := by decide +kernel
theorem dX6_grind_36 : decode cX6_grind 36 = .ok (.ifCond .ne 12, 3) := by decide +kernel
theorem dX6_grind_39 : decode cX6_grind 39 = .ok (.aload_n 3, 1) := by decide +kernel
theorem dX6_grind_40 : decode cX6_grind 40 = .ok (.iload_n 2, 1) := by decide +kernel
theorem dX6_grind_41 : decode cX6_grind 41 = .ok (.iconst 0, 1) := by decide +kernel
theorem dX6_grind_42 : decode cX6_grind 42 = .ok (.invokevirtual 74, 3) := by decide +kernel
theorem dX6_grind_45 : decode cX6_grind 45 = .ok (.ifCond .ne 6, 3) := by decide +kernel
theorem dX6_grind_48 : decode cX6_grind 48 = .ok (.bipush (-2), 2) := by decide +kernel
theorem dX6_grind_50 : decode cX6_grind 50 = .ok (.ireturn, 1) := by decide +kernel
theorem dX6_grind_51 : decode cX6_grind 51 = .ok (.aload_n 0, 1) := by decide +kernel
theorem dX6_grind_52 : decode cX6_grind 52 = .ok (.getfield 19, 3) := by decide +kernel
theorem dX6_grind_55 : decode cX6_grind 55 = .ok (.aload_n 0, 1) := by decide +kernel
theorem dX6_grind_56 : decode cX6_grind 56 = .ok (.getfield 10, 3) := by decide +kernel
theorem dX6_grind_59 : decode cX6_grind 59 = .ok (.invokevirtual 50, 3) := by decide +kernel
theorem dX6_grind_62 : decode cX6_grind 62 = .ok (.aload_n 0, 1) := by decide +kernel
theorem dX6_grind_63 : decode cX6_grind 63 = .ok (.getfield 10, 3) := by decide +kernel
theorem dX6_grind_66 : decode cX6_grind 66 = .ok (.aload_n 3, 1) := by decide +kernel
theorem dX6_grind_67 : decode cX6_grind 67 = .ok (.iload_n 2, 1) := by decide +kernel
theorem dX6_grind_68 : decode cX6_grind 68 = .ok (.invokevirtual 78, 3) := by decide +kernel
theorem dX6_grind_71 : decode cX6_grind 71 = .ok (.aload_n 3, 1) := by decide +kernel
theorem dX6_grind_72 : decode cX6_grind 72 = .ok (.getfield 82, 3) := by decide +kernel
theorem dX6_grind_75 : decode cX6_grind 75 = .ok (.ireturn, 1) := by decide +kernel
theorem dX6_addShield_0 : decode cX6_addShield 0 = .ok (.iload_n 1, 1) := by decide +kernel
theorem dX6_addShield_1 : decode cX6_addShield 1 = .ok (.iconst 2, 1) := by decide +kernel
theorem dX6_addShield_2 : decode cX6_addShield 2 = .ok (.bipush 6, 2) := by decide +kernel
theorem dX6_addShield_4 : decode cX6_addShield 4 = .ok (.invokestatic 42, 3) := by decide +kernel
theorem dX6_addShield_7 : decode cX6_addShield 7 = .ok (.ifCond .ne 5, 3) := by decide +kernel
theorem dX6_addShield_10 : decode cX6_addShield 10 = .ok (.iconst (-1), 1) := by decide +kernel
theorem dX6_addShield_11 : decode cX6_addShield 11 = .ok (.ireturn, 1) := by decide +kernel
theorem dX6_addShield_12 : decode cX6_addShield 12 = .ok (.aload_n 0, 1) := by decide +kernel
theorem dX6_addShield_13 : decode cX6_addShield 13 = .ok (.getfield 10, 3) := by decide +kernel
theorem dX6_addShield_16 : decode cX6_addShield 16 = .ok (.getfield 85, 3) := by decide +kernel
theorem dX6_addShield_19 : decode cX6_addShield 19 = .ok (.iconst 3, 1) := by decide +kernel
theorem dX6_addShield_20 : decode cX6_addShield 20 = .ok (.if_icmp .lt 6, 3) := by decide +kernel
theorem dX6_addShield_23 : decode cX6_addShield 23 = .ok (.bipush (-3), 2) := by decide +kernel
theorem dX6_addShield_25 : decode cX6_addShield 25 = .ok (.ireturn, 1) := by decide +kernel
theorem dX6_addShield_26 : decode cX6_addShield 26 = .ok (.aload_n 0, 1) := by decide +kernel
theorem dX6_addShield_27 : decode cX6_addShield 27 = .ok (.getfield 19, 3) := by decide +kernel
theorem dX6_addShield_30 : decode cX6_addShield 30 = .ok (.aload_n 0, 1) := by decide +kernel
theorem dX6_addShield_31 : decode cX6_addShield 31 = .ok (.getfield 10, 3) := by decide +kernel
theorem dX6_addShield_34 : decode cX6_addShield 34 = .ok (.invokevirtual 50, 3) := by decide +kernel
theorem dX6_addShield_37 : decode cX6_addShield 37 = .ok (.aload_n 0, 1) := by decide +kernel
theorem dX6_addShield_38 : decode cX6_addShield 38 = .ok (.getfield 10, 3) := by decide +kernel
theorem dX6_addShield_41 : decode cX6_addShield 41 = .ok (.iload_n 1, 1) := by decide +kernel
theorem dX6_addShield_42 : decode cX6_addShield 42 = .ok (.invokevirtual 88, 3) := by decide +kernel
theorem dX6_addShield_45 : decode cX6_addShield 45 = .ok (.ireturn, 1) := by decide +kernel
theorem dX6_takeOff_0 : decode cX6_takeOff 0 = .ok (.aload_n 0, 1) := by decide +kernel
theorem dX6_takeOff_1 : decode cX6_takeOff 1 = .ok (.getfield 10, 3) := by decide +kernel
theorem dX6_takeOff_4 : decode cX6_takeOff 4 = .ok (.iload_n 1, 1) := by decide +kernel
theorem dX6_takeOff_5 : decode cX6_takeOff 5 = .ok (.invokevirtual 91, 3) := by decide +kernel
theorem dX6_takeOff_8 : decode cX6_takeOff 8 = .ok (.ifCond .eq 10, 3) := by decide +kernel
theorem dX6_takeOff_11 : decode cX6_takeOff 11 = .ok (.iload_n 2, 1) := by decide +kernel
theorem dX6_takeOff_12 : decode cX6_takeOff 12 = .ok (.invokestatic 94, 3) := by decide +kernel
theorem dX6_takeOff_15 : decode cX6_takeOff 15 = .ok (.ifCond .ne 5, 3) := by decide +kernel
theorem dX6_takeOff_18 : decode cX6_takeOff 18 = .ok (.iconst (-1), 1) := by decide +kernel
theorem dX6_takeOff_19 : decode cX6_takeOff 19 = .ok (.ireturn, 1) := by decide +kernel
theorem dX6_takeOff_20 : decode cX6_takeOff 20 = .ok (.aload_n 0, 1) := by decide +kernel
theorem dX6_takeOff_21 : decode cX6_takeOff 21 = .ok (.getfield 10, 3) := by decide +kernel
theorem dX6_takeOff_24 : decode cX6_takeOff 24 = .ok (.iload_n 1, 1) := by decide +kernel
theorem dX6_takeOff_25 : decode cX6_takeOff 25 = .ok (.iload_n 2, 1) := by decide +kernel
theorem dX6_takeOff_26 : decode cX6_takeOff 26 = .ok (.invokevirtual 97, 3) := by decide +kernel
theorem dX6_takeOff_29 : decode cX6_takeOff 29 = .ok (.istore_n 3, 1) := by decide +kernel
theorem dX6_takeOff_30 : decode cX6_takeOff 30 = .ok (.aload_n 0, 1) := by decide +kernel
theorem dX6_takeOff_31 : decode cX6_takeOff 31 = .ok (.getfield 10, 3) := by decide +kernel
theorem dX6_takeOff_34 : decode cX6_takeOff 34 = .ok (.iload_n 3, 1) := by decide +kernel
theorem dX6_takeOff_35 : decode cX6_takeOff 35 = .ok (.invokevirtual 57, 3) := by decide +kernel
theorem dX6_takeOff_38 : decode cX6_takeOff 38 = .ok (.ifCond .ne 6, 3) := by decide +kernel
theorem dX6_takeOff_41 : decode cX6_takeOff 41 = .ok (.bipush (-2), 2) := by decide +kernel
theorem dX6_takeOff_43 : decode cX6_takeOff 43 = .ok (.ireturn, 1) := by decide +kernel
theorem dX6_takeOff_44 : decode cX6_takeOff 44 = .ok (.aload_n 0, 1) := by decide +kernel
theorem dX6_takeOff_45 : decode cX6_takeOff 45 = .ok (.getfield 19, 3) := by decide +kernel
theorem dX6_takeOff_48 : decode cX6_takeOff 48 = .ok (.aload_n 0, 1) := by decide +kernel
theorem dX6_takeOff_49 : decode cX6_takeOff 49 = .ok (.getfield 10, 3) := by decide +kernel
theorem dX6_takeOff_52 : decode cX6_takeOff 52 = .ok (.invokevirtual 50, 3) := by decide +kernel
theorem dX6_takeOff_55 : decode cX6_takeOff 55 = .ok (.aload_n 0, 1) := by decide +kernel
theorem dX6_takeOff_56 : decode cX6_takeOff 56 = .ok (.getfield 10, 3) := by decide +kernel
theorem dX6_takeOff_59 : decode cX6_takeOff 59 = .ok (.getfield 61, 3) := by decide +kernel
theorem dX6_takeOff_62 : decode cX6_takeOff 62 = .ok (.iload_n 3, 1) := by decide +kernel
theorem dX6_takeOff_63 : decode cX6_takeOff 63 = .ok (.aaload, 1) := by decide +kernel
theorem dX6_takeOff_64 : decode cX6_takeOff 64 = .ok (.invokevirtual 100, 3) := by decide +kernel
theorem dX6_takeOff_67 : decode cX6_takeOff 67 = .ok (.iload_n 3, 1) := by decide +kernel
theorem dX6_takeOff_68 : decode cX6_takeOff 68 = .ok (.ireturn, 1) := by decide +kernel
theorem dX6_append_0 : decode cX6_append 0 = .ok (.iload_n 1, 1) := by decide +kernel
theorem dX6_append_1 : decode cX6_append 1 = .ok (.bipush 97, 2) := by decide +kernel
theorem dX6_append_3 : decode cX6_append 3 = .ok (.bipush 122, 2) := by decide +kernel
theorem dX6_append_5 : decode cX6_append 5 = .ok (.invokestatic 42, 3) := by decide +kernel
theorem dX6_append_8 : decode cX6_append 8 = .ok (.ifCond .ne 5, 3) := by decide +kernel
theorem dX6_append_11 : decode cX6_append 11 = .ok (.iconst (-1), 1) := by decide +kernel
theorem dX6_append_12 : decode cX6_append 12 = .ok (.ireturn, 1) := by decide +kernel
theorem dX6_append_13 : decode cX6_append 13 = .ok (.aload_n 0, 1) := by decide +kernel
theorem dX6_append_14 : decode cX6_append 14 = .ok (.getfield 26, 3) := by decide +kernel
theorem dX6_append_17 : decode cX6_append 17 = .ok (.getfield 103, 3) := by decide +kernel
theorem dX6_append_20 : decode cX6_append 20 = .ok (.bipush 12, 2) := by decide +kernel
theorem dX6_append_22 : decode cX6_append 22 = .ok (.if_icmp .lt 6, 3) := by decide +kernel
theorem dX6_append_25 : decode cX6_append 25 = .ok (.bipush (-3), 2) := by decide +kernel
theorem dX6_append_27 : decode cX6_append 27 = .ok (.ireturn, 1) := by decide +kernel
theorem dX6_append_28 : decode cX6_append 28 = .ok (.aload_n 0, 1) := by decide +kernel
theorem dX6_append_29 : decode cX6_append 29 = .ok (.getfield 26, 3) := by decide +kernel
theorem dX6_append_32 : decode cX6_append 32 = .ok (.iload_n 1, 1) := by decide +kernel
theorem dX6_append_33 : decode cX6_append 33 = .ok (.invokevirtual 106, 3) := by decide +kernel
theorem dX6_append_36 : decode cX6_append 36 = .ok (.aload_n 0, 1) := by decide +kernel
theorem dX6_append_37 : decode cX6_append 37 = .ok (.getfield 26, 3) := by decide +kernel
theorem dX6_append_40 : decode cX6_append 40 = .ok (.getfield 103, 3) := by decide +kernel
theorem dX6_append_43 : decode cX6_append 43 = .ok (.ireturn, 1) := by decide +kernel
theorem dX6_clearText_0 : decode cX6_clearText 0 = .ok (.aload_n 0, 1) := by decide +kernel
theorem dX6_clearText_1 : decode cX6_clearText 1 = .ok (.getfield 26, 3) := by decide +kernel
theorem dX6_clearText_4 : decode cX6_clearText 4 = .ok (.getfield 103, 3) := by decide +kernel
theorem dX6_clearText_7 : decode cX6_clearText 7 = .ok (.istore_n 1, 1) := by decide +kernel
theorem dX6_clearText_8 : decode cX6_clearText 8 = .ok (.aload_n 0, 1) := by decide +kernel
theorem dX6_clearText_9 : decode cX6_clearText 9 = .ok (.getfield 26, 3) := by decide +kernel
theorem dX6_clearText_12 : decode cX6_clearText 12 = .ok (.iconst 0, 1) := by decide +kernel
theorem dX6_clearText_13 : decode cX6_clearText 13 = .ok (.putfield 103, 3) := by decide +kernel
theorem dX6_clearText_16 : decode cX6_clearText 16 = .ok (.iload_n 1, 1) := by decide +kernel
theorem dX6_clearText_17 : decode cX6_clearText 17 = .ok (.ireturn, 1) := by decide +kernel
theorem dX6_order_0 : decode cX6_order 0 = .ok (.aload_n 0, 1) := by decide +kernel
theorem dX6_order_1 : decode cX6_order 1 = .ok (.getfield 10, 3) := by decide +kernel
theorem dX6_order_4 : decode cX6_order 4 = .ok (.iload_n 1, 1) := by decide +kernel
theorem dX6_order_5 : decode cX6_order 5 = .ok (.invokevirtual 91, 3) := by decide +kernel
theorem dX6_order_8 : decode cX6_order 8 = .ok (.ifCond .eq 35, 3) := by decide +kernel
theorem dX6_order_11 : decode cX6_order 11 = .ok (.iload_n 2, 1) := by decide +kernel
theorem dX6_order_12 : decode cX6_order 12 = .ok (.invokestatic 94, 3) := by decide +kernel
theorem dX6_order_15 : decode cX6_order 15 = .ok (.ifCond .eq 28, 3) := by decide +kernel
theorem dX6_order_18 : decode cX6_order 18 = .ok (.iload_n 3, 1) := by decide +kernel
theorem dX6_order_19 : decode cX6_order 19 = .ok (.invokestatic 110, 3) := by decide +kernel
theorem dX6_order_22 : decode cX6_order 22 = .ok (.ifCond .eq 21, 3) := by decide +kernel
theorem dX6_order_25 : decode cX6_order 25 = .ok (.iload 4, 2) := by decide +kernel
theorem dX6_order_27 : decode cX6_order 27 = .ok (.invokestatic 113, 3) := by decide +kernel
theorem dX6_order_30 : decode cX6_order 30 = .ok (.ifCond .eq 13, 3) := by decide +kernel
theorem dX6_order_33 : decode cX6_order 33 = .ok (.iload 5, 2) := by decide +kernel
theorem dX6_order_35 : decode cX6_order 35 = .ok (.iconst 0, 1) := by decide +kernel
theorem dX6_order_36 : decode cX6_order 36 = .ok (.iconst 1, 1) := by decide +kernel
theorem dX6_order_37 : decode cX6_order 37 = .ok (.invokestatic 42, 3) := by decide +kernel
theorem dX6_order_40 : decode cX6_order 40 = .ok (.ifCond .ne 5, 3) := by decide +kernel
theorem dX6_order_43 : decode cX6_order 43 = .ok (.iconst (-1), 1) := by decide +kernel
theorem dX6_order_44 : decode cX6_order 44 = .ok (.ireturn, 1) := by decide +kernel
theorem dX6_order_45 : decode cX6_order 45 = .ok (.aload_n 0, 1) := by decide +kernel
theorem dX6_order_46 : decode cX6_order 46 = .ok (.getfield 26, 3) := by decide +kernel
theorem dX6_order_49 : decode cX6_order 49 = .ok (.getfield 103, 3) := by decide +kernel
theorem dX6_order_52 : decode cX6_order 52 = .ok (.ifCond .eq 29, 3) := by decide +kernel
theorem dX6_order_55 : decode cX6_order 55 = .ok (.aload_n 0, 1) := by decide +kernel
theorem dX6_order_56 : decode cX6_order 56 = .ok (.getfield 10, 3) := by decide +kernel
theorem dX6_order_59 : decode cX6_order 59 = .ok (.iload_n 1, 1) := by decide +kernel
theorem dX6_order_60 : decode cX6_order 60 = .ok (.iload_n 2, 1) := by decide +kernel
theorem dX6_order_61 : decode cX6_order 61 = .ok (.invokevirtual 97, 3) := by decide +kernel
theorem dX6_order_64 : decode cX6_order 64 = .ok (.bipush (-9), 2) := by decide +kernel
theorem dX6_order_66 : decode cX6_order 66 = .ok (.if_icmp .ne 15, 3) := by decide +kernel
theorem dX6_order_69 : decode cX6_order 69 = .ok (.aload_n 0, 1) := by decide +kernel
theorem dX6_order_70 : decode cX6_order 70 = .ok (.getfield 10, 3) := by decide +kernel
theorem dX6_order_73 : decode cX6_order 73 = .ok (.iload_n 1, 1) := by decide +kernel
theorem dX6_order_74 : decode cX6_order 74 = .ok (.iload_n 2, 1) := by decide +kernel
theorem dX6_order_75 : decode cX6_order 75 = .ok (.invokevirtual 116, 3) := by decide +kernel
theorem dX6_order_78 : decode cX6_order 78 = .ok (.ifCond .eq 6, 3) := by decide +kernel
theorem dX6_order_81 : decode cX6_order 81 = .ok (.bipush (-2), 2) := by decide +kernel
theorem dX6_order_83 : decode cX6_order 83 = .ok (.ireturn, 1) := by decide +kernel
theorem dX6_order_84 : decode cX6_order 84 = .ok (.aload_n 0, 1) := by decide +kernel
theorem dX6_order_85 : decode cX6_order 85 = .ok (.getfield 10, 3) := by decide +kernel
theorem dX6_order_88 : decode cX6_order 88 = .ok (.getfield 119, 3) := by decide +kernel
theorem dX6_order_91 : decode cX6_order 91 = .ok (.bipush 10, 2) := by decide +kernel
theorem dX6_order_93 : decode cX6_order 93 = .ok (.if_icmp .lt 6, 3) := by decide +kernel
theorem dX6_order_96 : decode cX6_order 96 = .ok (.bipush (-3), 2) := by decide +kernel
theorem dX6_order_98 : decode cX6_order 98 = .ok (.ireturn, 1) := by decide +kernel
theorem dX6_order_99 : decode cX6_order 99 = .ok (.aload_n 0, 1) := by decide +kernel
theorem dX6_order_100 : decode cX6_order 100 = .ok (.getfield 19, 3) := by decide +kernel
theorem dX6_order_103 : decode cX6_order 103 = .ok (.aload_n 0, 1) := by decide +kernel
theorem dX6_order_104 : decode cX6_order 104 = .ok (.getfield 10, 3) := by decide +kernel
theorem dX6_order_107 : decode cX6_order 107 = .ok (.invokevirtual 50, 3) := by decide +kernel
theorem dX6_order_110 : decode cX6_order 110 = .ok (.aload_n 0, 1) := by decide +kernel
theorem dX6_order_111 : decode cX6_order 111 = .ok (.getfield 10, 3) := by decide +kernel
theorem dX6_order_114 : decode cX6_order 114 = .ok (.getfield 122, 3) := by decide +kernel
theorem dX6_order_117 : decode cX6_order 117 = .ok (.aload_n 0, 1) := by decide +kernel
theorem dX6_order_118 : decode cX6_order 118 = .ok (.getfield 10, 3) := by decide +kernel
theorem dX6_order_121 : decode cX6_order 121 = .ok (.getfield 119, 3) := by decide +kernel
theorem dX6_order_124 : decode cX6_order 124 = .ok (.aaload, 1) := by decide +kernel
theorem dX6_order_125 : decode cX6_order 125 = .ok (.astore 6, 2) := by decide +kernel
theorem dX6_order_127 : decode cX6_order 127 = .ok (.aload 6, 2) := by decide +kernel
theorem dX6_order_129 : decode cX6_order 129 = .ok (.getfield 126, 3) := by decide +kernel
theorem dX6_order_132 : decode cX6_order 132 = .ok (.aload_n 0, 1) := by decide +kernel
theorem dX6_order_133 : decode cX6_order 133 = .ok (.getfield 26, 3) := by decide +kernel
theorem dX6_order_136 : decode cX6_order 136 = .ok (.invokevirtual 131, 3) := by decide +kernel
theorem dX6_order_139 : decode cX6_order 139 = .ok (.aload 6, 2) := by decide +kernel
theorem dX6_order_141 : decode cX6_order 141 = .ok (.iload_n 1, 1) := by decide +kernel
theorem dX6_order_142 : decode cX6_order 142 = .ok (.putfield 135, 3) := by decide +kernel
theorem dX6_order_145 : decode cX6_order 145 = .ok (.aload 6, 2) := by decide +kernel
theorem dX6_order_147 : decode cX6_order 147 = .ok (.iload_n 2, 1) := by decide +kernel
theorem dX6_order_148 : decode cX6_order 148 = .ok (.putfield 138, 3) := by decide +kernel
theorem dX6_order_151 : decode cX6_order 151 = .ok (.aload 6, 2) := by decide +kernel
theorem dX6_order_153 : decode cX6_order 153 = .ok (.iload_n 3, 1) := by decide +kernel
theorem dX6_order_154 : decode cX6_order 154 = .ok (.putfield 141, 3) := by decide +kernel
theorem dX6_order_157 : decode cX6_order 157 = .ok (.aload 6, 2) := by decide +kernel
theorem dX6_order_159 : decode cX6_order 159 = .ok (.iload 4, 2) := by decide +kernel
theorem dX6_order_161 : decode cX6_order 161 = .ok (.putfield 144, 3) := by decide +kernel
theorem dX6_order_164 : decode cX6_order 164 = .ok (.aload 6, 2) := by decide +kernel
theorem dX6_order_166 : decode cX6_order 166 = .ok (.iload 5, 2) := by decide +kernel
theorem dX6_order_168 : decode cX6_order 168 = .ok (.iconst 1, 1) := by decide +kernel
theorem dX6_order_169 : decode cX6_order 169 = .ok (.if_icmp .ne 7, 3) := by decide +kernel
theorem dX6_order_172 : decode cX6_order 172 = .ok (.iconst 1, 1) := by decide +kernel
theorem dX6_order_173 : decode cX6_order 173 = .ok (.goto 4, 3) := by decide +kernel
theorem dX6_order_176 : decode cX6_order 176 = .ok (.iconst 0, 1) := by decide +kernel
theorem dX6_order_177 : decode cX6_order 177 = .ok (.putfield 147, 3) := by decide +kernel
theorem dX6_order_180 : decode cX6_order 180 = .ok (.aload_n 0, 1) := by decide +kernel
theorem dX6_order_181 : decode cX6_order 181 = .ok (.getfield 26, 3) := by decide +kernel
theorem dX6_order_184 : decode cX6_order 184 = .ok (.iconst 0, 1) := by decide +kernel
theorem dX6_order_185 : decode cX6_order 185 = .ok (.putfield 103, 3) := by decide +kernel
theorem dX6_order_188 : decode cX6_order 188 = .ok (.aload_n 0, 1) := by decide +kernel
theorem dX6_order_189 : decode cX6_order 189 = .ok (.getfield 10, 3) := by decide +kernel
theorem dX6_order_192 : decode cX6_order 192 = .ok (.invokevirtual 151, 3) := by decide +kernel
theorem dX6_order_195 : decode cX6_order 195 = .ok (.ireturn, 1) := by decide +kernel
theorem dX6_hurry_0 : decode cX6_hurry 0 = .ok (.aload_n 0, 1) := by decide +kernel
theorem dX6_hurry_1 : decode cX6_hurry 1 = .ok (.getfield 10, 3) := by decide +kernel
theorem dX6_hurry_4 : decode cX6_hurry 4 = .ok (.iload_n 1, 1) := by decide +kernel
theorem dX6_hurry_5 : decode cX6_hurry 5 = .ok (.invokevirtual 155, 3) := by decide +kernel
theorem dX6_hurry_8 : decode cX6_hurry 8 = .ok (.ifCond .ne 5, 3) := by decide +kernel
theorem dX6_hurry_11 : decode cX6_hurry 11 = .ok (.iconst (-1), 1) := by decide +kernel
theorem dX6_hurry_12 : decode cX6_hurry 12 = .ok (.ireturn, 1) := by decide +kernel
theorem dX6_hurry_13 : decode cX6_hurry 13 = .ok (.aload_n 0, 1) := by decide +kernel
theorem dX6_hurry_14 : decode cX6_hurry 14 = .ok (.getfield 10, 3) := by decide +kernel
theorem dX6_hurry_17 : decode cX6_hurry 17 = .ok (.getfield 122, 3) := by decide +kernel
theorem dX6_hurry_20 : decode cX6_hurry 20 = .ok (.iload_n 1, 1) := by decide +kernel
theorem dX6_hurry_21 : decode cX6_hurry 21 = .ok (.aaload, 1) := by decide +kernel
theorem dX6_hurry_22 : decode cX6_hurry 22 = .ok (.getfield 147, 3) := by decide +kernel
theorem dX6_hurry_25 : decode cX6_hurry 25 = .ok (.ifCond .eq 6, 3) := by decide +kernel
theorem dX6_hurry_28 : decode cX6_hurry 28 = .ok (.bipush (-2), 2) := by decide +kernel
theorem dX6_hurry_30 : decode cX6_hurry 30 = .ok (.ireturn, 1) := by decide +kernel
theorem dX6_hurry_31 : decode cX6_hurry 31 = .ok (.aload_n 0, 1) := by decide +kernel
theorem dX6_hurry_32 : decode cX6_hurry 32 = .ok (.getfield 19, 3) := by decide +kernel
theorem dX6_hurry_35 : decode cX6_hurry 35 = .ok (.aload_n 0, 1) := by decide +kernel
theorem dX6_hurry_36 : decode cX6_hurry 36 = .ok (.getfield 10, 3) := by decide +kernel
theorem dX6_hurry_39 : decode cX6_hurry 39 = .ok (.invokevirtual 50, 3) := by decide +kernel
theorem dX6_hurry_42 : decode cX6_hurry 42 = .ok (.aload_n 0, 1) := by decide +kernel
theorem dX6_hurry_43 : decode cX6_hurry 43 = .ok (.getfield 10, 3) := by decide +kernel
theorem dX6_hurry_46 : decode cX6_hurry 46 = .ok (.iload_n 1, 1) := by decide +kernel
theorem dX6_hurry_47 : decode cX6_hurry 47 = .ok (.invokevirtual 158, 3) := by decide +kernel
theorem dX6_hurry_50 : decode cX6_hurry 50 = .ok (.ireturn, 1) := by decide +kernel
theorem dX6_cancel_0 : decode cX6_cancel 0 = .ok (.aload_n 0, 1) := by decide +kernel
theorem dX6_cancel_1 : decode cX6_cancel 1 = .ok (.getfield 10, 3) := by decide +kernel
theorem dX6_cancel_4 : decode cX6_cancel 4 = .ok (.iload_n 1, 1) := by decide +kernel
theorem dX6_cancel_5 : decode cX6_cancel 5 = .ok (.invokevirtual 155, 3) := by decide +kernel
theorem dX6_cancel_8 : decode cX6_cancel 8 = .ok (.ifCond .ne 5, 3) := by decide +kernel
theorem dX6_cancel_11 : decode cX6_cancel 11 = .ok (.iconst (-1), 1) := by decide +kernel
theorem dX6_cancel_12 : decode cX6_cancel 12 = .ok (.ireturn, 1) := by decide +kernel
theorem dX6_cancel_13 : decode cX6_cancel 13 = .ok (.aload_n 0, 1) := by decide +kernel
theorem dX6_cancel_14 : decode cX6_cancel 14 = .ok (.getfield 19, 3) := by decide +kernel
theorem dX6_cancel_17 : decode cX6_cancel 17 = .ok (.aload_n 0, 1) := by decide +kernel
theorem dX6_cancel_18 : decode cX6_cancel 18 = .ok (.getfield 10, 3) := by decide +kernel
theorem dX6_cancel_21 : decode cX6_cancel 21 = .ok (.invokevirtual 50, 3) := by decide +kernel
theorem dX6_cancel_24 : decode cX6_cancel 24 = .ok (.aload_n 0, 1) := by decide +kernel
theorem dX6_cancel_25 : decode cX6_cancel 25 = .ok (.getfield 10, 3) := by decide +kernel
theorem dX6_cancel_28 : decode cX6_cancel 28 = .ok (.iload_n 1, 1) := by decide +kernel
theorem dX6_cancel_29 : decode cX6_cancel 29 = .ok (.invokevirtual 161, 3) := by decide +kernel
theorem dX6_cancel_32 : decode cX6_cancel 32 = .ok (.aload_n 0, 1) := by decide +kernel
theorem dX6_cancel_33 : decode cX6_cancel 33 = .ok (.getfield 10, 3) := by decide +kernel
theorem dX6_cancel_36 : decode cX6_cancel 36 = .ok (.getfield 119, 3) := by decide +kernel
theorem dX6_cancel_39 : decode cX6_cancel 39 = .ok (.ireturn, 1) := by decide +kernel
theorem dX6_work_0 : decode cX6_work 0 = .ok (.iload_n 1, 1) := by decide +kernel
theorem dX6_work_1 : decode cX6_work 1 = .ok (.iconst 1, 1) := by decide +kernel
theorem dX6_work_2 : decode cX6_work 2 = .ok (.sipush 600, 3) := by decide +kernel
theorem dX6_work_5 : decode cX6_work 5 = .ok (.invokestatic 42, 3) := by decide +kernel
theorem dX6_work_8 : decode cX6_work 8 = .ok (.ifCond .ne 5, 3) := by decide +kernel
theorem dX6_work_11 : decode cX6_work 11 = .ok (.iconst (-1), 1) := by decide +kernel
theorem dX6_work_12 : decode cX6_work 12 = .ok (.ireturn, 1) := by decide +kernel
theorem dX6_work_13 : decode cX6_work 13 = .ok (.aload_n 0, 1) := by decide +kernel
theorem dX6_work_14 : decode cX6_work 14 = .ok (.getfield 19, 3) := by decide +kernel
theorem dX6_work_17 : decode cX6_work 17 = .ok (.aload_n 0, 1) := by decide +kernel
theorem dX6_work_18 : decode cX6_work 18 = .ok (.getfield 10, 3) := by decide +kernel
theorem dX6_work_21 : decode cX6_work 21 = .ok (.invokevirtual 50, 3) := by decide +kernel
theorem dX6_work_24 : decode cX6_work 24 = .ok (.aload_n 0, 1) := by decide +kernel
theorem dX6_work_25 : decode cX6_work 25 = .ok (.getfield 10, 3) := by decide +kernel
theorem dX6_work_28 : decode cX6_work 28 = .ok (.iload_n 1, 1) := by decide +kernel
theorem dX6_work_29 : decode cX6_work 29 = .ok (.invokevirtual 164, 3) := by decide +kernel
theorem dX6_work_32 : decode cX6_work 32 = .ok (.ireturn, 1) := by decide +kernel
theorem dX6_slip_0 : decode cX6_slip 0 = .ok (.aload_n 0, 1) := by decide +kernel
theorem dX6_slip_1 : decode cX6_slip 1 = .ok (.getfield 10, 3) := by decide +kernel
theorem dX6_slip_4 : decode cX6_slip 4 = .ok (.invokevirtual 167, 3) := by decide +kernel
theorem dX6_slip_7 : decode cX6_slip 7 = .ok (.ifCond .ne 6, 3) := by decide +kernel
theorem dX6_slip_10 : decode cX6_slip 10 = .ok (.bipush (-2), 2) := by decide +kernel
theorem dX6_slip_12 : decode cX6_slip 12 = .ok (.ireturn, 1) := by decide +kernel
theorem dX6_slip_13 : decode cX6_slip 13 = .ok (.aload_n 0, 1) := by decide +kernel
theorem dX6_slip_14 : decode cX6_slip 14 = .ok (.getfield 19, 3) := by decide +kernel
theorem dX6_slip_17 : decode cX6_slip 17 = .ok (.aload_n 0, 1) := by decide +kernel
theorem dX6_slip_18 : decode cX6_slip 18 = .ok (.getfield 10, 3) := by decide +kernel
theorem dX6_slip_21 : decode cX6_slip 21 = .ok (.invokevirtual 50, 3) := by decide +kernel
theorem dX6_slip_24 : decode cX6_slip 24 = .ok (.aload_n 0, 1) := by decide +kernel
theorem dX6_slip_25 : decode cX6_slip 25 = .ok (.getfield 10, 3) := by decide +kernel
theorem dX6_slip_28 : decode cX6_slip 28 = .ok (.invokevirtual 171, 3) := by decide +kernel
theorem dX6_slip_31 : decode cX6_slip 31 = .ok (.ireturn, 1) := by decide +kernel
theorem dX6_undo_0 : decode cX6_undo 0 = .ok (.aload_n 0, 1) := by decide +kernel
theorem dX6_undo_1 : decode cX6_undo 1 = .ok (.getfield 19, 3) := by decide +kernel
theorem dX6_undo_4 : decode cX6_undo 4 = .ok (.getfield 174, 3) := by decide +kernel
theorem dX6_undo_7 : decode cX6_undo 7 = .ok (.ifCond .gt 6, 3) := by decide +kernel
theorem dX6_undo_10 : decode cX6_undo 10 = .ok (.bipush (-2), 2) := by decide +kernel
theorem dX6_undo_12 : decode cX6_undo 12 = .ok (.ireturn, 1) := by decide +kernel
theorem dX6_undo_13 : decode cX6_undo 13 = .ok (.aload_n 0, 1) := by decide +kernel
theorem dX6_undo_14 : decode cX6_undo 14 = .ok (.getfield 19, 3) := by decide +kernel
theorem dX6_undo_17 : decode cX6_undo 17 = .ok (.aload_n 0, 1) := by decide +kernel
theorem dX6_undo_18 : decode cX6_undo 18 = .ok (.getfield 10, 3) := by decide +kernel
theorem dX6_undo_21 : decode cX6_undo 21 = .ok (.invokevirtual 177, 3) := by decide +kernel
theorem dX6_undo_24 : decode cX6_undo 24 = .ok (.aload_n 0, 1) := by decide +kernel
theorem dX6_undo_25 : decode cX6_undo 25 = .ok (.getfield 19, 3) := by decide +kernel
theorem dX6_undo_28 : decode cX6_undo 28 = .ok (.getfield 174, 3) := by decide +kernel
theorem dX6_undo_31 : decode cX6_undo 31 = .ok (.ireturn, 1) := by decide +kernel
theorem dX6_count_0 : decode cX6_count 0 = .ok (.iload_n 1, 1) := by decide +kernel
theorem dX6_count_1 : decode cX6_count 1 = .ok (.tableswitch 184 0 15 #[79, 79, 79, 79, 88, 96, 104, 112, 120, 128, 136, 144, 152, 160, 168, 176], 79) := by decide +kernel
theorem dX6_count_80 : decode cX6_count 80 = .ok (.aload_n 0, 1) := by decide +kernel
theorem dX6_count_81 : decode cX6_count 81 = .ok (.getfield 10, 3) := by decide +kernel
theorem dX6_count_84 : decode cX6_count 84 = .ok (.iload_n 1, 1) := by decide +kernel
theorem dX6_count_85 : decode cX6_count 85 = .ok (.invokevirtual 70, 3) := by decide +kernel
theorem dX6_count_88 : decode cX6_count 88 = .ok (.ireturn, 1) := by decide +kernel
theorem dX6_count_89 : decode cX6_count 89 = .ok (.aload_n 0, 1) := by decide +kernel
theorem dX6_count_90 : decode cX6_count 90 = .ok (.getfield 10, 3) := by decide +kernel
theorem dX6_count_93 : decode cX6_count 93 = .ok (.getfield 46, 3) := by decide +kernel
theorem dX6_count_96 : decode cX6_count 96 = .ok (.ireturn, 1) := by decide +kernel
theorem dX6_count_97 : decode cX6_count 97 = .ok (.aload_n 0, 1) := by decide +kernel
theorem dX6_count_98 : decode cX6_count 98 = .ok (.getfield 10, 3) := by decide +kernel
theorem dX6_count_101 : decode cX6_count 101 = .ok (.getfield 85, 3) := by decide +kernel
theorem dX6_count_104 : decode cX6_count 104 = .ok (.ireturn, 1) := by decide +kernel
theorem dX6_count_105 : decode cX6_count 105 = .ok (.aload_n 0, 1) := by decide +kernel
theorem dX6_count_106 : decode cX6_count 106 = .ok (.getfield 10, 3) := by decide +kernel
theorem dX6_count_109 : decode cX6_count 109 = .ok (.getfield 119, 3) := by decide +kernel
theorem dX6_count_112 : decode cX6_count 112 = .ok (.ireturn, 1) := by decide +kernel
theorem dX6_count_113 : decode cX6_count 113 = .ok (.aload_n 0, 1) := by decide +kernel
theorem dX6_count_114 : decode cX6_count 114 = .ok (.getfield 10, 3) := by decide +kernel
theorem dX6_count_117 : decode cX6_count 117 = .ok (.invokevirtual 180, 3) := by decide +kernel
theorem dX6_count_120 : decode cX6_count 120 = .ok (.ireturn, 1) := by decide +kernel
theorem dX6_count_121 : decode cX6_count 121 = .ok (.aload_n 0, 1) := by decide +kernel
theorem dX6_count_122 : decode cX6_count 122 = .ok (.getfield 10, 3) := by decide +kernel
theorem dX6_count_125 : decode cX6_count 125 = .ok (.getfield 183, 3) := by decide +kernel
theorem dX6_count_128 : decode cX6_count 128 = .ok (.ireturn, 1) := by decide +kernel
theorem dX6_count_129 : decode cX6_count 129 = .ok (.aload_n 0, 1) := by decide +kernel
theorem dX6_count_130 : decode cX6_count 130 = .ok (.getfield 10, 3) := by decide +kernel
theorem dX6_count_133 : decode cX6_count 133 = .ok (.getfield 186, 3) := by decide +kernel
theorem dX6_count_136 : decode cX6_count 136 = .ok (.ireturn, 1) := by decide +kernel
theorem dX6_count_137 : decode cX6_count 137 = .ok (.aload_n 0, 1) := by decide +kernel
theorem dX6_count_138 : decode cX6_count 138 = .ok (.getfield 10, 3) := by decide +kernel
theorem dX6_count_141 : decode cX6_count 141 = .ok (.getfield 189, 3) := by decide +kernel
theorem dX6_count_144 : decode cX6_count 144 = .ok (.ireturn, 1) := by decide +kernel
theorem dX6_count_145 : decode cX6_count 145 = .ok (.aload_n 0, 1) := by decide +kernel
theorem dX6_count_146 : decode cX6_count 146 = .ok (.getfield 10, 3) := by decide +kernel
theorem dX6_count_149 : decode cX6_count 149 = .ok (.getfield 192, 3) := by decide +kernel
theorem dX6_count_152 : decode cX6_count 152 = .ok (.ireturn, 1) := by decide +kernel
theorem dX6_count_153 : decode cX6_count 153 = .ok (.aload_n 0, 1) := by decide +kernel
theorem dX6_count_154 : decode cX6_count 154 = .ok (.getfield 10, 3) := by decide +kernel
theorem dX6_count_157 : decode cX6_count 157 = .ok (.getfield 195, 3) := by decide +kernel
theorem dX6_count_160 : decode cX6_count 160 = .ok (.ireturn, 1) := by decide +kernel
theorem dX6_count_161 : decode cX6_count 161 = .ok (.aload_n 0, 1) := by decide +kernel
theorem dX6_count_162 : decode cX6_count 162 = .ok (.getfield 10, 3) := by decide +kernel
theorem dX6_count_165 : decode cX6_count 165 = .ok (.getfield 198, 3) := by decide +kernel
theorem dX6_count_168 : decode cX6_count 168 = .ok (.ireturn, 1) := by decide +kernel
theorem dX6_count_169 : decode cX6_count 169 = .ok (.aload_n 0, 1) := by decide +kernel
theorem dX6_count_170 : decode cX6_count 170 = .ok (.getfield 19, 3) := by decide +kernel
theorem dX6_count_173 : decode cX6_count 173 = .ok (.getfield 174, 3) := by decide +kernel
theorem dX6_count_176 : decode cX6_count 176 = .ok (.ireturn, 1) := by decide +kernel
theorem dX6_count_177 : decode cX6_count 177 = .ok (.aload_n 0, 1) := by decide +kernel
theorem dX6_count_178 : decode cX6_count 178 = .ok (.getfield 26, 3) := by decide +kernel
theorem dX6_count_181 : decode cX6_count 181 = .ok (.getfield 103, 3) := by decide +kernel
theorem dX6_count_184 : decode cX6_count 184 = .ok (.ireturn, 1) := by decide +kernel
theorem dX6_count_185 : decode cX6_count 185 = .ok (.iconst (-1), 1) := by decide +kernel
theorem dX6_count_186 : decode cX6_count 186 = .ok (.ireturn, 1) := by decide +kernel
theorem dX6_plate_0 : decode cX6_plate 0 = .ok (.aload_n 0, 1) := by decide +kernel
theorem dX6_plate_1 : decode cX6_plate 1 = .ok (.getfield 10, 3) := by decide +kernel
theorem dX6_plate_4 : decode cX6_plate 4 = .ok (.iload_n 1, 1) := by decide +kernel
theorem dX6_plate_5 : decode cX6_plate 5 = .ok (.invokevirtual 57, 3) := by decide +kernel
theorem dX6_plate_8 : decode cX6_plate 8 = .ok (.ifCond .ne 5, 3) := by decide +kernel
theorem dX6_plate_11 : decode cX6_plate 11 = .ok (.iconst (-1), 1) := by decide +kernel
theorem dX6_plate_12 : decode cX6_plate 12 = .ok (.ireturn, 1) := by decide +kernel
theorem dX6_plate_13 : decode cX6_plate 13 = .ok (.aload_n 0, 1) := by decide +kernel
theorem dX6_plate_14 : decode cX6_plate 14 = .ok (.getfield 10, 3) := by decide +kernel
theorem dX6_plate_17 : decode cX6_plate 17 = .ok (.getfield 61, 3) := by decide +kernel
theorem dX6_plate_20 : decode cX6_plate 20 = .ok (.iload_n 1, 1) := by decide +kernel
theorem dX6_plate_21 : decode cX6_plate 21 = .ok (.aaload, 1) := by decide +kernel
theorem dX6_plate_22 : decode cX6_plate 22 = .ok (.astore_n 3, 1) := by decide +kernel
theorem dX6_plate_23 : decode cX6_plate 23 = .ok (.iload_n 2, 1) := by decide +kernel
theorem dX6_plate_24 : decode cX6_plate 24 = .ok (.tableswitch 79 0 6 #[44, 49, 54, 59, 64, 69, 74], 44) := by decide +kernel
theorem dX6_plate_68 : decode cX6_plate 68 = .ok (.aload_n 3, 1) := by decide +kernel
theorem dX6_plate_69 : decode cX6_plate 69 = .ok (.getfield 201, 3) := by decide +kernel
theorem dX6_plate_72 : decode cX6_plate 72 = .ok (.ireturn, 1) := by decide +kernel
theorem dX6_plate_73 : decode cX6_plate 73 = .ok (.aload_n 3, 1) := by decide +kernel
theorem dX6_plate_74 : decode cX6_plate 74 = .ok (.getfield 82, 3) := by decide +kernel
theorem dX6_plate_77 : decode cX6_plate 77 = .ok (.ireturn, 1) := by decide +kernel
theorem dX6_plate_78 : decode cX6_plate 78 = .ok (.aload_n 3, 1) := by decide +kernel
theorem dX6_plate_79 : decode cX6_plate 79 = .ok (.getfield 65, 3) := by decide +kernel
theorem dX6_plate_82 : decode cX6_plate 82 = .ok (.ireturn, 1) := by decide +kernel
theorem dX6_plate_83 : decode cX6_plate 83 = .ok (.aload_n 3, 1) := by decide +kernel
theorem dX6_plate_84 : decode cX6_plate 84 = .ok (.getfield 204, 3) := by decide +kernel
theorem dX6_plate_87 : decode cX6_plate 87 = .ok (.ireturn, 1) := by decide +kernel
theorem dX6_plate_88 : decode cX6_plate 88 = .ok (.aload_n 3, 1) := by decide +kernel
theorem dX6_plate_89 : decode cX6_plate 89 = .ok (.getfield 207, 3) := by decide +kernel
theorem dX6_plate_92 : decode cX6_plate 92 = .ok (.ireturn, 1) := by decide +kernel
theorem dX6_plate_93 : decode cX6_plate 93 = .ok (.aload_n 3, 1) := by decide +kernel
theorem dX6_plate_94 : decode cX6_plate 94 = .ok (.getfield 210, 3) := by decide +kernel
theorem dX6_plate_97 : decode cX6_plate 97 = .ok (.ireturn, 1) := by decide +kernel
theorem dX6_plate_98 : decode cX6_plate 98 = .ok (.aload_n 3, 1) := by decide +kernel
theorem dX6_plate_99 : decode cX6_plate 99 = .ok (.getfield 211, 3) := by decide +kernel
theorem dX6_plate_102 : decode cX6_plate 102 = .ok (.ireturn, 1) := by decide +kernel
theorem dX6_plate_103 : decode cX6_plate 103 = .ok (.iconst (-1), 1) := by decide +kernel
theorem dX6_plate_104 : decode cX6_plate 104 = .ok (.ireturn, 1) := by decide +kernel
theorem dX6_shield_0 : decode cX6_shield 0 = .ok (.aload_n 0, 1) := by decide +kernel
theorem dX6_shield_1 : decode cX6_shield 1 = .ok (.getfield 10, 3) := by decide +kernel
theorem dX6_shield_4 : decode cX6_shield 4 = .ok (.iload_n 1, 1) := by decide +kernel
theorem dX6_shield_5 : decode cX6_shield 5 = .ok (.invokevirtual 91, 3) := by decide +kernel
theorem dX6_shield_8 : decode cX6_shield 8 = .ok (.ifCond .ne 5, 3) := by decide +kernel
theorem dX6_shield_11 : decode cX6_shield 11 = .ok (.iconst (-1), 1) := by decide +kernel
theorem dX6_shield_12 : decode cX6_shield 12 = .ok (.ireturn, 1) := by decide +kernel
theorem dX6_shield_13 : decode cX6_shield 13 = .ok (.iload_n 2, 1) := by decide +kernel
theorem dX6_shield_14 : decode cX6_shield 14 = .ok (.tableswitch 80 0 4 #[34, 44, 53, 62, 71], 34) := by decide +kernel
theorem dX6_shield_48 : decode cX6_shield 48 = .ok (.aload_n 0, 1) := by decide +kernel
theorem dX6_shield_49 : decode cX6_shield 49 = .ok (.getfield 10, 3) := by decide +kernel
theorem dX6_shield_52 : decode cX6_shield 52 = .ok (.getfield 212, 3) := by decide +kernel
theorem dX6_shield_55 : decode cX6_shield 55 = .ok (.iload_n 1, 1) := by decide +kernel
theorem dX6_shield_56 : decode cX6_shield 56 = .ok (.iaload, 1) := by decide +kernel
theorem dX6_shield_57 : decode cX6_shield 57 = .ok (.ireturn, 1) := by decide +kernel
theorem dX6_shield_58 : decode cX6_shield 58 = .ok (.aload_n 0, 1) := by decide +kernel
theorem dX6_shield_59 : decode cX6_shield 59 = .ok (.getfield 10, 3) := by decide +kernel
theorem dX6_shield_62 : decode cX6_shield 62 = .ok (.iload_n 1, 1) := by decide +kernel
theorem dX6_shield_63 : decode cX6_shield 63 = .ok (.invokevirtual 216, 3) := by decide +kernel
theorem dX6_shield_66 : decode cX6_shield 66 = .ok (.ireturn, 1) := by decide +kernel
theorem dX6_shield_67 : decode cX6_shield 67 = .ok (.aload_n 0, 1) := by decide +kernel
theorem dX6_shield_68 : decode cX6_shield 68 = .ok (.getfield 10, 3) := by decide +kernel
theorem dX6_shield_71 : decode cX6_shield 71 = .ok (.iload_n 1, 1) := by decide +kernel
theorem dX6_shield_72 : decode cX6_shield 72 = .ok (.invokevirtual 219, 3) := by decide +kernel
theorem dX6_shield_75 : decode cX6_shield 75 = .ok (.ireturn, 1) := by decide +kernel
theorem dX6_shield_76 : decode cX6_shield 76 = .ok (.aload_n 0, 1) := by decide +kernel
theorem dX6_shield_77 : decode cX6_shield 77 = .ok (.getfield 10, 3) := by decide +kernel
theorem dX6_shield_80 : decode cX6_shield 80 = .ok (.iload_n 1, 1) := by decide +kernel
theorem dX6_shield_81 : decode cX6_shield 81 = .ok (.invokevirtual 222, 3) := by decide +kernel
theorem dX6_shield_84 : decode cX6_shield 84 = .ok (.ireturn, 1) := by decide +kernel
theorem dX6_shield_85 : decode cX6_shield 85 = .ok (.aload_n 0, 1) := by decide +kernel
theorem dX6_shield_86 : decode cX6_shield 86 = .ok (.getfield 10, 3) := by decide +kernel
theorem dX6_shield_89 : decode cX6_shield 89 = .ok (.iload_n 1, 1) := by decide +kernel
theorem dX6_shield_90 : decode cX6_shield 90 = .ok (.invokevirtual 225, 3) := by decide +kernel
theorem dX6_shield_93 : decode cX6_shield 93 = .ok (.ireturn, 1) := by decide +kernel
theorem dX6_shield_94 : decode cX6_shield 94 = .ok (.iconst (-1), 1) := by decide +kernel
theorem dX6_shield_95 : decode cX6_shield 95 = .ok (.ireturn, 1) := by decide +kernel
theorem dX6_plateFor_0 : decode cX6_plateFor 0 = .ok (.aload_n 0, 1) := by decide +kernel
theorem dX6_plateFor_1 : decode cX6_plateFor 1 = .ok (.getfield 10, 3) := by decide +kernel
theorem dX6_plateFor_4 : decode cX6_plateFor 4 = .ok (.iload_n 1, 1) := by decide +kernel
theorem dX6_plateFor_5 : decode cX6_plateFor 5 = .ok (.invokevirtual 91, 3) := by decide +kernel
theorem dX6_plateFor_8 : decode cX6_plateFor 8 = .ok (.ifCond .eq 10, 3) := by decide +kernel
theorem dX6_plateFor_11 : decode cX6_plateFor 11 = .ok (.iload_n 2, 1) := by decide +kernel
theorem dX6_plateFor_12 : decode cX6_plateFor 12 = .ok (.invokestatic 94, 3) := by decide +kernel
theorem dX6_plateFor_15 : decode cX6_plateFor 15 = .ok (.ifCond .ne 5, 3) := by decide +kernel
theorem dX6_plateFor_18 : decode cX6_plateFor 18 = .ok (.iconst (-1), 1) := by decide +kernel
theorem dX6_plateFor_19 : decode cX6_plateFor 19 = .ok (.ireturn, 1) := by decide +kernel
theorem dX6_plateFor_20 : decode cX6_plateFor 20 = .ok (.aload_n 0, 1) := by decide +kernel
theorem dX6_plateFor_21 : decode cX6_plateFor 21 = .ok (.getfield 10, 3) := by decide +kernel
theorem dX6_plateFor_24 : decode cX6_plateFor 24 = .ok (.iload_n 1, 1) := by decide +kernel
theorem dX6_plateFor_25 : decode cX6_plateFor 25 = .ok (.iload_n 2, 1) := by decide +kernel
theorem dX6_plateFor_26 : decode cX6_plateFor 26 = .ok (.invokevirtual 97, 3) := by decide +kernel
theorem dX6_plateFor_29 : decode cX6_plateFor 29 = .ok (.ireturn, 1) := by decide +kernel
theorem dX6_orderOf_0 : decode cX6_orderOf 0 = .ok (.aload_n 0, 1) := by decide +kernel
theorem dX6_orderOf_1 : decode cX6_orderOf 1 = .ok (.getfield 10, 3) := by decide +kernel
theorem dX6_orderOf_4 : decode cX6_orderOf 4 = .ok (.iload_n 1, 1) := by decide +kernel
theorem dX6_orderOf_5 : decode cX6_orderOf 5 = .ok (.invokevirtual 155, 3) := by decide +kernel
theorem dX6_orderOf_8 : decode cX6_orderOf 8 = .ok (.ifCond .ne 5, 3) := by decide +kernel
theorem dX6_orderOf_11 : decode cX6_orderOf 11 = .ok (.iconst (-1), 1) := by decide +kernel
theorem dX6_orderOf_12 : decode cX6_orderOf 12 = .ok (.ireturn, 1) := by decide +kernel
theorem dX6_orderOf_13 : decode cX6_orderOf 13 = .ok (.aload_n 0, 1) := by decide +kernel
theorem dX6_orderOf_14 : decode cX6_orderOf 14 = .ok (.getfield 10, 3) := by decide +kernel
theorem dX6_orderOf_17 : decode cX6_orderOf 17 = .ok (.getfield 122, 3) := by decide +kernel
theorem dX6_orderOf_20 : decode cX6_orderOf 20 = .ok (.iload_n 1, 1) := by decide +kernel
theorem dX6_orderOf_21 : decode cX6_orderOf 21 = .ok (.aaload, 1) := by decide +kernel
theorem dX6_orderOf_22 : decode cX6_orderOf 22 = .ok (.astore_n 3, 1) := by decide +kernel
theorem dX6_orderOf_23 : decode cX6_orderOf 23 = .ok (.iload_n 2, 1) := by decide +kernel
theorem dX6_orderOf_24 : decode cX6_orderOf 24 = .ok (.tableswitch 99 0 7 #[48, 53, 58, 63, 68, 81, 89, 94], 48) := by decide +kernel
theorem dX6_orderOf_72 : decode cX6_orderOf 72 = .ok (.aload_n 3, 1) := by decide +kernel
theorem dX6_orderOf_73 : decode cX6_orderOf 73 = .ok (.getfield 135, 3) := by decide +kernel
theorem dX6_orderOf_76 : decode cX6_orderOf 76 = .ok (.ireturn, 1) := by decide +kernel
theorem dX6_orderOf_77 : decode cX6_orderOf 77 = .ok (.aload_n 3, 1) := by decide +kernel
theorem dX6_orderOf_78 : decode cX6_orderOf 78 = .ok (.getfield 138, 3) := by decide +kernel
theorem dX6_orderOf_81 : decode cX6_orderOf 81 = .ok (.ireturn, 1) := by decide +kernel
theorem dX6_orderOf_82 : decode cX6_orderOf 82 = .ok (.aload_n 3, 1) := by decide +kernel
theorem dX6_orderOf_83 : decode cX6_orderOf 83 = .ok (.getfield 141, 3) := by decide +kernel
theorem dX6_orderOf_86 : decode cX6_orderOf 86 = .ok (.ireturn, 1) := by decide +kernel
theorem dX6_orderOf_87 : decode cX6_orderOf 87 = .ok (.aload_n 3, 1) := by decide +kernel
theorem dX6_orderOf_88 : decode cX6_orderOf 88 = .ok (.getfield 144, 3) := by decide +kernel
theorem dX6_orderOf_91 : decode cX6_orderOf 91 = .ok (.ireturn, 1) := by decide +kernel
theorem dX6_orderOf_92 : decode cX6_orderOf 92 = .ok (.aload_n 3, 1) := by decide +kernel
theorem dX6_orderOf_93 : decode cX6_orderOf 93 = .ok (.getfield 147, 3) := by decide +kernel
theorem dX6_orderOf_96 : decode cX6_orderOf 96 = .ok (.ifCond .eq 7, 3) := by decide +kernel
theorem dX6_orderOf_99 : decode cX6_orderOf 99 = .ok (.iconst 1, 1) := by decide +kernel
theorem dX6_orderOf_100 : decode cX6_orderOf 100 = .ok (.goto 4, 3) := by decide +kernel
theorem dX6_orderOf_103 : decode cX6_orderOf 103 = .ok (.iconst 0, 1) := by decide +kernel
theorem dX6_orderOf_104 : decode cX6_orderOf 104 = .ok (.ireturn, 1) := by decide +kernel
theorem dX6_orderOf_105 : decode cX6_orderOf 105 = .ok (.aload_n 3, 1) := by decide +kernel
theorem dX6_orderOf_106 : decode cX6_orderOf 106 = .ok (.getfield 126, 3) := by decide +kernel
theorem dX6_orderOf_109 : decode cX6_orderOf 109 = .ok (.getfield 103, 3) := by decide +kernel
theorem dX6_orderOf_112 : decode cX6_orderOf 112 = .ok (.ireturn, 1) := by decide +kernel
theorem dX6_orderOf_113 : decode cX6_orderOf 113 = .ok (.aload_n 3, 1) := by decide +kernel
theorem dX6_orderOf_114 : decode cX6_orderOf 114 = .ok (.invokevirtual 228, 3) := by decide +kernel
theorem dX6_orderOf_117 : decode cX6_orderOf 117 = .ok (.ireturn, 1) := by decide +kernel
theorem dX6_orderOf_118 : decode cX6_orderOf 118 = .ok (.aload_n 3, 1) := by decide +kernel
theorem dX6_orderOf_119 : decode cX6_orderOf 119 = .ok (.invokevirtual 231, 3) := by decide +kernel
theorem dX6_orderOf_122 : decode cX6_orderOf 122 = .ok (.ireturn, 1) := by decide +kernel
theorem dX6_orderOf_123 : decode cX6_orderOf 123 = .ok (.iconst (-1), 1) := by decide +kernel
theorem dX6_orderOf_124 : decode cX6_orderOf 124 = .ok (.ireturn, 1) := by decide +kernel
theorem dX6_letter_0 : decode cX6_letter 0 = .ok (.aload_n 0, 1) := by decide +kernel
theorem dX6_letter_1 : decode cX6_letter 1 = .ok (.getfield 10, 3) := by decide +kernel
theorem dX6_letter_4 : decode cX6_letter 4 = .ok (.iload_n 1, 1) := by decide +kernel
theorem dX6_letter_5 : decode cX6_letter 5 = .ok (.invokevirtual 155, 3) := by decide +kernel
theorem dX6_letter_8 : decode cX6_letter 8 = .ok (.ifCond .eq 7, 3) := by decide +kernel
theorem dX6_letter_11 : decode cX6_letter 11 = .ok (.iload_n 2, 1) := by decide +kernel
theorem dX6_letter_12 : decode cX6_letter 12 = .ok (.ifCond .ge 5, 3) := by decide +kernel
theorem dX6_letter_15 : decode cX6_letter 15 = .ok (.iconst (-1), 1) := by decide +kernel
theorem dX6_letter_16 : decode cX6_letter 16 = .ok (.ireturn, 1) := by decide +kernel
theorem dX6_letter_17 : decode cX6_letter 17 = .ok (.aload_n 0, 1) := by decide +kernel
theorem dX6_letter_18 : decode cX6_letter 18 = .ok (.getfield 10, 3) := by decide +kernel
theorem dX6_letter_21 : decode cX6_letter 21 = .ok (.getfield 122, 3) := by decide +kernel
theorem dX6_letter_24 : decode cX6_letter 24 = .ok (.iload_n 1, 1) := by decide +kernel
theorem dX6_letter_25 : decode cX6_letter 25 = .ok (.aaload, 1) := by decide +kernel
theorem dX6_letter_26 : decode cX6_letter 26 = .ok (.getfield 126, 3) := by decide +kernel
theorem dX6_letter_29 : decode cX6_letter 29 = .ok (.astore_n 3, 1) := by decide +kernel
theorem dX6_letter_30 : decode cX6_letter 30 = .ok (.iload_n 2, 1) := by decide +kernel
theorem dX6_letter_31 : decode cX6_letter 31 = .ok (.aload_n 3, 1) := by decide +kernel
theorem dX6_letter_32 : decode cX6_letter 32 = .ok (.getfield 103, 3) := by decide +kernel
theorem dX6_letter_35 : decode cX6_letter 35 = .ok (.if_icmp .ge 12, 3) := by decide +kernel
theorem dX6_letter_38 : decode cX6_letter 38 = .ok (.aload_n 3, 1) := by decide +kernel
theorem dX6_letter_39 : decode cX6_letter 39 = .ok (.getfield 234, 3) := by decide +kernel
theorem dX6_letter_42 : decode cX6_letter 42 = .ok (.iload_n 2, 1) := by decide +kernel
theorem dX6_letter_43 : decode cX6_letter 43 = .ok (.iaload, 1) := by decide +kernel
theorem dX6_letter_44 : decode cX6_letter 44 = .ok (.goto 5, 3) := by decide +kernel
theorem dX6_letter_47 : decode cX6_letter 47 = .ok (.bipush (-9), 2) := by decide +kernel
theorem dX6_letter_49 : decode cX6_letter 49 = .ok (.ireturn, 1) := by decide +kernel
theorem dX6_lengthOf_0 : decode cX6_lengthOf 0 = .ok (.iload_n 1, 1) := by decide +kernel
theorem dX6_lengthOf_1 : decode cX6_lengthOf 1 = .ok (.invokestatic 110, 3) := by decide +kernel
theorem dX6_lengthOf_4 : decode cX6_lengthOf 4 = .ok (.ifCond .eq 14, 3) := by decide +kernel
theorem dX6_lengthOf_7 : decode cX6_lengthOf 7 = .ok (.aload_n 0, 1) := by decide +kernel
theorem dX6_lengthOf_8 : decode cX6_lengthOf 8 = .ok (.getfield 26, 3) := by decide +kernel
theorem dX6_lengthOf_11 : decode cX6_lengthOf 11 = .ok (.iload_n 1, 1) := by decide +kernel
theorem dX6_lengthOf_12 : decode cX6_lengthOf 12 = .ok (.invokevirtual 237, 3) := by decide +kernel
theorem dX6_lengthOf_15 : decode cX6_lengthOf 15 = .ok (.goto 4, 3) := by decide +kernel
theorem dX6_lengthOf_18 : decode cX6_lengthOf 18 = .ok (.iconst (-1), 1) := by decide +kernel
theorem dX6_lengthOf_19 : decode cX6_lengthOf 19 = .ok (.ireturn, 1) := by decide +kernel
theorem dX6_doneIn_0 : decode cX6_doneIn 0 = .ok (.aload_n 0, 1) := by decide +kernel
theorem dX6_doneIn_1 : decode cX6_doneIn 1 = .ok (.getfield 10, 3) := by decide +kernel
theorem dX6_doneIn_4 : decode cX6_doneIn 4 = .ok (.iload_n 1, 1) := by decide +kernel
theorem dX6_doneIn_5 : decode cX6_doneIn 5 = .ok (.invokevirtual 155, 3) := by decide +kernel
theorem dX6_doneIn_8 : decode cX6_doneIn 8 = .ok (.ifCond .ne 5, 3) := by decide +kernel
theorem dX6_doneIn_11 : decode cX6_doneIn 11 = .ok (.iconst (-1), 1) := by decide +kernel
theorem dX6_doneIn_12 : decode cX6_doneIn 12 = .ok (.ireturn, 1) := by decide +kernel
theorem dX6_doneIn_13 : decode cX6_doneIn 13 = .ok (.aload_n 0, 1) := by decide +kernel
theorem dX6_doneIn_14 : decode cX6_doneIn 14 = .ok (.getfield 35, 3) := by decide +kernel
theorem dX6_doneIn_17 : decode cX6_doneIn 17 = .ok (.aload_n 0, 1) := by decide +kernel
theorem dX6_doneIn_18 : decode cX6_doneIn 18 = .ok (.getfield 10, 3) := by decide +kernel
theorem dX6_doneIn_21 : decode cX6_doneIn 21 = .ok (.bipush (-9), 2) := by decide +kernel
theorem dX6_doneIn_23 : decode cX6_doneIn 23 = .ok (.invokevirtual 249, 3) := by decide +kernel
theorem dX6_doneIn_26 : decode cX6_doneIn 26 = .ok (.aload_n 0, 1) := by decide +kernel
theorem dX6_doneIn_27 : decode cX6_doneIn 27 = .ok (.getfield 35, 3) := by decide +kernel
theorem dX6_doneIn_30 : decode cX6_doneIn 30 = .ok (.getfield 253, 3) := by decide +kernel
theorem dX6_doneIn_33 : decode cX6_doneIn 33 = .ok (.iload_n 1, 1) := by decide +kernel
theorem dX6_doneIn_34 : decode cX6_doneIn 34 = .ok (.iaload, 1) := by decide +kernel
theorem dX6_doneIn_35 : decode cX6_doneIn 35 = .ok (.ireturn, 1) := by decide +kernel
theorem dX6_isWithin_0 : decode cX6_isWithin 0 = .ok (.iload_n 0, 1) := by decide +kernel
theorem dX6_isWithin_1 : decode cX6_isWithin 1 = .ok (.iload_n 1, 1) := by decide +kernel
theorem dX6_isWithin_2 : decode cX6_isWithin 2 = .ok (.if_icmp .lt 12, 3) := by decide +kernel
theorem dX6_isWithin_5 : decode cX6_isWithin 5 = .ok (.iload_n 0, 1) := by decide +kernel
theorem dX6_isWithin_6 : decode cX6_isWithin 6 = .ok (.iload_n 2, 1) := by decide +kernel
theorem dX6_isWithin_7 : decode cX6_isWithin 7 = .ok (.if_icmp .gt 7, 3) := by decide +kernel
theorem dX6_isWithin_10 : decode cX6_isWithin 10 = .ok (.iconst 1, 1) := by decide +kernel
theorem dX6_isWithin_11 : decode cX6_isWithin 11 = .ok (.goto 4, 3) := by decide +kernel
theorem dX6_isWithin_14 : decode cX6_isWithin 14 = .ok (.iconst 0, 1) := by decide +kernel
theorem dX6_isWithin_15 : decode cX6_isWithin 15 = .ok (.ireturn, 1) := by decide +kernel
theorem dX6_isYear_0 : decode cX6_isYear 0 = .ok (.iload_n 0, 1) := by decide +kernel
theorem dX6_isYear_1 : decode cX6_isYear 1 = .ok (.iconst 1, 1) := by decide +kernel
theorem dX6_isYear_2 : decode cX6_isYear 2 = .ok (.sipush 999, 3) := by decide +kernel
theorem dX6_isYear_5 : decode cX6_isYear 5 = .ok (.invokestatic 42, 3) := by decide +kernel
theorem dX6_isYear_8 : decode cX6_isYear 8 = .ok (.ireturn, 1) := by decide +kernel
theorem dX6_isSize_0 : decode cX6_isSize 0 = .ok (.iload_n 0, 1) := by decide +kernel
theorem dX6_isSize_1 : decode cX6_isSize 1 = .ok (.iconst 1, 1) := by decide +kernel
theorem dX6_isSize_2 : decode cX6_isSize 2 = .ok (.iconst 4, 1) := by decide +kernel
theorem dX6_isSize_3 : decode cX6_isSize 3 = .ok (.invokestatic 42, 3) := by decide +kernel
theorem dX6_isSize_6 : decode cX6_isSize 6 = .ok (.ireturn, 1) := by decide +kernel
theorem dX6_isDepth_0 : decode cX6_isDepth 0 = .ok (.iload_n 0, 1) := by decide +kernel
theorem dX6_isDepth_1 : decode cX6_isDepth 1 = .ok (.iconst 1, 1) := by decide +kernel
theorem dX6_isDepth_2 : decode cX6_isDepth 2 = .ok (.iconst 5, 1) := by decide +kernel
theorem dX6_isDepth_3 : decode cX6_isDepth 3 = .ok (.invokestatic 42, 3) := by decide +kernel
theorem dX6_isDepth_6 : decode cX6_isDepth 6 = .ok (.ireturn, 1) := by decide +kernel
theorem dJ9_min_7cf53_0 : decode cJ9_min_7cf53 0 = .ok (.iload_n 0, 1) := by decide +kernel
theorem dJ9_min_7cf53_1 : decode cJ9_min_7cf53 1 = .ok (.iload_n 1, 1) := by decide +kernel
theorem dJ9_min_7cf53_2 : decode cJ9_min_7cf53 2 = .ok (.if_icmp .gt 7, 3) := by decide +kernel
theorem dJ9_min_7cf53_5 : decode cJ9_min_7cf53 5 = .ok (.iload_n 0, 1) := by decide +kernel
theorem dJ9_min_7cf53_6 : decode cJ9_min_7cf53 6 = .ok (.goto 4, 3) := by decide +kernel
theorem dJ9_min_7cf53_9 : decode cJ9_min_7cf53 9 = .ok (.iload_n 1, 1) := by decide +kernel
theorem dJ9_min_7cf53_10 : decode cJ9_min_7cf53 10 = .ok (.ireturn, 1) := by decide +kernel
theorem dL_cell_0 : decode cL_cell 0 = .ok (.iload_n 1, 1) := by decide +kernel
theorem dL_cell_1 : decode cL_cell 1 = .ok (.aload_n 0, 1) := by decide +kernel
theorem dL_cell_2 : decode cL_cell 2 = .ok (.arraylength, 1) := by decide +kernel
theorem dL_cell_3 : decode cL_cell 3 = .ok (.if_icmp .ge 9, 3) := by decide +kernel
theorem dL_cell_6 : decode cL_cell 6 = .ok (.aload_n 0, 1) := by decide +kernel
theorem dL_cell_7 : decode cL_cell 7 = .ok (.iload_n 1, 1) := by decide +kernel
theorem dL_cell_8 : decode cL_cell 8 = .ok (.iaload, 1) := by decide +kernel
theorem dL_cell_9 : decode cL_cell 9 = .ok (.goto 15, 3) := by decide +kernel
theorem dL_cell_12 : decode cL_cell 12 = .ok (.sipush 7919, 3) := by decide +kernel
theorem dL_cell_15 : decode cL_cell 15 = .ok (.iload_n 1, 1) := by decide +kernel
theorem dL_cell_16 : decode cL_cell 16 = .ok (.iconst 3, 1) := by decide +kernel
theorem dL_cell_17 : decode cL_cell 17 = .ok (.iadd, 1) := by decide +kernel
theorem dL_cell_18 : decode cL_cell 18 = .ok (.imul, 1) := by decide +kernel
theorem dL_cell_19 : decode cL_cell 19 = .ok (.iload_n 1, 1) := by decide +kernel
theorem dL_cell_20 : decode cL_cell 20 = .ok (.bipush 11, 2) := by decide +kernel
theorem dL_cell_22 : decode cL_cell 22 = .ok (.iadd, 1) := by decide +kernel
theorem dL_cell_23 : decode cL_cell 23 = .ok (.imul, 1) := by decide +kernel
theorem dL_cell_24 : decode cL_cell 24 = .ok (.ireturn, 1) := by decide +kernel
theorem dL_low_0 : decode cL_low 0 = .ok (.iload_n 0, 1) := by decide +kernel
theorem dL_low_1 : decode cL_low 1 = .ok (.ldc 7, 2) := by decide +kernel
theorem dL_low_3 : decode cL_low 3 = .ok (.iand, 1) := by decide +kernel
theorem dL_low_4 : decode cL_low 4 = .ok (.iload_n 1, 1) := by decide +kernel
theorem dL_low_5 : decode cL_low 5 = .ok (.irem, 1) := by decide +kernel
theorem dL_low_6 : decode cL_low 6 = .ok (.ireturn, 1) := by decide +kernel
theorem dL_digest_0 : decode cL_digest 0 = .ok (.ldc2_w 8, 3) := by decide +kernel
theorem dL_digest_3 : decode cL_digest 3 = .ok (.lstore_n 1, 1) := by decide +kernel
theorem dL_digest_4 : decode cL_digest 4 = .ok (.iconst 0, 1) := by decide +kernel
theorem dL_digest_5 : decode cL_digest 5 = .ok (.istore_n 3, 1) := by decide +kernel
theorem dL_digest_6 : decode cL_digest 6 = .ok (.iload_n 3, 1) := by decide +kernel
theorem dL_digest_7 : decode cL_digest 7 = .ok (.bipush 14, 2) := by decide +kernel
theorem dL_digest_9 : decode cL_digest 9 = .ok (.if_icmp .ge 22, 3) := by decide +kernel
theorem dL_digest_12 : decode cL_digest 12 = .ok (.ldc2_w 10, 3) := by decide +kernel
theorem dL_digest_15 : decode cL_digest 15 = .ok (.lload_n 1, 1) := by decide +kernel
theorem dL_digest_16 : decode cL_digest 16 = .ok (.lmul, 1) := by decide +kernel
theorem dL_digest_17 : decode cL_digest 17 = .ok (.aload_n 0, 1) := by decide +kernel
theorem dL_digest_18 : decode cL_digest 18 = .ok (.iload_n 3, 1) := by decide +kernel
theorem dL_digest_19 : decode cL_digest 19 = .ok (.invokevirtual 12, 3) := by decide +kernel
theorem dL_digest_22 : decode cL_digest 22 = .ok (.i2l, 1) := by decide +kernel
theorem dL_digest_23 : decode cL_digest 23 = .ok (.ladd, 1) := by decide +kernel
theorem dL_digest_24 : decode cL_digest 24 = .ok (.lstore_n 1, 1) := by decide +kernel
theorem dL_digest_25 : decode cL_digest 25 = .ok (.iinc 3 1, 3) := by decide +kernel
theorem dL_digest_28 : decode cL_digest 28 = .ok (.goto (-22), 3) := by decide +kernel
theorem dL_digest_31 : decode cL_digest 31 = .ok (.iconst 0, 1) := by decide +kernel
theorem dL_digest_32 : decode cL_digest 32 = .ok (.istore_n 3, 1) := by decide +kernel
theorem dL_digest_33 : decode cL_digest 33 = .ok (.iload_n 3, 1) := by decide +kernel
theorem dL_digest_34 : decode cL_digest 34 = .ok (.aload_n 0, 1) := by decide +kernel
theorem dL_digest_35 : decode cL_digest 35 = .ok (.iconst 4, 1) := by decide +kernel
theorem dL_digest_36 : decode cL_digest 36 = .ok (.invokevirtual 12, 3) := by decide +kernel
theorem dL_digest_39 : decode cL_digest 39 = .ok (.if_icmp .ge 40, 3) := by decide +kernel
theorem dL_digest_42 : decode cL_digest 42 = .ok (.iconst 0, 1) := by decide +kernel
theorem dL_digest_43 : decode cL_digest 43 = .ok (.istore 4, 2) := by decide +kernel
theorem dL_digest_45 : decode cL_digest 45 = .ok (.iload 4, 2) := by decide +kernel
theorem dL_digest_47 : decode cL_digest 47 = .ok (.bipush 7, 2) := by decide +kernel
theorem dL_digest_49 : decode cL_digest 49 = .ok (.if_icmp .ge 24, 3) := by decide +kernel
theorem dL_digest_52 : decode cL_digest 52 = .ok (.ldc2_w 10, 3) := by decide +kernel
theorem dL_digest_55 : decode cL_digest 55 = .ok (.lload_n 1, 1) := by decide +kernel
theorem dL_digest_56 : decode cL_digest 56 = .ok (.lmul, 1) := by decide +kernel
theorem dL_digest_57 : decode cL_digest 57 = .ok (.aload_n 0, 1) := by decide +kernel
theorem dL_digest_58 : decode cL_digest 58 = .ok (.iload_n 3, 1) := by decide +kernel
theorem dL_digest_59 : decode cL_digest 59 = .ok (.iload 4, 2) := by decide +kernel
theorem dL_digest_61 : decode cL_digest 61 = .ok (.invokevirtual 18, 3) := by decide +kernel
theorem dL_digest_64 : decode cL_digest 64 = .ok (.i2l, 1) := by decide +kernel
theorem dL_digest_65 : decode cL_digest 65 = .ok (.ladd, 1) := by decide +kernel
theorem dL_digest_66 : decode cL_digest 66 = .ok (.lstore_n 1, 1) := by decide +kernel
theorem dL_digest_67 : decode cL_digest 67 = .ok (.iinc 4 1, 3) := by decide +kernel
theorem dL_digest_70 : decode cL_digest 70 = .ok (.goto (-25), 3) := by decide +kernel
theorem dL_digest_73 : decode cL_digest 73 = .ok (.iinc 3 1, 3) := by decide +kernel
theorem dL_digest_76 : decode cL_digest 76 = .ok (.goto (-43), 3) := by decide +kernel
theorem dL_digest_79 : decode cL_digest 79 = .ok (.iconst 0, 1) := by decide +kernel
theorem dL_digest_80 : decode cL_digest 80 = .ok (.istore_n 3, 1) := by decide +kernel
theorem dL_digest_81 : decode cL_digest 81 = .ok (.iload_n 3, 1) := by decide +kernel
theorem dL_digest_82 : decode cL_digest 82 = .ok (.aload_n 0, 1) := by decide +kernel
theorem dL_digest_83 : decode cL_digest 83 = .ok (.bipush 6, 2) := by decide +kernel
theorem dL_digest_85 : decode cL_digest 85 = .ok (.invokevirtual 12, 3) := by decide +kernel
theorem dL_digest_88 : decode cL_digest 88 = .ok (.if_icmp .ge 66, 3) := by decide +kernel
theorem dL_digest_91 : decode cL_digest 91 = .ok (.iconst 0, 1) := by decide +kernel
theorem dL_digest_92 : decode cL_digest 92 = .ok (.istore 4, 2) := by decide +kernel
theorem dL_digest_94 : decode cL_digest 94 = .ok (.iload 4, 2) := by decide +kernel
theorem dL_digest_96 : decode cL_digest 96 = .ok (.bipush 8, 2) := by decide +kernel
theorem dL_digest_98 : decode cL_digest 98 = .ok (.if_icmp .ge 24, 3) := by decide +kernel
theorem dL_digest_101 : decode cL_digest 101 = .ok (.ldc2_w 10, 3) := by decide +kernel
theorem dL_digest_104 : decode cL_digest 104 = .ok (.lload_n 1, 1) := by decide +kernel
theorem dL_digest_105 : decode cL_digest 105 = .ok (.lmul, 1) := by decide +kernel
theorem dL_digest_106 : decode cL_digest 106 = .ok (.aload_n 0, 1) := by decide +kernel
theorem dL_digest_107 : decode cL_digest 107 = .ok (.iload_n 3, 1) := by decide +kernel
theorem dL_digest_108 : decode cL_digest 108 = .ok (.iload 4, 2) := by decide +kernel
theorem dL_digest_110 : decode cL_digest 110 = .ok (.invokevirtual 22, 3) := by decide +kernel
theorem dL_digest_113 : decode cL_digest 113 = .ok (.i2l, 1) := by decide +kernel
theorem dL_digest_114 : decode cL_digest 114 = .ok (.ladd, 1) := by decide +kernel
theorem dL_digest_115 : decode cL_digest 115 = .ok (.lstore_n 1, 1) := by decide +kernel
theorem dL_digest_116 : decode cL_digest 116 = .ok (.iinc 4 1, 3) := by decide +kernel
theorem dL_digest_119 : decode cL_digest 119 = .ok (.goto (-25), 3) := by decide +kernel
theorem dL_digest_122 : decode cL_digest 122 = .ok (.ldc2_w 10, 3) := by decide +kernel
theorem dL_digest_125 : decode cL_digest 125 = .ok (.lload_n 1, 1) := by decide +kernel
theorem dL_digest_126 : decode cL_digest 126 = .ok (.lmul, 1) := by decide +kernel
theorem dL_digest_127 : decode cL_digest 127 = .ok (.aload_n 0, 1) := by decide +kernel
theorem dL_digest_128 : decode cL_digest 128 = .ok (.iload_n 3, 1) := by decide +kernel
theorem dL_digest_129 : decode cL_digest 129 = .ok (.iconst 0, 1) := by decide +kernel
theorem dL_digest_130 : decode cL_digest 130 = .ok (.invokevirtual 25, 3) := by decide +kernel
theorem dL_digest_133 : decode cL_digest 133 = .ok (.i2l, 1) := by decide +kernel
theorem dL_digest_134 : decode cL_digest 134 = .ok (.ladd, 1) := by decide +kernel
theorem dL_digest_135 : decode cL_digest 135 = .ok (.ldc2_w 28, 3) := by decide +kernel
theorem dL_digest_138 : decode cL_digest 138 = .ok (.aload_n 0, 1) := by decide +kernel
theorem dL_digest_139 : decode cL_digest 139 = .ok (.iload_n 3, 1) := by decide +kernel
theorem dL_digest_140 : decode cL_digest 140 = .ok (.iconst 1, 1) := by decide +kernel
theorem dL_digest_141 : decode cL_digest 141 = .ok (.invokevirtual 25, 3) := by decide +kernel
theorem dL_digest_144 : decode cL_digest 144 = .ok (.i2l, 1) := by decide +kernel
theorem dL_digest_145 : decode cL_digest 145 = .ok (.lmul, 1) := by decide +kernel
theorem dL_digest_146 : decode cL_digest 146 = .ok (.ladd, 1) := by decide +kernel
theorem dL_digest_147 : decode cL_digest 147 = .ok (.lstore_n 1, 1) := by decide +kernel
theorem dL_digest_148 : decode cL_digest 148 = .ok (.iinc 3 1, 3) := by decide +kernel
theorem dL_digest_151 : decode cL_digest 151 = .ok (.goto (-70), 3) := by decide +kernel
theorem dL_digest_154 : decode cL_digest 154 = .ok (.iconst 0, 1) := by decide +kernel
theorem dL_digest_155 : decode cL_digest 155 = .ok (.istore_n 3, 1) := by decide +kernel
theorem dL_digest_156 : decode cL_digest 156 = .ok (.iload_n 3, 1) := by decide +kernel
theorem dL_digest_157 : decode cL_digest 157 = .ok (.aload_n 0, 1) := by decide +kernel
theorem dL_digest_158 : decode cL_digest 158 = .ok (.iconst 5, 1) := by decide +kernel
theorem dL_digest_159 : decode cL_digest 159 = .ok (.invokevirtual 12, 3) := by decide +kernel
theorem dL_digest_162 : decode cL_digest 162 = .ok (.if_icmp .ge 39, 3) := by decide +kernel
theorem dL_digest_165 : decode cL_digest 165 = .ok (.iconst 0, 1) := by decide +kernel
theorem dL_digest_166 : decode cL_digest 166 = .ok (.istore 4, 2) := by decide +kernel
theorem dL_digest_168 : decode cL_digest 168 = .ok (.iload 4, 2) := by decide +kernel
theorem dL_digest_170 : decode cL_digest 170 = .ok (.iconst 5, 1) := by decide +kernel
theorem dL_digest_171 : decode cL_digest 171 = .ok (.if_icmp .ge 24, 3) := by decide +kernel
theorem dL_digest_174 : decode cL_digest 174 = .ok (.ldc2_w 10, 3) := by decide +kernel
theorem dL_digest_177 : decode cL_digest 177 = .ok (.lload_n 1, 1) := by decide +kernel
theorem dL_digest_178 : decode cL_digest 178 = .ok (.lmul, 1) := by decide +kernel
theorem dL_digest_179 : decode cL_digest 179 = .ok (.aload_n 0, 1) := by decide +kernel
theorem dL_digest_180 : decode cL_digest 180 = .ok (.iload_n 3, 1) := by decide +kernel
theorem dL_digest_181 : decode cL_digest 181 = .ok (.iload 4, 2) := by decide +kernel
theorem dL_digest_183 : decode cL_digest 183 = .ok (.invokevirtual 30, 3) := by decide +kernel
theorem dL_digest_186 : decode cL_digest 186 = .ok (.i2l, 1) := by decide +kernel
theorem dL_digest_187 : decode cL_digest 187 = .ok (.ladd, 1) := by decide +kernel
theorem dL_digest_188 : decode cL_digest 188 = .ok (.lstore_n 1, 1) := by decide +kernel
theorem dL_digest_189 : decode cL_digest 189 = .ok (.iinc 4 1, 3) := by decide +kernel
theorem dL_digest_192 : decode cL_digest 192 = .ok (.goto (-24), 3) := by decide +kernel
theorem dL_digest_195 : decode cL_digest 195 = .ok (.iinc 3 1, 3) := by decide +kernel
theorem dL_digest_198 : decode cL_digest 198 = .ok (.goto (-42), 3) := by decide +kernel
theorem dL_digest_201 : decode cL_digest 201 = .ok (.lload_n 1, 1) := by decide +kernel
theorem dL_digest_202 : decode cL_digest 202 = .ok (.lreturn, 1) := by decide +kernel
theorem dL_act_0 : decode cL_act 0 = .ok (.iload_n 1, 1) := by decide +kernel
theorem dL_act_1 : decode cL_act 1 = .ok (.iconst 5, 1) := by decide +kernel
theorem dL_act_2 : decode cL_act 2 = .ok (.ishr, 1) := by decide +kernel
theorem dL_act_3 : decode cL_act 3 = .ok (.aload_n 0, 1) := by decide +kernel
theorem dL_act_4 : decode cL_act 4 = .ok (.iconst 4, 1) := by decide +kernel
theorem dL_act_5 : decode cL_act 5 = .ok (.invokevirtual 12, 3) := by decide +kernel
theorem dL_act_8 : decode cL_act 8 = .ok (.invokestatic 33, 3) := by decide +kernel
theorem dL_act_11 : decode cL_act 11 = .ok (.istore_n 2, 1) := by decide +kernel
theorem dL_act_12 : decode cL_act 12 = .ok (.iload_n 1, 1) := by decide +kernel
theorem dL_act_13 : decode cL_act 13 = .ok (.iconst 5, 1) := by decide +kernel
theorem dL_act_14 : decode cL_act 14 = .ok (.ishr, 1) := by decide +kernel
theorem dL_act_15 : decode cL_act 15 = .ok (.aload_n 0, 1) := by decide +kernel
theorem dL_act_16 : decode cL_act 16 = .ok (.bipush 6, 2) := by decide +kernel
theorem dL_act_18 : decode cL_act 18 = .ok (.invokevirtual 12, 3) := by decide +kernel
theorem dL_act_21 : decode cL_act 21 = .ok (.iconst 1, 1) := by decide +kernel
theorem dL_act_22 : decode cL_act 22 = .ok (.iadd, 1) := by decide +kernel
theorem dL_act_23 : decode cL_act 23 = .ok (.invokestatic 33, 3) := by decide +kernel
theorem dL_act_26 : decode cL_act 26 = .ok (.istore_n 3, 1) := by decide +kernel
theorem dL_act_27 : decode cL_act 27 = .ok (.iload_n 1, 1) := by decide +kernel
theorem dL_act_28 : decode cL_act 28 = .ok (.bipush 15, 2) := by decide +kernel
theorem dL_act_30 : decode cL_act 30 = .ok (.iand, 1) := by decide +kernel
theorem dL_act_31 : decode cL_act 31 = .ok (.tableswitch 263 0 12 #[65, 92, 92, 92, 92, 187, 193, 199, 210, 216, 243, 243, 248], 65) := by decide +kernel
theorem dL_act_96 : decode cL_act 96 = .ok (.aload_n 0, 1) := by decide +kernel
theorem dL_act_97 : decode cL_act 97 = .ok (.bipush 15, 2) := by decide +kernel
theorem dL_act_99 : decode cL_act 99 = .ok (.iload_n 1, 1) := by decide +kernel
theorem dL_act_100 : decode cL_act 100 = .ok (.iconst 4, 1) := by decide +kernel
theorem dL_act_101 : decode cL_act 101 = .ok (.ishr, 1) := by decide +kernel
theorem dL_act_102 : decode cL_act 102 = .ok (.bipush 100, 2) := by decide +kernel
theorem dL_act_104 : decode cL_act 104 = .ok (.invokestatic 33, 3) := by decide +kernel
theorem dL_act_107 : decode cL_act 107 = .ok (.iadd, 1) := by decide +kernel
theorem dL_act_108 : decode cL_act 108 = .ok (.iconst 5, 1) := by decide +kernel
theorem dL_act_109 : decode cL_act 109 = .ok (.iload_n 1, 1) := by decide +kernel
theorem dL_act_110 : decode cL_act 110 = .ok (.bipush 12, 2) := by decide +kernel
theorem dL_act_112 : decode cL_act 112 = .ok (.ishr, 1) := by decide +kernel
theorem dL_act_113 : decode cL_act 113 = .ok (.bipush 14, 2) := by decide +kernel
theorem dL_act_115 : decode cL_act 115 = .ok (.invokestatic 33, 3) := by decide +kernel
theorem dL_act_118 : decode cL_act 118 = .ok (.iadd, 1) := by decide +kernel
theorem dL_act_119 : decode cL_act 119 = .ok (.invokevirtual 38, 3) := by decide +kernel
theorem dL_act_122 : decode cL_act 122 = .ok (.ireturn, 1) := by decide +kernel
theorem dL_act_123 : decode cL_act 123 = .ok (.iconst 1, 1) := by decide +kernel
theorem dL_act_124 : decode cL_act 124 = .ok (.iload_n 1, 1) := by decide +kernel
theorem dL_act_125 : decode cL_act 125 = .ok (.bipush 20, 2) := by decide +kernel
theorem dL_act_127 : decode cL_act 127 = .ok (.ishr, 1) := by decide +kernel
theorem dL_act_128 : decode cL_act 128 = .ok (.iconst 5, 1) := by decide +kernel
theorem dL_act_129 : decode cL_act 129 = .ok (.invokestatic 33, 3) := by decide +kernel
theorem dL_act_132 : decode cL_act 132 = .ok (.iadd, 1) := by decide +kernel
theorem dL_act_133 : decode cL_act 133 = .ok (.istore 4, 2) := by decide +kernel
theorem dL_act_135 : decode cL_act 135 = .ok (.iload 4, 2) := by decide +kernel
theorem dL_act_137 : decode cL_act 137 = .ok (.ifCond .le 28, 3) := by decide +kernel
theorem dL_act_140 : decode cL_act 140 = .ok (.aload_n 0, 1) := by decide +kernel
theorem dL_act_141 : decode cL_act 141 = .ok (.bipush 97, 2) := by decide +kernel
theorem dL_act_143 : decode cL_act 143 = .ok (.iload_n 1, 1) := by decide +kernel
theorem dL_act_144 : decode cL_act 144 = .ok (.iconst 3, 1) := by decide +kernel
theorem dL_act_145 : decode cL_act 145 = .ok (.iload 4, 2) := by decide +kernel
theorem dL_act_147 : decode cL_act 147 = .ok (.imul, 1) := by decide +kernel
theorem dL_act_148 : decode cL_act 148 = .ok (.iadd, 1) := by decide +kernel
theorem dL_act_149 : decode cL_act 149 = .ok (.bipush 26, 2) := by decide +kernel
theorem dL_act_151 : decode cL_act 151 = .ok (.invokestatic 33, 3) := by decide +kernel
theorem dL_act_154 : decode cL_act 154 = .ok (.iadd, 1) := by decide +kernel
theorem dL_act_155 : decode cL_act 155 = .ok (.invokevirtual 41, 3) := by decide +kernel
theorem dL_act_158 : decode cL_act 158 = .ok (.pop, 1) := by decide +kernel
theorem dL_act_159 : decode cL_act 159 = .ok (.iinc 4 (-1), 3) := by decide +kernel
theorem dL_act_162 : decode cL_act 162 = .ok (.goto (-27), 3) := by decide +kernel
theorem dL_act_165 : decode cL_act 165 = .ok (.aload_n 0, 1) := by decide +kernel
theorem dL_act_166 : decode cL_act 166 = .ok (.iload_n 1, 1) := by decide +kernel
theorem dL_act_167 : decode cL_act 167 = .ok (.iconst 5, 1) := by decide +kernel
theorem dL_act_168 : decode cL_act 168 = .ok (.ishr, 1) := by decide +kernel
theorem dL_act_169 : decode cL_act 169 = .ok (.aload_n 0, 1) := by decide +kernel
theorem dL_act_170 : decode cL_act 170 = .ok (.iconst 5, 1) := by decide +kernel
theorem dL_act_171 : decode cL_act 171 = .ok (.invokevirtual 12, 3) := by decide +kernel
theorem dL_act_174 : decode cL_act 174 = .ok (.invokestatic 33, 3) := by decide +kernel
theorem dL_act_177 : decode cL_act 177 = .ok (.iconst 1, 1) := by decide +kernel
theorem dL_act_178 : decode cL_act 178 = .ok (.iload_n 1, 1) := by decide +kernel
theorem dL_act_179 : decode cL_act 179 = .ok (.bipush 8, 2) := by decide +kernel
theorem dL_act_181 : decode cL_act 181 = .ok (.ishr, 1) := by decide +kernel
theorem dL_act_182 : decode cL_act 182 = .ok (.bipush 12, 2) := by decide +kernel
theorem dL_act_184 : decode cL_act 184 = .ok (.invokestatic 33, 3) := by decide +kernel
theorem dL_act_187 : decode cL_act 187 = .ok (.iadd, 1) := by decide +kernel
theorem dL_act_188 : decode cL_act 188 = .ok (.iconst 1, 1) := by decide +kernel
theorem dL_act_189 : decode cL_act 189 = .ok (.iload_n 1, 1) := by decide +kernel
theorem dL_act_190 : decode cL_act 190 = .ok (.bipush 12, 2) := by decide +kernel
theorem dL_act_192 : decode cL_act 192 = .ok (.ishr, 1) := by decide +kernel
theorem dL_act_193 : decode cL_act 193 = .ok (.iconst 3, 1) := by decide +kernel
theorem dL_act_194 : decode cL_act 194 = .ok (.invokestatic 33, 3) := by decide +kernel
theorem dL_act_197 : decode cL_act 197 = .ok (.iadd, 1) := by decide +kernel
theorem dL_act_198 : decode cL_act 198 = .ok (.iconst 1, 1) := by decide +kernel
theorem dL_act_199 : decode cL_act 199 = .ok (.iload_n 1, 1) := by decide +kernel
theorem dL_act_200 : decode cL_act 200 = .ok (.bipush 14, 2) := by decide +kernel
theorem dL_act_202 : decode cL_act 202 = .ok (.ishr, 1) := by decide +kernel
theorem dL_act_203 : decode cL_act 203 = .ok (.iconst 4, 1) := by decide +kernel
theorem dL_act_204 : decode cL_act 204 = .ok (.invokestatic 33, 3) := by decide +kernel
theorem dL_act_207 : decode cL_act 207 = .ok (.iadd, 1) := by decide +kernel
theorem dL_act_208 : decode cL_act 208 = .ok (.iload_n 1, 1) := by decide +kernel
theorem dL_act_209 : decode cL_act 209 = .ok (.bipush 17, 2) := by decide +kernel
theorem dL_act_211 : decode cL_act 211 = .ok (.ishr, 1) := by decide +kernel
theorem dL_act_212 : decode cL_act 212 = .ok (.iconst 1, 1) := by decide +kernel
theorem dL_act_213 : decode cL_act 213 = .ok (.iand, 1) := by decide +kernel
theorem dL_act_214 : decode cL_act 214 = .ok (.invokevirtual 44, 3) := by decide +kernel
theorem dL_act_217 : decode cL_act 217 = .ok (.ireturn, 1) := by decide +kernel
theorem dL_act_218 : decode cL_act 218 = .ok (.aload_n 0, 1) := by decide +kernel
theorem dL_act_219 : decode cL_act 219 = .ok (.iload_n 3, 1) := by decide +kernel
theorem dL_act_220 : decode cL_act 220 = .ok (.invokevirtual 48, 3) := by decide +kernel
theorem dL_act_223 : decode cL_act 223 = .ok (.ireturn, 1) := by decide +kernel
theorem dL_act_224 : decode cL_act 224 = .ok (.aload_n 0, 1) := by decide +kernel
theorem dL_act_225 : decode cL_act 225 = .ok (.iload_n 3, 1) := by decide +kernel
theorem dL_act_226 : decode cL_act 226 = .ok (.invokevirtual 51, 3) := by decide +kernel
theorem dL_act_229 : decode cL_act 229 = .ok (.ireturn, 1) := by decide +kernel
theorem dL_act_230 : decode cL_act 230 = .ok (.aload_n 0, 1) := by decide +kernel
theorem dL_act_231 : decode cL_act 231 = .ok (.iload_n 2, 1) := by decide +kernel
theorem dL_act_232 : decode cL_act 232 = .ok (.iload_n 1, 1) := by decide +kernel
theorem dL_act_233 : decode cL_act 233 = .ok (.iconst 4, 1) := by decide +kernel
theorem dL_act_234 : decode cL_act 234 = .ok (.ishr, 1) := by decide +kernel
theorem dL_act_235 : decode cL_act 235 = .ok (.iconst 1, 1) := by decide +kernel
theorem dL_act_236 : decode cL_act 236 = .ok (.iand, 1) := by decide +kernel
theorem dL_act_237 : decode cL_act 237 = .ok (.invokevirtual 54, 3) := by decide +kernel
theorem dL_act_240 : decode cL_act 240 = .ok (.ireturn, 1) := by decide +kernel
theorem dL_act_241 : decode cL_act 241 = .ok (.aload_n 0, 1) := by decide +kernel
theorem dL_act_242 : decode cL_act 242 = .ok (.iload_n 2, 1) := by decide +kernel
theorem dL_act_243 : decode cL_act 243 = .ok (.invokevirtual 57, 3) := by decide +kernel
theorem dL_act_246 : decode cL_act 246 = .ok (.ireturn, 1) := by decide +kernel
theorem dL_act_247 : decode cL_act 247 = .ok (.aload_n 0, 1) := by decide +kernel
theorem dL_act_248 : decode cL_act 248 = .ok (.iload_n 1, 1) := by decide +kernel
theorem dL_act_249 : decode cL_act 249 = .ok (.iconst 5, 1) := by decide +kernel
theorem dL_act_250 : decode cL_act 250 = .ok (.ishr, 1) := by decide +kernel
theorem dL_act_251 : decode cL_act 251 = .ok (.aload_n 0, 1) := by decide +kernel
theorem dL_act_252 : decode cL_act 252 = .ok (.iconst 5, 1) := by decide +kernel
theorem dL_act_253 : decode cL_act 253 = .ok (.invokevirtual 12, 3) := by decide +kernel
theorem dL_act_256 : decode cL_act 256 = .ok (.invokestatic 33, 3) := by decide +kernel
theorem dL_act_259 : decode cL_act 259 = .ok (.iconst 1, 1) := by decide +kernel
theorem dL_act_260 : decode cL_act 260 = .ok (.iload_n 1, 1) := by decide +kernel
theorem dL_act_261 : decode cL_act 261 = .ok (.bipush 8, 2) := by decide +kernel
theorem dL_act_263 : decode cL_act 263 = .ok (.ishr, 1) := by decide +kernel
theorem dL_act_264 : decode cL_act 264 = .ok (.bipush 12, 2) := by decide +kernel
theorem dL_act_266 : decode cL_act 266 = .ok (.invokestatic 33, 3) := by decide +kernel
theorem dL_act_269 : decode cL_act 269 = .ok (.iadd, 1) := by decide +kernel
theorem dL_act_270 : decode cL_act 270 = .ok (.invokevirtual 60, 3) := by decide +kernel
theorem dL_act_273 : decode cL_act 273 = .ok (.ireturn, 1) := by decide +kernel
theorem dL_act_274 : decode cL_act 274 = .ok (.aload_n 0, 1) := by decide +kernel
theorem dL_act_275 : decode cL_act 275 = .ok (.invokevirtual 63, 3) := by decide +kernel
theorem dL_act_278 : decode cL_act 278 = .ok (.ireturn, 1) := by decide +kernel
theorem dL_act_279 : decode cL_act 279 = .ok (.aload_n 0, 1) := by decide +kernel
theorem dL_act_280 : decode cL_act 280 = .ok (.iconst 1, 1) := by decide +kernel
theorem dL_act_281 : decode cL_act 281 = .ok (.iload_n 1, 1) := by decide +kernel
theorem dL_act_282 : decode cL_act 282 = .ok (.iconst 5, 1) := by decide +kernel
theorem dL_act_283 : decode cL_act 283 = .ok (.ishr, 1) := by decide +kernel
theorem dL_act_284 : decode cL_act 284 = .ok (.bipush 9, 2) := by decide +kernel
theorem dL_act_286 : decode cL_act 286 = .ok (.invokestatic 33, 3) := by decide +kernel
theorem dL_act_289 : decode cL_act 289 = .ok (.iadd, 1) := by decide +kernel
theorem dL_act_290 : decode cL_act 290 = .ok (.invokevirtual 67, 3) := by decide +kernel
theorem dL_act_293 : decode cL_act 293 = .ok (.ireturn, 1) := by decide +kernel
theorem dL_act_294 : decode cL_act 294 = .ok (.aload_n 0, 1) := by decide +kernel
theorem dL_act_295 : decode cL_act 295 = .ok (.bipush 20, 2) := by decide +kernel
theorem dL_act_297 : decode cL_act 297 = .ok (.iload_n 1, 1) := by decide +kernel
theorem dL_act_298 : decode cL_act 298 = .ok (.iconst 5, 1) := by decide +kernel
theorem dL_act_299 : decode cL_act 299 = .ok (.ishr, 1) := by decide +kernel
theorem dL_act_300 : decode cL_act 300 = .ok (.bipush 60, 2) := by decide +kernel
theorem dL_act_302 : decode cL_act 302 = .ok (.invokestatic 33, 3) := by decide +kernel
theorem dL_act_305 : decode cL_act 305 = .ok (.iadd, 1) := by decide +kernel
theorem dL_act_306 : decode cL_act 306 = .ok (.invokevirtual 67, 3) := by decide +kernel
theorem dL_act_309 : decode cL_act 309 = .ok (.ireturn, 1) := by decide +kernel
theorem dL_isRight_0 : decode cL_isRight 0 = .ok (.iconst 0, 1) := by decide +kernel
theorem dL_isRight_1 : decode cL_isRight 1 = .ok (.istore_n 1, 1) := by decide +kernel
theorem dL_isRight_2 : decode cL_isRight 2 = .ok (.iconst 0, 1) := by decide +kernel
theorem dL_isRight_3 : decode cL_isRight 3 = .ok (.istore_n 2, 1) := by decide +kernel
theorem dL_isRight_4 : decode cL_isRight 4 = .ok (.iconst 0, 1) := by decide +kernel
theorem dL_isRight_5 : decode cL_isRight 5 = .ok (.istore_n 3, 1) := by decide +kernel
theorem dL_isRight_6 : decode cL_isRight 6 = .ok (.iload_n 3, 1) := by decide +kernel
theorem dL_isRight_7 : decode cL_isRight 7 = .ok (.aload_n 0, 1) := by decide +kernel
theorem dL_isRight_8 : decode cL_isRight 8 = .ok (.iconst 5, 1) := by decide +kernel
theorem dL_isRight_9 : decode cL_isRight 9 = .ok (.invokevirtual 12, 3) := by decide +kernel
theorem dL_isRight_12 : decode cL_isRight 12 = .ok (.if_icmp .ge 201, 3) := by decide +kernel
theorem dL_isRight_15 : decode cL_isRight 15 = .ok (.iconst 0, 1) := by decide +kernel
theorem dL_isRight_16 : decode cL_isRight 16 = .ok (.istore 4, 2) := by decide +kernel
theorem dL_isRight_18 : decode cL_isRight 18 = .ok (.iconst 1, 1) := by decide +kernel
theorem dL_isRight_19 : decode cL_isRight 19 = .ok (.istore 5, 2) := by decide +kernel
theorem dL_isRight_21 : decode cL_isRight 21 = .ok (.iload 5, 2) := by decide +kernel
theorem dL_isRight_23 : decode cL_isRight 23 = .ok (.bipush 13, 2) := by decide +kernel
theorem dL_isRight_25 : decode cL_isRight 25 = .ok (.if_icmp .ge 75, 3) := by decide +kernel
theorem dL_isRight_28 : decode cL_isRight 28 = .ok (.aload_n 0, 1) := by decide +kernel
theorem dL_isRight_29 : decode cL_isRight 29 = .ok (.iload_n 3, 1) := by decide +kernel
theorem dL_isRight_30 : decode cL_isRight 30 = .ok (.iload 5, 2) := by decide +kernel
theorem dL_isRight_32 : decode cL_isRight 32 = .ok (.invokevirtual 70, 3) := by decide +kernel
theorem dL_isRight_35 : decode cL_isRight 35 = .ok (.istore 6, 2) := by decide +kernel
theorem dL_isRight_37 : decode cL_isRight 37 = .ok (.iload 4, 2) := by decide +kernel
theorem dL_isRight_39 : decode cL_isRight 39 = .ok (.iload 6, 2) := by decide +kernel
theorem dL_isRight_41 : decode cL_isRight 41 = .ok (.ifCond .lt 7, 3) := by decide +kernel
theorem dL_isRight_44 : decode cL_isRight 44 = .ok (.iconst 1, 1) := by decide +kernel
theorem dL_isRight_45 : decode cL_isRight 45 = .ok (.goto 4, 3) := by decide +kernel
theorem dL_isRight_48 : decode cL_isRight 48 = .ok (.iconst 0, 1) := by decide +kernel
theorem dL_isRight_49 : decode cL_isRight 49 = .ok (.iadd, 1) := by decide +kernel
theorem dL_isRight_50 : decode cL_isRight 50 = .ok (.istore 4, 2) := by decide +kernel
theorem dL_isRight_52 : decode cL_isRight 52 = .ok (.iload 6, 2) := by decide +kernel
theorem dL_isRight_54 : decode cL_isRight 54 = .ok (.ifCond .lt 40, 3) := by decide +kernel
theorem dL_isRight_57 : decode cL_isRight 57 = .ok (.aload_n 0, 1) := by decide +kernel
theorem dL_isRight_58 : decode cL_isRight 58 = .ok (.iload 6, 2) := by decide +kernel
theorem dL_isRight_60 : decode cL_isRight 60 = .ok (.iconst 2, 1) := by decide +kernel
theorem dL_isRight_61 : decode cL_isRight 61 = .ok (.invokevirtual 18, 3) := by decide +kernel
theorem dL_isRight_64 : decode cL_isRight 64 = .ok (.iconst 2, 1) := by decide +kernel
theorem dL_isRight_65 : decode cL_isRight 65 = .ok (.if_icmp .ne 27, 3) := by decide +kernel
theorem dL_isRight_68 : decode cL_isRight 68 = .ok (.aload_n 0, 1) := by decide +kernel
theorem dL_isRight_69 : decode cL_isRight 69 = .ok (.iload 6, 2) := by decide +kernel
theorem dL_isRight_71 : decode cL_isRight 71 = .ok (.iconst 5, 1) := by decide +kernel
theorem dL_isRight_72 : decode cL_isRight 72 = .ok (.invokevirtual 18, 3) := by decide +kernel
theorem dL_isRight_75 : decode cL_isRight 75 = .ok (.iload_n 3, 1) := by decide +kernel
theorem dL_isRight_76 : decode cL_isRight 76 = .ok (.if_icmp .ne 16, 3) := by decide +kernel
theorem dL_isRight_79 : decode cL_isRight 79 = .ok (.aload_n 0, 1) := by decide +kernel
theorem dL_isRight_80 : decode cL_isRight 80 = .ok (.iload 6, 2) := by decide +kernel
theorem dL_isRight_82 : decode cL_isRight 82 = .ok (.bipush 6, 2) := by decide +kernel
theorem dL_isRight_84 : decode cL_isRight 84 = .ok (.invokevirtual 18, 3) := by decide +kernel
theorem dL_isRight_87 : decode cL_isRight 87 = .ok (.iload 5, 2) := by decide +kernel
theorem dL_isRight_89 : decode cL_isRight 89 = .ok (.if_icmp .eq 5, 3) := by decide +kernel
theorem dL_isRight_92 : decode cL_isRight 92 = .ok (.iconst 0, 1) := by decide +kernel
theorem dL_isRight_93 : decode cL_isRight 93 = .ok (.ireturn, 1) := by decide +kernel
theorem dL_isRight_94 : decode cL_isRight 94 = .ok (.iinc 5 1, 3) := by decide +kernel
theorem dL_isRight_97 : decode cL_isRight 97 = .ok (.goto (-76), 3) := by decide +kernel
theorem dL_isRight_100 : decode cL_isRight 100 = .ok (.aload_n 0, 1) := by decide +kernel
theorem dL_isRight_101 : decode cL_isRight 101 = .ok (.iload_n 3, 1) := by decide +kernel
theorem dL_isRight_102 : decode cL_isRight 102 = .ok (.iconst 2, 1) := by decide +kernel
theorem dL_isRight_103 : decode cL_isRight 103 = .ok (.invokevirtual 30, 3) := by decide +kernel
theorem dL_isRight_106 : decode cL_isRight 106 = .ok (.istore 5, 2) := by decide +kernel
theorem dL_isRight_108 : decode cL_isRight 108 = .ok (.aload_n 0, 1) := by decide +kernel
theorem dL_isRight_109 : decode cL_isRight 109 = .ok (.iload_n 3, 1) := by decide +kernel
theorem dL_isRight_110 : decode cL_isRight 110 = .ok (.iconst 3, 1) := by decide +kernel
theorem dL_isRight_111 : decode cL_isRight 111 = .ok (.invokevirtual 30, 3) := by decide +kernel
theorem dL_isRight_114 : decode cL_isRight 114 = .ok (.istore 6, 2) := by decide +kernel
theorem dL_isRight_116 : decode cL_isRight 116 = .ok (.iload 4, 2) := by decide +kernel
theorem dL_isRight_118 : decode cL_isRight 118 = .ok (.aload_n 0, 1) := by decide +kernel
theorem dL_isRight_119 : decode cL_isRight 119 = .ok (.iload_n 3, 1) := by decide +kernel
theorem dL_isRight_120 : decode cL_isRight 120 = .ok (.iconst 1, 1) := by decide +kernel
theorem dL_isRight_121 : decode cL_isRight 121 = .ok (.invokevirtual 30, 3) := by decide +kernel
theorem dL_isRight_124 : decode cL_isRight 124 = .ok (.if_icmp .ne 67, 3) := by decide +kernel
theorem dL_isRight_127 : decode cL_isRight 127 = .ok (.iload 4, 2) := by decide +kernel
theorem dL_isRight_129 : decode cL_isRight 129 = .ok (.aload_n 0, 1) := by decide +kernel
theorem dL_isRight_130 : decode cL_isRight 130 = .ok (.iload_n 3, 1) := by decide +kernel
theorem dL_isRight_131 : decode cL_isRight 131 = .ok (.iconst 0, 1) := by decide +kernel
theorem dL_isRight_132 : decode cL_isRight 132 = .ok (.invokevirtual 30, 3) := by decide +kernel
theorem dL_isRight_135 : decode cL_isRight 135 = .ok (.if_icmp .gt 56, 3) := by decide +kernel
theorem dL_isRight_138 : decode cL_isRight 138 = .ok (.aload_n 0, 1) := by decide +kernel
theorem dL_isRight_139 : decode cL_isRight 139 = .ok (.iload_n 3, 1) := by decide +kernel
theorem dL_isRight_140 : decode cL_isRight 140 = .ok (.iconst 4, 1) := by decide +kernel
theorem dL_isRight_141 : decode cL_isRight 141 = .ok (.invokevirtual 30, 3) := by decide +kernel
theorem dL_isRight_144 : decode cL_isRight 144 = .ok (.iload 4, 2) := by decide +kernel
theorem dL_isRight_146 : decode cL_isRight 146 = .ok (.ifCond .ne 7, 3) := by decide +kernel
theorem dL_isRight_149 : decode cL_isRight 149 = .ok (.iconst 0, 1) := by decide +kernel
theorem dL_isRight_150 : decode cL_isRight 150 = .ok (.goto 13, 3) := by decide +kernel
theorem dL_isRight_153 : decode cL_isRight 153 = .ok (.iload 6, 2) := by decide +kernel
theorem dL_isRight_155 : decode cL_isRight 155 = .ok (.iload 5, 2) := by decide +kernel
theorem dL_isRight_157 : decode cL_isRight 157 = .ok (.isub, 1) := by decide +kernel
theorem dL_isRight_158 : decode cL_isRight 158 = .ok (.iconst 1, 1) := by decide +kernel
theorem dL_isRight_159 : decode cL_isRight 159 = .ok (.iadd, 1) := by decide +kernel
theorem dL_isRight_160 : decode cL_isRight 160 = .ok (.iload 4, 2) := by decide +kernel
theorem dL_isRight_162 : decode cL_isRight 162 = .ok (.isub, 1) := by decide +kernel
theorem dL_isRight_163 : decode cL_isRight 163 = .ok (.if_icmp .ne 28, 3) := by decide +kernel
theorem dL_isRight_166 : decode cL_isRight 166 = .ok (.iload 4, 2) := by decide +kernel
theorem dL_isRight_168 : decode cL_isRight 168 = .ok (.ifCond .le 25, 3) := by decide +kernel
theorem dL_isRight_171 : decode cL_isRight 171 = .ok (.aload_n 0, 1) := by decide +kernel
theorem dL_isRight_172 : decode cL_isRight 172 = .ok (.iload_n 3, 1) := by decide +kernel
theorem dL_isRight_173 : decode cL_isRight 173 = .ok (.iload 5, 2) := by decide +kernel
theorem dL_isRight_175 : decode cL_isRight 175 = .ok (.invokevirtual 70, 3) := by decide +kernel
theorem dL_isRight_178 : decode cL_isRight 178 = .ok (.ifCond .lt 13, 3) := by decide +kernel
theorem dL_isRight_181 : decode cL_isRight 181 = .ok (.aload_n 0, 1) := by decide +kernel
theorem dL_isRight_182 : decode cL_isRight 182 = .ok (.iload_n 3, 1) := by decide +kernel
theorem dL_isRight_183 : decode cL_isRight 183 = .ok (.iload 6, 2) := by decide +kernel
theorem dL_isRight_185 : decode cL_isRight 185 = .ok (.invokevirtual 70, 3) := by decide +kernel
theorem dL_isRight_188 : decode cL_isRight 188 = .ok (.ifCond .ge 5, 3) := by decide +kernel
theorem dL_isRight_191 : decode cL_isRight 191 = .ok (.iconst 0, 1) := by decide +kernel
theorem dL_isRight_192 : decode cL_isRight 192 = .ok (.ireturn, 1) := by decide +kernel
theorem dL_isRight_193 : decode cL_isRight 193 = .ok (.iload_n 1, 1) := by decide +kernel
theorem dL_isRight_194 : decode cL_isRight 194 = .ok (.iload 4, 2) := by decide +kernel
theorem dL_isRight_196 : decode cL_isRight 196 = .ok (.iadd, 1) := by decide +kernel
theorem dL_isRight_197 : decode cL_isRight 197 = .ok (.istore_n 1, 1) := by decide +kernel
theorem dL_isRight_198 : decode cL_isRight 198 = .ok (.iload_n 2, 1) := by decide +kernel
theorem dL_isRight_199 : decode cL_isRight 199 = .ok (.aload_n 0, 1) := by decide +kernel
theorem dL_isRight_200 : decode cL_isRight 200 = .ok (.iload_n 3, 1) := by decide +kernel
theorem dL_isRight_201 : decode cL_isRight 201 = .ok (.iconst 0, 1) := by decide +kernel
theorem dL_isRight_202 : decode cL_isRight 202 = .ok (.invokevirtual 30, 3) := by decide +kernel
theorem dL_isRight_205 : decode cL_isRight 205 = .ok (.iadd, 1) := by decide +kernel
theorem dL_isRight_206 : decode cL_isRight 206 = .ok (.istore_n 2, 1) := by decide +kernel
theorem dL_isRight_207 : decode cL_isRight 207 = .ok (.iinc 3 1, 3) := by decide +kernel
theorem dL_isRight_210 : decode cL_isRight 210 = .ok (.goto (-204), 3) := by decide +kernel
theorem dL_isRight_213 : decode cL_isRight 213 = .ok (.iconst 0, 1) := by decide +kernel
theorem dL_isRight_214 : decode cL_isRight 214 = .ok (.istore_n 3, 1) := by decide +kernel
theorem dL_isRight_215 : decode cL_isRight 215 = .ok (.iload_n 3, 1) := by decide +kernel
theorem dL_isRight_216 : decode cL_isRight 216 = .ok (.aload_n 0, 1) := by decide +kernel
theorem dL_isRight_217 : decode cL_isRight 217 = .ok (.iconst 4, 1) := by decide +kernel
theorem dL_isRight_218 : decode cL_isRight 218 = .ok (.invokevirtual 12, 3) := by decide +kernel
theorem dL_isRight_221 : decode cL_isRight 221 = .ok (.if_icmp .ge 93, 3) := by decide +kernel
theorem dL_isRight_224 : decode cL_isRight 224 = .ok (.aload_n 0, 1) := by decide +kernel
theorem dL_isRight_225 : decode cL_isRight 225 = .ok (.iload_n 3, 1) := by decide +kernel
theorem dL_isRight_226 : decode cL_isRight 226 = .ok (.iconst 2, 1) := by decide +kernel
theorem dL_isRight_227 : decode cL_isRight 227 = .ok (.invokevirtual 18, 3) := by decide +kernel
theorem dL_isRight_230 : decode cL_isRight 230 = .ok (.istore 4, 2) := by decide +kernel
theorem dL_isRight_232 : decode cL_isRight 232 = .ok (.iload 4, 2) := by decide +kernel
theorem dL_isRight_234 : decode cL_isRight 234 = .ok (.iconst 3, 1) := by decide +kernel
theorem dL_isRight_235 : decode cL_isRight 235 = .ok (.if_icmp .eq 27, 3) := by decide +kernel
theorem dL_isRight_238 : decode cL_isRight 238 = .ok (.aload_n 0, 1) := by decide +kernel
theorem dL_isRight_239 : decode cL_isRight 239 = .ok (.iload_n 3, 1) := by decide +kernel
theorem dL_isRight_240 : decode cL_isRight 240 = .ok (.iconst 1, 1) := by decide +kernel
theorem dL_isRight_241 : decode cL_isRight 241 = .ok (.invokevirtual 18, 3) := by decide +kernel
theorem dL_isRight_244 : decode cL_isRight 244 = .ok (.iconst 2, 1) := by decide +kernel
theorem dL_isRight_245 : decode cL_isRight 245 = .ok (.aload_n 0, 1) := by decide +kernel
theorem dL_isRight_246 : decode cL_isRight 246 = .ok (.iload_n 3, 1) := by decide +kernel
theorem dL_isRight_247 : decode cL_isRight 247 = .ok (.iconst 3, 1) := by decide +kernel
theorem dL_isRight_248 : decode cL_isRight 248 = .ok (.invokevirtual 18, 3) := by decide +kernel
theorem dL_isRight_251 : decode cL_isRight 251 = .ok (.iadd, 1) := by decide +kernel
theorem dL_isRight_252 : decode cL_isRight 252 = .ok (.aload_n 0, 1) := by decide +kernel
theorem dL_isRight_253 : decode cL_isRight 253 = .ok (.iload_n 3, 1) := by decide +kernel
theorem dL_isRight_254 : decode cL_isRight 254 = .ok (.iconst 4, 1) := by decide +kernel
theorem dL_isRight_255 : decode cL_isRight 255 = .ok (.invokevirtual 18, 3) := by decide +kernel
theorem dL_isRight_258 : decode cL_isRight 258 = .ok (.iadd, 1) := by decide +kernel
theorem dL_isRight_259 : decode cL_isRight 259 = .ok (.if_icmp .lt 47, 3) := by decide +kernel
theorem dL_isRight_262 : decode cL_isRight 262 = .ok (.iload 4, 2) := by decide +kernel
theorem dL_isRight_264 : decode cL_isRight 264 = .ok (.iconst 1, 1) := by decide +kernel
theorem dL_isRight_265 : decode cL_isRight 265 = .ok (.if_icmp .ne 13, 3) := by decide +kernel
theorem dL_isRight_268 : decode cL_isRight 268 = .ok (.aload_n 0, 1) := by decide +kernel
theorem dL_isRight_269 : decode cL_isRight 269 = .ok (.bipush 10, 2) := by decide +kernel
theorem dL_isRight_271 : decode cL_isRight 271 = .ok (.invokevirtual 12, 3) := by decide +kernel
theorem dL_isRight_274 : decode cL_isRight 274 = .ok (.iload_n 3, 1) := by decide +kernel
theorem dL_isRight_275 : decode cL_isRight 275 = .ok (.if_icmp .ne 31, 3) := by decide +kernel
theorem dL_isRight_278 : decode cL_isRight 278 = .ok (.iload 4, 2) := by decide +kernel
theorem dL_isRight_280 : decode cL_isRight 280 = .ok (.iconst 2, 1) := by decide +kernel
theorem dL_isRight_281 : decode cL_isRight 281 = .ok (.if_icmp .ne 7, 3) := by decide +kernel
theorem dL_isRight_284 : decode cL_isRight 284 = .ok (.iconst 1, 1) := by decide +kernel
theorem dL_isRight_285 : decode cL_isRight 285 = .ok (.goto 4, 3) := by decide +kernel
theorem dL_isRight_288 : decode cL_isRight 288 = .ok (.iconst 0, 1) := by decide +kernel
theorem dL_isRight_289 : decode cL_isRight 289 = .ok (.aload_n 0, 1) := by decide +kernel
theorem dL_isRight_290 : decode cL_isRight 290 = .ok (.iload_n 3, 1) := by decide +kernel
theorem dL_isRight_291 : decode cL_isRight 291 = .ok (.iconst 5, 1) := by decide +kernel
theorem dL_isRight_292 : decode cL_isRight 292 = .ok (.invokevirtual 18, 3) := by decide +kernel
theorem dL_isRight_295 : decode cL_isRight 295 = .ok (.ifCond .lt 7, 3) := by decide +kernel
theorem dL_isRight_298 : decode cL_isRight 298 = .ok (.iconst 1, 1) := by decide +kernel
theorem dL_isRight_299 : decode cL_isRight 299 = .ok (.goto 4, 3) := by decide +kernel
theorem dL_isRight_302 : decode cL_isRight 302 = .ok (.iconst 0, 1) := by decide +kernel
theorem dL_isRight_303 : decode cL_isRight 303 = .ok (.if_icmp .eq 5, 3) := by decide +kernel
theorem dL_isRight_306 : decode cL_isRight 306 = .ok (.iconst 0, 1) := by decide +kernel
theorem dL_isRight_307 : decode cL_isRight 307 = .ok (.ireturn, 1) := by decide +kernel
theorem dL_isRight_308 : decode cL_isRight 308 = .ok (.iinc 3 1, 3) := by decide +kernel
theorem dL_isRight_311 : decode cL_isRight 311 = .ok (.goto (-96), 3) := by decide +kernel
theorem dL_isRight_314 : decode cL_isRight 314 = .ok (.iconst 0, 1) := by decide +kernel
theorem dL_isRight_315 : decode cL_isRight 315 = .ok (.istore_n 3, 1) := by decide +kernel
theorem dL_isRight_316 : decode cL_isRight 316 = .ok (.iconst 0, 1) := by decide +kernel
theorem dL_isRight_317 : decode cL_isRight 317 = .ok (.istore 4, 2) := by decide +kernel
theorem dL_isRight_319 : decode cL_isRight 319 = .ok (.iload 4, 2) := by decide +kernel
theorem dL_isRight_321 : decode cL_isRight 321 = .ok (.aload_n 0, 1) := by decide +kernel
theorem dL_isRight_322 : decode cL_isRight 322 = .ok (.bipush 6, 2) := by decide +kernel
theorem dL_isRight_324 : decode cL_isRight 324 = .ok (.invokevirtual 12, 3) := by decide +kernel
theorem dL_isRight_327 : decode cL_isRight 327 = .ok (.if_icmp .ge 152, 3) := by decide +kernel
theorem dL_isRight_330 : decode cL_isRight 330 = .ok (.iload_n 3, 1) := by decide +kernel
theorem dL_isRight_331 : decode cL_isRight 331 = .ok (.aload_n 0, 1) := by decide +kernel
theorem dL_isRight_332 : decode cL_isRight 332 = .ok (.iload 4, 2) := by decide +kernel
theorem dL_isRight_334 : decode cL_isRight 334 = .ok (.iconst 4, 1) := by decide +kernel
theorem dL_isRight_335 : decode cL_isRight 335 = .ok (.invokevirtual 22, 3) := by decide +kernel
theorem dL_isRight_338 : decode cL_isRight 338 = .ok (.iadd, 1) := by decide +kernel
theorem dL_isRight_339 : decode cL_isRight 339 = .ok (.istore_n 3, 1) := by decide +kernel
theorem dL_isRight_340 : decode cL_isRight 340 = .ok (.iload 4, 2) := by decide +kernel
theorem dL_isRight_342 : decode cL_isRight 342 = .ok (.ifCond .le 22, 3) := by decide +kernel
theorem dL_isRight_345 : decode cL_isRight 345 = .ok (.aload_n 0, 1) := by decide +kernel
theorem dL_isRight_346 : decode cL_isRight 346 = .ok (.iload 4, 2) := by decide +kernel
theorem dL_isRight_348 : decode cL_isRight 348 = .ok (.iconst 4, 1) := by decide +kernel
theorem dL_isRight_349 : decode cL_isRight 349 = .ok (.invokevirtual 22, 3) := by decide +kernel
theorem dL_isRight_352 : decode cL_isRight 352 = .ok (.aload_n 0, 1) := by decide +kernel
theorem dL_isRight_353 : decode cL_isRight 353 = .ok (.iload 4, 2) := by decide +kernel
theorem dL_isRight_355 : decode cL_isRight 355 = .ok (.iconst 1, 1) := by decide +kernel
theorem dL_isRight_356 : decode cL_isRight 356 = .ok (.isub, 1) := by decide +kernel
theorem dL_isRight_357 : decode cL_isRight 357 = .ok (.iconst 4, 1) := by decide +kernel
theorem dL_isRight_358 : decode cL_isRight 358 = .ok (.invokevirtual 22, 3) := by decide +kernel
theorem dL_isRight_361 : decode cL_isRight 361 = .ok (.if_icmp .gt 58, 3) := by decide +kernel
theorem dL_isRight_364 : decode cL_isRight 364 = .ok (.aload_n 0, 1) := by decide +kernel
theorem dL_isRight_365 : decode cL_isRight 365 = .ok (.aload_n 0, 1) := by decide +kernel
theorem dL_isRight_366 : decode cL_isRight 366 = .ok (.iload 4, 2) := by decide +kernel
theorem dL_isRight_368 : decode cL_isRight 368 = .ok (.iconst 0, 1) := by decide +kernel
theorem dL_isRight_369 : decode cL_isRight 369 = .ok (.invokevirtual 22, 3) := by decide +kernel
theorem dL_isRight_372 : decode cL_isRight 372 = .ok (.aload_n 0, 1) := by decide +kernel
theorem dL_isRight_373 : decode cL_isRight 373 = .ok (.iload 4, 2) := by decide +kernel
theorem dL_isRight_375 : decode cL_isRight 375 = .ok (.iconst 1, 1) := by decide +kernel
theorem dL_isRight_376 : decode cL_isRight 376 = .ok (.invokevirtual 22, 3) := by decide +kernel
theorem dL_isRight_379 : decode cL_isRight 379 = .ok (.invokevirtual 70, 3) := by decide +kernel
theorem dL_isRight_382 : decode cL_isRight 382 = .ok (.ifCond .ge 37, 3) := by decide +kernel
theorem dL_isRight_385 : decode cL_isRight 385 = .ok (.aload_n 0, 1) := by decide +kernel
theorem dL_isRight_386 : decode cL_isRight 386 = .ok (.iload 4, 2) := by decide +kernel
theorem dL_isRight_388 : decode cL_isRight 388 = .ok (.bipush 7, 2) := by decide +kernel
theorem dL_isRight_390 : decode cL_isRight 390 = .ok (.invokevirtual 22, 3) := by decide +kernel
theorem dL_isRight_393 : decode cL_isRight 393 = .ok (.aload_n 0, 1) := by decide +kernel
theorem dL_isRight_394 : decode cL_isRight 394 = .ok (.iload 4, 2) := by decide +kernel
theorem dL_isRight_396 : decode cL_isRight 396 = .ok (.iconst 5, 1) := by decide +kernel
theorem dL_isRight_397 : decode cL_isRight 397 = .ok (.invokevirtual 22, 3) := by decide +kernel
theorem dL_isRight_400 : decode cL_isRight 400 = .ok (.aload_n 0, 1) := by decide +kernel
theorem dL_isRight_401 : decode cL_isRight 401 = .ok (.iload 4, 2) := by decide +kernel
theorem dL_isRight_403 : decode cL_isRight 403 = .ok (.iconst 2, 1) := by decide +kernel
theorem dL_isRight_404 : decode cL_isRight 404 = .ok (.invokevirtual 22, 3) := by decide +kernel
theorem dL_isRight_407 : decode cL_isRight 407 = .ok (.aload_n 0, 1) := by decide +kernel
theorem dL_isRight_408 : decode cL_isRight 408 = .ok (.iload 4, 2) := by decide +kernel
theorem dL_isRight_410 : decode cL_isRight 410 = .ok (.iconst 3, 1) := by decide +kernel
theorem dL_isRight_411 : decode cL_isRight 411 = .ok (.invokevirtual 22, 3) := by decide +kernel
theorem dL_isRight_414 : decode cL_isRight 414 = .ok (.iadd, 1) := by decide +kernel
theorem dL_isRight_415 : decode cL_isRight 415 = .ok (.imul, 1) := by decide +kernel
theorem dL_isRight_416 : decode cL_isRight 416 = .ok (.if_icmp .eq 5, 3) := by decide +kernel
theorem dL_isRight_419 : decode cL_isRight 419 = .ok (.iconst 0, 1) := by decide +kernel
theorem dL_isRight_420 : decode cL_isRight 420 = .ok (.ireturn, 1) := by decide +kernel
theorem dL_isRight_421 : decode cL_isRight 421 = .ok (.iconst 0, 1) := by decide +kernel
theorem dL_isRight_422 : decode cL_isRight 422 = .ok (.istore 5, 2) := by decide +kernel
theorem dL_isRight_424 : decode cL_isRight 424 = .ok (.iload 5, 2) := by decide +kernel
theorem dL_isRight_426 : decode cL_isRight 426 = .ok (.iload 4, 2) := by decide +kernel
theorem dL_isRight_428 : decode cL_isRight 428 = .ok (.if_icmp .ge 45, 3) := by decide +kernel
theorem dL_isRight_431 : decode cL_isRight 431 = .ok (.aload_n 0, 1) := by decide +kernel
theorem dL_isRight_432 : decode cL_isRight 432 = .ok (.iload 5, 2) := by decide +kernel
theorem dL_isRight_434 : decode cL_isRight 434 = .ok (.iconst 0, 1) := by decide +kernel
theorem dL_isRight_435 : decode cL_isRight 435 = .ok (.invokevirtual 22, 3) := by decide +kernel
theorem dL_isRight_438 : decode cL_isRight 438 = .ok (.aload_n 0, 1) := by decide +kernel
theorem dL_isRight_439 : decode cL_isRight 439 = .ok (.iload 4, 2) := by decide +kernel
theorem dL_isRight_441 : decode cL_isRight 441 = .ok (.iconst 0, 1) := by decide +kernel
theorem dL_isRight_442 : decode cL_isRight 442 = .ok (.invokevirtual 22, 3) := by decide +kernel
theorem dL_isRight_445 : decode cL_isRight 445 = .ok (.if_icmp .ne 22, 3) := by decide +kernel
theorem dL_isRight_448 : decode cL_isRight 448 = .ok (.aload_n 0, 1) := by decide +kernel
theorem dL_isRight_449 : decode cL_isRight 449 = .ok (.iload 5, 2) := by decide +kernel
theorem dL_isRight_451 : decode cL_isRight 451 = .ok (.iconst 1, 1) := by decide +kernel
theorem dL_isRight_452 : decode cL_isRight 452 = .ok (.invokevirtual 22, 3) := by decide +kernel
theorem dL_isRight_455 : decode cL_isRight 455 = .ok (.aload_n 0, 1) := by decide +kernel
theorem dL_isRight_456 : decode cL_isRight 456 = .ok (.iload 4, 2) := by decide +kernel
theorem dL_isRight_458 : decode cL_isRight 458 = .ok (.iconst 1, 1) := by decide +kernel
theorem dL_isRight_459 : decode cL_isRight 459 = .ok (.invokevirtual 22, 3) := by decide +kernel
theorem dL_isRight_462 : decode cL_isRight 462 = .ok (.if_icmp .ne 5, 3) := by decide +kernel
theorem dL_isRight_465 : decode cL_isRight 465 = .ok (.iconst 0, 1) := by decide +kernel
theorem dL_isRight_466 : decode cL_isRight 466 = .ok (.ireturn, 1) := by decide +kernel
theorem dL_isRight_467 : decode cL_isRight 467 = .ok (.iinc 5 1, 3) := by decide +kernel
theorem dL_isRight_470 : decode cL_isRight 470 = .ok (.goto (-46), 3) := by decide +kernel
theorem dL_isRight_473 : decode cL_isRight 473 = .ok (.iinc 4 1, 3) := by decide +kernel
theorem dL_isRight_476 : decode cL_isRight 476 = .ok (.goto (-157), 3) := by decide +kernel
theorem dL_isRight_479 : decode cL_isRight 479 = .ok (.aload_n 0, 1) := by decide +kernel
theorem dL_isRight_480 : decode cL_isRight 480 = .ok (.bipush 8, 2) := by decide +kernel
theorem dL_isRight_482 : decode cL_isRight 482 = .ok (.invokevirtual 12, 3) := by decide +kernel
theorem dL_isRight_485 : decode cL_isRight 485 = .ok (.ifCond .lt 7, 3) := by decide +kernel
theorem dL_isRight_488 : decode cL_isRight 488 = .ok (.iconst 1, 1) := by decide +kernel
theorem dL_isRight_489 : decode cL_isRight 489 = .ok (.goto 4, 3) := by decide +kernel
theorem dL_isRight_492 : decode cL_isRight 492 = .ok (.iconst 0, 1) := by decide +kernel
theorem dL_isRight_493 : decode cL_isRight 493 = .ok (.istore 4, 2) := by decide +kernel
theorem dL_isRight_495 : decode cL_isRight 495 = .ok (.iload_n 1, 1) := by decide +kernel
theorem dL_isRight_496 : decode cL_isRight 496 = .ok (.aload_n 0, 1) := by decide +kernel
theorem dL_isRight_497 : decode cL_isRight 497 = .ok (.iconst 2, 1) := by decide +kernel
theorem dL_isRight_498 : decode cL_isRight 498 = .ok (.invokevirtual 12, 3) := by decide +kernel
theorem dL_isRight_501 : decode cL_isRight 501 = .ok (.if_icmp .ne 109, 3) := by decide +kernel
theorem dL_isRight_504 : decode cL_isRight 504 = .ok (.iload_n 2, 1) := by decide +kernel
theorem dL_isRight_505 : decode cL_isRight 505 = .ok (.iload_n 1, 1) := by decide +kernel
theorem dL_isRight_506 : decode cL_isRight 506 = .ok (.if_icmp .lt 104, 3) := by decide +kernel
theorem dL_isRight_509 : decode cL_isRight 509 = .ok (.iload_n 3, 1) := by decide +kernel
theorem dL_isRight_510 : decode cL_isRight 510 = .ok (.aload_n 0, 1) := by decide +kernel
theorem dL_isRight_511 : decode cL_isRight 511 = .ok (.bipush 7, 2) := by decide +kernel
theorem dL_isRight_513 : decode cL_isRight 513 = .ok (.invokevirtual 12, 3) := by decide +kernel
theorem dL_isRight_516 : decode cL_isRight 516 = .ok (.if_icmp .ne 94, 3) := by decide +kernel
theorem dL_isRight_519 : decode cL_isRight 519 = .ok (.aload_n 0, 1) := by decide +kernel
theorem dL_isRight_520 : decode cL_isRight 520 = .ok (.iconst 0, 1) := by decide +kernel
theorem dL_isRight_521 : decode cL_isRight 521 = .ok (.invokevirtual 12, 3) := by decide +kernel
theorem dL_isRight_524 : decode cL_isRight 524 = .ok (.aload_n 0, 1) := by decide +kernel
theorem dL_isRight_525 : decode cL_isRight 525 = .ok (.iconst 1, 1) := by decide +kernel
theorem dL_isRight_526 : decode cL_isRight 526 = .ok (.invokevirtual 12, 3) := by decide +kernel
theorem dL_isRight_529 : decode cL_isRight 529 = .ok (.iadd, 1) := by decide +kernel
theorem dL_isRight_530 : decode cL_isRight 530 = .ok (.aload_n 0, 1) := by decide +kernel
theorem dL_isRight_531 : decode cL_isRight 531 = .ok (.iconst 2, 1) := by decide +kernel
theorem dL_isRight_532 : decode cL_isRight 532 = .ok (.invokevirtual 12, 3) := by decide +kernel
theorem dL_isRight_535 : decode cL_isRight 535 = .ok (.iadd, 1) := by decide +kernel
theorem dL_isRight_536 : decode cL_isRight 536 = .ok (.aload_n 0, 1) := by decide +kernel
theorem dL_isRight_537 : decode cL_isRight 537 = .ok (.iconst 3, 1) := by decide +kernel
theorem dL_isRight_538 : decode cL_isRight 538 = .ok (.invokevirtual 12, 3) := by decide +kernel
theorem dL_isRight_541 : decode cL_isRight 541 = .ok (.iadd, 1) := by decide +kernel
theorem dL_isRight_542 : decode cL_isRight 542 = .ok (.aload_n 0, 1) := by decide +kernel
theorem dL_isRight_543 : decode cL_isRight 543 = .ok (.iconst 4, 1) := by decide +kernel
theorem dL_isRight_544 : decode cL_isRight 544 = .ok (.invokevirtual 12, 3) := by decide +kernel
theorem dL_isRight_547 : decode cL_isRight 547 = .ok (.if_icmp .ne 63, 3) := by decide +kernel
theorem dL_isRight_550 : decode cL_isRight 550 = .ok (.aload_n 0, 1) := by decide +kernel
theorem dL_isRight_551 : decode cL_isRight 551 = .ok (.iconst 1, 1) := by decide +kernel
theorem dL_isRight_552 : decode cL_isRight 552 = .ok (.invokevirtual 12, 3) := by decide +kernel
theorem dL_isRight_555 : decode cL_isRight 555 = .ok (.iload 4, 2) := by decide +kernel
theorem dL_isRight_557 : decode cL_isRight 557 = .ok (.ifCond .eq 7, 3) := by decide +kernel
theorem dL_isRight_560 : decode cL_isRight 560 = .ok (.iconst 1, 1) := by decide +kernel
theorem dL_isRight_561 : decode cL_isRight 561 = .ok (.goto 4, 3) := by decide +kernel
theorem dL_isRight_564 : decode cL_isRight 564 = .ok (.iconst 0, 1) := by decide +kernel
theorem dL_isRight_565 : decode cL_isRight 565 = .ok (.if_icmp .ne 45, 3) := by decide +kernel
theorem dL_isRight_568 : decode cL_isRight 568 = .ok (.iload 4, 2) := by decide +kernel
theorem dL_isRight_570 : decode cL_isRight 570 = .ok (.aload_n 0, 1) := by decide +kernel
theorem dL_isRight_571 : decode cL_isRight 571 = .ok (.bipush 9, 2) := by decide +kernel
theorem dL_isRight_573 : decode cL_isRight 573 = .ok (.invokevirtual 12, 3) := by decide +kernel
theorem dL_isRight_576 : decode cL_isRight 576 = .ok (.ifCond .le 7, 3) := by decide +kernel
theorem dL_isRight_579 : decode cL_isRight 579 = .ok (.iconst 1, 1) := by decide +kernel
theorem dL_isRight_580 : decode cL_isRight 580 = .ok (.goto 4, 3) := by decide +kernel
theorem dL_isRight_583 : decode cL_isRight 583 = .ok (.iconst 0, 1) := by decide +kernel
theorem dL_isRight_584 : decode cL_isRight 584 = .ok (.if_icmp .ne 26, 3) := by decide +kernel
theorem dL_isRight_587 : decode cL_isRight 587 = .ok (.iload 4, 2) := by decide +kernel
theorem dL_isRight_589 : decode cL_isRight 589 = .ok (.aload_n 0, 1) := by decide +kernel
theorem dL_isRight_590 : decode cL_isRight 590 = .ok (.bipush 10, 2) := by decide +kernel
theorem dL_isRight_592 : decode cL_isRight 592 = .ok (.invokevirtual 12, 3) := by decide +kernel
theorem dL_isRight_595 : decode cL_isRight 595 = .ok (.ifCond .lt 7, 3) := by decide +kernel
theorem dL_isRight_598 : decode cL_isRight 598 = .ok (.iconst 1, 1) := by decide +kernel
theorem dL_isRight_599 : decode cL_isRight 599 = .ok (.goto 4, 3) := by decide +kernel
theorem dL_isRight_602 : decode cL_isRight 602 = .ok (.iconst 0, 1) := by decide +kernel
theorem dL_isRight_603 : decode cL_isRight 603 = .ok (.if_icmp .ne 7, 3) := by decide +kernel
theorem dL_isRight_606 : decode cL_isRight 606 = .ok (.iconst 1, 1) := by decide +kernel
theorem dL_isRight_607 : decode cL_isRight 607 = .ok (.goto 4, 3) := by decide +kernel
theorem dL_isRight_610 : decode cL_isRight 610 = .ok (.iconst 0, 1) := by decide +kernel
theorem dL_isRight_611 : decode cL_isRight 611 = .ok (.ireturn, 1) := by decide +kernel
theorem dL_isDone_0 : decode cL_isDone 0 = .ok (.iload_n 1, 1) := by decide +kernel
theorem dL_isDone_1 : decode cL_isDone 1 = .ok (.bipush 15, 2) := by decide +kernel
theorem dL_isDone_3 : decode cL_isDone 3 = .ok (.iand, 1) := by decide +kernel
theorem dL_isDone_4 : decode cL_isDone 4 = .ok (.istore 6, 2) := by decide +kernel
theorem dL_isDone_6 : decode cL_isDone 6 = .ok (.iload_n 2, 1) := by decide +kernel
theorem dL_isDone_7 : decode cL_isDone 7 = .ok (.ifCond .ge 41, 3) := by decide +kernel
theorem dL_isDone_10 : decode cL_isDone 10 = .ok (.aload_n 0, 1) := by decide +kernel
theorem dL_isDone_11 : decode cL_isDone 11 = .ok (.bipush 11, 2) := by decide +kernel
theorem dL_isDone_13 : decode cL_isDone 13 = .ok (.invokevirtual 12, 3) := by decide +kernel
theorem dL_isDone_16 : decode cL_isDone 16 = .ok (.iload_n 3, 1) := by decide +kernel
theorem dL_isDone_17 : decode cL_isDone 17 = .ok (.if_icmp .ne 29, 3) := by decide +kernel
theorem dL_isDone_20 : decode cL_isDone 20 = .ok (.aload_n 0, 1) := by decide +kernel
theorem dL_isDone_21 : decode cL_isDone 21 = .ok (.bipush 6, 2) := by decide +kernel
theorem dL_isDone_23 : decode cL_isDone 23 = .ok (.invokevirtual 12, 3) := by decide +kernel
theorem dL_isDone_26 : decode cL_isDone 26 = .ok (.iload 4, 2) := by decide +kernel
theorem dL_isDone_28 : decode cL_isDone 28 = .ok (.if_icmp .ne 18, 3) := by decide +kernel
theorem dL_isDone_31 : decode cL_isDone 31 = .ok (.aload_n 0, 1) := by decide +kernel
theorem dL_isDone_32 : decode cL_isDone 32 = .ok (.bipush 12, 2) := by decide +kernel
theorem dL_isDone_34 : decode cL_isDone 34 = .ok (.invokevirtual 12, 3) := by decide +kernel
theorem dL_isDone_37 : decode cL_isDone 37 = .ok (.iload 5, 2) := by decide +kernel
theorem dL_isDone_39 : decode cL_isDone 39 = .ok (.if_icmp .ne 7, 3) := by decide +kernel
theorem dL_isDone_42 : decode cL_isDone 42 = .ok (.iconst 1, 1) := by decide +kernel
theorem dL_isDone_43 : decode cL_isDone 43 = .ok (.goto 4, 3) := by decide +kernel
theorem dL_isDone_46 : decode cL_isDone 46 = .ok (.iconst 0, 1) := by decide +kernel
theorem dL_isDone_47 : decode cL_isDone 47 = .ok (.ireturn, 1) := by decide +kernel
theorem dL_isDone_48 : decode cL_isDone 48 = .ok (.iload 6, 2) := by decide +kernel
theorem dL_isDone_50 : decode cL_isDone 50 = .ok (.bipush 11, 2) := by decide +kernel
theorem dL_isDone_52 : decode cL_isDone 52 = .ok (.if_icmp .le 34, 3) := by decide +kernel
theorem dL_isDone_55 : decode cL_isDone 55 = .ok (.aload_n 0, 1) := by decide +kernel
theorem dL_isDone_56 : decode cL_isDone 56 = .ok (.bipush 11, 2) := by decide +kernel
theorem dL_isDone_58 : decode cL_isDone 58 = .ok (.invokevirtual 12, 3) := by decide +kernel
theorem dL_isDone_61 : decode cL_isDone 61 = .ok (.iload_n 3, 1) := by decide +kernel
theorem dL_isDone_62 : decode cL_isDone 62 = .ok (.iload_n 2, 1) := by decide +kernel
theorem dL_isDone_63 : decode cL_isDone 63 = .ok (.iadd, 1) := by decide +kernel
theorem dL_isDone_64 : decode cL_isDone 64 = .ok (.if_icmp .ne 20, 3) := by decide +kernel
theorem dL_isDone_67 : decode cL_isDone 67 = .ok (.aload_n 0, 1) := by decide +kernel
theorem dL_isDone_68 : decode cL_isDone 68 = .ok (.bipush 6, 2) := by decide +kernel
theorem dL_isDone_70 : decode cL_isDone 70 = .ok (.invokevirtual 12, 3) := by decide +kernel
theorem dL_isDone_73 : decode cL_isDone 73 = .ok (.iload 4, 2) := by decide +kernel
theorem dL_isDone_75 : decode cL_isDone 75 = .ok (.iload_n 2, 1) := by decide +kernel
theorem dL_isDone_76 : decode cL_isDone 76 = .ok (.isub, 1) := by decide +kernel
theorem dL_isDone_77 : decode cL_isDone 77 = .ok (.if_icmp .ne 7, 3) := by decide +kernel
theorem dL_isDone_80 : decode cL_isDone 80 = .ok (.iconst 1, 1) := by decide +kernel
theorem dL_isDone_81 : decode cL_isDone 81 = .ok (.goto 4, 3) := by decide +kernel
theorem dL_isDone_84 : decode cL_isDone 84 = .ok (.iconst 0, 1) := by decide +kernel
theorem dL_isDone_85 : decode cL_isDone 85 = .ok (.ireturn, 1) := by decide +kernel
theorem dL_isDone_86 : decode cL_isDone 86 = .ok (.iload 6, 2) := by decide +kernel
theorem dL_isDone_88 : decode cL_isDone 88 = .ok (.bipush 10, 2) := by decide +kernel
theorem dL_isDone_90 : decode cL_isDone 90 = .ok (.if_icmp .eq 10, 3) := by decide +kernel
theorem dL_isDone_93 : decode cL_isDone 93 = .ok (.iload 6, 2) := by decide +kernel
theorem dL_isDone_95 : decode cL_isDone 95 = .ok (.bipush 11, 2) := by decide +kernel
theorem dL_isDone_97 : decode cL_isDone 97 = .ok (.if_icmp .ne 60, 3) := by decide +kernel
theorem dL_isDone_100 : decode cL_isDone 100 = .ok (.aload_n 0, 1) := by decide +kernel
theorem dL_isDone_101 : decode cL_isDone 101 = .ok (.bipush 12, 2) := by decide +kernel
theorem dL_isDone_103 : decode cL_isDone 103 = .ok (.invokevirtual 12, 3) := by decide +kernel
theorem dL_isDone_106 : decode cL_isDone 106 = .ok (.iload 5, 2) := by decide +kernel
theorem dL_isDone_108 : decode cL_isDone 108 = .ok (.iconst 1, 1) := by decide +kernel
theorem dL_isDone_109 : decode cL_isDone 109 = .ok (.iadd, 1) := by decide +kernel
theorem dL_isDone_110 : decode cL_isDone 110 = .ok (.if_icmp .ne 45, 3) := by decide +kernel
theorem dL_isDone_113 : decode cL_isDone 113 = .ok (.aload_n 0, 1) := by decide +kernel
theorem dL_isDone_114 : decode cL_isDone 114 = .ok (.bipush 8, 2) := by decide +kernel
theorem dL_isDone_116 : decode cL_isDone 116 = .ok (.invokevirtual 12, 3) := by decide +kernel
theorem dL_isDone_119 : decode cL_isDone 119 = .ok (.ifCond .ge 7, 3) := by decide +kernel
theorem dL_isDone_122 : decode cL_isDone 122 = .ok (.iconst 1, 1) := by decide +kernel
theorem dL_isDone_123 : decode cL_isDone 123 = .ok (.goto 4, 3) := by decide +kernel
theorem dL_isDone_126 : decode cL_isDone 126 = .ok (.iconst 0, 1) := by decide +kernel
theorem dL_isDone_127 : decode cL_isDone 127 = .ok (.iload_n 2, 1) := by decide +kernel
theorem dL_isDone_128 : decode cL_isDone 128 = .ok (.iconst 3, 1) := by decide +kernel
theorem dL_isDone_129 : decode cL_isDone 129 = .ok (.if_icmp .ne 7, 3) := by decide +kernel
theorem dL_isDone_132 : decode cL_isDone 132 = .ok (.iconst 1, 1) := by decide +kernel
theorem dL_isDone_133 : decode cL_isDone 133 = .ok (.goto 4, 3) := by decide +kernel
theorem dL_isDone_136 : decode cL_isDone 136 = .ok (.iconst 0, 1) := by decide +kernel
theorem dL_isDone_137 : decode cL_isDone 137 = .ok (.if_icmp .ne 18, 3) := by decide +kernel
theorem dL_isDone_140 : decode cL_isDone 140 = .ok (.aload_n 0, 1) := by decide +kernel
theorem dL_isDone_141 : decode cL_isDone 141 = .ok (.bipush 6, 2) := by decide +kernel
theorem dL_isDone_143 : decode cL_isDone 143 = .ok (.invokevirtual 12, 3) := by decide +kernel
theorem dL_isDone_146 : decode cL_isDone 146 = .ok (.iload 4, 2) := by decide +kernel
theorem dL_isDone_148 : decode cL_isDone 148 = .ok (.if_icmp .ne 7, 3) := by decide +kernel
theorem dL_isDone_151 : decode cL_isDone 151 = .ok (.iconst 1, 1) := by decide +kernel
theorem dL_isDone_152 : decode cL_isDone 152 = .ok (.goto 4, 3) := by decide +kernel
theorem dL_isDone_155 : decode cL_isDone 155 = .ok (.iconst 0, 1) := by decide +kernel
theorem dL_isDone_156 : decode cL_isDone 156 = .ok (.ireturn, 1) := by decide +kernel
theorem dL_isDone_157 : decode cL_isDone 157 = .ok (.iload 6, 2) := by decide +kernel
theorem dL_isDone_159 : decode cL_isDone 159 = .ok (.iconst 5, 1) := by decide +kernel
theorem dL_isDone_160 : decode cL_isDone 160 = .ok (.if_icmp .ne 31, 3) := by decide +kernel
theorem dL_isDone_163 : decode cL_isDone 163 = .ok (.aload_n 0, 1) := by decide +kernel
theorem dL_isDone_164 : decode cL_isDone 164 = .ok (.iload_n 2, 1) := by decide +kernel
theorem dL_isDone_165 : decode cL_isDone 165 = .ok (.iconst 4, 1) := by decide +kernel
theorem dL_isDone_166 : decode cL_isDone 166 = .ok (.invokevirtual 22, 3) := by decide +kernel
theorem dL_isDone_169 : decode cL_isDone 169 = .ok (.iconst 1, 1) := by decide +kernel
theorem dL_isDone_170 : decode cL_isDone 170 = .ok (.if_icmp .ne 19, 3) := by decide +kernel
theorem dL_isDone_173 : decode cL_isDone 173 = .ok (.aload_n 0, 1) := by decide +kernel
theorem dL_isDone_174 : decode cL_isDone 174 = .ok (.bipush 7, 2) := by decide +kernel
theorem dL_isDone_176 : decode cL_isDone 176 = .ok (.invokevirtual 12, 3) := by decide +kernel
theorem dL_isDone_179 : decode cL_isDone 179 = .ok (.iload_n 2, 1) := by decide +kernel
theorem dL_isDone_180 : decode cL_isDone 180 = .ok (.iconst 1, 1) := by decide +kernel
theorem dL_isDone_181 : decode cL_isDone 181 = .ok (.iadd, 1) := by decide +kernel
theorem dL_isDone_182 : decode cL_isDone 182 = .ok (.if_icmp .ne 7, 3) := by decide +kernel
theorem dL_isDone_185 : decode cL_isDone 185 = .ok (.iconst 1, 1) := by decide +kernel
theorem dL_isDone_186 : decode cL_isDone 186 = .ok (.goto 4, 3) := by decide +kernel
theorem dL_isDone_189 : decode cL_isDone 189 = .ok (.iconst 0, 1) := by decide +kernel
theorem dL_isDone_190 : decode cL_isDone 190 = .ok (.ireturn, 1) := by decide +kernel
theorem dL_isDone_191 : decode cL_isDone 191 = .ok (.iload 6, 2) := by decide +kernel
theorem dL_isDone_193 : decode cL_isDone 193 = .ok (.bipush 6, 2) := by decide +kernel
theorem dL_isDone_195 : decode cL_isDone 195 = .ok (.if_icmp .ne 27, 3) := by decide +kernel
theorem dL_isDone_198 : decode cL_isDone 198 = .ok (.iload_n 2, 1) := by decide +kernel
theorem dL_isDone_199 : decode cL_isDone 199 = .ok (.iload 4, 2) := by decide +kernel
theorem dL_isDone_201 : decode cL_isDone 201 = .ok (.iconst 1, 1) := by decide +kernel
theorem dL_isDone_202 : decode cL_isDone 202 = .ok (.isub, 1) := by decide +kernel
theorem dL_isDone_203 : decode cL_isDone 203 = .ok (.if_icmp .ne 17, 3) := by decide +kernel
theorem dL_isDone_206 : decode cL_isDone 206 = .ok (.aload_n 0, 1) := by decide +kernel
theorem dL_isDone_207 : decode cL_isDone 207 = .ok (.bipush 6, 2) := by decide +kernel
theorem dL_isDone_209 : decode cL_isDone 209 = .ok (.invokevirtual 12, 3) := by decide +kernel
theorem dL_isDone_212 : decode cL_isDone 212 = .ok (.iload_n 2, 1) := by decide +kernel
theorem dL_isDone_213 : decode cL_isDone 213 = .ok (.if_icmp .ne 7, 3) := by decide +kernel
theorem dL_isDone_216 : decode cL_isDone 216 = .ok (.iconst 1, 1) := by decide +kernel
theorem dL_isDone_217 : decode cL_isDone 217 = .ok (.goto 4, 3) := by decide +kernel
theorem dL_isDone_220 : decode cL_isDone 220 = .ok (.iconst 0, 1) := by decide +kernel
theorem dL_isDone_221 : decode cL_isDone 221 = .ok (.ireturn, 1) := by decide +kernel
theorem dL_isDone_222 : decode cL_isDone 222 = .ok (.iload 6, 2) := by decide +kernel
theorem dL_isDone_224 : decode cL_isDone 224 = .ok (.ifCond .eq 46, 3) := by decide +kernel
theorem dL_isDone_227 : decode cL_isDone 227 = .ok (.iload 6, 2) := by decide +kernel
theorem dL_isDone_229 : decode cL_isDone 229 = .ok (.iconst 4, 1) := by decide +kernel
theorem dL_isDone_230 : decode cL_isDone 230 = .ok (.if_icmp .gt 40, 3) := by decide +kernel
theorem dL_isDone_233 : decode cL_isDone 233 = .ok (.aload_n 0, 1) := by decide +kernel
theorem dL_isDone_234 : decode cL_isDone 234 = .ok (.bipush 6, 2) := by decide +kernel
theorem dL_isDone_236 : decode cL_isDone 236 = .ok (.invokevirtual 12, 3) := by decide +kernel
theorem dL_isDone_239 : decode cL_isDone 239 = .ok (.iload 4, 2) := by decide +kernel
theorem dL_isDone_241 : decode cL_isDone 241 = .ok (.iconst 1, 1) := by decide +kernel
theorem dL_isDone_242 : decode cL_isDone 242 = .ok (.iadd, 1) := by decide +kernel
theorem dL_isDone_243 : decode cL_isDone 243 = .ok (.if_icmp .ne 31, 3) := by decide +kernel
theorem dL_isDone_246 : decode cL_isDone 246 = .ok (.aload_n 0, 1) := by decide +kernel
theorem dL_isDone_247 : decode cL_isDone 247 = .ok (.iload_n 2, 1) := by decide +kernel
theorem dL_isDone_248 : decode cL_isDone 248 = .ok (.iconst 4, 1) := by decide +kernel
theorem dL_isDone_249 : decode cL_isDone 249 = .ok (.invokevirtual 22, 3) := by decide +kernel
theorem dL_isDone_252 : decode cL_isDone 252 = .ok (.iload_n 1, 1) := by decide +kernel
theorem dL_isDone_253 : decode cL_isDone 253 = .ok (.bipush 17, 2) := by decide +kernel
theorem dL_isDone_255 : decode cL_isDone 255 = .ok (.ishr, 1) := by decide +kernel
theorem dL_isDone_256 : decode cL_isDone 256 = .ok (.iconst 1, 1) := by decide +kernel
theorem dL_isDone_257 : decode cL_isDone 257 = .ok (.iand, 1) := by decide +kernel
theorem dL_isDone_258 : decode cL_isDone 258 = .ok (.if_icmp .ne 16, 3) := by decide +kernel
theorem dL_isDone_261 : decode cL_isDone 261 = .ok (.aload_n 0, 1) := by decide +kernel
theorem dL_isDone_262 : decode cL_isDone 262 = .ok (.bipush 15, 2) := by decide +kernel
theorem dL_isDone_264 : decode cL_isDone 264 = .ok (.invokevirtual 12, 3) := by decide +kernel
theorem dL_isDone_267 : decode cL_isDone 267 = .ok (.ifCond .ne 7, 3) := by decide +kernel
theorem dL_isDone_270 : decode cL_isDone 270 = .ok (.iconst 1, 1) := by decide +kernel
theorem dL_isDone_271 : decode cL_isDone 271 = .ok (.goto 4, 3) := by decide +kernel
theorem dL_isDone_274 : decode cL_isDone 274 = .ok (.iconst 0, 1) := by decide +kernel
theorem dL_isDone_275 : decode cL_isDone 275 = .ok (.ireturn, 1) := by decide +kernel
theorem dL_isForecast_0 : decode cL_isForecast 0 = .ok (.iconst 0, 1) := by decide +kernel
theorem dL_isForecast_1 : decode cL_isForecast 1 = .ok (.istore_n 1, 1) := by decide +kernel
theorem dL_isForecast_2 : decode cL_isForecast 2 = .ok (.iload_n 1, 1) := by decide +kernel
theorem dL_isForecast_3 : decode cL_isForecast 3 = .ok (.aload_n 0, 1) := by decide +kernel
theorem dL_isForecast_4 : decode cL_isForecast 4 = .ok (.bipush 6, 2) := by decide +kernel
theorem dL_isForecast_6 : decode cL_isForecast 6 = .ok (.invokevirtual 12, 3) := by decide +kernel
theorem dL_isForecast_9 : decode cL_isForecast 9 = .ok (.if_icmp .ge 203, 3) := by decide +kernel
theorem dL_isForecast_12 : decode cL_isForecast 12 = .ok (.aload_n 0, 1) := by decide +kernel
theorem dL_isForecast_13 : decode cL_isForecast 13 = .ok (.iload_n 1, 1) := by decide +kernel
theorem dL_isForecast_14 : decode cL_isForecast 14 = .ok (.invokevirtual 73, 3) := by decide +kernel
theorem dL_isForecast_17 : decode cL_isForecast 17 = .ok (.istore_n 2, 1) := by decide +kernel
theorem dL_isForecast_18 : decode cL_isForecast 18 = .ok (.iload_n 2, 1) := by decide +kernel
theorem dL_isForecast_19 : decode cL_isForecast 19 = .ok (.ifCond .le 187, 3) := by decide +kernel
theorem dL_isForecast_22 : decode cL_isForecast 22 = .ok (.iload_n 2, 1) := by decide +kernel
theorem dL_isForecast_23 : decode cL_isForecast 23 = .ok (.sipush 600, 3) := by decide +kernel
theorem dL_isForecast_26 : decode cL_isForecast 26 = .ok (.if_icmp .gt 180, 3) := by decide +kernel
theorem dL_isForecast_29 : decode cL_isForecast 29 = .ok (.aload_n 0, 1) := by decide +kernel
theorem dL_isForecast_30 : decode cL_isForecast 30 = .ok (.iload_n 1, 1) := by decide +kernel
theorem dL_isForecast_31 : decode cL_isForecast 31 = .ok (.iconst 0, 1) := by decide +kernel
theorem dL_isForecast_32 : decode cL_isForecast 32 = .ok (.invokevirtual 22, 3) := by decide +kernel
theorem dL_isForecast_35 : decode cL_isForecast 35 = .ok (.istore_n 3, 1) := by decide +kernel
theorem dL_isForecast_36 : decode cL_isForecast 36 = .ok (.aload_n 0, 1) := by decide +kernel
theorem dL_isForecast_37 : decode cL_isForecast 37 = .ok (.iload_n 1, 1) := by decide +kernel
theorem dL_isForecast_38 : decode cL_isForecast 38 = .ok (.iconst 1, 1) := by decide +kernel
theorem dL_isForecast_39 : decode cL_isForecast 39 = .ok (.invokevirtual 22, 3) := by decide +kernel
theorem dL_isForecast_42 : decode cL_isForecast 42 = .ok (.istore 4, 2) := by decide +kernel
theorem dL_isForecast_44 : decode cL_isForecast 44 = .ok (.aload_n 0, 1) := by decide +kernel
theorem dL_isForecast_45 : decode cL_isForecast 45 = .ok (.iload_n 1, 1) := by decide +kernel
theorem dL_isForecast_46 : decode cL_isForecast 46 = .ok (.iconst 3, 1) := by decide +kernel
theorem dL_isForecast_47 : decode cL_isForecast 47 = .ok (.invokevirtual 22, 3) := by decide +kernel
theorem dL_isForecast_50 : decode cL_isForecast 50 = .ok (.istore 5, 2) := by decide +kernel
theorem dL_isForecast_52 : decode cL_isForecast 52 = .ok (.aload_n 0, 1) := by decide +kernel
theorem dL_isForecast_53 : decode cL_isForecast 53 = .ok (.iload_n 3, 1) := by decide +kernel
theorem dL_isForecast_54 : decode cL_isForecast 54 = .ok (.iconst 2, 1) := by decide +kernel
theorem dL_isForecast_55 : decode cL_isForecast 55 = .ok (.invokevirtual 30, 3) := by decide +kernel
theorem dL_isForecast_58 : decode cL_isForecast 58 = .ok (.istore 6, 2) := by decide +kernel
theorem dL_isForecast_60 : decode cL_isForecast 60 = .ok (.aload_n 0, 1) := by decide +kernel
theorem dL_isForecast_61 : decode cL_isForecast 61 = .ok (.iload_n 3, 1) := by decide +kernel
theorem dL_isForecast_62 : decode cL_isForecast 62 = .ok (.iconst 1, 1) := by decide +kernel
theorem dL_isForecast_63 : decode cL_isForecast 63 = .ok (.invokevirtual 30, 3) := by decide +kernel
theorem dL_isForecast_66 : decode cL_isForecast 66 = .ok (.aload_n 0, 1) := by decide +kernel
theorem dL_isForecast_67 : decode cL_isForecast 67 = .ok (.iload_n 3, 1) := by decide +kernel
theorem dL_isForecast_68 : decode cL_isForecast 68 = .ok (.iconst 0, 1) := by decide +kernel
theorem dL_isForecast_69 : decode cL_isForecast 69 = .ok (.invokevirtual 30, 3) := by decide +kernel
theorem dL_isForecast_72 : decode cL_isForecast 72 = .ok (.if_icmp .ne 7, 3) := by decide +kernel
theorem dL_isForecast_75 : decode cL_isForecast 75 = .ok (.iconst 1, 1) := by decide +kernel
theorem dL_isForecast_76 : decode cL_isForecast 76 = .ok (.goto 4, 3) := by decide +kernel
theorem dL_isForecast_79 : decode cL_isForecast 79 = .ok (.iconst 0, 1) := by decide +kernel
theorem dL_isForecast_80 : decode cL_isForecast 80 = .ok (.istore 7, 2) := by decide +kernel
theorem dL_isForecast_82 : decode cL_isForecast 82 = .ok (.aload_n 0, 1) := by decide +kernel
theorem dL_isForecast_83 : decode cL_isForecast 83 = .ok (.invokestatic 76, 3) := by decide +kernel
theorem dL_isForecast_86 : decode cL_isForecast 86 = .ok (.lstore 8, 2) := by decide +kernel
theorem dL_isForecast_88 : decode cL_isForecast 88 = .ok (.aload_n 0, 1) := by decide +kernel
theorem dL_isForecast_89 : decode cL_isForecast 89 = .ok (.iload_n 2, 1) := by decide +kernel
theorem dL_isForecast_90 : decode cL_isForecast 90 = .ok (.invokevirtual 67, 3) := by decide +kernel
theorem dL_isForecast_93 : decode cL_isForecast 93 = .ok (.istore 10, 2) := by decide +kernel
theorem dL_isForecast_95 : decode cL_isForecast 95 = .ok (.aload_n 0, 1) := by decide +kernel
theorem dL_isForecast_96 : decode cL_isForecast 96 = .ok (.iload_n 3, 1) := by decide +kernel
theorem dL_isForecast_97 : decode cL_isForecast 97 = .ok (.iload 4, 2) := by decide +kernel
theorem dL_isForecast_99 : decode cL_isForecast 99 = .ok (.invokevirtual 70, 3) := by decide +kernel
theorem dL_isForecast_102 : decode cL_isForecast 102 = .ok (.istore 11, 2) := by decide +kernel
theorem dL_isForecast_104 : decode cL_isForecast 104 = .ok (.iload 11, 2) := by decide +kernel
theorem dL_isForecast_106 : decode cL_isForecast 106 = .ok (.ifCond .lt 31, 3) := by decide +kernel
theorem dL_isForecast_109 : decode cL_isForecast 109 = .ok (.aload_n 0, 1) := by decide +kernel
theorem dL_isForecast_110 : decode cL_isForecast 110 = .ok (.iload 11, 2) := by decide +kernel
theorem dL_isForecast_112 : decode cL_isForecast 112 = .ok (.iconst 3, 1) := by decide +kernel
theorem dL_isForecast_113 : decode cL_isForecast 113 = .ok (.invokevirtual 18, 3) := by decide +kernel
theorem dL_isForecast_116 : decode cL_isForecast 116 = .ok (.iload 5, 2) := by decide +kernel
theorem dL_isForecast_118 : decode cL_isForecast 118 = .ok (.if_icmp .eq 15, 3) := by decide +kernel
theorem dL_isForecast_121 : decode cL_isForecast 121 = .ok (.aload_n 0, 1) := by decide +kernel
theorem dL_isForecast_122 : decode cL_isForecast 122 = .ok (.iload 11, 2) := by decide +kernel
theorem dL_isForecast_124 : decode cL_isForecast 124 = .ok (.iconst 4, 1) := by decide +kernel
theorem dL_isForecast_125 : decode cL_isForecast 125 = .ok (.invokevirtual 18, 3) := by decide +kernel
theorem dL_isForecast_128 : decode cL_isForecast 128 = .ok (.iload 5, 2) := by decide +kernel
theorem dL_isForecast_130 : decode cL_isForecast 130 = .ok (.if_icmp .ne 7, 3) := by decide +kernel
theorem dL_isForecast_133 : decode cL_isForecast 133 = .ok (.iconst 1, 1) := by decide +kernel
theorem dL_isForecast_134 : decode cL_isForecast 134 = .ok (.goto 4, 3) := by decide +kernel
theorem dL_isForecast_137 : decode cL_isForecast 137 = .ok (.iconst 0, 1) := by decide +kernel
theorem dL_isForecast_138 : decode cL_isForecast 138 = .ok (.istore 12, 2) := by decide +kernel
theorem dL_isForecast_140 : decode cL_isForecast 140 = .ok (.iload 10, 2) := by decide +kernel
theorem dL_isForecast_142 : decode cL_isForecast 142 = .ok (.iconst 1, 1) := by decide +kernel
theorem dL_isForecast_143 : decode cL_isForecast 143 = .ok (.if_icmp .lt 35, 3) := by decide +kernel
theorem dL_isForecast_146 : decode cL_isForecast 146 = .ok (.iload 12, 2) := by decide +kernel
theorem dL_isForecast_148 : decode cL_isForecast 148 = .ok (.ifCond .ne 32, 3) := by decide +kernel
theorem dL_isForecast_151 : decode cL_isForecast 151 = .ok (.iload 7, 2) := by decide +kernel
theorem dL_isForecast_153 : decode cL_isForecast 153 = .ok (.ifCond .eq 10, 3) := by decide +kernel
theorem dL_isForecast_156 : decode cL_isForecast 156 = .ok (.iload 4, 2) := by decide +kernel
theorem dL_isForecast_158 : decode cL_isForecast 158 = .ok (.iload 6, 2) := by decide +kernel
theorem dL_isForecast_160 : decode cL_isForecast 160 = .ok (.if_icmp .lt 20, 3) := by decide +kernel
theorem dL_isForecast_163 : decode cL_isForecast 163 = .ok (.aload_n 0, 1) := by decide +kernel
theorem dL_isForecast_164 : decode cL_isForecast 164 = .ok (.iload_n 3, 1) := by decide +kernel
theorem dL_isForecast_165 : decode cL_isForecast 165 = .ok (.iconst 1, 1) := by decide +kernel
theorem dL_isForecast_166 : decode cL_isForecast 166 = .ok (.invokevirtual 30, 3) := by decide +kernel
theorem dL_isForecast_169 : decode cL_isForecast 169 = .ok (.aload_n 0, 1) := by decide +kernel
theorem dL_isForecast_170 : decode cL_isForecast 170 = .ok (.iload_n 3, 1) := by decide +kernel
theorem dL_isForecast_171 : decode cL_isForecast 171 = .ok (.iconst 0, 1) := by decide +kernel
theorem dL_isForecast_172 : decode cL_isForecast 172 = .ok (.invokevirtual 30, 3) := by decide +kernel
theorem dL_isForecast_175 : decode cL_isForecast 175 = .ok (.if_icmp .ge 5, 3) := by decide +kernel
theorem dL_isForecast_178 : decode cL_isForecast 178 = .ok (.iconst 0, 1) := by decide +kernel
theorem dL_isForecast_179 : decode cL_isForecast 179 = .ok (.ireturn, 1) := by decide +kernel
theorem dL_isForecast_180 : decode cL_isForecast 180 = .ok (.aload_n 0, 1) := by decide +kernel
theorem dL_isForecast_181 : decode cL_isForecast 181 = .ok (.invokevirtual 80, 3) := by decide +kernel
theorem dL_isForecast_184 : decode cL_isForecast 184 = .ok (.pop, 1) := by decide +kernel
theorem dL_isForecast_185 : decode cL_isForecast 185 = .ok (.aload_n 0, 1) := by decide +kernel
theorem dL_isForecast_186 : decode cL_isForecast 186 = .ok (.invokestatic 76, 3) := by decide +kernel
theorem dL_isForecast_189 : decode cL_isForecast 189 = .ok (.lload 8, 2) := by decide +kernel
theorem dL_isForecast_191 : decode cL_isForecast 191 = .ok (.lcmp, 1) := by decide +kernel
theorem dL_isForecast_192 : decode cL_isForecast 192 = .ok (.ifCond .ne 12, 3) := by decide +kernel
theorem dL_isForecast_195 : decode cL_isForecast 195 = .ok (.aload_n 0, 1) := by decide +kernel
theorem dL_isForecast_196 : decode cL_isForecast 196 = .ok (.iload_n 1, 1) := by decide +kernel
theorem dL_isForecast_197 : decode cL_isForecast 197 = .ok (.invokevirtual 73, 3) := by decide +kernel
theorem dL_isForecast_200 : decode cL_isForecast 200 = .ok (.iload_n 2, 1) := by decide +kernel
theorem dL_isForecast_201 : decode cL_isForecast 201 = .ok (.if_icmp .eq 5, 3) := by decide +kernel
theorem dL_isForecast_204 : decode cL_isForecast 204 = .ok (.iconst 0, 1) := by decide +kernel
theorem dL_isForecast_205 : decode cL_isForecast 205 = .ok (.ireturn, 1) := by decide +kernel
theorem dL_isForecast_206 : decode cL_isForecast 206 = .ok (.iinc 1 1, 3) := by decide +kernel
theorem dL_isForecast_209 : decode cL_isForecast 209 = .ok (.goto (-207), 3) := by decide +kernel
theorem dL_isForecast_212 : decode cL_isForecast 212 = .ok (.iconst 1, 1) := by decide +kernel
theorem dL_isForecast_213 : decode cL_isForecast 213 = .ok (.ireturn, 1) := by decide +kernel
theorem dL_law_0 : decode cL_law 0 = .ok (.new 13, 3) := by decide +kernel
theorem dL_law_3 : decode cL_law 3 = .ok (.dup, 1) := by decide +kernel
theorem dL_law_4 : decode cL_law 4 = .ok (.invokespecial 83, 3) := by decide +kernel
theorem dL_law_7 : decode cL_law 7 = .ok (.astore_n 1, 1) := by decide +kernel
theorem dL_law_8 : decode cL_law 8 = .ok (.aload_n 0, 1) := by decide +kernel
theorem dL_law_9 : decode cL_law 9 = .ok (.iconst 0, 1) := by decide +kernel
theorem dL_law_10 : decode cL_law 10 = .ok (.invokestatic 84, 3) := by decide +kernel
theorem dL_law_13 : decode cL_law 13 = .ok (.istore_n 2, 1) := by decide +kernel
theorem dL_law_14 : decode cL_law 14 = .ok (.aload_n 1, 1) := by decide +kernel
theorem dL_law_15 : decode cL_law 15 = .ok (.iconst 2, 1) := by decide +kernel
theorem dL_law_16 : decode cL_law 16 = .ok (.iload_n 2, 1) := by decide +kernel
theorem dL_law_17 : decode cL_law 17 = .ok (.iconst 3, 1) := by decide +kernel
theorem dL_law_18 : decode cL_law 18 = .ok (.invokestatic 33, 3) := by decide +kernel
theorem dL_law_21 : decode cL_law 21 = .ok (.iadd, 1) := by decide +kernel
theorem dL_law_22 : decode cL_law 22 = .ok (.invokevirtual 88, 3) := by decide +kernel
theorem dL_law_25 : decode cL_law 25 = .ok (.pop, 1) := by decide +kernel
theorem dL_law_26 : decode cL_law 26 = .ok (.aload_n 1, 1) := by decide +kernel
theorem dL_law_27 : decode cL_law 27 = .ok (.iconst 2, 1) := by decide +kernel
theorem dL_law_28 : decode cL_law 28 = .ok (.invokevirtual 88, 3) := by decide +kernel
theorem dL_law_31 : decode cL_law 31 = .ok (.pop, 1) := by decide +kernel
theorem dL_law_32 : decode cL_law 32 = .ok (.iconst 0, 1) := by decide +kernel
theorem dL_law_33 : decode cL_law 33 = .ok (.istore_n 3, 1) := by decide +kernel
theorem dL_law_34 : decode cL_law 34 = .ok (.iload_n 3, 1) := by decide +kernel
theorem dL_law_35 : decode cL_law 35 = .ok (.iconst 4, 1) := by decide +kernel
theorem dL_law_36 : decode cL_law 36 = .ok (.if_icmp .ge 40, 3) := by decide +kernel
theorem dL_law_39 : decode cL_law 39 = .ok (.aload_n 1, 1) := by decide +kernel
theorem dL_law_40 : decode cL_law 40 = .ok (.bipush 20, 2) := by decide +kernel
theorem dL_law_42 : decode cL_law 42 = .ok (.iload_n 2, 1) := by decide +kernel
theorem dL_law_43 : decode cL_law 43 = .ok (.iconst 3, 1) := by decide +kernel
theorem dL_law_44 : decode cL_law 44 = .ok (.iload_n 3, 1) := by decide +kernel
theorem dL_law_45 : decode cL_law 45 = .ok (.imul, 1) := by decide +kernel
theorem dL_law_46 : decode cL_law 46 = .ok (.ishr, 1) := by decide +kernel
theorem dL_law_47 : decode cL_law 47 = .ok (.bipush 90, 2) := by decide +kernel
theorem dL_law_49 : decode cL_law 49 = .ok (.invokestatic 33, 3) := by decide +kernel
theorem dL_law_52 : decode cL_law 52 = .ok (.iadd, 1) := by decide +kernel
theorem dL_law_53 : decode cL_law 53 = .ok (.bipush 6, 2) := by decide +kernel
theorem dL_law_55 : decode cL_law 55 = .ok (.iload_n 2, 1) := by decide +kernel
theorem dL_law_56 : decode cL_law 56 = .ok (.iconst 4, 1) := by decide +kernel
theorem dL_law_57 : decode cL_law 57 = .ok (.iload_n 3, 1) := by decide +kernel
theorem dL_law_58 : decode cL_law 58 = .ok (.imul, 1) := by decide +kernel
theorem dL_law_59 : decode cL_law 59 = .ok (.ishr, 1) := by decide +kernel
theorem dL_law_60 : decode cL_law 60 = .ok (.bipush 12, 2) := by decide +kernel
theorem dL_law_62 : decode cL_law 62 = .ok (.invokestatic 33, 3) := by decide +kernel
theorem dL_law_65 : decode cL_law 65 = .ok (.iadd, 1) := by decide +kernel
theorem dL_law_66 : decode cL_law 66 = .ok (.invokevirtual 38, 3) := by decide +kernel
theorem dL_law_69 : decode cL_law 69 = .ok (.pop, 1) := by decide +kernel
theorem dL_law_70 : decode cL_law 70 = .ok (.iinc 3 1, 3) := by decide +kernel
theorem dL_law_73 : decode cL_law 73 = .ok (.goto (-39), 3) := by decide +kernel
theorem dL_law_76 : decode cL_law 76 = .ok (.iconst 1, 1) := by decide +kernel
theorem dL_law_77 : decode cL_law 77 = .ok (.istore_n 3, 1) := by decide +kernel
theorem dL_law_78 : decode cL_law 78 = .ok (.iload_n 3, 1) := by decide +kernel
theorem dL_law_79 : decode cL_law 79 = .ok (.bipush 18, 2) := by decide +kernel
theorem dL_law_81 : decode cL_law 81 = .ok (.if_icmp .ge 155, 3) := by decide +kernel
theorem dL_law_84 : decode cL_law 84 = .ok (.aload_n 0, 1) := by decide +kernel
theorem dL_law_85 : decode cL_law 85 = .ok (.iload_n 3, 1) := by decide +kernel
theorem dL_law_86 : decode cL_law 86 = .ok (.invokestatic 84, 3) := by decide +kernel
theorem dL_law_89 : decode cL_law 89 = .ok (.istore 4, 2) := by decide +kernel
theorem dL_law_91 : decode cL_law 91 = .ok (.aload_n 1, 1) := by decide +kernel
theorem dL_law_92 : decode cL_law 92 = .ok (.invokestatic 76, 3) := by decide +kernel
theorem dL_law_95 : decode cL_law 95 = .ok (.lstore 5, 2) := by decide +kernel
theorem dL_law_97 : decode cL_law 97 = .ok (.aload_n 1, 1) := by decide +kernel
theorem dL_law_98 : decode cL_law 98 = .ok (.bipush 11, 2) := by decide +kernel
theorem dL_law_100 : decode cL_law 100 = .ok (.invokevirtual 12, 3) := by decide +kernel
theorem dL_law_103 : decode cL_law 103 = .ok (.istore 7, 2) := by decide +kernel
theorem dL_law_105 : decode cL_law 105 = .ok (.aload_n 1, 1) := by decide +kernel
theorem dL_law_106 : decode cL_law 106 = .ok (.bipush 6, 2) := by decide +kernel
theorem dL_law_108 : decode cL_law 108 = .ok (.invokevirtual 12, 3) := by decide +kernel
theorem dL_law_111 : decode cL_law 111 = .ok (.istore 8, 2) := by decide +kernel
theorem dL_law_113 : decode cL_law 113 = .ok (.aload_n 1, 1) := by decide +kernel
theorem dL_law_114 : decode cL_law 114 = .ok (.bipush 12, 2) := by decide +kernel
theorem dL_law_116 : decode cL_law 116 = .ok (.invokevirtual 12, 3) := by decide +kernel
theorem dL_law_119 : decode cL_law 119 = .ok (.istore 9, 2) := by decide +kernel
theorem dL_law_121 : decode cL_law 121 = .ok (.aload_n 1, 1) := by decide +kernel
theorem dL_law_122 : decode cL_law 122 = .ok (.invokevirtual 91, 3) := by decide +kernel
theorem dL_law_125 : decode cL_law 125 = .ok (.pop, 1) := by decide +kernel
theorem dL_law_126 : decode cL_law 126 = .ok (.aload_n 1, 1) := by decide +kernel
theorem dL_law_127 : decode cL_law 127 = .ok (.iload 4, 2) := by decide +kernel
theorem dL_law_129 : decode cL_law 129 = .ok (.invokestatic 94, 3) := by decide +kernel
theorem dL_law_132 : decode cL_law 132 = .ok (.istore 10, 2) := by decide +kernel
theorem dL_law_134 : decode cL_law 134 = .ok (.aload_n 1, 1) := by decide +kernel
theorem dL_law_135 : decode cL_law 135 = .ok (.iload 4, 2) := by decide +kernel
theorem dL_law_137 : decode cL_law 137 = .ok (.iload 10, 2) := by decide +kernel
theorem dL_law_139 : decode cL_law 139 = .ok (.iload 7, 2) := by decide +kernel
theorem dL_law_141 : decode cL_law 141 = .ok (.iload 8, 2) := by decide +kernel
theorem dL_law_143 : decode cL_law 143 = .ok (.iload 9, 2) := by decide +kernel
theorem dL_law_145 : decode cL_law 145 = .ok (.invokestatic 98, 3) := by decide +kernel
theorem dL_law_148 : decode cL_law 148 = .ok (.ifCond .eq 18, 3) := by decide +kernel
theorem dL_law_151 : decode cL_law 151 = .ok (.iload 10, 2) := by decide +kernel
theorem dL_law_153 : decode cL_law 153 = .ok (.ifCond .ge 15, 3) := by decide +kernel
theorem dL_law_156 : decode cL_law 156 = .ok (.aload_n 1, 1) := by decide +kernel
theorem dL_law_157 : decode cL_law 157 = .ok (.invokestatic 76, 3) := by decide +kernel
theorem dL_law_160 : decode cL_law 160 = .ok (.lload 5, 2) := by decide +kernel
theorem dL_law_162 : decode cL_law 162 = .ok (.lcmp, 1) := by decide +kernel
theorem dL_law_163 : decode cL_law 163 = .ok (.ifCond .eq 5, 3) := by decide +kernel
theorem dL_law_166 : decode cL_law 166 = .ok (.iconst 0, 1) := by decide +kernel
theorem dL_law_167 : decode cL_law 167 = .ok (.ireturn, 1) := by decide +kernel
theorem dL_law_168 : decode cL_law 168 = .ok (.iload 10, 2) := by decide +kernel
theorem dL_law_170 : decode cL_law 170 = .ok (.ifCond .lt 45, 3) := by decide +kernel
theorem dL_law_173 : decode cL_law 173 = .ok (.iload_n 3, 1) := by decide +kernel
theorem dL_law_174 : decode cL_law 174 = .ok (.iconst 3, 1) := by decide +kernel
theorem dL_law_175 : decode cL_law 175 = .ok (.iand, 1) := by decide +kernel
theorem dL_law_176 : decode cL_law 176 = .ok (.iconst 1, 1) := by decide +kernel
theorem dL_law_177 : decode cL_law 177 = .ok (.if_icmp .ne 38, 3) := by decide +kernel
theorem dL_law_180 : decode cL_law 180 = .ok (.aload_n 1, 1) := by decide +kernel
theorem dL_law_181 : decode cL_law 181 = .ok (.invokevirtual 80, 3) := by decide +kernel
theorem dL_law_184 : decode cL_law 184 = .ok (.pop, 1) := by decide +kernel
theorem dL_law_185 : decode cL_law 185 = .ok (.aload_n 1, 1) := by decide +kernel
theorem dL_law_186 : decode cL_law 186 = .ok (.invokestatic 76, 3) := by decide +kernel
theorem dL_law_189 : decode cL_law 189 = .ok (.lload 5, 2) := by decide +kernel
theorem dL_law_191 : decode cL_law 191 = .ok (.lcmp, 1) := by decide +kernel
theorem dL_law_192 : decode cL_law 192 = .ok (.ifCond .eq 5, 3) := by decide +kernel
theorem dL_law_195 : decode cL_law 195 = .ok (.iconst 0, 1) := by decide +kernel
theorem dL_law_196 : decode cL_law 196 = .ok (.ireturn, 1) := by decide +kernel
theorem dL_law_197 : decode cL_law 197 = .ok (.aload_n 1, 1) := by decide +kernel
theorem dL_law_198 : decode cL_law 198 = .ok (.invokevirtual 91, 3) := by decide +kernel
theorem dL_law_201 : decode cL_law 201 = .ok (.pop, 1) := by decide +kernel
theorem dL_law_202 : decode cL_law 202 = .ok (.aload_n 1, 1) := by decide +kernel
theorem dL_law_203 : decode cL_law 203 = .ok (.iload 4, 2) := by decide +kernel
theorem dL_law_205 : decode cL_law 205 = .ok (.invokestatic 94, 3) := by decide +kernel
theorem dL_law_208 : decode cL_law 208 = .ok (.iload 10, 2) := by decide +kernel
theorem dL_law_210 : decode cL_law 210 = .ok (.if_icmp .eq 5, 3) := by decide +kernel
theorem dL_law_213 : decode cL_law 213 = .ok (.iconst 0, 1) := by decide +kernel
theorem dL_law_214 : decode cL_law 214 = .ok (.ireturn, 1) := by decide +kernel
theorem dL_law_215 : decode cL_law 215 = .ok (.iload_n 3, 1) := by decide +kernel
theorem dL_law_216 : decode cL_law 216 = .ok (.iconst 1, 1) := by decide +kernel
theorem dL_law_217 : decode cL_law 217 = .ok (.iand, 1) := by decide +kernel
theorem dL_law_218 : decode cL_law 218 = .ok (.ifCond .ne 12, 3) := by decide +kernel
theorem dL_law_221 : decode cL_law 221 = .ok (.aload_n 1, 1) := by decide +kernel
theorem dL_law_222 : decode cL_law 222 = .ok (.invokestatic 102, 3) := by decide +kernel
theorem dL_law_225 : decode cL_law 225 = .ok (.ifCond .ne 5, 3) := by decide +kernel
theorem dL_law_228 : decode cL_law 228 = .ok (.iconst 0, 1) := by decide +kernel
theorem dL_law_229 : decode cL_law 229 = .ok (.ireturn, 1) := by decide +kernel
theorem dL_law_230 : decode cL_law 230 = .ok (.iinc 3 1, 3) := by decide +kernel
theorem dL_law_233 : decode cL_law 233 = .ok (.goto (-155), 3) := by decide +kernel
theorem dL_law_236 : decode cL_law 236 = .ok (.aload_n 1, 1) := by decide +kernel
theorem dL_law_237 : decode cL_law 237 = .ok (.invokevirtual 91, 3) := by decide +kernel
theorem dL_law_240 : decode cL_law 240 = .ok (.pop, 1) := by decide +kernel
theorem dL_law_241 : decode cL_law 241 = .ok (.aload_n 1, 1) := by decide +kernel
theorem dL_law_242 : decode cL_law 242 = .ok (.invokestatic 76, 3) := by decide +kernel
theorem dL_law_245 : decode cL_law 245 = .ok (.lstore_n 3, 1) := by decide +kernel
theorem dL_law_246 : decode cL_law 246 = .ok (.aload_n 1, 1) := by decide +kernel
theorem dL_law_247 : decode cL_law 247 = .ok (.bipush 9, 2) := by decide +kernel
theorem dL_law_249 : decode cL_law 249 = .ok (.iconst 5, 1) := by decide +kernel
theorem dL_law_250 : decode cL_law 250 = .ok (.invokevirtual 38, 3) := by decide +kernel
theorem dL_law_253 : decode cL_law 253 = .ok (.iconst (-1), 1) := by decide +kernel
theorem dL_law_254 : decode cL_law 254 = .ok (.if_icmp .ne 83, 3) := by decide +kernel
theorem dL_law_257 : decode cL_law 257 = .ok (.aload_n 1, 1) := by decide +kernel
theorem dL_law_258 : decode cL_law 258 = .ok (.bipush 7, 2) := by decide +kernel
theorem dL_law_260 : decode cL_law 260 = .ok (.invokevirtual 88, 3) := by decide +kernel
theorem dL_law_263 : decode cL_law 263 = .ok (.iconst (-1), 1) := by decide +kernel
theorem dL_law_264 : decode cL_law 264 = .ok (.if_icmp .ne 73, 3) := by decide +kernel
theorem dL_law_267 : decode cL_law 267 = .ok (.aload_n 1, 1) := by decide +kernel
theorem dL_law_268 : decode cL_law 268 = .ok (.bipush 65, 2) := by decide +kernel
theorem dL_law_270 : decode cL_law 270 = .ok (.invokevirtual 41, 3) := by decide +kernel
theorem dL_law_273 : decode cL_law 273 = .ok (.iconst (-1), 1) := by decide +kernel
theorem dL_law_274 : decode cL_law 274 = .ok (.if_icmp .ne 63, 3) := by decide +kernel
theorem dL_law_277 : decode cL_law 277 = .ok (.aload_n 1, 1) := by decide +kernel
theorem dL_law_278 : decode cL_law 278 = .ok (.iconst 0, 1) := by decide +kernel
theorem dL_law_279 : decode cL_law 279 = .ok (.invokevirtual 67, 3) := by decide +kernel
theorem dL_law_282 : decode cL_law 282 = .ok (.iconst (-1), 1) := by decide +kernel
theorem dL_law_283 : decode cL_law 283 = .ok (.if_icmp .ne 54, 3) := by decide +kernel
theorem dL_law_286 : decode cL_law 286 = .ok (.aload_n 1, 1) := by decide +kernel
theorem dL_law_287 : decode cL_law 287 = .ok (.iconst 2, 1) := by decide +kernel
theorem dL_law_288 : decode cL_law 288 = .ok (.iconst 1, 1) := by decide +kernel
theorem dL_law_289 : decode cL_law 289 = .ok (.iconst 1, 1) := by decide +kernel
theorem dL_law_290 : decode cL_law 290 = .ok (.iconst 1, 1) := by decide +kernel
theorem dL_law_291 : decode cL_law 291 = .ok (.iconst 0, 1) := by decide +kernel
theorem dL_law_292 : decode cL_law 292 = .ok (.invokevirtual 44, 3) := by decide +kernel
theorem dL_law_295 : decode cL_law 295 = .ok (.iconst (-1), 1) := by decide +kernel
theorem dL_law_296 : decode cL_law 296 = .ok (.if_icmp .ne 41, 3) := by decide +kernel
theorem dL_law_299 : decode cL_law 299 = .ok (.aload_n 1, 1) := by decide +kernel
theorem dL_law_300 : decode cL_law 300 = .ok (.bipush 20, 2) := by decide +kernel
theorem dL_law_302 : decode cL_law 302 = .ok (.iconst 0, 1) := by decide +kernel
theorem dL_law_303 : decode cL_law 303 = .ok (.invokevirtual 18, 3) := by decide +kernel
theorem dL_law_306 : decode cL_law 306 = .ok (.iconst (-1), 1) := by decide +kernel
theorem dL_law_307 : decode cL_law 307 = .ok (.if_icmp .ne 30, 3) := by decide +kernel
theorem dL_law_310 : decode cL_law 310 = .ok (.aload_n 1, 1) := by decide +kernel
theorem dL_law_311 : decode cL_law 311 = .ok (.bipush 10, 2) := by decide +kernel
theorem dL_law_313 : decode cL_law 313 = .ok (.invokevirtual 73, 3) := by decide +kernel
theorem dL_law_316 : decode cL_law 316 = .ok (.iconst (-1), 1) := by decide +kernel
theorem dL_law_317 : decode cL_law 317 = .ok (.if_icmp .ne 20, 3) := by decide +kernel
theorem dL_law_320 : decode cL_law 320 = .ok (.aload_n 1, 1) := by decide +kernel
theorem dL_law_321 : decode cL_law 321 = .ok (.iconst 1, 1) := by decide +kernel
theorem dL_law_322 : decode cL_law 322 = .ok (.invokevirtual 106, 3) := by decide +kernel
theorem dL_law_325 : decode cL_law 325 = .ok (.ifCond .ne 12, 3) := by decide +kernel
theorem dL_law_328 : decode cL_law 328 = .ok (.aload_n 1, 1) := by decide +kernel
theorem dL_law_329 : decode cL_law 329 = .ok (.invokestatic 76, 3) := by decide +kernel
theorem dL_law_332 : decode cL_law 332 = .ok (.lload_n 3, 1) := by decide +kernel
theorem dL_law_333 : decode cL_law 333 = .ok (.lcmp, 1) := by decide +kernel
theorem dL_law_334 : decode cL_law 334 = .ok (.ifCond .eq 5, 3) := by decide +kernel
theorem dL_law_337 : decode cL_law 337 = .ok (.iconst 0, 1) := by decide +kernel
theorem dL_law_338 : decode cL_law 338 = .ok (.ireturn, 1) := by decide +kernel
theorem dL_law_339 : decode cL_law 339 = .ok (.aload_n 1, 1) := by decide +kernel
theorem dL_law_340 : decode cL_law 340 = .ok (.invokestatic 102, 3) := by decide +kernel
theorem dL_law_343 : decode cL_law 343 = .ok (.ifCond .eq 14, 3) := by decide +kernel
theorem dL_law_346 : decode cL_law 346 = .ok (.aload_n 1, 1) := by decide +kernel
theorem dL_law_347 : decode cL_law 347 = .ok (.invokestatic 109, 3) := by decide +kernel
theorem dL_law_350 : decode cL_law 350 = .ok (.ifCond .eq 7, 3) := by decide +kernel
theorem dL_law_353 : decode cL_law 353 = .ok (.iconst 1, 1) := by decide +kernel
theorem dL_law_354 : decode cL_law 354 = .ok (.goto 4, 3) := by decide +kernel
theorem dL_law_357 : decode cL_law 357 = .ok (.iconst 0, 1) := by decide +kernel
theorem dL_law_358 : decode cL_law 358 = .ok (.ireturn, 1) := by decide +kernel
