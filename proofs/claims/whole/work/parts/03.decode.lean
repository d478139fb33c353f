theorem dX0_init_0 : decode cX0_init 0 = .ok (.aload_n 0, 1) := by decide +kernel
theorem dX0_init_1 : decode cX0_init 1 = .ok (.invokespecial 3, 3) := by decide +kernel
theorem dX0_init_4 : decode cX0_init 4 = .ok (.aload_n 0, 1) := by decide +kernel
theorem dX0_init_5 : decode cX0_init 5 = .ok (.bipush 10, 2) := by decide +kernel
theorem dX0_init_7 : decode cX0_init 7 = .ok (.newarray .int, 2) := by decide +kernel
theorem dX0_init_9 : decode cX0_init 9 = .ok (.putfield 9, 3) := by decide +kernel
theorem dX0_init_12 : decode cX0_init 12 = .ok (.aload_n 0, 1) := by decide +kernel
theorem dX0_init_13 : decode cX0_init 13 = .ok (.aload_n 1, 1) := by decide +kernel
theorem dX0_init_14 : decode cX0_init 14 = .ok (.putfield 15, 3) := by decide +kernel
theorem dX0_init_17 : decode cX0_init 17 = .ok (.return_, 1) := by decide +kernel
theorem dX0_foresee_0 : decode cX0_foresee 0 = .ok (.aload_n 0, 1) := by decide +kernel
theorem dX0_foresee_1 : decode cX0_foresee 1 = .ok (.getfield 15, 3) := by decide +kernel
theorem dX0_foresee_4 : decode cX0_foresee 4 = .ok (.aload_n 1, 1) := by decide +kernel
theorem dX0_foresee_5 : decode cX0_foresee 5 = .ok (.invokevirtual 19, 3) := by decide +kernel
theorem dX0_foresee_8 : decode cX0_foresee 8 = .ok (.iconst 0, 1) := by decide +kernel
theorem dX0_foresee_9 : decode cX0_foresee 9 = .ok (.istore_n 3, 1) := by decide +kernel
theorem dX0_foresee_10 : decode cX0_foresee 10 = .ok (.iload_n 3, 1) := by decide +kernel
theorem dX0_foresee_11 : decode cX0_foresee 11 = .ok (.bipush 10, 2) := by decide +kernel
theorem dX0_foresee_13 : decode cX0_foresee 13 = .ok (.if_icmp .ge 30, 3) := by decide +kernel
theorem dX0_foresee_16 : decode cX0_foresee 16 = .ok (.aload_n 0, 1) := by decide +kernel
theorem dX0_foresee_17 : decode cX0_foresee 17 = .ok (.getfield 15, 3) := by decide +kernel
theorem dX0_foresee_20 : decode cX0_foresee 20 = .ok (.getfield 25, 3) := by decide +kernel
theorem dX0_foresee_23 : decode cX0_foresee 23 = .ok (.iload_n 3, 1) := by decide +kernel
theorem dX0_foresee_24 : decode cX0_foresee 24 = .ok (.aaload, 1) := by decide +kernel
theorem dX0_foresee_25 : decode cX0_foresee 25 = .ok (.iload_n 3, 1) := by decide +kernel
theorem dX0_foresee_26 : decode cX0_foresee 26 = .ok (.putfield 29, 3) := by decide +kernel
theorem dX0_foresee_29 : decode cX0_foresee 29 = .ok (.aload_n 0, 1) := by decide +kernel
theorem dX0_foresee_30 : decode cX0_foresee 30 = .ok (.getfield 9, 3) := by decide +kernel
theorem dX0_foresee_33 : decode cX0_foresee 33 = .ok (.iload_n 3, 1) := by decide +kernel
theorem dX0_foresee_34 : decode cX0_foresee 34 = .ok (.bipush (-9), 2) := by decide +kernel
theorem dX0_foresee_36 : decode cX0_foresee 36 = .ok (.iastore, 1) := by decide +kernel
theorem dX0_foresee_37 : decode cX0_foresee 37 = .ok (.iinc 3 1, 3) := by decide +kernel
theorem dX0_foresee_40 : decode cX0_foresee 40 = .ok (.goto (-30), 3) := by decide +kernel
theorem dX0_foresee_43 : decode cX0_foresee 43 = .ok (.aload_n 0, 1) := by decide +kernel
theorem dX0_foresee_44 : decode cX0_foresee 44 = .ok (.getfield 15, 3) := by decide +kernel
theorem dX0_foresee_47 : decode cX0_foresee 47 = .ok (.iload_n 2, 1) := by decide +kernel
theorem dX0_foresee_48 : decode cX0_foresee 48 = .ok (.invokevirtual 35, 3) := by decide +kernel
theorem dX0_foresee_51 : decode cX0_foresee 51 = .ok (.ifCond .eq 12, 3) := by decide +kernel
theorem dX0_foresee_54 : decode cX0_foresee 54 = .ok (.aload_n 0, 1) := by decide +kernel
theorem dX0_foresee_55 : decode cX0_foresee 55 = .ok (.getfield 15, 3) := by decide +kernel
theorem dX0_foresee_58 : decode cX0_foresee 58 = .ok (.iload_n 2, 1) := by decide +kernel
theorem dX0_foresee_59 : decode cX0_foresee 59 = .ok (.invokevirtual 39, 3) := by decide +kernel
theorem dX0_foresee_62 : decode cX0_foresee 62 = .ok (.pop, 1) := by decide +kernel
theorem dX0_foresee_63 : decode cX0_foresee 63 = .ok (.iconst 0, 1) := by decide +kernel
theorem dX0_foresee_64 : decode cX0_foresee 64 = .ok (.istore_n 3, 1) := by decide +kernel
theorem dX0_foresee_65 : decode cX0_foresee 65 = .ok (.iconst 0, 1) := by decide +kernel
theorem dX0_foresee_66 : decode cX0_foresee 66 = .ok (.istore 4, 2) := by decide +kernel
theorem dX0_foresee_68 : decode cX0_foresee 68 = .ok (.iload 4, 2) := by decide +kernel
theorem dX0_foresee_70 : decode cX0_foresee 70 = .ok (.bipush 10, 2) := by decide +kernel
theorem dX0_foresee_72 : decode cX0_foresee 72 = .ok (.if_icmp .ge 60, 3) := by decide +kernel
theorem dX0_foresee_75 : decode cX0_foresee 75 = .ok (.aload_n 0, 1) := by decide +kernel
theorem dX0_foresee_76 : decode cX0_foresee 76 = .ok (.getfield 15, 3) := by decide +kernel
theorem dX0_foresee_79 : decode cX0_foresee 79 = .ok (.invokevirtual 43, 3) := by decide +kernel
theorem dX0_foresee_82 : decode cX0_foresee 82 = .ok (.ifCond .eq 50, 3) := by decide +kernel
theorem dX0_foresee_85 : decode cX0_foresee 85 = .ok (.iload_n 3, 1) := by decide +kernel
theorem dX0_foresee_86 : decode cX0_foresee 86 = .ok (.aload_n 0, 1) := by decide +kernel
theorem dX0_foresee_87 : decode cX0_foresee 87 = .ok (.getfield 15, 3) := by decide +kernel
theorem dX0_foresee_90 : decode cX0_foresee 90 = .ok (.getfield 47, 3) := by decide +kernel
theorem dX0_foresee_93 : decode cX0_foresee 93 = .ok (.iadd, 1) := by decide +kernel
theorem dX0_foresee_94 : decode cX0_foresee 94 = .ok (.istore_n 3, 1) := by decide +kernel
theorem dX0_foresee_95 : decode cX0_foresee 95 = .ok (.aload_n 0, 1) := by decide +kernel
theorem dX0_foresee_96 : decode cX0_foresee 96 = .ok (.getfield 9, 3) := by decide +kernel
theorem dX0_foresee_99 : decode cX0_foresee 99 = .ok (.aload_n 0, 1) := by decide +kernel
theorem dX0_foresee_100 : decode cX0_foresee 100 = .ok (.getfield 15, 3) := by decide +kernel
theorem dX0_foresee_103 : decode cX0_foresee 103 = .ok (.getfield 25, 3) := by decide +kernel
theorem dX0_foresee_106 : decode cX0_foresee 106 = .ok (.aload_n 0, 1) := by decide +kernel
theorem dX0_foresee_107 : decode cX0_foresee 107 = .ok (.getfield 15, 3) := by decide +kernel
theorem dX0_foresee_110 : decode cX0_foresee 110 = .ok (.getfield 50, 3) := by decide +kernel
theorem dX0_foresee_113 : decode cX0_foresee 113 = .ok (.aaload, 1) := by decide +kernel
theorem dX0_foresee_114 : decode cX0_foresee 114 = .ok (.getfield 29, 3) := by decide +kernel
theorem dX0_foresee_117 : decode cX0_foresee 117 = .ok (.iload_n 3, 1) := by decide +kernel
theorem dX0_foresee_118 : decode cX0_foresee 118 = .ok (.iastore, 1) := by decide +kernel
theorem dX0_foresee_119 : decode cX0_foresee 119 = .ok (.aload_n 0, 1) := by decide +kernel
theorem dX0_foresee_120 : decode cX0_foresee 120 = .ok (.getfield 15, 3) := by decide +kernel
theorem dX0_foresee_123 : decode cX0_foresee 123 = .ok (.invokevirtual 53, 3) := by decide +kernel
theorem dX0_foresee_126 : decode cX0_foresee 126 = .ok (.iinc 4 1, 3) := by decide +kernel
theorem dX0_foresee_129 : decode cX0_foresee 129 = .ok (.goto (-61), 3) := by decide +kernel
theorem dX0_foresee_132 : decode cX0_foresee 132 = .ok (.return_, 1) := by decide +kernel
theorem dX1_init_0 : decode cX1_init 0 = .ok (.aload_n 0, 1) := by decide +kernel
theorem dX1_init_1 : decode cX1_init 1 = .ok (.invokespecial 3, 3) := by decide +kernel
theorem dX1_init_4 : decode cX1_init 4 = .ok (.aload_n 0, 1) := by decide +kernel
theorem dX1_init_5 : decode cX1_init 5 = .ok (.iconst 5, 1) := by decide +kernel
theorem dX1_init_6 : decode cX1_init 6 = .ok (.anewarray 9, 3) := by decide +kernel
theorem dX1_init_9 : decode cX1_init 9 = .ok (.putfield 11, 3) := by decide +kernel
theorem dX1_init_12 : decode cX1_init 12 = .ok (.iconst 0, 1) := by decide +kernel
theorem dX1_init_13 : decode cX1_init 13 = .ok (.istore_n 1, 1) := by decide +kernel
theorem dX1_init_14 : decode cX1_init 14 = .ok (.iload_n 1, 1) := by decide +kernel
theorem dX1_init_15 : decode cX1_init 15 = .ok (.iconst 5, 1) := by decide +kernel
theorem dX1_init_16 : decode cX1_init 16 = .ok (.if_icmp .ge 22, 3) := by decide +kernel
theorem dX1_init_19 : decode cX1_init 19 = .ok (.aload_n 0, 1) := by decide +kernel
theorem dX1_init_20 : decode cX1_init 20 = .ok (.getfield 11, 3) := by decide +kernel
theorem dX1_init_23 : decode cX1_init 23 = .ok (.iload_n 1, 1) := by decide +kernel
theorem dX1_init_24 : decode cX1_init 24 = .ok (.new 9, 3) := by decide +kernel
theorem dX1_init_27 : decode cX1_init 27 = .ok (.dup, 1) := by decide +kernel
theorem dX1_init_28 : decode cX1_init 28 = .ok (.invokespecial 17, 3) := by decide +kernel
theorem dX1_init_31 : decode cX1_init 31 = .ok (.aastore, 1) := by decide +kernel
theorem dX1_init_32 : decode cX1_init 32 = .ok (.iinc 1 1, 3) := by decide +kernel
theorem dX1_init_35 : decode cX1_init 35 = .ok (.goto (-21), 3) := by decide +kernel
theorem dX1_init_38 : decode cX1_init 38 = .ok (.return_, 1) := by decide +kernel
theorem dX1_record_0 : decode cX1_record 0 = .ok (.aload_n 0, 1) := by decide +kernel
theorem dX1_record_1 : decode cX1_record 1 = .ok (.getfield 18, 3) := by decide +kernel
theorem dX1_record_4 : decode cX1_record 4 = .ok (.iconst 5, 1) := by decide +kernel
theorem dX1_record_5 : decode cX1_record 5 = .ok (.if_icmp .lt 7, 3) := by decide +kernel
theorem dX1_record_8 : decode cX1_record 8 = .ok (.aload_n 0, 1) := by decide +kernel
theorem dX1_record_9 : decode cX1_record 9 = .ok (.invokevirtual 22, 3) := by decide +kernel
theorem dX1_record_12 : decode cX1_record 12 = .ok (.aload_n 0, 1) := by decide +kernel
theorem dX1_record_13 : decode cX1_record 13 = .ok (.getfield 11, 3) := by decide +kernel
theorem dX1_record_16 : decode cX1_record 16 = .ok (.aload_n 0, 1) := by decide +kernel
theorem dX1_record_17 : decode cX1_record 17 = .ok (.getfield 18, 3) := by decide +kernel
theorem dX1_record_20 : decode cX1_record 20 = .ok (.aaload, 1) := by decide +kernel
theorem dX1_record_21 : decode cX1_record 21 = .ok (.aload_n 1, 1) := by decide +kernel
theorem dX1_record_22 : decode cX1_record 22 = .ok (.invokevirtual 25, 3) := by decide +kernel
theorem dX1_record_25 : decode cX1_record 25 = .ok (.aload_n 0, 1) := by decide +kernel
theorem dX1_record_26 : decode cX1_record 26 = .ok (.dup, 1) := by decide +kernel
theorem dX1_record_27 : decode cX1_record 27 = .ok (.getfield 18, 3) := by decide +kernel
theorem dX1_record_30 : decode cX1_record 30 = .ok (.iconst 1, 1) := by decide +kernel
theorem dX1_record_31 : decode cX1_record 31 = .ok (.iadd, 1) := by decide +kernel
theorem dX1_record_32 : decode cX1_record 32 = .ok (.putfield 18, 3) := by decide +kernel
theorem dX1_record_35 : decode cX1_record 35 = .ok (.return_, 1) := by decide +kernel
theorem dX1_dropOldest_0 : decode cX1_dropOldest 0 = .ok (.aload_n 0, 1) := by decide +kernel
theorem dX1_dropOldest_1 : decode cX1_dropOldest 1 = .ok (.getfield 11, 3) := by decide +kernel
theorem dX1_dropOldest_4 : decode cX1_dropOldest 4 = .ok (.iconst 0, 1) := by decide +kernel
theorem dX1_dropOldest_5 : decode cX1_dropOldest 5 = .ok (.aaload, 1) := by decide +kernel
theorem dX1_dropOldest_6 : decode cX1_dropOldest 6 = .ok (.astore_n 1, 1) := by decide +kernel
theorem dX1_dropOldest_7 : decode cX1_dropOldest 7 = .ok (.iconst 1, 1) := by decide +kernel
theorem dX1_dropOldest_8 : decode cX1_dropOldest 8 = .ok (.istore_n 2, 1) := by decide +kernel
theorem dX1_dropOldest_9 : decode cX1_dropOldest 9 = .ok (.iload_n 2, 1) := by decide +kernel
theorem dX1_dropOldest_10 : decode cX1_dropOldest 10 = .ok (.iconst 5, 1) := by decide +kernel
theorem dX1_dropOldest_11 : decode cX1_dropOldest 11 = .ok (.if_icmp .ge 23, 3) := by decide +kernel
theorem dX1_dropOldest_14 : decode cX1_dropOldest 14 = .ok (.aload_n 0, 1) := by decide +kernel
theorem dX1_dropOldest_15 : decode cX1_dropOldest 15 = .ok (.getfield 11, 3) := by decide +kernel
theorem dX1_dropOldest_18 : decode cX1_dropOldest 18 = .ok (.iload_n 2, 1) := by decide +kernel
theorem dX1_dropOldest_19 : decode cX1_dropOldest 19 = .ok (.iconst 1, 1) := by decide +kernel
theorem dX1_dropOldest_20 : decode cX1_dropOldest 20 = .ok (.isub, 1) := by decide +kernel
theorem dX1_dropOldest_21 : decode cX1_dropOldest 21 = .ok (.aload_n 0, 1) := by decide +kernel
theorem dX1_dropOldest_22 : decode cX1_dropOldest 22 = .ok (.getfield 11, 3) := by decide +kernel
theorem dX1_dropOldest_25 : decode cX1_dropOldest 25 = .ok (.iload_n 2, 1) := by decide +kernel
theorem dX1_dropOldest_26 : decode cX1_dropOldest 26 = .ok (.aaload, 1) := by decide +kernel
theorem dX1_dropOldest_27 : decode cX1_dropOldest 27 = .ok (.aastore, 1) := by decide +kernel
theorem dX1_dropOldest_28 : decode cX1_dropOldest 28 = .ok (.iinc 2 1, 3) := by decide +kernel
theorem dX1_dropOldest_31 : decode cX1_dropOldest 31 = .ok (.goto (-22), 3) := by decide +kernel
theorem dX1_dropOldest_34 : decode cX1_dropOldest 34 = .ok (.aload_n 0, 1) := by decide +kernel
theorem dX1_dropOldest_35 : decode cX1_dropOldest 35 = .ok (.getfield 11, 3) := by decide +kernel
theorem dX1_dropOldest_38 : decode cX1_dropOldest 38 = .ok (.iconst 4, 1) := by decide +kernel
theorem dX1_dropOldest_39 : decode cX1_dropOldest 39 = .ok (.aload_n 1, 1) := by decide +kernel
theorem dX1_dropOldest_40 : decode cX1_dropOldest 40 = .ok (.aastore, 1) := by decide +kernel
theorem dX1_dropOldest_41 : decode cX1_dropOldest 41 = .ok (.aload_n 0, 1) := by decide +kernel
theorem dX1_dropOldest_42 : decode cX1_dropOldest 42 = .ok (.dup, 1) := by decide +kernel
theorem dX1_dropOldest_43 : decode cX1_dropOldest 43 = .ok (.getfield 18, 3) := by decide +kernel
theorem dX1_dropOldest_46 : decode cX1_dropOldest 46 = .ok (.iconst 1, 1) := by decide +kernel
theorem dX1_dropOldest_47 : decode cX1_dropOldest 47 = .ok (.isub, 1) := by decide +kernel
theorem dX1_dropOldest_48 : decode cX1_dropOldest 48 = .ok (.putfield 18, 3) := by decide +kernel
theorem dX1_dropOldest_51 : decode cX1_dropOldest 51 = .ok (.return_, 1) := by decide +kernel
theorem dX1_restoreLatest_0 : decode cX1_restoreLatest 0 = .ok (.aload_n 0, 1) := by decide +kernel
theorem dX1_restoreLatest_1 : decode cX1_restoreLatest 1 = .ok (.getfield 18, 3) := by decide +kernel
theorem dX1_restoreLatest_4 : decode cX1_restoreLatest 4 = .ok (.ifCond .le 26, 3) := by decide +kernel
theorem dX1_restoreLatest_7 : decode cX1_restoreLatest 7 = .ok (.aload_n 0, 1) := by decide +kernel
theorem dX1_restoreLatest_8 : decode cX1_restoreLatest 8 = .ok (.dup, 1) := by decide +kernel
theorem dX1_restoreLatest_9 : decode cX1_restoreLatest 9 = .ok (.getfield 18, 3) := by decide +kernel
theorem dX1_restoreLatest_12 : decode cX1_restoreLatest 12 = .ok (.iconst 1, 1) := by decide +kernel
theorem dX1_restoreLatest_13 : decode cX1_restoreLatest 13 = .ok (.isub, 1) := by decide +kernel
theorem dX1_restoreLatest_14 : decode cX1_restoreLatest 14 = .ok (.putfield 18, 3) := by decide +kernel
theorem dX1_restoreLatest_17 : decode cX1_restoreLatest 17 = .ok (.aload_n 1, 1) := by decide +kernel
theorem dX1_restoreLatest_18 : decode cX1_restoreLatest 18 = .ok (.aload_n 0, 1) := by decide +kernel
theorem dX1_restoreLatest_19 : decode cX1_restoreLatest 19 = .ok (.getfield 11, 3) := by decide +kernel
theorem dX1_restoreLatest_22 : decode cX1_restoreLatest 22 = .ok (.aload_n 0, 1) := by decide +kernel
theorem dX1_restoreLatest_23 : decode cX1_restoreLatest 23 = .ok (.getfield 18, 3) := by decide +kernel
theorem dX1_restoreLatest_26 : decode cX1_restoreLatest 26 = .ok (.aaload, 1) := by decide +kernel
theorem dX1_restoreLatest_27 : decode cX1_restoreLatest 27 = .ok (.invokevirtual 25, 3) := by decide +kernel
theorem dX1_restoreLatest_30 : decode cX1_restoreLatest 30 = .ok (.return_, 1) := by decide +kernel
theorem dX2_init_0 : decode cX2_init 0 = .ok (.aload_n 0, 1) := by decide +kernel
theorem dX2_init_1 : decode cX2_init 1 = .ok (.invokespecial 3, 3) := by decide +kernel
theorem dX2_init_4 : decode cX2_init 4 = .ok (.aload_n 0, 1) := by decide +kernel
theorem dX2_init_5 : decode cX2_init 5 = .ok (.bipush 12, 2) := by decide +kernel
theorem dX2_init_7 : decode cX2_init 7 = .ok (.newarray .int, 2) := by decide +kernel
theorem dX2_init_9 : decode cX2_init 9 = .ok (.putfield 9, 3) := by decide +kernel
theorem dX2_init_12 : decode cX2_init 12 = .ok (.return_, 1) := by decide +kernel
theorem dX2_add_0 : decode cX2_add 0 = .ok (.aload_n 0, 1) := by decide +kernel
theorem dX2_add_1 : decode cX2_add 1 = .ok (.getfield 15, 3) := by decide +kernel
theorem dX2_add_4 : decode cX2_add 4 = .ok (.bipush 12, 2) := by decide +kernel
theorem dX2_add_6 : decode cX2_add 6 = .ok (.if_icmp .ge 23, 3) := by decide +kernel
theorem dX2_add_9 : decode cX2_add 9 = .ok (.aload_n 0, 1) := by decide +kernel
theorem dX2_add_10 : decode cX2_add 10 = .ok (.getfield 9, 3) := by decide +kernel
theorem dX2_add_13 : decode cX2_add 13 = .ok (.aload_n 0, 1) := by decide +kernel
theorem dX2_add_14 : decode cX2_add 14 = .ok (.getfield 15, 3) := by decide +kernel
theorem dX2_add_17 : decode cX2_add 17 = .ok (.iload_n 1, 1) := by decide +kernel
theorem dX2_add_18 : decode cX2_add 18 = .ok (.iastore, 1) := by decide +kernel
theorem dX2_add_19 : decode cX2_add 19 = .ok (.aload_n 0, 1) := by decide +kernel
theorem dX2_add_20 : decode cX2_add 20 = .ok (.dup, 1) := by decide +kernel
theorem dX2_add_21 : decode cX2_add 21 = .ok (.getfield 15, 3) := by decide +kernel
theorem dX2_add_24 : decode cX2_add 24 = .ok (.iconst 1, 1) := by decide +kernel
theorem dX2_add_25 : decode cX2_add 25 = .ok (.iadd, 1) := by decide +kernel
theorem dX2_add_26 : decode cX2_add 26 = .ok (.putfield 15, 3) := by decide +kernel
theorem dX2_add_29 : decode cX2_add 29 = .ok (.return_, 1) := by decide +kernel
theorem dX2_copyFrom_0 : decode cX2_copyFrom 0 = .ok (.aload_n 0, 1) := by decide +kernel
theorem dX2_copyFrom_1 : decode cX2_copyFrom 1 = .ok (.aload_n 1, 1) := by decide +kernel
theorem dX2_copyFrom_2 : decode cX2_copyFrom 2 = .ok (.getfield 15, 3) := by decide +kernel
theorem dX2_copyFrom_5 : decode cX2_copyFrom 5 = .ok (.putfield 15, 3) := by decide +kernel
theorem dX2_copyFrom_8 : decode cX2_copyFrom 8 = .ok (.iconst 0, 1) := by decide +kernel
theorem dX2_copyFrom_9 : decode cX2_copyFrom 9 = .ok (.istore_n 2, 1) := by decide +kernel
theorem dX2_copyFrom_10 : decode cX2_copyFrom 10 = .ok (.iload_n 2, 1) := by decide +kernel
theorem dX2_copyFrom_11 : decode cX2_copyFrom 11 = .ok (.bipush 12, 2) := by decide +kernel
theorem dX2_copyFrom_13 : decode cX2_copyFrom 13 = .ok (.if_icmp .ge 21, 3) := by decide +kernel
theorem dX2_copyFrom_16 : decode cX2_copyFrom 16 = .ok (.aload_n 0, 1) := by decide +kernel
theorem dX2_copyFrom_17 : decode cX2_copyFrom 17 = .ok (.getfield 9, 3) := by decide +kernel
theorem dX2_copyFrom_20 : decode cX2_copyFrom 20 = .ok (.iload_n 2, 1) := by decide +kernel
theorem dX2_copyFrom_21 : decode cX2_copyFrom 21 = .ok (.aload_n 1, 1) := by decide +kernel
theorem dX2_copyFrom_22 : decode cX2_copyFrom 22 = .ok (.getfield 9, 3) := by decide +kernel
theorem dX2_copyFrom_25 : decode cX2_copyFrom 25 = .ok (.iload_n 2, 1) := by decide +kernel
theorem dX2_copyFrom_26 : decode cX2_copyFrom 26 = .ok (.iaload, 1) := by decide +kernel
theorem dX2_copyFrom_27 : decode cX2_copyFrom 27 = .ok (.iastore, 1) := by decide +kernel
theorem dX2_copyFrom_28 : decode cX2_copyFrom 28 = .ok (.iinc 2 1, 3) := by decide +kernel
theorem dX2_copyFrom_31 : decode cX2_copyFrom 31 = .ok (.goto (-21), 3) := by decide +kernel
theorem dX2_copyFrom_34 : decode cX2_copyFrom 34 = .ok (.return_, 1) := by decide +kernel
theorem dX2_lengthIn_0 : decode cX2_lengthIn 0 = .ok (.aload_n 0, 1) := by decide +kernel
theorem dX2_lengthIn_1 : decode cX2_lengthIn 1 = .ok (.getfield 15, 3) := by decide +kernel
theorem dX2_lengthIn_4 : decode cX2_lengthIn 4 = .ok (.ifCond .ne 5, 3) := by decide +kernel
theorem dX2_lengthIn_7 : decode cX2_lengthIn 7 = .ok (.iconst 0, 1) := by decide +kernel
theorem dX2_lengthIn_8 : decode cX2_lengthIn 8 = .ok (.ireturn, 1) := by decide +kernel
theorem dX2_lengthIn_9 : decode cX2_lengthIn 9 = .ok (.aload_n 0, 1) := by decide +kernel
theorem dX2_lengthIn_10 : decode cX2_lengthIn 10 = .ok (.getfield 15, 3) := by decide +kernel
theorem dX2_lengthIn_13 : decode cX2_lengthIn 13 = .ok (.iconst 1, 1) := by decide +kernel
theorem dX2_lengthIn_14 : decode cX2_lengthIn 14 = .ok (.isub, 1) := by decide +kernel
theorem dX2_lengthIn_15 : decode cX2_lengthIn 15 = .ok (.istore_n 2, 1) := by decide +kernel
theorem dX2_lengthIn_16 : decode cX2_lengthIn 16 = .ok (.iload_n 2, 1) := by decide +kernel
theorem dX2_lengthIn_17 : decode cX2_lengthIn 17 = .ok (.istore_n 3, 1) := by decide +kernel
theorem dX2_lengthIn_18 : decode cX2_lengthIn 18 = .ok (.iconst 0, 1) := by decide +kernel
theorem dX2_lengthIn_19 : decode cX2_lengthIn 19 = .ok (.istore 4, 2) := by decide +kernel
theorem dX2_lengthIn_21 : decode cX2_lengthIn 21 = .ok (.iload 4, 2) := by decide +kernel
theorem dX2_lengthIn_23 : decode cX2_lengthIn 23 = .ok (.aload_n 0, 1) := by decide +kernel
theorem dX2_lengthIn_24 : decode cX2_lengthIn 24 = .ok (.getfield 15, 3) := by decide +kernel
theorem dX2_lengthIn_27 : decode cX2_lengthIn 27 = .ok (.if_icmp .ge 22, 3) := by decide +kernel
theorem dX2_lengthIn_30 : decode cX2_lengthIn 30 = .ok (.iload_n 3, 1) := by decide +kernel
theorem dX2_lengthIn_31 : decode cX2_lengthIn 31 = .ok (.aload_n 0, 1) := by decide +kernel
theorem dX2_lengthIn_32 : decode cX2_lengthIn 32 = .ok (.getfield 9, 3) := by decide +kernel
theorem dX2_lengthIn_35 : decode cX2_lengthIn 35 = .ok (.iload 4, 2) := by decide +kernel
theorem dX2_lengthIn_37 : decode cX2_lengthIn 37 = .ok (.iaload, 1) := by decide +kernel
theorem dX2_lengthIn_38 : decode cX2_lengthIn 38 = .ok (.invokestatic 19, 3) := by decide +kernel
theorem dX2_lengthIn_41 : decode cX2_lengthIn 41 = .ok (.iadd, 1) := by decide +kernel
theorem dX2_lengthIn_42 : decode cX2_lengthIn 42 = .ok (.istore_n 3, 1) := by decide +kernel
theorem dX2_lengthIn_43 : decode cX2_lengthIn 43 = .ok (.iinc 4 1, 3) := by decide +kernel
theorem dX2_lengthIn_46 : decode cX2_lengthIn 46 = .ok (.goto (-25), 3) := by decide +kernel
theorem dX2_lengthIn_49 : decode cX2_lengthIn 49 = .ok (.iload_n 3, 1) := by decide +kernel
theorem dX2_lengthIn_50 : decode cX2_lengthIn 50 = .ok (.iload_n 1, 1) := by decide +kernel
theorem dX2_lengthIn_51 : decode cX2_lengthIn 51 = .ok (.imul, 1) := by decide +kernel
theorem dX2_lengthIn_52 : decode cX2_lengthIn 52 = .ok (.ireturn, 1) := by decide +kernel
theorem dX2_widthOf_0 : decode cX2_widthOf 0 = .ok (.iload_n 0, 1) := by decide +kernel
theorem dX2_widthOf_1 : decode cX2_widthOf 1 = .ok (.tableswitch 91 102 119 #[87, 91, 91, 87, 87, 91, 87, 89, 91, 91, 91, 91, 87, 91, 87, 91, 91, 89], 87) := by decide +kernel
theorem dX2_widthOf_88 : decode cX2_widthOf 88 = .ok (.iconst 2, 1) := by decide +kernel
theorem dX2_widthOf_89 : decode cX2_widthOf 89 = .ok (.ireturn, 1) := by decide +kernel
theorem dX2_widthOf_90 : decode cX2_widthOf 90 = .ok (.iconst 5, 1) := by decide +kernel
theorem dX2_widthOf_91 : decode cX2_widthOf 91 = .ok (.ireturn, 1) := by decide +kernel
theorem dX2_widthOf_92 : decode cX2_widthOf 92 = .ok (.iconst 4, 1) := by decide +kernel
theorem dX2_widthOf_93 : decode cX2_widthOf 93 = .ok (.ireturn, 1) := by decide +kernel
theorem dX3_init_0 : decode cX3_init 0 = .ok (.aload_n 0, 1) := by decide +kernel
theorem dX3_init_1 : decode cX3_init 1 = .ok (.invokespecial 1, 3) := by decide +kernel
theorem dX3_init_4 : decode cX3_init 4 = .ok (.aload_n 0, 1) := by decide +kernel
theorem dX3_init_5 : decode cX3_init 5 = .ok (.new 7, 3) := by decide +kernel
theorem dX3_init_8 : decode cX3_init 8 = .ok (.dup, 1) := by decide +kernel
theorem dX3_init_9 : decode cX3_init 9 = .ok (.invokespecial 9, 3) := by decide +kernel
theorem dX3_init_12 : decode cX3_init 12 = .ok (.putfield 10, 3) := by decide +kernel
theorem dX3_init_15 : decode cX3_init 15 = .ok (.return_, 1) := by decide +kernel
theorem dX3_copyFrom_0 : decode cX3_copyFrom 0 = .ok (.aload_n 0, 1) := by decide +kernel
theorem dX3_copyFrom_1 : decode cX3_copyFrom 1 = .ok (.getfield 10, 3) := by decide +kernel
theorem dX3_copyFrom_4 : decode cX3_copyFrom 4 = .ok (.aload_n 1, 1) := by decide +kernel
theorem dX3_copyFrom_5 : decode cX3_copyFrom 5 = .ok (.getfield 10, 3) := by decide +kernel
theorem dX3_copyFrom_8 : decode cX3_copyFrom 8 = .ok (.invokevirtual 16, 3) := by decide +kernel
theorem dX3_copyFrom_11 : decode cX3_copyFrom 11 = .ok (.aload_n 0, 1) := by decide +kernel
theorem dX3_copyFrom_12 : decode cX3_copyFrom 12 = .ok (.aload_n 1, 1) := by decide +kernel
theorem dX3_copyFrom_13 : decode cX3_copyFrom 13 = .ok (.getfield 20, 3) := by decide +kernel
theorem dX3_copyFrom_16 : decode cX3_copyFrom 16 = .ok (.putfield 20, 3) := by decide +kernel
theorem dX3_copyFrom_19 : decode cX3_copyFrom 19 = .ok (.aload_n 0, 1) := by decide +kernel
theorem dX3_copyFrom_20 : decode cX3_copyFrom 20 = .ok (.aload_n 1, 1) := by decide +kernel
theorem dX3_copyFrom_21 : decode cX3_copyFrom 21 = .ok (.getfield 24, 3) := by decide +kernel
theorem dX3_copyFrom_24 : decode cX3_copyFrom 24 = .ok (.putfield 24, 3) := by decide +kernel
theorem dX3_copyFrom_27 : decode cX3_copyFrom 27 = .ok (.aload_n 0, 1) := by decide +kernel
theorem dX3_copyFrom_28 : decode cX3_copyFrom 28 = .ok (.aload_n 1, 1) := by decide +kernel
theorem dX3_copyFrom_29 : decode cX3_copyFrom 29 = .ok (.getfield 27, 3) := by decide +kernel
theorem dX3_copyFrom_32 : decode cX3_copyFrom 32 = .ok (.putfield 27, 3) := by decide +kernel
theorem dX3_copyFrom_35 : decode cX3_copyFrom 35 = .ok (.aload_n 0, 1) := by decide +kernel
theorem dX3_copyFrom_36 : decode cX3_copyFrom 36 = .ok (.aload_n 1, 1) := by decide +kernel
theorem dX3_copyFrom_37 : decode cX3_copyFrom 37 = .ok (.getfield 30, 3) := by decide +kernel
theorem dX3_copyFrom_40 : decode cX3_copyFrom 40 = .ok (.putfield 30, 3) := by decide +kernel
theorem dX3_copyFrom_43 : decode cX3_copyFrom 43 = .ok (.aload_n 0, 1) := by decide +kernel
theorem dX3_copyFrom_44 : decode cX3_copyFrom 44 = .ok (.aload_n 1, 1) := by decide +kernel
theorem dX3_copyFrom_45 : decode cX3_copyFrom 45 = .ok (.getfield 33, 3) := by decide +kernel
theorem dX3_copyFrom_48 : decode cX3_copyFrom 48 = .ok (.putfield 33, 3) := by decide +kernel
theorem dX3_copyFrom_51 : decode cX3_copyFrom 51 = .ok (.return_, 1) := by decide +kernel
theorem dX3_nameLength_0 : decode cX3_nameLength 0 = .ok (.aload_n 0, 1) := by decide +kernel
theorem dX3_nameLength_1 : decode cX3_nameLength 1 = .ok (.getfield 10, 3) := by decide +kernel
theorem dX3_nameLength_4 : decode cX3_nameLength 4 = .ok (.aload_n 0, 1) := by decide +kernel
theorem dX3_nameLength_5 : decode cX3_nameLength 5 = .ok (.getfield 27, 3) := by decide +kernel
theorem dX3_nameLength_8 : decode cX3_nameLength 8 = .ok (.invokevirtual 37, 3) := by decide +kernel
theorem dX3_nameLength_11 : decode cX3_nameLength 11 = .ok (.ireturn, 1) := by decide +kernel
theorem dX3_effort_0 : decode cX3_effort 0 = .ok (.aload_n 0, 1) := by decide +kernel
theorem dX3_effort_1 : decode cX3_effort 1 = .ok (.getfield 10, 3) := by decide +kernel
theorem dX3_effort_4 : decode cX3_effort 4 = .ok (.getfield 41, 3) := by decide +kernel
theorem dX3_effort_7 : decode cX3_effort 7 = .ok (.aload_n 0, 1) := by decide +kernel
theorem dX3_effort_8 : decode cX3_effort 8 = .ok (.getfield 27, 3) := by decide +kernel
theorem dX3_effort_11 : decode cX3_effort 11 = .ok (.aload_n 0, 1) := by decide +kernel
theorem dX3_effort_12 : decode cX3_effort 12 = .ok (.getfield 30, 3) := by decide +kernel
theorem dX3_effort_15 : decode cX3_effort 15 = .ok (.iadd, 1) := by decide +kernel
theorem dX3_effort_16 : decode cX3_effort 16 = .ok (.imul, 1) := by decide +kernel
theorem dX3_effort_17 : decode cX3_effort 17 = .ok (.ireturn, 1) := by decide +kernel
theorem dX4_init_0 : decode cX4_init 0 = .ok (.aload_n 0, 1) := by decide +kernel
theorem dX4_init_1 : decode cX4_init 1 = .ok (.invokespecial 3, 3) := by decide +kernel
theorem dX4_init_4 : decode cX4_init 4 = .ok (.return_, 1) := by decide +kernel
theorem dX4_makeNew_0 : decode cX4_makeNew 0 = .ok (.aload_n 0, 1) := by decide +kernel
theorem dX4_makeNew_1 : decode cX4_makeNew 1 = .ok (.iload_n 1, 1) := by decide +kernel
theorem dX4_makeNew_2 : decode cX4_makeNew 2 = .ok (.putfield 9, 3) := by decide +kernel
theorem dX4_makeNew_5 : decode cX4_makeNew 5 = .ok (.aload_n 0, 1) := by decide +kernel
theorem dX4_makeNew_6 : decode cX4_makeNew 6 = .ok (.iload_n 2, 1) := by decide +kernel
theorem dX4_makeNew_7 : decode cX4_makeNew 7 = .ok (.putfield 15, 3) := by decide +kernel
theorem dX4_makeNew_10 : decode cX4_makeNew 10 = .ok (.aload_n 0, 1) := by decide +kernel
theorem dX4_makeNew_11 : decode cX4_makeNew 11 = .ok (.iconst 0, 1) := by decide +kernel
theorem dX4_makeNew_12 : decode cX4_makeNew 12 = .ok (.putfield 18, 3) := by decide +kernel
theorem dX4_makeNew_15 : decode cX4_makeNew 15 = .ok (.aload_n 0, 1) := by decide +kernel
theorem dX4_makeNew_16 : decode cX4_makeNew 16 = .ok (.iconst 0, 1) := by decide +kernel
theorem dX4_makeNew_17 : decode cX4_makeNew 17 = .ok (.putfield 21, 3) := by decide +kernel
theorem dX4_makeNew_20 : decode cX4_makeNew 20 = .ok (.aload_n 0, 1) := by decide +kernel
theorem dX4_makeNew_21 : decode cX4_makeNew 21 = .ok (.invokevirtual 24, 3) := by decide +kernel
theorem dX4_makeNew_24 : decode cX4_makeNew 24 = .ok (.return_, 1) := by decide +kernel
theorem dX4_copyFrom_0 : decode cX4_copyFrom 0 = .ok (.aload_n 0, 1) := by decide +kernel
theorem dX4_copyFrom_1 : decode cX4_copyFrom 1 = .ok (.aload_n 1, 1) := by decide +kernel
theorem dX4_copyFrom_2 : decode cX4_copyFrom 2 = .ok (.getfield 9, 3) := by decide +kernel
theorem dX4_copyFrom_5 : decode cX4_copyFrom 5 = .ok (.putfield 9, 3) := by decide +kernel
theorem dX4_copyFrom_8 : decode cX4_copyFrom 8 = .ok (.aload_n 0, 1) := by decide +kernel
theorem dX4_copyFrom_9 : decode cX4_copyFrom 9 = .ok (.aload_n 1, 1) := by decide +kernel
theorem dX4_copyFrom_10 : decode cX4_copyFrom 10 = .ok (.getfield 15, 3) := by decide +kernel
theorem dX4_copyFrom_13 : decode cX4_copyFrom 13 = .ok (.putfield 15, 3) := by decide +kernel
theorem dX4_copyFrom_16 : decode cX4_copyFrom 16 = .ok (.aload_n 0, 1) := by decide +kernel
theorem dX4_copyFrom_17 : decode cX4_copyFrom 17 = .ok (.aload_n 1, 1) := by decide +kernel
theorem dX4_copyFrom_18 : decode cX4_copyFrom 18 = .ok (.getfield 27, 3) := by decide +kernel
theorem dX4_copyFrom_21 : decode cX4_copyFrom 21 = .ok (.putfield 27, 3) := by decide +kernel
theorem dX4_copyFrom_24 : decode cX4_copyFrom 24 = .ok (.aload_n 0, 1) := by decide +kernel
theorem dX4_copyFrom_25 : decode cX4_copyFrom 25 = .ok (.aload_n 1, 1) := by decide +kernel
theorem dX4_copyFrom_26 : decode cX4_copyFrom 26 = .ok (.getfield 18, 3) := by decide +kernel
theorem dX4_copyFrom_29 : decode cX4_copyFrom 29 = .ok (.putfield 18, 3) := by decide +kernel
theorem dX4_copyFrom_32 : decode cX4_copyFrom 32 = .ok (.aload_n 0, 1) := by decide +kernel
theorem dX4_copyFrom_33 : decode cX4_copyFrom 33 = .ok (.aload_n 1, 1) := by decide +kernel
theorem dX4_copyFrom_34 : decode cX4_copyFrom 34 = .ok (.getfield 21, 3) := by decide +kernel
theorem dX4_copyFrom_37 : decode cX4_copyFrom 37 = .ok (.putfield 21, 3) := by decide +kernel
theorem dX4_copyFrom_40 : decode cX4_copyFrom 40 = .ok (.aload_n 0, 1) := by decide +kernel
theorem dX4_copyFrom_41 : decode cX4_copyFrom 41 = .ok (.aload_n 1, 1) := by decide +kernel
theorem dX4_copyFrom_42 : decode cX4_copyFrom 42 = .ok (.getfield 30, 3) := by decide +kernel
theorem dX4_copyFrom_45 : decode cX4_copyFrom 45 = .ok (.putfield 30, 3) := by decide +kernel
theorem dX4_copyFrom_48 : decode cX4_copyFrom 48 = .ok (.aload_n 0, 1) := by decide +kernel
theorem dX4_copyFrom_49 : decode cX4_copyFrom 49 = .ok (.aload_n 1, 1) := by decide +kernel
theorem dX4_copyFrom_50 : decode cX4_copyFrom 50 = .ok (.getfield 33, 3) := by decide +kernel
theorem dX4_copyFrom_53 : decode cX4_copyFrom 53 = .ok (.putfield 33, 3) := by decide +kernel
theorem dX4_copyFrom_56 : decode cX4_copyFrom 56 = .ok (.return_, 1) := by decide +kernel
theorem dX4_putIntoDrawer_0 : decode cX4_putIntoDrawer 0 = .ok (.aload_n 0, 1) := by decide +kernel
theorem dX4_putIntoDrawer_1 : decode cX4_putIntoDrawer 1 = .ok (.iconst 0, 1) := by decide +kernel
theorem dX4_putIntoDrawer_2 : decode cX4_putIntoDrawer 2 = .ok (.putfield 27, 3) := by decide +kernel
theorem dX4_putIntoDrawer_5 : decode cX4_putIntoDrawer 5 = .ok (.aload_n 0, 1) := by decide +kernel
theorem dX4_putIntoDrawer_6 : decode cX4_putIntoDrawer 6 = .ok (.bipush (-9), 2) := by decide +kernel
theorem dX4_putIntoDrawer_8 : decode cX4_putIntoDrawer 8 = .ok (.putfield 30, 3) := by decide +kernel
theorem dX4_putIntoDrawer_11 : decode cX4_putIntoDrawer 11 = .ok (.aload_n 0, 1) := by decide +kernel
theorem dX4_putIntoDrawer_12 : decode cX4_putIntoDrawer 12 = .ok (.bipush (-9), 2) := by decide +kernel
theorem dX4_putIntoDrawer_14 : decode cX4_putIntoDrawer 14 = .ok (.putfield 33, 3) := by decide +kernel
theorem dX4_putIntoDrawer_17 : decode cX4_putIntoDrawer 17 = .ok (.return_, 1) := by decide +kernel
theorem dX4_fixOn_0 : decode cX4_fixOn 0 = .ok (.aload_n 0, 1) := by decide +kernel
theorem dX4_fixOn_1 : decode cX4_fixOn 1 = .ok (.iconst 2, 1) := by decide +kernel
theorem dX4_fixOn_2 : decode cX4_fixOn 2 = .ok (.putfield 27, 3) := by decide +kernel
theorem dX4_fixOn_5 : decode cX4_fixOn 5 = .ok (.aload_n 0, 1) := by decide +kernel
theorem dX4_fixOn_6 : decode cX4_fixOn 6 = .ok (.iload_n 1, 1) := by decide +kernel
theorem dX4_fixOn_7 : decode cX4_fixOn 7 = .ok (.putfield 30, 3) := by decide +kernel
theorem dX4_fixOn_10 : decode cX4_fixOn 10 = .ok (.aload_n 0, 1) := by decide +kernel
theorem dX4_fixOn_11 : decode cX4_fixOn 11 = .ok (.iload_n 2, 1) := by decide +kernel
theorem dX4_fixOn_12 : decode cX4_fixOn 12 = .ok (.putfield 33, 3) := by decide +kernel
theorem dX4_fixOn_15 : decode cX4_fixOn 15 = .ok (.return_, 1) := by decide +kernel
theorem dX4_depthOf_0 : decode cX4_depthOf 0 = .ok (.iload_n 1, 1) := by decide +kernel
theorem dX4_depthOf_1 : decode cX4_depthOf 1 = .ok (.ifCond .ne 10, 3) := by decide +kernel
theorem dX4_depthOf_4 : decode cX4_depthOf 4 = .ok (.aload_n 0, 1) := by decide +kernel
theorem dX4_depthOf_5 : decode cX4_depthOf 5 = .ok (.getfield 18, 3) := by decide +kernel
theorem dX4_depthOf_8 : decode cX4_depthOf 8 = .ok (.goto 7, 3) := by decide +kernel
theorem dX4_depthOf_11 : decode cX4_depthOf 11 = .ok (.aload_n 0, 1) := by decide +kernel
theorem dX4_depthOf_12 : decode cX4_depthOf 12 = .ok (.getfield 21, 3) := by decide +kernel
theorem dX4_depthOf_15 : decode cX4_depthOf 15 = .ok (.ireturn, 1) := by decide +kernel
theorem dX4_isBlank_0 : decode cX4_isBlank 0 = .ok (.aload_n 0, 1) := by decide +kernel
theorem dX4_isBlank_1 : decode cX4_isBlank 1 = .ok (.iload_n 1, 1) := by decide +kernel
theorem dX4_isBlank_2 : decode cX4_isBlank 2 = .ok (.invokevirtual 36, 3) := by decide +kernel
theorem dX4_isBlank_5 : decode cX4_isBlank 5 = .ok (.ifCond .ne 7, 3) := by decide +kernel
theorem dX4_isBlank_8 : decode cX4_isBlank 8 = .ok (.iconst 1, 1) := by decide +kernel
theorem dX4_isBlank_9 : decode cX4_isBlank 9 = .ok (.goto 4, 3) := by decide +kernel
theorem dX4_isBlank_12 : decode cX4_isBlank 12 = .ok (.iconst 0, 1) := by decide +kernel
theorem dX4_isBlank_13 : decode cX4_isBlank 13 = .ok (.ireturn, 1) := by decide +kernel
theorem dX4_engrave_0 : decode cX4_engrave 0 = .ok (.iload_n 1, 1) := by decide +kernel
theorem dX4_engrave_1 : decode cX4_engrave 1 = .ok (.ifCond .ne 11, 3) := by decide +kernel
theorem dX4_engrave_4 : decode cX4_engrave 4 = .ok (.aload_n 0, 1) := by decide +kernel
theorem dX4_engrave_5 : decode cX4_engrave 5 = .ok (.iload_n 2, 1) := by decide +kernel
theorem dX4_engrave_6 : decode cX4_engrave 6 = .ok (.putfield 18, 3) := by decide +kernel
theorem dX4_engrave_9 : decode cX4_engrave 9 = .ok (.goto 8, 3) := by decide +kernel
theorem dX4_engrave_12 : decode cX4_engrave 12 = .ok (.aload_n 0, 1) := by decide +kernel
theorem dX4_engrave_13 : decode cX4_engrave 13 = .ok (.iload_n 2, 1) := by decide +kernel
theorem dX4_engrave_14 : decode cX4_engrave 14 = .ok (.putfield 21, 3) := by decide +kernel
theorem dX4_engrave_17 : decode cX4_engrave 17 = .ok (.return_, 1) := by decide +kernel
theorem dX4_grindOff_0 : decode cX4_grindOff 0 = .ok (.aload_n 0, 1) := by decide +kernel
theorem dX4_grindOff_1 : decode cX4_grindOff 1 = .ok (.dup, 1) := by decide +kernel
theorem dX4_grindOff_2 : decode cX4_grindOff 2 = .ok (.getfield 15, 3) := by decide +kernel
theorem dX4_grindOff_5 : decode cX4_grindOff 5 = .ok (.aload_n 0, 1) := by decide +kernel
theorem dX4_grindOff_6 : decode cX4_grindOff 6 = .ok (.iload_n 1, 1) := by decide +kernel
theorem dX4_grindOff_7 : decode cX4_grindOff 7 = .ok (.invokevirtual 36, 3) := by decide +kernel
theorem dX4_grindOff_10 : decode cX4_grindOff 10 = .ok (.iconst 1, 1) := by decide +kernel
theorem dX4_grindOff_11 : decode cX4_grindOff 11 = .ok (.iadd, 1) := by decide +kernel
theorem dX4_grindOff_12 : decode cX4_grindOff 12 = .ok (.isub, 1) := by decide +kernel
theorem dX4_grindOff_13 : decode cX4_grindOff 13 = .ok (.putfield 15, 3) := by decide +kernel
theorem dX4_grindOff_16 : decode cX4_grindOff 16 = .ok (.aload_n 0, 1) := by decide +kernel
theorem dX4_grindOff_17 : decode cX4_grindOff 17 = .ok (.iload_n 1, 1) := by decide +kernel
theorem dX4_grindOff_18 : decode cX4_grindOff 18 = .ok (.iconst 0, 1) := by decide +kernel
theorem dX4_grindOff_19 : decode cX4_grindOff 19 = .ok (.invokevirtual 40, 3) := by decide +kernel
theorem dX4_grindOff_22 : decode cX4_grindOff 22 = .ok (.return_, 1) := by decide +kernel
theorem dX4_bears_0 : decode cX4_bears 0 = .ok (.aload_n 0, 1) := by decide +kernel
theorem dX4_bears_1 : decode cX4_bears 1 = .ok (.getfield 15, 3) := by decide +kernel
theorem dX4_bears_4 : decode cX4_bears 4 = .ok (.aload_n 0, 1) := by decide +kernel
theorem dX4_bears_5 : decode cX4_bears 5 = .ok (.getfield 18, 3) := by decide +kernel
theorem dX4_bears_8 : decode cX4_bears 8 = .ok (.isub, 1) := by decide +kernel
theorem dX4_bears_9 : decode cX4_bears 9 = .ok (.aload_n 0, 1) := by decide +kernel
theorem dX4_bears_10 : decode cX4_bears 10 = .ok (.getfield 21, 3) := by decide +kernel
theorem dX4_bears_13 : decode cX4_bears 13 = .ok (.isub, 1) := by decide +kernel
theorem dX4_bears_14 : decode cX4_bears 14 = .ok (.iload_n 1, 1) := by decide +kernel
theorem dX4_bears_15 : decode cX4_bears 15 = .ok (.isub, 1) := by decide +kernel
theorem dX4_bears_16 : decode cX4_bears 16 = .ok (.iconst 2, 1) := by decide +kernel
theorem dX4_bears_17 : decode cX4_bears 17 = .ok (.if_icmp .lt 7, 3) := by decide +kernel
theorem dX4_bears_20 : decode cX4_bears 20 = .ok (.iconst 1, 1) := by decide +kernel
theorem dX4_bears_21 : decode cX4_bears 21 = .ok (.goto 4, 3) := by decide +kernel
theorem dX4_bears_24 : decode cX4_bears 24 = .ok (.iconst 0, 1) := by decide +kernel
theorem dX4_bears_25 : decode cX4_bears 25 = .ok (.ireturn, 1) := by decide +kernel
theorem dX4_bearsOnceGround_0 : decode cX4_bearsOnceGround 0 = .ok (.aload_n 0, 1) := by decide +kernel
theorem dX4_bearsOnceGround_1 : decode cX4_bearsOnceGround 1 = .ok (.iload_n 1, 1) := by decide +kernel
theorem dX4_bearsOnceGround_2 : decode cX4_bearsOnceGround 2 = .ok (.iconst 1, 1) := by decide +kernel
theorem dX4_bearsOnceGround_3 : decode cX4_bearsOnceGround 3 = .ok (.iadd, 1) := by decide +kernel
theorem dX4_bearsOnceGround_4 : decode cX4_bearsOnceGround 4 = .ok (.invokevirtual 44, 3) := by decide +kernel
theorem dX4_bearsOnceGround_7 : decode cX4_bearsOnceGround 7 = .ok (.ireturn, 1) := by decide +kernel
theorem dX4_isReady_0 : decode cX4_isReady 0 = .ok (.aload_n 0, 1) := by decide +kernel
theorem dX4_isReady_1 : decode cX4_isReady 1 = .ok (.iload_n 1, 1) := by decide +kernel
theorem dX4_isReady_2 : decode cX4_isReady 2 = .ok (.invokevirtual 48, 3) := by decide +kernel
theorem dX4_isReady_5 : decode cX4_isReady 5 = .ok (.ifCond .eq 15, 3) := by decide +kernel
theorem dX4_isReady_8 : decode cX4_isReady 8 = .ok (.aload_n 0, 1) := by decide +kernel
theorem dX4_isReady_9 : decode cX4_isReady 9 = .ok (.iload_n 2, 1) := by decide +kernel
theorem dX4_isReady_10 : decode cX4_isReady 10 = .ok (.invokevirtual 44, 3) := by decide +kernel
theorem dX4_isReady_13 : decode cX4_isReady 13 = .ok (.ifCond .eq 7, 3) := by decide +kernel
theorem dX4_isReady_16 : decode cX4_isReady 16 = .ok (.iconst 1, 1) := by decide +kernel
theorem dX4_isReady_17 : decode cX4_isReady 17 = .ok (.goto 4, 3) := by decide +kernel
theorem dX4_isReady_20 : decode cX4_isReady 20 = .ok (.iconst 0, 1) := by decide +kernel
theorem dX4_isReady_21 : decode cX4_isReady 21 = .ok (.ireturn, 1) := by decide +kernel
theorem dX4_canBeGround_0 : decode cX4_canBeGround 0 = .ok (.aload_n 0, 1) := by decide +kernel
theorem dX4_canBeGround_1 : decode cX4_canBeGround 1 = .ok (.iload_n 1, 1) := by decide +kernel
theorem dX4_canBeGround_2 : decode cX4_canBeGround 2 = .ok (.invokevirtual 48, 3) := by decide +kernel
theorem dX4_canBeGround_5 : decode cX4_canBeGround 5 = .ok (.ifCond .ne 15, 3) := by decide +kernel
theorem dX4_canBeGround_8 : decode cX4_canBeGround 8 = .ok (.aload_n 0, 1) := by decide +kernel
theorem dX4_canBeGround_9 : decode cX4_canBeGround 9 = .ok (.iload_n 2, 1) := by decide +kernel
theorem dX4_canBeGround_10 : decode cX4_canBeGround 10 = .ok (.invokevirtual 51, 3) := by decide +kernel
theorem dX4_canBeGround_13 : decode cX4_canBeGround 13 = .ok (.ifCond .eq 7, 3) := by decide +kernel
theorem dX4_canBeGround_16 : decode cX4_canBeGround 16 = .ok (.iconst 1, 1) := by decide +kernel
theorem dX4_canBeGround_17 : decode cX4_canBeGround 17 = .ok (.goto 4, 3) := by decide +kernel
theorem dX4_canBeGround_20 : decode cX4_canBeGround 20 = .ok (.iconst 0, 1) := by decide +kernel
theorem dX4_canBeGround_21 : decode cX4_canBeGround 21 = .ok (.ireturn, 1) := by decide +kernel
theorem dX4_readySide_0 : decode cX4_readySide 0 = .ok (.aload_n 0, 1) := by decide +kernel
theorem dX4_readySide_1 : decode cX4_readySide 1 = .ok (.iload_n 1, 1) := by decide +kernel
theorem dX4_readySide_2 : decode cX4_readySide 2 = .ok (.invokevirtual 44, 3) := by decide +kernel
theorem dX4_readySide_5 : decode cX4_readySide 5 = .ok (.ifCond .ne 6, 3) := by decide +kernel
theorem dX4_readySide_8 : decode cX4_readySide 8 = .ok (.bipush (-9), 2) := by decide +kernel
theorem dX4_readySide_10 : decode cX4_readySide 10 = .ok (.ireturn, 1) := by decide +kernel
theorem dX4_readySide_11 : decode cX4_readySide 11 = .ok (.aload_n 0, 1) := by decide +kernel
theorem dX4_readySide_12 : decode cX4_readySide 12 = .ok (.getfield 18, 3) := by decide +kernel
theorem dX4_readySide_15 : decode cX4_readySide 15 = .ok (.ifCond .ne 5, 3) := by decide +kernel
theorem dX4_readySide_18 : decode cX4_readySide 18 = .ok (.iconst 0, 1) := by decide +kernel
theorem dX4_readySide_19 : decode cX4_readySide 19 = .ok (.ireturn, 1) := by decide +kernel
theorem dX4_readySide_20 : decode cX4_readySide 20 = .ok (.aload_n 0, 1) := by decide +kernel
theorem dX4_readySide_21 : decode cX4_readySide 21 = .ok (.getfield 21, 3) := by decide +kernel
theorem dX4_readySide_24 : decode cX4_readySide 24 = .ok (.ifCond .ne 7, 3) := by decide +kernel
theorem dX4_readySide_27 : decode cX4_readySide 27 = .ok (.iconst 1, 1) := by decide +kernel
theorem dX4_readySide_28 : decode cX4_readySide 28 = .ok (.goto 5, 3) := by decide +kernel
theorem dX4_readySide_31 : decode cX4_readySide 31 = .ok (.bipush (-9), 2) := by decide +kernel
theorem dX4_readySide_33 : decode cX4_readySide 33 = .ok (.ireturn, 1) := by decide +kernel
theorem dX4_sideToGrind_0 : decode cX4_sideToGrind 0 = .ok (.aload_n 0, 1) := by decide +kernel
theorem dX4_sideToGrind_1 : decode cX4_sideToGrind 1 = .ok (.iload_n 1, 1) := by decide +kernel
theorem dX4_sideToGrind_2 : decode cX4_sideToGrind 2 = .ok (.invokevirtual 51, 3) := by decide +kernel
theorem dX4_sideToGrind_5 : decode cX4_sideToGrind 5 = .ok (.ifCond .ne 6, 3) := by decide +kernel
theorem dX4_sideToGrind_8 : decode cX4_sideToGrind 8 = .ok (.bipush (-9), 2) := by decide +kernel
theorem dX4_sideToGrind_10 : decode cX4_sideToGrind 10 = .ok (.ireturn, 1) := by decide +kernel
theorem dX4_sideToGrind_11 : decode cX4_sideToGrind 11 = .ok (.aload_n 0, 1) := by decide +kernel
theorem dX4_sideToGrind_12 : decode cX4_sideToGrind 12 = .ok (.getfield 18, 3) := by decide +kernel
theorem dX4_sideToGrind_15 : decode cX4_sideToGrind 15 = .ok (.ifCond .eq 5, 3) := by decide +kernel
theorem dX4_sideToGrind_18 : decode cX4_sideToGrind 18 = .ok (.iconst 0, 1) := by decide +kernel
theorem dX4_sideToGrind_19 : decode cX4_sideToGrind 19 = .ok (.ireturn, 1) := by decide +kernel
theorem dX4_sideToGrind_20 : decode cX4_sideToGrind 20 = .ok (.aload_n 0, 1) := by decide +kernel
theorem dX4_sideToGrind_21 : decode cX4_sideToGrind 21 = .ok (.getfield 21, 3) := by decide +kernel
theorem dX4_sideToGrind_24 : decode cX4_sideToGrind 24 = .ok (.ifCond .eq 7, 3) := by decide +kernel
theorem dX4_sideToGrind_27 : decode cX4_sideToGrind 27 = .ok (.iconst 1, 1) := by decide +kernel
theorem dX4_sideToGrind_28 : decode cX4_sideToGrind 28 = .ok (.goto 5, 3) := by decide +kernel
theorem dX4_sideToGrind_31 : decode cX4_sideToGrind 31 = .ok (.bipush (-9), 2) := by decide +kernel
theorem dX4_sideToGrind_33 : decode cX4_sideToGrind 33 = .ok (.ireturn, 1) := by decide +kernel
theorem dX4_sideFor_0 : decode cX4_sideFor 0 = .ok (.aload_n 0, 1) := by decide +kernel
theorem dX4_sideFor_1 : decode cX4_sideFor 1 = .ok (.iload_n 1, 1) := by decide +kernel
theorem dX4_sideFor_2 : decode cX4_sideFor 2 = .ok (.invokevirtual 54, 3) := by decide +kernel
theorem dX4_sideFor_5 : decode cX4_sideFor 5 = .ok (.istore_n 2, 1) := by decide +kernel
theorem dX4_sideFor_6 : decode cX4_sideFor 6 = .ok (.iload_n 2, 1) := by decide +kernel
theorem dX4_sideFor_7 : decode cX4_sideFor 7 = .ok (.bipush (-9), 2) := by decide +kernel
theorem dX4_sideFor_9 : decode cX4_sideFor 9 = .ok (.if_icmp .ne 11, 3) := by decide +kernel
theorem dX4_sideFor_12 : decode cX4_sideFor 12 = .ok (.aload_n 0, 1) := by decide +kernel
theorem dX4_sideFor_13 : decode cX4_sideFor 13 = .ok (.iload_n 1, 1) := by decide +kernel
theorem dX4_sideFor_14 : decode cX4_sideFor 14 = .ok (.invokevirtual 57, 3) := by decide +kernel
theorem dX4_sideFor_17 : decode cX4_sideFor 17 = .ok (.goto 4, 3) := by decide +kernel
theorem dX4_sideFor_20 : decode cX4_sideFor 20 = .ok (.iload_n 2, 1) := by decide +kernel
theorem dX4_sideFor_21 : decode cX4_sideFor 21 = .ok (.ireturn, 1) := by decide +kernel
theorem dX4_isBetterThan_0 : decode cX4_isBetterThan 0 = .ok (.aload_n 0, 1) := by decide +kernel
theorem dX4_isBetterThan_1 : decode cX4_isBetterThan 1 = .ok (.getfield 9, 3) := by decide +kernel
theorem dX4_isBetterThan_4 : decode cX4_isBetterThan 4 = .ok (.aload_n 1, 1) := by decide +kernel
theorem dX4_isBetterThan_5 : decode cX4_isBetterThan 5 = .ok (.getfield 9, 3) := by decide +kernel
theorem dX4_isBetterThan_8 : decode cX4_isBetterThan 8 = .ok (.if_icmp .lt 25, 3) := by decide +kernel
theorem dX4_isBetterThan_11 : decode cX4_isBetterThan 11 = .ok (.aload_n 0, 1) := by decide +kernel
theorem dX4_isBetterThan_12 : decode cX4_isBetterThan 12 = .ok (.getfield 9, 3) := by decide +kernel
theorem dX4_isBetterThan_15 : decode cX4_isBetterThan 15 = .ok (.aload_n 1, 1) := by decide +kernel
theorem dX4_isBetterThan_16 : decode cX4_isBetterThan 16 = .ok (.getfield 9, 3) := by decide +kernel
theorem dX4_isBetterThan_19 : decode cX4_isBetterThan 19 = .ok (.if_icmp .ne 18, 3) := by decide +kernel
theorem dX4_isBetterThan_22 : decode cX4_isBetterThan 22 = .ok (.aload_n 0, 1) := by decide +kernel
theorem dX4_isBetterThan_23 : decode cX4_isBetterThan 23 = .ok (.getfield 15, 3) := by decide +kernel
theorem dX4_isBetterThan_26 : decode cX4_isBetterThan 26 = .ok (.aload_n 1, 1) := by decide +kernel
theorem dX4_isBetterThan_27 : decode cX4_isBetterThan 27 = .ok (.getfield 15, 3) := by decide +kernel
theorem dX4_isBetterThan_30 : decode cX4_isBetterThan 30 = .ok (.if_icmp .ge 7, 3) := by decide +kernel
theorem dX4_isBetterThan_33 : decode cX4_isBetterThan 33 = .ok (.iconst 1, 1) := by decide +kernel
theorem dX4_isBetterThan_34 : decode cX4_isBetterThan 34 = .ok (.goto 4, 3) := by decide +kernel
theorem dX4_isBetterThan_37 : decode cX4_isBetterThan 37 = .ok (.iconst 0, 1) := by decide +kernel
theorem dX4_isBetterThan_38 : decode cX4_isBetterThan 38 = .ok (.ireturn, 1) := by decide +kernel
theorem dX5_init_0 : decode cX5_init 0 = .ok (.aload_n 0, 1) := by decide +kernel
theorem dX5_init_1 : decode cX5_init 1 = .ok (.invokespecial 3, 3) := by decide +kernel
theorem dX5_init_4 : decode cX5_init 4 = .ok (.aload_n 0, 1) := by decide +kernel
theorem dX5_init_5 : decode cX5_init 5 = .ok (.bipush 20, 2) := by decide +kernel
theorem dX5_init_7 : decode cX5_init 7 = .ok (.anewarray 9, 3) := by decide +kernel
theorem dX5_init_10 : decode cX5_init 10 = .ok (.putfield 11, 3) := by decide +kernel
theorem dX5_init_13 : decode cX5_init 13 = .ok (.aload_n 0, 1) := by decide +kernel
theorem dX5_init_14 : decode cX5_init 14 = .ok (.iconst 3, 1) := by decide +kernel
theorem dX5_init_15 : decode cX5_init 15 = .ok (.newarray .int, 2) := by decide +kernel
theorem dX5_init_17 : decode cX5_init 17 = .ok (.putfield 17, 3) := by decide +kernel
theorem dX5_init_20 : decode cX5_init 20 = .ok (.aload_n 0, 1) := by decide +kernel
theorem dX5_init_21 : decode cX5_init 21 = .ok (.bipush 10, 2) := by decide +kernel
theorem dX5_init_23 : decode cX5_init 23 = .ok (.anewarray 21, 3) := by decide +kernel
theorem dX5_init_26 : decode cX5_init 26 = .ok (.putfield 23, 3) := by decide +kernel
theorem dX5_init_29 : decode cX5_init 29 = .ok (.aload_n 0, 1) := by decide +kernel
theorem dX5_init_30 : decode cX5_init 30 = .ok (.bipush (-9), 2) := by decide +kernel
theorem dX5_init_32 : decode cX5_init 32 = .ok (.putfield 27, 3) := by decide +kernel
theorem dX5_init_35 : decode cX5_init 35 = .ok (.aload_n 0, 1) := by decide +kernel
theorem dX5_init_36 : decode cX5_init 36 = .ok (.bipush (-9), 2) := by decide +kernel
theorem dX5_init_38 : decode cX5_init 38 = .ok (.putfield 31, 3) := by decide +kernel
theorem dX5_init_41 : decode cX5_init 41 = .ok (.aload_n 0, 1) := by decide +kernel
theorem dX5_init_42 : decode cX5_init 42 = .ok (.bipush (-9), 2) := by decide +kernel
theorem dX5_init_44 : decode cX5_init 44 = .ok (.putfield 34, 3) := by decide +kernel
theorem dX5_init_47 : decode cX5_init 47 = .ok (.aload_n 0, 1) := by decide +kernel
theorem dX5_init_48 : decode cX5_init 48 = .ok (.bipush (-9), 2) := by decide +kernel
theorem dX5_init_50 : decode cX5_init 50 = .ok (.putfield 37, 3) := by decide +kernel
theorem dX5_init_53 : decode cX5_init 53 = .ok (.iconst 0, 1) := by decide +kernel
theorem dX5_init_54 : decode cX5_init 54 = .ok (.istore_n 1, 1) := by decide +kernel
theorem dX5_init_55 : decode cX5_init 55 = .ok (.iload_n 1, 1) := by decide +kernel
theorem dX5_init_56 : decode cX5_init 56 = .ok (.bipush 20, 2) := by decide +kernel
theorem dX5_init_58 : decode cX5_init 58 = .ok (.if_icmp .ge 22, 3) := by decide +kernel
theorem dX5_init_61 : decode cX5_init 61 = .ok (.aload_n 0, 1) := by decide +kernel
theorem dX5_init_62 : decode cX5_init 62 = .ok (.getfield 11, 3) := by decide +kernel
theorem dX5_init_65 : decode cX5_init 65 = .ok (.iload_n 1, 1) := by decide +kernel
theorem dX5_init_66 : decode cX5_init 66 = .ok (.new 9, 3) := by decide +kernel
theorem dX5_init_69 : decode cX5_init 69 = .ok (.dup, 1) := by decide +kernel
theorem dX5_init_70 : decode cX5_init 70 = .ok (.invokespecial 40, 3) := by decide +kernel
theorem dX5_init_73 : decode cX5_init 73 = .ok (.aastore, 1) := by decide +kernel
theorem dX5_init_74 : decode cX5_init 74 = .ok (.iinc 1 1, 3) := by decide +kernel
theorem dX5_init_77 : decode cX5_init 77 = .ok (.goto (-22), 3) := by decide +kernel
theorem dX5_init_80 : decode cX5_init 80 = .ok (.iconst 0, 1) := by decide +kernel
theorem dX5_init_81 : decode cX5_init 81 = .ok (.istore_n 1, 1) := by decide +kernel
theorem dX5_init_82 : decode cX5_init 82 = .ok (.iload_n 1, 1) := by decide +kernel
theorem dX5_init_83 : decode cX5_init 83 = .ok (.bipush 10, 2) := by decide +kernel
theorem dX5_init_85 : decode cX5_init 85 = .ok (.if_icmp .ge 22, 3) := by decide +kernel
theorem dX5_init_88 : decode cX5_init 88 = .ok (.aload_n 0, 1) := by decide +kernel
theorem dX5_init_89 : decode cX5_init 89 = .ok (.getfield 23, 3) := by decide +kernel
theorem dX5_init_92 : decode cX5_init 92 = .ok (.iload_n 1, 1) := by decide +kernel
theorem dX5_init_93 : decode cX5_init 93 = .ok (.new 21, 3) := by decide +kernel
theorem dX5_init_96 : decode cX5_init 96 = .ok (.dup, 1) := by decide +kernel
theorem dX5_init_97 : decode cX5_init 97 = .ok (.invokespecial 41, 3) := by decide +kernel
theorem dX5_init_100 : decode cX5_init 100 = .ok (.aastore, 1) := by decide +kernel
theorem dX5_init_101 : decode cX5_init 101 = .ok (.iinc 1 1, 3) := by decide +kernel
theorem dX5_init_104 : decode cX5_init 104 = .ok (.goto (-22), 3) := by decide +kernel
theorem dX5_init_107 : decode cX5_init 107 = .ok (.return_, 1) := by decide +kernel
theorem dX5_copyFrom_0 : decode cX5_copyFrom 0 = .ok (.aload_n 0, 1) := by decide +kernel
theorem dX5_copyFrom_1 : decode cX5_copyFrom 1 = .ok (.aload_n 1, 1) := by decide +kernel
theorem dX5_copyFrom_2 : decode cX5_copyFrom 2 = .ok (.getfield 42, 3) := by decide +kernel
theorem dX5_copyFrom_5 : decode cX5_copyFrom 5 = .ok (.putfield 42, 3) := by decide +kernel
theorem dX5_copyFrom_8 : decode cX5_copyFrom 8 = .ok (.iconst 0, 1) := by decide +kernel
theorem dX5_copyFrom_9 : decode cX5_copyFrom 9 = .ok (.istore_n 2, 1) := by decide +kernel
theorem dX5_copyFrom_10 : decode cX5_copyFrom 10 = .ok (.iload_n 2, 1) := by decide +kernel
theorem dX5_copyFrom_11 : decode cX5_copyFrom 11 = .ok (.aload_n 0, 1) := by decide +kernel
theorem dX5_copyFrom_12 : decode cX5_copyFrom 12 = .ok (.getfield 42, 3) := by decide +kernel
theorem dX5_copyFrom_15 : decode cX5_copyFrom 15 = .ok (.if_icmp .ge 24, 3) := by decide +kernel
theorem dX5_copyFrom_18 : decode cX5_copyFrom 18 = .ok (.aload_n 0, 1) := by decide +kernel
theorem dX5_copyFrom_19 : decode cX5_copyFrom 19 = .ok (.getfield 11, 3) := by decide +kernel
theorem dX5_copyFrom_22 : decode cX5_copyFrom 22 = .ok (.iload_n 2, 1) := by decide +kernel
theorem dX5_copyFrom_23 : decode cX5_copyFrom 23 = .ok (.aaload, 1) := by decide +kernel
theorem dX5_copyFrom_24 : decode cX5_copyFrom 24 = .ok (.aload_n 1, 1) := by decide +kernel
theorem dX5_copyFrom_25 : decode cX5_copyFrom 25 = .ok (.getfield 11, 3) := by decide +kernel
theorem dX5_copyFrom_28 : decode cX5_copyFrom 28 = .ok (.iload_n 2, 1) := by decide +kernel
theorem dX5_copyFrom_29 : decode cX5_copyFrom 29 = .ok (.aaload, 1) := by decide +kernel
theorem dX5_copyFrom_30 : decode cX5_copyFrom 30 = .ok (.invokevirtual 45, 3) := by decide +kernel
theorem dX5_copyFrom_33 : decode cX5_copyFrom 33 = .ok (.iinc 2 1, 3) := by decide +kernel
theorem dX5_copyFrom_36 : decode cX5_copyFrom 36 = .ok (.goto (-26), 3) := by decide +kernel
theorem dX5_copyFrom_39 : decode cX5_copyFrom 39 = .ok (.aload_n 0, 1) := by decide +kernel
theorem dX5_copyFrom_40 : decode cX5_copyFrom 40 = .ok (.aload_n 1, 1) := by decide +kernel
theorem dX5_copyFrom_41 : decode cX5_copyFrom 41 = .ok (.getfield 49, 3) := by decide +kernel
theorem dX5_copyFrom_44 : decode cX5_copyFrom 44 = .ok (.putfield 49, 3) := by decide +kernel
theorem dX5_copyFrom_47 : decode cX5_copyFrom 47 = .ok (.iconst 0, 1) := by decide +kernel
theorem dX5_copyFrom_48 : decode cX5_copyFrom 48 = .ok (.istore_n 2, 1) := by decide +kernel
theorem dX5_copyFrom_49 : decode cX5_copyFrom 49 = .ok (.iload_n 2, 1) := by decide +kernel
theorem dX5_copyFrom_50 : decode cX5_copyFrom 50 = .ok (.aload_n 0, 1) := by decide +kernel
theorem dX5_copyFrom_51 : decode cX5_copyFrom 51 = .ok (.getfield 49, 3) := by decide +kernel
theorem dX5_copyFrom_54 : decode cX5_copyFrom 54 = .ok (.if_icmp .ge 21, 3) := by decide +kernel
theorem dX5_copyFrom_57 : decode cX5_copyFrom 57 = .ok (.aload_n 0, 1) := by decide +kernel
theorem dX5_copyFrom_58 : decode cX5_copyFrom 58 = .ok (.getfield 17, 3) := by decide +kernel
theorem dX5_copyFrom_61 : decode cX5_copyFrom 61 = .ok (.iload_n 2, 1) := by decide +kernel
theorem dX5_copyFrom_62 : decode cX5_copyFrom 62 = .ok (.aload_n 1, 1) := by decide +kernel
theorem dX5_copyFrom_63 : decode cX5_copyFrom 63 = .ok (.getfield 17, 3) := by decide +kernel
theorem dX5_copyFrom_66 : decode cX5_copyFrom 66 = .ok (.iload_n 2, 1) := by decide +kernel
theorem dX5_copyFrom_67 : decode cX5_copyFrom 67 = .ok (.iaload, 1) := by decide +kernel
theorem dX5_copyFrom_68 : decode cX5_copyFrom 68 = .ok (.iastore, 1) := by decide +kernel
theorem dX5_copyFrom_69 : decode cX5_copyFrom 69 = .ok (.iinc 2 1, 3) := by decide +kernel
theorem dX5_copyFrom_72 : decode cX5_copyFrom 72 = .ok (.goto (-23), 3) := by decide +kernel
theorem dX5_copyFrom_75 : decode cX5_copyFrom 75 = .ok (.aload_n 0, 1) := by decide +kernel
theorem dX5_copyFrom_76 : decode cX5_copyFrom 76 = .ok (.aload_n 1, 1) := by decide +kernel
theorem dX5_copyFrom_77 : decode cX5_copyFrom 77 = .ok (.getfield 52, 3) := by decide +kernel
theorem dX5_copyFrom_80 : decode cX5_copyFrom 80 = .ok (.putfield 52, 3) := by decide +kernel
theorem dX5_copyFrom_83 : decode cX5_copyFrom 83 = .ok (.iconst 0, 1) := by decide +kernel
theorem dX5_copyFrom_84 : decode cX5_copyFrom 84 = .ok (.istore_n 2, 1) := by decide +kernel
theorem dX5_copyFrom_85 : decode cX5_copyFrom 85 = .ok (.iload_n 2, 1) := by decide +kernel
theorem dX5_copyFrom_86 : decode cX5_copyFrom 86 = .ok (.aload_n 0, 1) := by decide +kernel
theorem dX5_copyFrom_87 : decode cX5_copyFrom 87 = .ok (.getfield 52, 3) := by decide +kernel
theorem dX5_copyFrom_90 : decode cX5_copyFrom 90 = .ok (.if_icmp .ge 24, 3) := by decide +kernel
theorem dX5_copyFrom_93 : decode cX5_copyFrom 93 = .ok (.aload_n 0, 1) := by decide +kernel
theorem dX5_copyFrom_94 : decode cX5_copyFrom 94 = .ok (.getfield 23, 3) := by decide +kernel
theorem dX5_copyFrom_97 : decode cX5_copyFrom 97 = .ok (.iload_n 2, 1) := by decide +kernel
theorem dX5_copyFrom_98 : decode cX5_copyFrom 98 = .ok (.aaload, 1) := by decide +kernel
theorem dX5_copyFrom_99 : decode cX5_copyFrom 99 = .ok (.aload_n 1, 1) := by decide +kernel
theorem dX5_copyFrom_100 : decode cX5_copyFrom 100 = .ok (.getfield 23, 3) := by decide +kernel
theorem dX5_copyFrom_103 : decode cX5_copyFrom 103 = .ok (.iload_n 2, 1) := by decide +kernel
theorem dX5_copyFrom_104 : decode cX5_copyFrom 104 = .ok (.aaload, 1) := by decide +kernel
theorem dX5_copyFrom_105 : decode cX5_copyFrom 105 = .ok (.invokevirtual 55, 3) := by decide +kernel
theorem dX5_copyFrom_108 : decode cX5_copyFrom 108 = .ok (.iinc 2 1, 3) := by decide +kernel
theorem dX5_copyFrom_111 : decode cX5_copyFrom 111 = .ok (.goto (-26), 3) := by decide +kernel
theorem dX5_copyFrom_114 : decode cX5_copyFrom 114 = .ok (.aload_n 0, 1) := by decide +kernel
theorem dX5_copyFrom_115 : decode cX5_copyFrom 115 = .ok (.aload_n 1, 1) := by decide +kernel
theorem dX5_copyFrom_116 : decode cX5_copyFrom 116 = .ok (.getfield 27, 3) := by decide +kernel
theorem dX5_copyFrom_119 : decode cX5_copyFrom 119 = .ok (.putfield 27, 3) := by decide +kernel
theorem dX5_copyFrom_122 : decode cX5_copyFrom 122 = .ok (.aload_n 0, 1) := by decide +kernel
theorem dX5_copyFrom_123 : decode cX5_copyFrom 123 = .ok (.aload_n 1, 1) := by decide +kernel
theorem dX5_copyFrom_124 : decode cX5_copyFrom 124 = .ok (.getfield 31, 3) := by decide +kernel
theorem dX5_copyFrom_127 : decode cX5_copyFrom 127 = .ok (.putfield 31, 3) := by decide +kernel
theorem dX5_copyFrom_130 : decode cX5_copyFrom 130 = .ok (.aload_n 0, 1) := by decide +kernel
theorem dX5_copyFrom_131 : decode cX5_copyFrom 131 = .ok (.aload_n 1, 1) := by decide +kernel
theorem dX5_copyFrom_132 : decode cX5_copyFrom 132 = .ok (.getfield 34, 3) := by decide +kernel
theorem dX5_copyFrom_135 : decode cX5_copyFrom 135 = .ok (.putfield 34, 3) := by decide +kernel
theorem dX5_copyFrom_138 : decode cX5_copyFrom 138 = .ok (.aload_n 0, 1) := by decide +kernel
theorem dX5_copyFrom_139 : decode cX5_copyFrom 139 = .ok (.aload_n 1, 1) := by decide +kernel
theorem dX5_copyFrom_140 : decode cX5_copyFrom 140 = .ok (.getfield 37, 3) := by decide +kernel
theorem dX5_copyFrom_143 : decode cX5_copyFrom 143 = .ok (.putfield 37, 3) := by decide +kernel
theorem dX5_copyFrom_146 : decode cX5_copyFrom 146 = .ok (.aload_n 0, 1) := by decide +kernel
theorem dX5_copyFrom_147 : decode cX5_copyFrom 147 = .ok (.aload_n 1, 1) := by decide +kernel
theorem dX5_copyFrom_148 : decode cX5_copyFrom 148 = .ok (.getfield 58, 3) := by decide +kernel
theorem dX5_copyFrom_151 : decode cX5_copyFrom 151 = .ok (.putfield 58, 3) := by decide +kernel
theorem dX5_copyFrom_154 : decode cX5_copyFrom 154 = .ok (.aload_n 0, 1) := by decide +kernel
theorem dX5_copyFrom_155 : decode cX5_copyFrom 155 = .ok (.aload_n 1, 1) := by decide +kernel
theorem dX5_copyFrom_156 : decode cX5_copyFrom 156 = .ok (.getfield 61, 3) := by decide +kernel
theorem dX5_copyFrom_159 : decode cX5_copyFrom 159 = .ok (.putfield 61, 3) := by decide +kernel
theorem dX5_copyFrom_162 : decode cX5_copyFrom 162 = .ok (.aload_n 0, 1) := by decide +kernel
theorem dX5_copyFrom_163 : decode cX5_copyFrom 163 = .ok (.aload_n 1, 1) := by decide +kernel
theorem dX5_copyFrom_164 : decode cX5_copyFrom 164 = .ok (.getfield 64, 3) := by decide +kernel
theorem dX5_copyFrom_167 : decode cX5_copyFrom 167 = .ok (.putfield 64, 3) := by decide +kernel
theorem dX5_copyFrom_170 : decode cX5_copyFrom 170 = .ok (.return_, 1) := by decide +kernel
theorem dX5_hasPlate_0 : decode cX5_hasPlate 0 = .ok (.iload_n 1, 1) := by decide +kernel
theorem dX5_hasPlate_1 : decode cX5_hasPlate 1 = .ok (.ifCond .lt 15, 3) := by decide +kernel
theorem dX5_hasPlate_4 : decode cX5_hasPlate 4 = .ok (.iload_n 1, 1) := by decide +kernel
theorem dX5_hasPlate_5 : decode cX5_hasPlate 5 = .ok (.aload_n 0, 1) := by decide +kernel
theorem dX5_hasPlate_6 : decode cX5_hasPlate 6 = .ok (.getfield 42, 3) := by decide +kernel
theorem dX5_hasPlate_9 : decode cX5_hasPlate 9 = .ok (.if_icmp .ge 7, 3) := by decide +kernel
theorem dX5_hasPlate_12 : decode cX5_hasPlate 12 = .ok (.iconst 1, 1) := by decide +kernel
theorem dX5_hasPlate_13 : decode cX5_hasPlate 13 = .ok (.goto 4, 3) := by decide +kernel
theorem dX5_hasPlate_16 : decode cX5_hasPlate 16 = .ok (.iconst 0, 1) := by decide +kernel
theorem dX5_hasPlate_17 : decode cX5_hasPlate 17 = .ok (.ireturn, 1) := by decide +kernel
theorem dX5_hasShield_0 : decode cX5_hasShield 0 = .ok (.iload_n 1, 1) := by decide +kernel
theorem dX5_hasShield_1 : decode cX5_hasShield 1 = .ok (.ifCond .lt 15, 3) := by decide +kernel
theorem dX5_hasShield_4 : decode cX5_hasShield 4 = .ok (.iload_n 1, 1) := by decide +kernel
theorem dX5_hasShield_5 : decode cX5_hasShield 5 = .ok (.aload_n 0, 1) := by decide +kernel
theorem dX5_hasShield_6 : decode cX5_hasShield 6 = .ok (.getfield 49, 3) := by decide +kernel
theorem dX5_hasShield_9 : decode cX5_hasShield 9 = .ok (.if_icmp .ge 7, 3) := by decide +kernel
theorem dX5_hasShield_12 : decode cX5_hasShield 12 = .ok (.iconst 1, 1) := by decide +kernel
theorem dX5_hasShield_13 : decode cX5_hasShield 13 = .ok (.goto 4, 3) := by decide +kernel
theorem dX5_hasShield_16 : decode cX5_hasShield 16 = .ok (.iconst 0, 1) := by decide +kernel
theorem dX5_hasShield_17 : decode cX5_hasShield 17 = .ok (.ireturn, 1) := by decide +kernel
theorem dX5_hasOrder_0 : decode cX5_hasOrder 0 = .ok (.iload_n 1, 1) := by decide +kernel
theorem dX5_hasOrder_1 : decode cX5_hasOrder 1 = .ok (.ifCond .lt 15, 3) := by decide +kernel
theorem dX5_hasOrder_4 : decode cX5_hasOrder 4 = .ok (.iload_n 1, 1) := by decide +kernel
theorem dX5_hasOrder_5 : decode cX5_hasOrder 5 = .ok (.aload_n 0, 1) := by decide +kernel
theorem dX5_hasOrder_6 : decode cX5_hasOrder 6 = .ok (.getfield 52, 3) := by decide +kernel
theorem dX5_hasOrder_9 : decode cX5_hasOrder 9 = .ok (.if_icmp .ge 7, 3) := by decide +kernel
theorem dX5_hasOrder_12 : decode cX5_hasOrder 12 = .ok (.iconst 1, 1) := by decide +kernel
theorem dX5_hasOrder_13 : decode cX5_hasOrder 13 = .ok (.goto 4, 3) := by decide +kernel
theorem dX5_hasOrder_16 : decode cX5_hasOrder 16 = .ok (.iconst 0, 1) := by decide +kernel
theorem dX5_hasOrder_17 : decode cX5_hasOrder 17 = .ok (.ireturn, 1) := by decide +kernel
theorem dX5_isWorking_0 : decode cX5_isWorking 0 = .ok (.aload_n 0, 1) := by decide +kernel
theorem dX5_isWorking_1 : decode cX5_isWorking 1 = .ok (.aload_n 0, 1) := by decide +kernel
theorem dX5_isWorking_2 : decode cX5_isWorking 2 = .ok (.getfield 27, 3) := by decide +kernel
theorem dX5_isWorking_5 : decode cX5_isWorking 5 = .ok (.invokevirtual 67, 3) := by decide +kernel
theorem dX5_isWorking_8 : decode cX5_isWorking 8 = .ok (.ifCond .eq 18, 3) := by decide +kernel
theorem dX5_isWorking_11 : decode cX5_isWorking 11 = .ok (.aload_n 0, 1) := by decide +kernel
theorem dX5_isWorking_12 : decode cX5_isWorking 12 = .ok (.aload_n 0, 1) := by decide +kernel
theorem dX5_isWorking_13 : decode cX5_isWorking 13 = .ok (.getfield 31, 3) := by decide +kernel
theorem dX5_isWorking_16 : decode cX5_isWorking 16 = .ok (.invokevirtual 71, 3) := by decide +kernel
theorem dX5_isWorking_19 : decode cX5_isWorking 19 = .ok (.ifCond .eq 7, 3) := by decide +kernel
theorem dX5_isWorking_22 : decode cX5_isWorking 22 = .ok (.iconst 1, 1) := by decide +kernel
theorem dX5_isWorking_23 : decode cX5_isWorking 23 = .ok (.goto 4, 3) := by decide +kernel
theorem dX5_isWorking_26 : decode cX5_isWorking 26 = .ok (.iconst 0, 1) := by decide +kernel
theorem dX5_isWorking_27 : decode cX5_isWorking 27 = .ok (.ireturn, 1) := by decide +kernel
theorem dX5_addPlate_0 : decode cX5_addPlate 0 = .ok (.aload_n 0, 1) := by decide +kernel
theorem dX5_addPlate_1 : decode cX5_addPlate 1 = .ok (.getfield 11, 3) := by decide +kernel
theorem dX5_addPlate_4 : decode cX5_addPlate 4 = .ok (.aload_n 0, 1) := by decide +kernel
theorem dX5_addPlate_5 : decode cX5_addPlate 5 = .ok (.getfield 42, 3) := by decide +kernel
theorem dX5_addPlate_8 : decode cX5_addPlate 8 = .ok (.aaload, 1) := by decide +kernel
theorem dX5_addPlate_9 : decode cX5_addPlate 9 = .ok (.iload_n 1, 1) := by decide +kernel
theorem dX5_addPlate_10 : decode cX5_addPlate 10 = .ok (.iload_n 2, 1) := by decide +kernel
theorem dX5_addPlate_11 : decode cX5_addPlate 11 = .ok (.invokevirtual 74, 3) := by decide +kernel
theorem dX5_addPlate_14 : decode cX5_addPlate 14 = .ok (.aload_n 0, 1) := by decide +kernel
theorem dX5_addPlate_15 : decode cX5_addPlate 15 = .ok (.dup, 1) := by decide +kernel
theorem dX5_addPlate_16 : decode cX5_addPlate 16 = .ok (.getfield 42, 3) := by decide +kernel
theorem dX5_addPlate_19 : decode cX5_addPlate 19 = .ok (.iconst 1, 1) := by decide +kernel
theorem dX5_addPlate_20 : decode cX5_addPlate 20 = .ok (.iadd, 1) := by decide +kernel
theorem dX5_addPlate_21 : decode cX5_addPlate 21 = .ok (.putfield 42, 3) := by decide +kernel
theorem dX5_addPlate_24 : decode cX5_addPlate 24 = .ok (.aload_n 0, 1) := by decide +kernel
theorem dX5_addPlate_25 : decode cX5_addPlate 25 = .ok (.getfield 42, 3) := by decide +kernel
theorem dX5_addPlate_28 : decode cX5_addPlate 28 = .ok (.iconst 1, 1) := by decide +kernel
theorem dX5_addPlate_29 : decode cX5_addPlate 29 = .ok (.isub, 1) := by decide +kernel
theorem dX5_addPlate_30 : decode cX5_addPlate 30 = .ok (.ireturn, 1) := by decide +kernel
theorem dX5_hangShield_0 : decode cX5_hangShield 0 = .ok (.aload_n 0, 1) := by decide +kernel
theorem dX5_hangShield_1 : decode cX5_hangShield 1 = .ok (.getfield 17, 3) := by decide +kernel
theorem dX5_hangShield_4 : decode cX5_hangShield 4 = .ok (.aload_n 0, 1) := by decide +kernel
theorem dX5_hangShield_5 : decode cX5_hangShield 5 = .ok (.getfield 49, 3) := by decide +kernel
theorem dX5_hangShield_8 : decode cX5_hangShield 8 = .ok (.iload_n 1, 1) := by decide +kernel
theorem dX5_hangShield_9 : decode cX5_hangShield 9 = .ok (.iastore, 1) := by decide +kernel
theorem dX5_hangShield_10 : decode cX5_hangShield 10 = .ok (.aload_n 0, 1) := by decide +kernel
theorem dX5_hangShield_11 : decode cX5_hangShield 11 = .ok (.dup, 1) := by decide +kernel
theorem dX5_hangShield_12 : decode cX5_hangShield 12 = .ok (.getfield 49, 3) := by decide +kernel
theorem dX5_hangShield_15 : decode cX5_hangShield 15 = .ok (.iconst 1, 1) := by decide +kernel
theorem dX5_hangShield_16 : decode cX5_hangShield 16 = .ok (.iadd, 1) := by decide +kernel
theorem dX5_hangShield_17 : decode cX5_hangShield 17 = .ok (.putfield 49, 3) := by decide +kernel
theorem dX5_hangShield_20 : decode cX5_hangShield 20 = .ok (.aload_n 0, 1) := by decide +kernel
theorem dX5_hangShield_21 : decode cX5_hangShield 21 = .ok (.getfield 49, 3) := by decide +kernel
theorem dX5_hangShield_24 : decode cX5_hangShield 24 = .ok (.iconst 1, 1) := by decide +kernel
theorem dX5_hangShield_25 : decode cX5_hangShield 25 = .ok (.isub, 1) := by decide +kernel
theorem dX5_hangShield_26 : decode cX5_hangShield 26 = .ok (.ireturn, 1) := by decide +kernel
theorem dX5_grindSide_0 : decode cX5_grindSide 0 = .ok (.aload_n 1, 1) := by decide +kernel
theorem dX5_grindSide_1 : decode cX5_grindSide 1 = .ok (.iload_n 2, 1) := by decide +kernel
theorem dX5_grindSide_2 : decode cX5_grindSide 2 = .ok (.invokevirtual 78, 3) := by decide +kernel
theorem dX5_grindSide_5 : decode cX5_grindSide 5 = .ok (.aload_n 0, 1) := by decide +kernel
theorem dX5_grindSide_6 : decode cX5_grindSide 6 = .ok (.dup, 1) := by decide +kernel
theorem dX5_grindSide_7 : decode cX5_grindSide 7 = .ok (.getfield 64, 3) := by decide +kernel
theorem dX5_grindSide_10 : decode cX5_grindSide 10 = .ok (.iconst 1, 1) := by decide +kernel
theorem dX5_grindSide_11 : decode cX5_grindSide 11 = .ok (.iadd, 1) := by decide +kernel
theorem dX5_grindSide_12 : decode cX5_grindSide 12 = .ok (.putfield 64, 3) := by decide +kernel
theorem dX5_grindSide_15 : decode cX5_grindSide 15 = .ok (.return_, 1) := by decide +kernel
theorem dX5_platesIn_0 : decode cX5_platesIn 0 = .ok (.iconst 0, 1) := by decide +kernel
theorem dX5_platesIn_1 : decode cX5_platesIn 1 = .ok (.istore_n 2, 1) := by decide +kernel
theorem dX5_platesIn_2 : decode cX5_platesIn 2 = .ok (.iconst 0, 1) := by decide +kernel
theorem dX5_platesIn_3 : decode cX5_platesIn 3 = .ok (.istore_n 3, 1) := by decide +kernel
theorem dX5_platesIn_4 : decode cX5_platesIn 4 = .ok (.iload_n 3, 1) := by decide +kernel
theorem dX5_platesIn_5 : decode cX5_platesIn 5 = .ok (.aload_n 0, 1) := by decide +kernel
theorem dX5_platesIn_6 : decode cX5_platesIn 6 = .ok (.getfield 42, 3) := by decide +kernel
theorem dX5_platesIn_9 : decode cX5_platesIn 9 = .ok (.if_icmp .ge 25, 3) := by decide +kernel
theorem dX5_platesIn_12 : decode cX5_platesIn 12 = .ok (.aload_n 0, 1) := by decide +kernel
theorem dX5_platesIn_13 : decode cX5_platesIn 13 = .ok (.getfield 11, 3) := by decide +kernel
theorem dX5_platesIn_16 : decode cX5_platesIn 16 = .ok (.iload_n 3, 1) := by decide +kernel
theorem dX5_platesIn_17 : decode cX5_platesIn 17 = .ok (.aaload, 1) := by decide +kernel
theorem dX5_platesIn_18 : decode cX5_platesIn 18 = .ok (.getfield 82, 3) := by decide +kernel
theorem dX5_platesIn_21 : decode cX5_platesIn 21 = .ok (.iload_n 1, 1) := by decide +kernel
theorem dX5_platesIn_22 : decode cX5_platesIn 22 = .ok (.if_icmp .ne 6, 3) := by decide +kernel
theorem dX5_platesIn_25 : decode cX5_platesIn 25 = .ok (.iinc 2 1, 3) := by decide +kernel
theorem dX5_platesIn_28 : decode cX5_platesIn 28 = .ok (.iinc 3 1, 3) := by decide +kernel
theorem dX5_platesIn_31 : decode cX5_platesIn 31 = .ok (.goto (-27), 3) := by decide +kernel
theorem dX5_platesIn_34 : decode cX5_platesIn 34 = .ok (.iload_n 2, 1) := by decide +kernel
theorem dX5_platesIn_35 : decode cX5_platesIn 35 = .ok (.ireturn, 1) := by decide +kernel
theorem dX5_platesOn_0 : decode cX5_platesOn 0 = .ok (.iconst 0, 1) := by decide +kernel
theorem dX5_platesOn_1 : decode cX5_platesOn 1 = .ok (.istore_n 2, 1) := by decide +kernel
theorem dX5_platesOn_2 : decode cX5_platesOn 2 = .ok (.iconst 0, 1) := by decide +kernel
theorem dX5_platesOn_3 : decode cX5_platesOn 3 = .ok (.istore_n 3, 1) := by decide +kernel
theorem dX5_platesOn_4 : decode cX5_platesOn 4 = .ok (.iload_n 3, 1) := by decide +kernel
theorem dX5_platesOn_5 : decode cX5_platesOn 5 = .ok (.aload_n 0, 1) := by decide +kernel
theorem dX5_platesOn_6 : decode cX5_platesOn 6 = .ok (.getfield 42, 3) := by decide +kernel
theorem dX5_platesOn_9 : decode cX5_platesOn 9 = .ok (.if_icmp .ge 25, 3) := by decide +kernel
theorem dX5_platesOn_12 : decode cX5_platesOn 12 = .ok (.aload_n 0, 1) := by decide +kernel
theorem dX5_platesOn_13 : decode cX5_platesOn 13 = .ok (.getfield 11, 3) := by decide +kernel
theorem dX5_platesOn_16 : decode cX5_platesOn 16 = .ok (.iload_n 3, 1) := by decide +kernel
theorem dX5_platesOn_17 : decode cX5_platesOn 17 = .ok (.aaload, 1) := by decide +kernel
theorem dX5_platesOn_18 : decode cX5_platesOn 18 = .ok (.getfield 85, 3) := by decide +kernel
theorem dX5_platesOn_21 : decode cX5_platesOn 21 = .ok (.iload_n 1, 1) := by decide +kernel
theorem dX5_platesOn_22 : decode cX5_platesOn 22 = .ok (.if_icmp .ne 6, 3) := by decide +kernel
theorem dX5_platesOn_25 : decode cX5_platesOn 25 = .ok (.iinc 2 1, 3) := by decide +kernel
theorem dX5_platesOn_28 : decode cX5_platesOn 28 = .ok (.iinc 3 1, 3) := by decide +kernel
theorem dX5_platesOn_31 : decode cX5_platesOn 31 = .ok (.goto (-27), 3) := by decide +kernel
theorem dX5_platesOn_34 : decode cX5_platesOn 34 = .ok (.iload_n 2, 1) := by decide +kernel
theorem dX5_platesOn_35 : decode cX5_platesOn 35 = .ok (.ireturn, 1) := by decide +kernel
theorem dX5_plateOfYear_0 : decode cX5_plateOfYear 0 = .ok (.iconst 0, 1) := by decide +kernel
theorem dX5_plateOfYear_1 : decode cX5_plateOfYear 1 = .ok (.istore_n 3, 1) := by decide +kernel
theorem dX5_plateOfYear_2 : decode cX5_plateOfYear 2 = .ok (.iload_n 3, 1) := by decide +kernel
theorem dX5_plateOfYear_3 : decode cX5_plateOfYear 3 = .ok (.aload_n 0, 1) := by decide +kernel
theorem dX5_plateOfYear_4 : decode cX5_plateOfYear 4 = .ok (.getfield 42, 3) := by decide +kernel
theorem dX5_plateOfYear_7 : decode cX5_plateOfYear 7 = .ok (.if_icmp .ge 37, 3) := by decide +kernel
theorem dX5_plateOfYear_10 : decode cX5_plateOfYear 10 = .ok (.aload_n 0, 1) := by decide +kernel
theorem dX5_plateOfYear_11 : decode cX5_plateOfYear 11 = .ok (.getfield 11, 3) := by decide +kernel
theorem dX5_plateOfYear_14 : decode cX5_plateOfYear 14 = .ok (.iload_n 3, 1) := by decide +kernel
theorem dX5_plateOfYear_15 : decode cX5_plateOfYear 15 = .ok (.aaload, 1) := by decide +kernel
theorem dX5_plateOfYear_16 : decode cX5_plateOfYear 16 = .ok (.getfield 85, 3) := by decide +kernel
theorem dX5_plateOfYear_19 : decode cX5_plateOfYear 19 = .ok (.iload_n 1, 1) := by decide +kernel
theorem dX5_plateOfYear_20 : decode cX5_plateOfYear 20 = .ok (.if_icmp .ne 18, 3) := by decide +kernel
theorem dX5_plateOfYear_23 : decode cX5_plateOfYear 23 = .ok (.aload_n 0, 1) := by decide +kernel
theorem dX5_plateOfYear_24 : decode cX5_plateOfYear 24 = .ok (.getfield 11, 3) := by decide +kernel
theorem dX5_plateOfYear_27 : decode cX5_plateOfYear 27 = .ok (.iload_n 3, 1) := by decide +kernel
theorem dX5_plateOfYear_28 : decode cX5_plateOfYear 28 = .ok (.aaload, 1) := by decide +kernel
theorem dX5_plateOfYear_29 : decode cX5_plateOfYear 29 = .ok (.getfield 88, 3) := by decide +kernel
theorem dX5_plateOfYear_32 : decode cX5_plateOfYear 32 = .ok (.iload_n 2, 1) := by decide +kernel
theorem dX5_plateOfYear_33 : decode cX5_plateOfYear 33 = .ok (.if_icmp .ne 5, 3) := by decide +kernel
theorem dX5_plateOfYear_36 : decode cX5_plateOfYear 36 = .ok (.iload_n 3, 1) := by decide +kernel
theorem dX5_plateOfYear_37 : decode cX5_plateOfYear 37 = .ok (.ireturn, 1) := by decide +kernel
theorem dX5_plateOfYear_38 : decode cX5_plateOfYear 38 = .ok (.iinc 3 1, 3) := by decide +kernel
theorem dX5_plateOfYear_41 : decode cX5_plateOfYear 41 = .ok (.goto (-39), 3) := by decide +kernel
theorem dX5_plateOfYear_44 : decode cX5_plateOfYear 44 = .ok (.bipush (-9), 2) := by decide +kernel
theorem dX5_plateOfYear_46 : decode cX5_plateOfYear 46 = .ok (.ireturn, 1) := by decide +kernel
theorem dX5_earliestYear_0 : decode cX5_earliestYear 0 = .ok (.bipush (-9), 2) := by decide +kernel
theorem dX5_earliestYear_2 : decode cX5_earliestYear 2 = .ok (.istore_n 2, 1) := by decide +kernel
theorem dX5_earliestYear_3 : decode cX5_earliestYear 3 = .ok (.iconst 0, 1) := by decide +kernel
theorem dX5_earliestYear_4 : decode cX5_earliestYear 4 = .ok (.istore_n 3, 1) := by decide +kernel
theorem dX5_earliestYear_5 : decode cX5_earliestYear 5 = .ok (.iload_n 3, 1) := by decide +kernel
theorem dX5_earliestYear_6 : decode cX5_earliestYear 6 = .ok (.aload_n 0, 1) := by decide +kernel
theorem dX5_earliestYear_7 : decode cX5_earliestYear 7 = .ok (.getfield 42, 3) := by decide +kernel
theorem dX5_earliestYear_10 : decode cX5_earliestYear 10 = .ok (.if_icmp .ge 48, 3) := by decide +kernel
theorem dX5_earliestYear_13 : decode cX5_earliestYear 13 = .ok (.aload_n 0, 1) := by decide +kernel
theorem dX5_earliestYear_14 : decode cX5_earliestYear 14 = .ok (.getfield 11, 3) := by decide +kernel
theorem dX5_earliestYear_17 : decode cX5_earliestYear 17 = .ok (.iload_n 3, 1) := by decide +kernel
theorem dX5_earliestYear_18 : decode cX5_earliestYear 18 = .ok (.aaload, 1) := by decide +kernel
theorem dX5_earliestYear_19 : decode cX5_earliestYear 19 = .ok (.getfield 88, 3) := by decide +kernel
theorem dX5_earliestYear_22 : decode cX5_earliestYear 22 = .ok (.istore 4, 2) := by decide +kernel
theorem dX5_earliestYear_24 : decode cX5_earliestYear 24 = .ok (.aload_n 0, 1) := by decide +kernel
theorem dX5_earliestYear_25 : decode cX5_earliestYear 25 = .ok (.getfield 11, 3) := by decide +kernel
theorem dX5_earliestYear_28 : decode cX5_earliestYear 28 = .ok (.iload_n 3, 1) := by decide +kernel
theorem dX5_earliestYear_29 : decode cX5_earliestYear 29 = .ok (.aaload, 1) := by decide +kernel
theorem dX5_earliestYear_30 : decode cX5_earliestYear 30 = .ok (.getfield 85, 3) := by decide +kernel
theorem dX5_earliestYear_33 : decode cX5_earliestYear 33 = .ok (.iload_n 1, 1) := by decide +kernel
theorem dX5_earliestYear_34 : decode cX5_earliestYear 34 = .ok (.if_icmp .ne 18, 3) := by decide +kernel
theorem dX5_earliestYear_37 : decode cX5_earliestYear 37 = .ok (.iload_n 2, 1) := by decide +kernel
theorem dX5_earliestYear_38 : decode cX5_earliestYear 38 = .ok (.bipush (-9), 2) := by decide +kernel
theorem dX5_earliestYear_40 : decode cX5_earliestYear 40 = .ok (.if_icmp .eq 9, 3) := by decide +kernel
theorem dX5_earliestYear_43 : decode cX5_earliestYear 43 = .ok (.iload 4, 2) := by decide +kernel
theorem dX5_earliestYear_45 : decode cX5_earliestYear 45 = .ok (.iload_n 2, 1) := by decide +kernel
theorem dX5_earliestYear_46 : decode cX5_earliestYear 46 = .ok (.if_icmp .ge 6, 3) := by decide +kernel
theorem dX5_earliestYear_49 : decode cX5_earliestYear 49 = .ok (.iload 4, 2) := by decide +kernel
theorem dX5_earliestYear_51 : decode cX5_earliestYear 51 = .ok (.istore_n 2, 1) := by decide +kernel
theorem dX5_earliestYear_52 : decode cX5_earliestYear 52 = .ok (.iinc 3 1, 3) := by decide +kernel
theorem dX5_earliestYear_55 : decode cX5_earliestYear 55 = .ok (.goto (-50), 3) := by decide +kernel
theorem dX5_earliestYear_58 : decode cX5_earliestYear 58 = .ok (.iload_n 2, 1) := by decide +kernel
theorem dX5_earliestYear_59 : decode cX5_earliestYear 59 = .ok (.ireturn, 1) := by decide +kernel
theorem dX5_latestYear_0 : decode cX5_latestYear 0 = .ok (.bipush (-9), 2) := by decide +kernel
theorem dX5_latestYear_2 : decode cX5_latestYear 2 = .ok (.istore_n 2, 1) := by decide +kernel
theorem dX5_latestYear_3 : decode cX5_latestYear 3 = .ok (.iconst 0, 1) := by decide +kernel
theorem dX5_latestYear_4 : decode cX5_latestYear 4 = .ok (.istore_n 3, 1) := by decide +kernel
theorem dX5_latestYear_5 : decode cX5_latestYear 5 = .ok (.iload_n 3, 1) := by decide +kernel
theorem dX5_latestYear_6 : decode cX5_latestYear 6 = .ok (.aload_n 0, 1) := by decide +kernel
theorem dX5_latestYear_7 : decode cX5_latestYear 7 = .ok (.getfield 42, 3) := by decide +kernel
theorem dX5_latestYear_10 : decode cX5_latestYear 10 = .ok (.if_icmp .ge 48, 3) := by decide +kernel
theorem dX5_latestYear_13 : decode cX5_latestYear 13 = .ok (.aload_n 0, 1) := by decide +kernel
theorem dX5_latestYear_14 : decode cX5_latestYear 14 = .ok (.getfield 11, 3) := by decide +kernel
theorem dX5_latestYear_17 : decode cX5_latestYear 17 = .ok (.iload_n 3, 1) := by decide +kernel
theorem dX5_latestYear_18 : decode cX5_latestYear 18 = .ok (.aaload, 1) := by decide +kernel
theorem dX5_latestYear_19 : decode cX5_latestYear 19 = .ok (.getfield 88, 3) := by decide +kernel
theorem dX5_latestYear_22 : decode cX5_latestYear 22 = .ok (.istore 4, 2) := by decide +kernel
theorem dX5_latestYear_24 : decode cX5_latestYear 24 = .ok (.aload_n 0, 1) := by decide +kernel
theorem dX5_latestYear_25 : decode cX5_latestYear 25 = .ok (.getfield 11, 3) := by decide +kernel
theorem dX5_latestYear_28 : decode cX5_latestYear 28 = .ok (.iload_n 3, 1) := by decide +kernel
theorem dX5_latestYear_29 : decode cX5_latestYear 29 = .ok (.aaload, 1) := by decide +kernel
theorem dX5_latestYear_30 : decode cX5_latestYear 30 = .ok (.getfield 85, 3) := by decide +kernel
theorem dX5_latestYear_33 : decode cX5_latestYear 33 = .ok (.iload_n 1, 1) := by decide +kernel
theorem dX5_latestYear_34 : decode cX5_latestYear 34 = .ok (.if_icmp .ne 18, 3) := by decide +kernel
theorem dX5_latestYear_37 : decode cX5_latestYear 37 = .ok (.iload_n 2, 1) := by decide +kernel
theorem dX5_latestYear_38 : decode cX5_latestYear 38 = .ok (.bipush (-9), 2) := by decide +kernel
theorem dX5_latestYear_40 : decode cX5_latestYear 40 = .ok (.if_icmp .eq 9, 3) := by decide +kernel
theorem dX5_latestYear_43 : decode cX5_latestYear 43 = .ok (.iload 4, 2) := by decide +kernel
theorem dX5_latestYear_45 : decode cX5_latestYear 45 = .ok (.iload_n 2, 1) := by decide +kernel
theorem dX5_latestYear_46 : decode cX5_latestYear 46 = .ok (.if_icmp .le 6, 3) := by decide +kernel
theorem dX5_latestYear_49 : decode cX5_latestYear 49 = .ok (.iload 4, 2) := by decide +kernel
theorem dX5_latestYear_51 : decode cX5_latestYear 51 = .ok (.istore_n 2, 1) := by decide +kernel
theorem dX5_latestYear_52 : decode cX5_latestYear 52 = .ok (.iinc 3 1, 3) := by decide +kernel
theorem dX5_latestYear_55 : decode cX5_latestYear 55 = .ok (.goto (-50), 3) := by decide +kernel
theorem dX5_latestYear_58 : decode cX5_latestYear 58 = .ok (.iload_n 2, 1) := by decide +kernel
theorem dX5_latestYear_59 : decode cX5_latestYear 59 = .ok (.ireturn, 1) := by decide +kernel
theorem dX5_yearsLeftOut_0 : decode cX5_yearsLeftOut 0 = .ok (.aload_n 0, 1) := by decide +kernel
theorem dX5_yearsLeftOut_1 : decode cX5_yearsLeftOut 1 = .ok (.iload_n 1, 1) := by decide +kernel
theorem dX5_yearsLeftOut_2 : decode cX5_yearsLeftOut 2 = .ok (.invokevirtual 91, 3) := by decide +kernel
theorem dX5_yearsLeftOut_5 : decode cX5_yearsLeftOut 5 = .ok (.istore_n 2, 1) := by decide +kernel
theorem dX5_yearsLeftOut_6 : decode cX5_yearsLeftOut 6 = .ok (.iload_n 2, 1) := by decide +kernel
theorem dX5_yearsLeftOut_7 : decode cX5_yearsLeftOut 7 = .ok (.ifCond .ne 7, 3) := by decide +kernel
theorem dX5_yearsLeftOut_10 : decode cX5_yearsLeftOut 10 = .ok (.iconst 0, 1) := by decide +kernel
theorem dX5_yearsLeftOut_11 : decode cX5_yearsLeftOut 11 = .ok (.goto 18, 3) := by decide +kernel
theorem dX5_yearsLeftOut_14 : decode cX5_yearsLeftOut 14 = .ok (.aload_n 0, 1) := by decide +kernel
theorem dX5_yearsLeftOut_15 : decode cX5_yearsLeftOut 15 = .ok (.iload_n 1, 1) := by decide +kernel
theorem dX5_yearsLeftOut_16 : decode cX5_yearsLeftOut 16 = .ok (.invokevirtual 95, 3) := by decide +kernel
theorem dX5_yearsLeftOut_19 : decode cX5_yearsLeftOut 19 = .ok (.aload_n 0, 1) := by decide +kernel
theorem dX5_yearsLeftOut_20 : decode cX5_yearsLeftOut 20 = .ok (.iload_n 1, 1) := by decide +kernel
theorem dX5_yearsLeftOut_21 : decode cX5_yearsLeftOut 21 = .ok (.invokevirtual 98, 3) := by decide +kernel
theorem dX5_yearsLeftOut_24 : decode cX5_yearsLeftOut 24 = .ok (.isub, 1) := by decide +kernel
theorem dX5_yearsLeftOut_25 : decode cX5_yearsLeftOut 25 = .ok (.iconst 1, 1) := by decide +kernel
theorem dX5_yearsLeftOut_26 : decode cX5_yearsLeftOut 26 = .ok (.iadd, 1) := by decide +kernel
theorem dX5_yearsLeftOut_27 : decode cX5_yearsLeftOut 27 = .ok (.iload_n 2, 1) := by decide +kernel
theorem dX5_yearsLeftOut_28 : decode cX5_yearsLeftOut 28 = .ok (.isub, 1) := by decide +kernel
theorem dX5_yearsLeftOut_29 : decode cX5_yearsLeftOut 29 = .ok (.ireturn, 1) := by decide +kernel
theorem dX5_fixPlate_0 : decode cX5_fixPlate 0 = .ok (.aload_n 1, 1) := by decide +kernel
theorem dX5_fixPlate_1 : decode cX5_fixPlate 1 = .ok (.iload_n 2, 1) := by decide +kernel
theorem dX5_fixPlate_2 : decode cX5_fixPlate 2 = .ok (.iload_n 3, 1) := by decide +kernel
theorem dX5_fixPlate_3 : decode cX5_fixPlate 3 = .ok (.invokevirtual 101, 3) := by decide +kernel
theorem dX5_fixPlate_6 : decode cX5_fixPlate 6 = .ok (.aload_n 0, 1) := by decide +kernel
theorem dX5_fixPlate_7 : decode cX5_fixPlate 7 = .ok (.iload_n 2, 1) := by decide +kernel
theorem dX5_fixPlate_8 : decode cX5_fixPlate 8 = .ok (.invokevirtual 104, 3) := by decide +kernel
theorem dX5_fixPlate_11 : decode cX5_fixPlate 11 = .ok (.ifCond .eq 48, 3) := by decide +kernel
theorem dX5_fixPlate_14 : decode cX5_fixPlate 14 = .ok (.aload_n 0, 1) := by decide +kernel
theorem dX5_fixPlate_15 : decode cX5_fixPlate 15 = .ok (.iload_n 2, 1) := by decide +kernel
theorem dX5_fixPlate_16 : decode cX5_fixPlate 16 = .ok (.invokevirtual 91, 3) := by decide +kernel
theorem dX5_fixPlate_19 : decode cX5_fixPlate 19 = .ok (.aload_n 0, 1) := by decide +kernel
theorem dX5_fixPlate_20 : decode cX5_fixPlate 20 = .ok (.getfield 17, 3) := by decide +kernel
theorem dX5_fixPlate_23 : decode cX5_fixPlate 23 = .ok (.iload_n 2, 1) := by decide +kernel
theorem dX5_fixPlate_24 : decode cX5_fixPlate 24 = .ok (.iaload, 1) := by decide +kernel
theorem dX5_fixPlate_25 : decode cX5_fixPlate 25 = .ok (.if_icmp .le 34, 3) := by decide +kernel
theorem dX5_fixPlate_28 : decode cX5_fixPlate 28 = .ok (.aload_n 0, 1) := by decide +kernel
theorem dX5_fixPlate_29 : decode cX5_fixPlate 29 = .ok (.iload_n 2, 1) := by decide +kernel
theorem dX5_fixPlate_30 : decode cX5_fixPlate 30 = .ok (.aload_n 0, 1) := by decide +kernel
theorem dX5_fixPlate_31 : decode cX5_fixPlate 31 = .ok (.iload_n 2, 1) := by decide +kernel
theorem dX5_fixPlate_32 : decode cX5_fixPlate 32 = .ok (.invokevirtual 98, 3) := by decide +kernel
theorem dX5_fixPlate_35 : decode cX5_fixPlate 35 = .ok (.invokevirtual 107, 3) := by decide +kernel
theorem dX5_fixPlate_38 : decode cX5_fixPlate 38 = .ok (.istore 4, 2) := by decide +kernel
theorem dX5_fixPlate_40 : decode cX5_fixPlate 40 = .ok (.aload_n 0, 1) := by decide +kernel
theorem dX5_fixPlate_41 : decode cX5_fixPlate 41 = .ok (.iload 4, 2) := by decide +kernel
theorem dX5_fixPlate_43 : decode cX5_fixPlate 43 = .ok (.invokevirtual 71, 3) := by decide +kernel
theorem dX5_fixPlate_46 : decode cX5_fixPlate 46 = .ok (.ifCond .eq 13, 3) := by decide +kernel
theorem dX5_fixPlate_49 : decode cX5_fixPlate 49 = .ok (.aload_n 0, 1) := by decide +kernel
theorem dX5_fixPlate_50 : decode cX5_fixPlate 50 = .ok (.getfield 11, 3) := by decide +kernel
theorem dX5_fixPlate_53 : decode cX5_fixPlate 53 = .ok (.iload 4, 2) := by decide +kernel
theorem dX5_fixPlate_55 : decode cX5_fixPlate 55 = .ok (.aaload, 1) := by decide +kernel
theorem dX5_fixPlate_56 : decode cX5_fixPlate 56 = .ok (.invokevirtual 111, 3) := by decide +kernel
theorem dX5_fixPlate_59 : decode cX5_fixPlate 59 = .ok (.return_, 1) := by decide +kernel
theorem dX5_findPlate_0 : decode cX5_findPlate 0 = .ok (.aload_n 0, 1) := by decide +kernel
theorem dX5_findPlate_1 : decode cX5_findPlate 1 = .ok (.iload_n 1, 1) := by decide +kernel
theorem dX5_findPlate_2 : decode cX5_findPlate 2 = .ok (.iload_n 2, 1) := by decide +kernel
theorem dX5_findPlate_3 : decode cX5_findPlate 3 = .ok (.iconst 0, 1) := by decide +kernel
theorem dX5_findPlate_4 : decode cX5_findPlate 4 = .ok (.invokevirtual 114, 3) := by decide +kernel
theorem dX5_findPlate_7 : decode cX5_findPlate 7 = .ok (.istore_n 3, 1) := by decide +kernel
theorem dX5_findPlate_8 : decode cX5_findPlate 8 = .ok (.iload_n 3, 1) := by decide +kernel
theorem dX5_findPlate_9 : decode cX5_findPlate 9 = .ok (.bipush (-9), 2) := by decide +kernel
theorem dX5_findPlate_11 : decode cX5_findPlate 11 = .ok (.if_icmp .ne 13, 3) := by decide +kernel
theorem dX5_findPlate_14 : decode cX5_findPlate 14 = .ok (.aload_n 0, 1) := by decide +kernel
theorem dX5_findPlate_15 : decode cX5_findPlate 15 = .ok (.iload_n 1, 1) := by decide +kernel
theorem dX5_findPlate_16 : decode cX5_findPlate 16 = .ok (.iload_n 2, 1) := by decide +kernel
theorem dX5_findPlate_17 : decode cX5_findPlate 17 = .ok (.iconst 1, 1) := by decide +kernel
theorem dX5_findPlate_18 : decode cX5_findPlate 18 = .ok (.invokevirtual 114, 3) := by decide +kernel
theorem dX5_findPlate_21 : decode cX5_findPlate 21 = .ok (.goto 4, 3) := by decide +kernel
theorem dX5_findPlate_24 : decode cX5_findPlate 24 = .ok (.iload_n 3, 1) := by decide +kernel
theorem dX5_findPlate_25 : decode cX5_findPlate 25 = .ok (.ireturn, 1) := by decide +kernel
theorem dX5_bestPlate_0 : decode cX5_bestPlate 0 = .ok (.bipush (-9), 2) := by decide +kernel
theorem dX5_bestPlate_2 : decode cX5_bestPlate 2 = .ok (.istore 4, 2) := by decide +kernel
theorem dX5_bestPlate_4 : decode cX5_bestPlate 4 = .ok (.iconst 0, 1) := by decide +kernel
theorem dX5_bestPlate_5 : decode cX5_bestPlate 5 = .ok (.istore 5, 2) := by decide +kernel
theorem dX5_bestPlate_7 : decode cX5_bestPlate 7 = .ok (.iload 5, 2) := by decide +kernel
theorem dX5_bestPlate_9 : decode cX5_bestPlate 9 = .ok (.aload_n 0, 1) := by decide +kernel
theorem dX5_bestPlate_10 : decode cX5_bestPlate 10 = .ok (.getfield 42, 3) := by decide +kernel
theorem dX5_bestPlate_13 : decode cX5_bestPlate 13 = .ok (.if_icmp .ge 101, 3) := by decide +kernel
theorem dX5_bestPlate_16 : decode cX5_bestPlate 16 = .ok (.aload_n 0, 1) := by decide +kernel
theorem dX5_bestPlate_17 : decode cX5_bestPlate 17 = .ok (.getfield 11, 3) := by decide +kernel
theorem dX5_bestPlate_20 : decode cX5_bestPlate 20 = .ok (.iload 5, 2) := by decide +kernel
theorem dX5_bestPlate_22 : decode cX5_bestPlate 22 = .ok (.aaload, 1) := by decide +kernel
theorem dX5_bestPlate_23 : decode cX5_bestPlate 23 = .ok (.astore 6, 2) := by decide +kernel
theorem dX5_bestPlate_25 : decode cX5_bestPlate 25 = .ok (.iload_n 3, 1) := by decide +kernel
theorem dX5_bestPlate_26 : decode cX5_bestPlate 26 = .ok (.ifCond .eq 12, 3) := by decide +kernel
theorem dX5_bestPlate_29 : decode cX5_bestPlate 29 = .ok (.aload 6, 2) := by decide +kernel
theorem dX5_bestPlate_31 : decode cX5_bestPlate 31 = .ok (.iload_n 2, 1) := by decide +kernel
theorem dX5_bestPlate_32 : decode cX5_bestPlate 32 = .ok (.invokevirtual 118, 3) := by decide +kernel
theorem dX5_bestPlate_35 : decode cX5_bestPlate 35 = .ok (.goto 9, 3) := by decide +kernel
theorem dX5_bestPlate_38 : decode cX5_bestPlate 38 = .ok (.aload 6, 2) := by decide +kernel
theorem dX5_bestPlate_40 : decode cX5_bestPlate 40 = .ok (.iload_n 2, 1) := by decide +kernel
theorem dX5_bestPlate_41 : decode cX5_bestPlate 41 = .ok (.invokevirtual 121, 3) := by decide +kernel
theorem dX5_bestPlate_44 : decode cX5_bestPlate 44 = .ok (.istore 7, 2) := by decide +kernel
theorem dX5_bestPlate_46 : decode cX5_bestPlate 46 = .ok (.aload 6, 2) := by decide +kernel
theorem dX5_bestPlate_48 : decode cX5_bestPlate 48 = .ok (.getfield 82, 3) := by decide +kernel
theorem dX5_bestPlate_51 : decode cX5_bestPlate 51 = .ok (.ifCond .ne 23, 3) := by decide +kernel
theorem dX5_bestPlate_54 : decode cX5_bestPlate 54 = .ok (.aload 6, 2) := by decide +kernel
theorem dX5_bestPlate_56 : decode cX5_bestPlate 56 = .ok (.getfield 124, 3) := by decide +kernel
theorem dX5_bestPlate_59 : decode cX5_bestPlate 59 = .ok (.iload_n 1, 1) := by decide +kernel
theorem dX5_bestPlate_60 : decode cX5_bestPlate 60 = .ok (.if_icmp .lt 14, 3) := by decide +kernel
theorem dX5_bestPlate_63 : decode cX5_bestPlate 63 = .ok (.iload 7, 2) := by decide +kernel
theorem dX5_bestPlate_65 : decode cX5_bestPlate 65 = .ok (.bipush (-9), 2) := by decide +kernel
theorem dX5_bestPlate_67 : decode cX5_bestPlate 67 = .ok (.if_icmp .eq 7, 3) := by decide +kernel
theorem dX5_bestPlate_70 : decode cX5_bestPlate 70 = .ok (.iconst 1, 1) := by decide +kernel
theorem dX5_bestPlate_71 : decode cX5_bestPlate 71 = .ok (.goto 4, 3) := by decide +kernel
theorem dX5_bestPlate_74 : decode cX5_bestPlate 74 = .ok (.iconst 0, 1) := by decide +kernel
theorem dX5_bestPlate_75 : decode cX5_bestPlate 75 = .ok (.istore 8, 2) := by decide +kernel
theorem dX5_bestPlate_77 : decode cX5_bestPlate 77 = .ok (.iload 8, 2) := by decide +kernel
theorem dX5_bestPlate_79 : decode cX5_bestPlate 79 = .ok (.ifCond .eq 29, 3) := by decide +kernel
theorem dX5_bestPlate_82 : decode cX5_bestPlate 82 = .ok (.iload 4, 2) := by decide +kernel
theorem dX5_bestPlate_84 : decode cX5_bestPlate 84 = .ok (.bipush (-9), 2) := by decide +kernel
theorem dX5_bestPlate_86 : decode cX5_bestPlate 86 = .ok (.if_icmp .eq 18, 3) := by decide +kernel
theorem dX5_bestPlate_89 : decode cX5_bestPlate 89 = .ok (.aload 6, 2) := by decide +kernel
theorem dX5_bestPlate_91 : decode cX5_bestPlate 91 = .ok (.aload_n 0, 1) := by decide +kernel
theorem dX5_bestPlate_92 : decode cX5_bestPlate 92 = .ok (.getfield 11, 3) := by decide +kernel
theorem dX5_bestPlate_95 : decode cX5_bestPlate 95 = .ok (.iload 4, 2) := by decide +kernel
theorem dX5_bestPlate_97 : decode cX5_bestPlate 97 = .ok (.aaload, 1) := by decide +kernel
theorem dX5_bestPlate_98 : decode cX5_bestPlate 98 = .ok (.invokevirtual 127, 3) := by decide +kernel
theorem dX5_bestPlate_101 : decode cX5_bestPlate 101 = .ok (.ifCond .eq 7, 3) := by decide +kernel
theorem dX5_bestPlate_104 : decode cX5_bestPlate 104 = .ok (.iload 5, 2) := by decide +kernel
theorem dX5_bestPlate_106 : decode cX5_bestPlate 106 = .ok (.istore 4, 2) := by decide +kernel
theorem dX5_bestPlate_108 : decode cX5_bestPlate 108 = .ok (.iinc 5 1, 3) := by decide +kernel
theorem dX5_bestPlate_111 : decode cX5_bestPlate 111 = .ok (.goto (-104), 3) := by decide +kernel
theorem dX5_bestPlate_114 : decode cX5_bestPlate 114 = .ok (.iload 4, 2) := by decide +kernel
theorem dX5_bestPlate_116 : decode cX5_bestPlate 116 = .ok (.ireturn, 1) := by decide +kernel
theorem dX5_rushes_0 : decode cX5_rushes 0 = .ok (.iconst 0, 1) := by decide +kernel
theorem dX5_rushes_1 : decode cX5_rushes 1 = .ok (.istore_n 1, 1) := by decide +kernel
theorem dX5_rushes_2 : decode cX5_rushes 2 = .ok (.iconst 0, 1) := by decide +kernel
theorem dX5_rushes_3 : decode cX5_rushes 3 = .ok (.istore_n 2, 1) := by decide +kernel
theorem dX5_rushes_4 : decode cX5_rushes 4 = .ok (.iload_n 2, 1) := by decide +kernel
theorem dX5_rushes_5 : decode cX5_rushes 5 = .ok (.aload_n 0, 1) := by decide +kernel
theorem dX5_rushes_6 : decode cX5_rushes 6 = .ok (.getfield 52, 3) := by decide +kernel
theorem dX5_rushes_9 : decode cX5_rushes 9 = .ok (.if_icmp .ge 24, 3) := by decide +kernel
theorem dX5_rushes_12 : decode cX5_rushes 12 = .ok (.aload_n 0, 1) := by decide +kernel
theorem dX5_rushes_13 : decode cX5_rushes 13 = .ok (.getfield 23, 3) := by decide +kernel
theorem dX5_rushes_16 : decode cX5_rushes 16 = .ok (.iload_n 2, 1) := by decide +kernel
theorem dX5_rushes_17 : decode cX5_rushes 17 = .ok (.aaload, 1) := by decide +kernel
theorem dX5_rushes_18 : decode cX5_rushes 18 = .ok (.getfield 131, 3) := by decide +kernel
theorem dX5_rushes_21 : decode cX5_rushes 21 = .ok (.ifCond .eq 6, 3) := by decide +kernel
theorem dX5_rushes_24 : decode cX5_rushes 24 = .ok (.iinc 1 1, 3) := by decide +kernel
theorem dX5_rushes_27 : decode cX5_rushes 27 = .ok (.iinc 2 1, 3) := by decide +kernel
theorem dX5_rushes_30 : decode cX5_rushes 30 = .ok (.goto (-26), 3) := by decide +kernel
theorem dX5_rushes_33 : decode cX5_rushes 33 = .ok (.iload_n 1, 1) := by decide +kernel
theorem dX5_rushes_34 : decode cX5_rushes 34 = .ok (.ireturn, 1) := by decide +kernel
theorem dX5_isOrdered_0 : decode cX5_isOrdered 0 = .ok (.iconst 0, 1) := by decide +kernel
theorem dX5_isOrdered_1 : decode cX5_isOrdered 1 = .ok (.istore_n 3, 1) := by decide +kernel
theorem dX5_isOrdered_2 : decode cX5_isOrdered 2 = .ok (.iload_n 3, 1) := by decide +kernel
theorem dX5_isOrdered_3 : decode cX5_isOrdered 3 = .ok (.aload_n 0, 1) := by decide +kernel
theorem dX5_isOrdered_4 : decode cX5_isOrdered 4 = .ok (.getfield 52, 3) := by decide +kernel
theorem dX5_isOrdered_7 : decode cX5_isOrdered 7 = .ok (.if_icmp .ge 37, 3) := by decide +kernel
theorem dX5_isOrdered_10 : decode cX5_isOrdered 10 = .ok (.aload_n 0, 1) := by decide +kernel
theorem dX5_isOrdered_11 : decode cX5_isOrdered 11 = .ok (.getfield 23, 3) := by decide +kernel
theorem dX5_isOrdered_14 : decode cX5_isOrdered 14 = .ok (.iload_n 3, 1) := by decide +kernel
theorem dX5_isOrdered_15 : decode cX5_isOrdered 15 = .ok (.aaload, 1) := by decide +kernel
theorem dX5_isOrdered_16 : decode cX5_isOrdered 16 = .ok (.getfield 135, 3) := by decide +kernel
theorem dX5_isOrdered_19 : decode cX5_isOrdered 19 = .ok (.iload_n 1, 1) := by decide +kernel
theorem dX5_isOrdered_20 : decode cX5_isOrdered 20 = .ok (.if_icmp .ne 18, 3) := by decide +kernel
theorem dX5_isOrdered_23 : decode cX5_isOrdered 23 = .ok (.aload_n 0, 1) := by decide +kernel
theorem dX5_isOrdered_24 : decode cX5_isOrdered 24 = .ok (.getfield 23, 3) := by decide +kernel
theorem dX5_isOrdered_27 : decode cX5_isOrdered 27 = .ok (.iload_n 3, 1) := by decide +kernel
theorem dX5_isOrdered_28 : decode cX5_isOrdered 28 = .ok (.aaload, 1) := by decide +kernel
theorem dX5_isOrdered_29 : decode cX5_isOrdered 29 = .ok (.getfield 136, 3) := by decide +kernel
theorem dX5_isOrdered_32 : decode cX5_isOrdered 32 = .ok (.iload_n 2, 1) := by decide +kernel
theorem dX5_isOrdered_33 : decode cX5_isOrdered 33 = .ok (.if_icmp .ne 5, 3) := by decide +kernel
theorem dX5_isOrdered_36 : decode cX5_isOrdered 36 = .ok (.iconst 1, 1) := by decide +kernel
theorem dX5_isOrdered_37 : decode cX5_isOrdered 37 = .ok (.ireturn, 1) := by decide +kernel
theorem dX5_isOrdered_38 : decode cX5_isOrdered 38 = .ok (.iinc 3 1, 3) := by decide +kernel
theorem dX5_isOrdered_41 : decode cX5_isOrdered 41 = .ok (.goto (-39), 3) := by decide +kernel
theorem dX5_isOrdered_44 : decode cX5_isOrdered 44 = .ok (.iconst 0, 1) := by decide +kernel
theorem dX5_isOrdered_45 : decode cX5_isOrdered 45 = .ok (.ireturn, 1) := by decide +kernel
theorem dX5_takeInOrder_0 : decode cX5_takeInOrder 0 = .ok (.aload_n 0, 1) := by decide +kernel
theorem dX5_takeInOrder_1 : decode cX5_takeInOrder 1 = .ok (.getfield 52, 3) := by decide +kernel
theorem dX5_takeInOrder_4 : decode cX5_takeInOrder 4 = .ok (.istore_n 1, 1) := by decide +kernel
theorem dX5_takeInOrder_5 : decode cX5_takeInOrder 5 = .ok (.aload_n 0, 1) := by decide +kernel
theorem dX5_takeInOrder_6 : decode cX5_takeInOrder 6 = .ok (.getfield 23, 3) := by decide +kernel
theorem dX5_takeInOrder_9 : decode cX5_takeInOrder 9 = .ok (.iload_n 1, 1) := by decide +kernel
theorem dX5_takeInOrder_10 : decode cX5_takeInOrder 10 = .ok (.aaload, 1) := by decide +kernel
theorem dX5_takeInOrder_11 : decode cX5_takeInOrder 11 = .ok (.getfield 131, 3) := by decide +kernel
theorem dX5_takeInOrder_14 : decode cX5_takeInOrder 14 = .ok (.ifCond .eq 10, 3) := by decide +kernel
theorem dX5_takeInOrder_17 : decode cX5_takeInOrder 17 = .ok (.aload_n 0, 1) := by decide +kernel
theorem dX5_takeInOrder_18 : decode cX5_takeInOrder 18 = .ok (.invokevirtual 137, 3) := by decide +kernel
theorem dX5_takeInOrder_21 : decode cX5_takeInOrder 21 = .ok (.goto 4, 3) := by decide +kernel
theorem dX5_takeInOrder_24 : decode cX5_takeInOrder 24 = .ok (.iload_n 1, 1) := by decide +kernel
theorem dX5_takeInOrder_25 : decode cX5_takeInOrder 25 = .ok (.istore_n 2, 1) := by decide +kernel
theorem dX5_takeInOrder_26 : decode cX5_takeInOrder 26 = .ok (.aload_n 0, 1) := by decide +kernel
theorem dX5_takeInOrder_27 : decode cX5_takeInOrder 27 = .ok (.dup, 1) := by decide +kernel
theorem dX5_takeInOrder_28 : decode cX5_takeInOrder 28 = .ok (.getfield 52, 3) := by decide +kernel
theorem dX5_takeInOrder_31 : decode cX5_takeInOrder 31 = .ok (.iconst 1, 1) := by decide +kernel
theorem dX5_takeInOrder_32 : decode cX5_takeInOrder 32 = .ok (.iadd, 1) := by decide +kernel
theorem dX5_takeInOrder_33 : decode cX5_takeInOrder 33 = .ok (.putfield 52, 3) := by decide +kernel
theorem dX5_takeInOrder_36 : decode cX5_takeInOrder 36 = .ok (.aload_n 0, 1) := by decide +kernel
theorem dX5_takeInOrder_37 : decode cX5_takeInOrder 37 = .ok (.iload_n 1, 1) := by decide +kernel
theorem dX5_takeInOrder_38 : decode cX5_takeInOrder 38 = .ok (.iload_n 2, 1) := by decide +kernel
theorem dX5_takeInOrder_39 : decode cX5_takeInOrder 39 = .ok (.invokevirtual 141, 3) := by decide +kernel
theorem dX5_takeInOrder_42 : decode cX5_takeInOrder 42 = .ok (.iload_n 2, 1) := by decide +kernel
theorem dX5_takeInOrder_43 : decode cX5_takeInOrder 43 = .ok (.ireturn, 1) := by decide +kernel
theorem dX5_makeRush_0 : decode cX5_makeRush 0 = .ok (.aload_n 0, 1) := by decide +kernel
theorem dX5_makeRush_1 : decode cX5_makeRush 1 = .ok (.invokevirtual 137, 3) := by decide +kernel
theorem dX5_makeRush_4 : decode cX5_makeRush 4 = .ok (.istore_n 2, 1) := by decide +kernel
theorem dX5_makeRush_5 : decode cX5_makeRush 5 = .ok (.aload_n 0, 1) := by decide +kernel
theorem dX5_makeRush_6 : decode cX5_makeRush 6 = .ok (.getfield 23, 3) := by decide +kernel
theorem dX5_makeRush_9 : decode cX5_makeRush 9 = .ok (.iload_n 1, 1) := by decide +kernel
theorem dX5_makeRush_10 : decode cX5_makeRush 10 = .ok (.aaload, 1) := by decide +kernel
theorem dX5_makeRush_11 : decode cX5_makeRush 11 = .ok (.iconst 1, 1) := by decide +kernel
theorem dX5_makeRush_12 : decode cX5_makeRush 12 = .ok (.putfield 131, 3) := by decide +kernel
theorem dX5_makeRush_15 : decode cX5_makeRush 15 = .ok (.aload_n 0, 1) := by decide +kernel
theorem dX5_makeRush_16 : decode cX5_makeRush 16 = .ok (.iload_n 1, 1) := by decide +kernel
theorem dX5_makeRush_17 : decode cX5_makeRush 17 = .ok (.iload_n 2, 1) := by decide +kernel
theorem dX5_makeRush_18 : decode cX5_makeRush 18 = .ok (.invokevirtual 141, 3) := by decide +kernel
theorem dX5_makeRush_21 : decode cX5_makeRush 21 = .ok (.iload_n 2, 1) := by decide +kernel
theorem dX5_makeRush_22 : decode cX5_makeRush 22 = .ok (.ireturn, 1) := by decide +kernel
theorem dX5_moveAhead_0 : decode cX5_moveAhead 0 = .ok (.aload_n 0, 1) := by decide +kernel
theorem dX5_moveAhead_1 : decode cX5_moveAhead 1 = .ok (.getfield 23, 3) := by decide +kernel
theorem dX5_moveAhead_4 : decode cX5_moveAhead 4 = .ok (.iload_n 1, 1) := by decide +kernel
theorem dX5_moveAhead_5 : decode cX5_moveAhead 5 = .ok (.aaload, 1) := by decide +kernel
theorem dX5_moveAhead_6 : decode cX5_moveAhead 6 = .ok (.astore_n 3, 1) := by decide +kernel
theorem dX5_moveAhead_7 : decode cX5_moveAhead 7 = .ok (.iload_n 1, 1) := by decide +kernel
theorem dX5_moveAhead_8 : decode cX5_moveAhead 8 = .ok (.istore 4, 2) := by decide +kernel
theorem dX5_moveAhead_10 : decode cX5_moveAhead 10 = .ok (.iload 4, 2) := by decide +kernel
theorem dX5_moveAhead_12 : decode cX5_moveAhead 12 = .ok (.iload_n 2, 1) := by decide +kernel
theorem dX5_moveAhead_13 : decode cX5_moveAhead 13 = .ok (.if_icmp .le 25, 3) := by decide +kernel
theorem dX5_moveAhead_16 : decode cX5_moveAhead 16 = .ok (.aload_n 0, 1) := by decide +kernel
theorem dX5_moveAhead_17 : decode cX5_moveAhead 17 = .ok (.getfield 23, 3) := by decide +kernel
theorem dX5_moveAhead_20 : decode cX5_moveAhead 20 = .ok (.iload 4, 2) := by decide +kernel
theorem dX5_moveAhead_22 : decode cX5_moveAhead 22 = .ok (.aload_n 0, 1) := by decide +kernel
theorem dX5_moveAhead_23 : decode cX5_moveAhead 23 = .ok (.getfield 23, 3) := by decide +kernel
theorem dX5_moveAhead_26 : decode cX5_moveAhead 26 = .ok (.iload 4, 2) := by decide +kernel
theorem dX5_moveAhead_28 : decode cX5_moveAhead 28 = .ok (.iconst 1, 1) := by decide +kernel
theorem dX5_moveAhead_29 : decode cX5_moveAhead 29 = .ok (.isub, 1) := by decide +kernel
theorem dX5_moveAhead_30 : decode cX5_moveAhead 30 = .ok (.aaload, 1) := by decide +kernel
theorem dX5_moveAhead_31 : decode cX5_moveAhead 31 = .ok (.aastore, 1) := by decide +kernel
theorem dX5_moveAhead_32 : decode cX5_moveAhead 32 = .ok (.iinc 4 (-1), 3) := by decide +kernel
theorem dX5_moveAhead_35 : decode cX5_moveAhead 35 = .ok (.goto (-25), 3) := by decide +kernel
theorem dX5_moveAhead_38 : decode cX5_moveAhead 38 = .ok (.aload_n 0, 1) := by decide +kernel
theorem dX5_moveAhead_39 : decode cX5_moveAhead 39 = .ok (.getfield 23, 3) := by decide +kernel
theorem dX5_moveAhead_42 : decode cX5_moveAhead 42 = .ok (.iload_n 2, 1) := by decide +kernel
theorem dX5_moveAhead_43 : decode cX5_moveAhead 43 = .ok (.aload_n 3, 1) := by decide +kernel
theorem dX5_moveAhead_44 : decode cX5_moveAhead 44 = .ok (.aastore, 1) := by decide +kernel
theorem dX5_moveAhead_45 : decode cX5_moveAhead 45 = .ok (.aload_n 0, 1) := by decide +kernel
theorem dX5_moveAhead_46 : decode cX5_moveAhead 46 = .ok (.getfield 27, 3) := by decide +kernel
theorem dX5_moveAhead_49 : decode cX5_moveAhead 49 = .ok (.iload_n 1, 1) := by decide +kernel
theorem dX5_moveAhead_50 : decode cX5_moveAhead 50 = .ok (.if_icmp .ne 11, 3) := by decide +kernel
theorem dX5_moveAhead_53 : decode cX5_moveAhead 53 = .ok (.aload_n 0, 1) := by decide +kernel
theorem dX5_moveAhead_54 : decode cX5_moveAhead 54 = .ok (.iload_n 2, 1) := by decide +kernel
theorem dX5_moveAhead_55 : decode cX5_moveAhead 55 = .ok (.putfield 27, 3) := by decide +kernel
theorem dX5_moveAhead_58 : decode cX5_moveAhead 58 = .ok (.goto 29, 3) := by decide +kernel
theorem dX5_moveAhead_61 : decode cX5_moveAhead 61 = .ok (.aload_n 0, 1) := by decide +kernel
theorem dX5_moveAhead_62 : decode cX5_moveAhead 62 = .ok (.getfield 27, 3) := by decide +kernel
theorem dX5_moveAhead_65 : decode cX5_moveAhead 65 = .ok (.iload_n 2, 1) := by decide +kernel
theorem dX5_moveAhead_66 : decode cX5_moveAhead 66 = .ok (.if_icmp .lt 21, 3) := by decide +kernel
theorem dX5_moveAhead_69 : decode cX5_moveAhead 69 = .ok (.aload_n 0, 1) := by decide +kernel
theorem dX5_moveAhead_70 : decode cX5_moveAhead 70 = .ok (.getfield 27, 3) := by decide +kernel
theorem dX5_moveAhead_73 : decode cX5_moveAhead 73 = .ok (.iload_n 1, 1) := by decide +kernel
theorem dX5_moveAhead_74 : decode cX5_moveAhead 74 = .ok (.if_icmp .ge 13, 3) := by decide +kernel
theorem dX5_moveAhead_77 : decode cX5_moveAhead 77 = .ok (.aload_n 0, 1) := by decide +kernel
theorem dX5_moveAhead_78 : decode cX5_moveAhead 78 = .ok (.dup, 1) := by decide +kernel
theorem dX5_moveAhead_79 : decode cX5_moveAhead 79 = .ok (.getfield 27, 3) := by decide +kernel
theorem dX5_moveAhead_82 : decode cX5_moveAhead 82 = .ok (.iconst 1, 1) := by decide +kernel
theorem dX5_moveAhead_83 : decode cX5_moveAhead 83 = .ok (.iadd, 1) := by decide +kernel
theorem dX5_moveAhead_84 : decode cX5_moveAhead 84 = .ok (.putfield 27, 3) := by decide +kernel
theorem dX5_moveAhead_87 : decode cX5_moveAhead 87 = .ok (.return_, 1) := by decide +kernel
theorem dX5_dropOrder_0 : decode cX5_dropOrder 0 = .ok (.iload_n 1, 1) := by decide +kernel
theorem dX5_dropOrder_1 : decode cX5_dropOrder 1 = .ok (.aload_n 0, 1) := by decide +kernel
theorem dX5_dropOrder_2 : decode cX5_dropOrder 2 = .ok (.getfield 27, 3) := by decide +kernel
theorem dX5_dropOrder_5 : decode cX5_dropOrder 5 = .ok (.if_icmp .ne 26, 3) := by decide +kernel
theorem dX5_dropOrder_8 : decode cX5_dropOrder 8 = .ok (.aload_n 0, 1) := by decide +kernel
theorem dX5_dropOrder_9 : decode cX5_dropOrder 9 = .ok (.invokevirtual 144, 3) := by decide +kernel
theorem dX5_dropOrder_12 : decode cX5_dropOrder 12 = .ok (.ifCond .eq 19, 3) := by decide +kernel
theorem dX5_dropOrder_15 : decode cX5_dropOrder 15 = .ok (.aload_n 0, 1) := by decide +kernel
theorem dX5_dropOrder_16 : decode cX5_dropOrder 16 = .ok (.getfield 11, 3) := by decide +kernel
theorem dX5_dropOrder_19 : decode cX5_dropOrder 19 = .ok (.aload_n 0, 1) := by decide +kernel
theorem dX5_dropOrder_20 : decode cX5_dropOrder 20 = .ok (.getfield 31, 3) := by decide +kernel
theorem dX5_dropOrder_23 : decode cX5_dropOrder 23 = .ok (.aaload, 1) := by decide +kernel
theorem dX5_dropOrder_24 : decode cX5_dropOrder 24 = .ok (.invokevirtual 111, 3) := by decide +kernel
theorem dX5_dropOrder_27 : decode cX5_dropOrder 27 = .ok (.aload_n 0, 1) := by decide +kernel
theorem dX5_dropOrder_28 : decode cX5_dropOrder 28 = .ok (.invokevirtual 148, 3) := by decide +kernel
theorem dX5_dropOrder_31 : decode cX5_dropOrder 31 = .ok (.aload_n 0, 1) := by decide +kernel
theorem dX5_dropOrder_32 : decode cX5_dropOrder 32 = .ok (.iload_n 1, 1) := by decide +kernel
theorem dX5_dropOrder_33 : decode cX5_dropOrder 33 = .ok (.invokevirtual 151, 3) := by decide +kernel
theorem dX5_dropOrder_36 : decode cX5_dropOrder 36 = .ok (.return_, 1) := by decide +kernel
theorem dX5_removeOrder_0 : decode cX5_removeOrder 0 = .ok (.aload_n 0, 1) := by decide +kernel
theorem dX5_removeOrder_1 : decode cX5_removeOrder 1 = .ok (.getfield 23, 3) := by decide +kernel
theorem dX5_removeOrder_4 : decode cX5_removeOrder 4 = .ok (.iload_n 1, 1) := by decide +kernel
theorem dX5_removeOrder_5 : decode cX5_removeOrder 5 = .ok (.aaload, 1) := by decide +kernel
theorem dX5_removeOrder_6 : decode cX5_removeOrder 6 = .ok (.astore_n 2, 1) := by decide +kernel
theorem dX5_removeOrder_7 : decode cX5_removeOrder 7 = .ok (.iload_n 1, 1) := by decide +kernel
theorem dX5_removeOrder_8 : decode cX5_removeOrder 8 = .ok (.istore_n 3, 1) := by decide +kernel
theorem dX5_removeOrder_9 : decode cX5_removeOrder 9 = .ok (.iload_n 3, 1) := by decide +kernel
theorem dX5_removeOrder_10 : decode cX5_removeOrder 10 = .ok (.aload_n 0, 1) := by decide +kernel
theorem dX5_removeOrder_11 : decode cX5_removeOrder 11 = .ok (.getfield 52, 3) := by decide +kernel
theorem dX5_removeOrder_14 : decode cX5_removeOrder 14 = .ok (.iconst 1, 1) := by decide +kernel
theorem dX5_removeOrder_15 : decode cX5_removeOrder 15 = .ok (.isub, 1) := by decide +kernel
theorem dX5_removeOrder_16 : decode cX5_removeOrder 16 = .ok (.if_icmp .ge 23, 3) := by decide +kernel
theorem dX5_removeOrder_19 : decode cX5_removeOrder 19 = .ok (.aload_n 0, 1) := by decide +kernel
theorem dX5_removeOrder_20 : decode cX5_removeOrder 20 = .ok (.getfield 23, 3) := by decide +kernel
theorem dX5_removeOrder_23 : decode cX5_removeOrder 23 = .ok (.iload_n 3, 1) := by decide +kernel
theorem dX5_removeOrder_24 : decode cX5_removeOrder 24 = .ok (.aload_n 0, 1) := by decide +kernel
theorem dX5_removeOrder_25 : decode cX5_removeOrder 25 = .ok (.getfield 23, 3) := by decide +kernel
theorem dX5_removeOrder_28 : decode cX5_removeOrder 28 = .ok (.iload_n 3, 1) := by decide +kernel
theorem dX5_removeOrder_29 : decode cX5_removeOrder 29 = .ok (.iconst 1, 1) := by decide +kernel
theorem dX5_removeOrder_30 : decode cX5_removeOrder 30 = .ok (.iadd, 1) := by decide +kernel
theorem dX5_removeOrder_31 : decode cX5_removeOrder 31 = .ok (.aaload, 1) := by decide +kernel
theorem dX5_removeOrder_32 : decode cX5_removeOrder 32 = .ok (.aastore, 1) := by decide +kernel
theorem dX5_removeOrder_33 : decode cX5_removeOrder 33 = .ok (.iinc 3 1, 3) := by decide +kernel
theorem dX5_removeOrder_36 : decode cX5_removeOrder 36 = .ok (.goto (-27), 3) := by decide +kernel
theorem dX5_removeOrder_39 : decode cX5_removeOrder 39 = .ok (.aload_n 0, 1) := by decide +kernel
theorem dX5_removeOrder_40 : decode cX5_removeOrder 40 = .ok (.dup, 1) := by decide +kernel
theorem dX5_removeOrder_41 : decode cX5_removeOrder 41 = .ok (.getfield 52, 3) := by decide +kernel
theorem dX5_removeOrder_44 : decode cX5_removeOrder 44 = .ok (.iconst 1, 1) := by decide +kernel
theorem dX5_removeOrder_45 : decode cX5_removeOrder 45 = .ok (.isub, 1) := by decide +kernel
theorem dX5_removeOrder_46 : decode cX5_removeOrder 46 = .ok (.putfield 52, 3) := by decide +kernel
theorem dX5_removeOrder_49 : decode cX5_removeOrder 49 = .ok (.aload_n 0, 1) := by decide +kernel
theorem dX5_removeOrder_50 : decode cX5_removeOrder 50 = .ok (.getfield 23, 3) := by decide +kernel
theorem dX5_removeOrder_53 : decode cX5_removeOrder 53 = .ok (.aload_n 0, 1) := by decide +kernel
theorem dX5_removeOrder_54 : decode cX5_removeOrder 54 = .ok (.getfield 52, 3) := by decide +kernel
theorem dX5_removeOrder_57 : decode cX5_removeOrder 57 = .ok (.aload_n 2, 1) := by decide +kernel
theorem dX5_removeOrder_58 : decode cX5_removeOrder 58 = .ok (.aastore, 1) := by decide +kernel
theorem dX5_removeOrder_59 : decode cX5_removeOrder 59 = .ok (.aload_n 0, 1) := by decide +kernel
theorem dX5_removeOrder_60 : decode cX5_removeOrder 60 = .ok (.getfield 27, 3) := by decide +kernel
theorem dX5_removeOrder_63 : decode cX5_removeOrder 63 = .ok (.iload_n 1, 1) := by decide +kernel
theorem dX5_removeOrder_64 : decode cX5_removeOrder 64 = .ok (.if_icmp .le 13, 3) := by decide +kernel
theorem dX5_removeOrder_67 : decode cX5_removeOrder 67 = .ok (.aload_n 0, 1) := by decide +kernel
theorem dX5_removeOrder_68 : decode cX5_removeOrder 68 = .ok (.dup, 1) := by decide +kernel
theorem dX5_removeOrder_69 : decode cX5_removeOrder 69 = .ok (.getfield 27, 3) := by decide +kernel
theorem dX5_removeOrder_72 : decode cX5_removeOrder 72 = .ok (.iconst 1, 1) := by decide +kernel
theorem dX5_removeOrder_73 : decode cX5_removeOrder 73 = .ok (.isub, 1) := by decide +kernel
theorem dX5_removeOrder_74 : decode cX5_removeOrder 74 = .ok (.putfield 27, 3) := by decide +kernel
theorem dX5_removeOrder_77 : decode cX5_removeOrder 77 = .ok (.return_, 1) := by decide +kernel
theorem dX5_stopWork_0 : decode cX5_stopWork 0 = .ok (.aload_n 0, 1) := by decide +kernel
theorem dX5_stopWork_1 : decode cX5_stopWork 1 = .ok (.bipush (-9), 2) := by decide +kernel
theorem dX5_stopWork_3 : decode cX5_stopWork 3 = .ok (.putfield 27, 3) := by decide +kernel
theorem dX5_stopWork_6 : decode cX5_stopWork 6 = .ok (.aload_n 0, 1) := by decide +kernel
theorem dX5_stopWork_7 : decode cX5_stopWork 7 = .ok (.bipush (-9), 2) := by decide +kernel
theorem dX5_stopWork_9 : decode cX5_stopWork 9 = .ok (.putfield 31, 3) := by decide +kernel
theorem dX5_stopWork_12 : decode cX5_stopWork 12 = .ok (.aload_n 0, 1) := by decide +kernel
theorem dX5_stopWork_13 : decode cX5_stopWork 13 = .ok (.bipush (-9), 2) := by decide +kernel
theorem dX5_stopWork_15 : decode cX5_stopWork 15 = .ok (.putfield 34, 3) := by decide +kernel
theorem dX5_stopWork_18 : decode cX5_stopWork 18 = .ok (.aload_n 0, 1) := by decide +kernel
theorem dX5_stopWork_19 : decode cX5_stopWork 19 = .ok (.bipush (-9), 2) := by decide +kernel
theorem dX5_stopWork_21 : decode cX5_stopWork 21 = .ok (.putfield 37, 3) := by decide +kernel
theorem dX5_stopWork_24 : decode cX5_stopWork 24 = .ok (.return_, 1) := by decide +kernel
theorem dX5_spendMinutes_0 : decode cX5_spendMinutes 0 = .ok (.aload_n 0, 1) := by decide +kernel
theorem dX5_spendMinutes_1 : decode cX5_spendMinutes 1 = .ok (.getfield 58, 3) := by decide +kernel
theorem dX5_spendMinutes_4 : decode cX5_spendMinutes 4 = .ok (.istore_n 2, 1) := by decide +kernel
theorem dX5_spendMinutes_5 : decode cX5_spendMinutes 5 = .ok (.iload_n 1, 1) := by decide +kernel
theorem dX5_spendMinutes_6 : decode cX5_spendMinutes 6 = .ok (.istore_n 3, 1) := by decide +kernel
theorem dX5_spendMinutes_7 : decode cX5_spendMinutes 7 = .ok (.iconst 0, 1) := by decide +kernel
theorem dX5_spendMinutes_8 : decode cX5_spendMinutes 8 = .ok (.istore 4, 2) := by decide +kernel
theorem dX5_spendMinutes_10 : decode cX5_spendMinutes 10 = .ok (.iload 4, 2) := by decide +kernel
theorem dX5_spendMinutes_12 : decode cX5_spendMinutes 12 = .ok (.bipush 10, 2) := by decide +kernel
theorem dX5_spendMinutes_14 : decode cX5_spendMinutes 14 = .ok (.if_icmp .gt 57, 3) := by decide +kernel
theorem dX5_spendMinutes_17 : decode cX5_spendMinutes 17 = .ok (.iload_n 3, 1) := by decide +kernel
theorem dX5_spendMinutes_18 : decode cX5_spendMinutes 18 = .ok (.ifCond .le 53, 3) := by decide +kernel
theorem dX5_spendMinutes_21 : decode cX5_spendMinutes 21 = .ok (.aload_n 0, 1) := by decide +kernel
theorem dX5_spendMinutes_22 : decode cX5_spendMinutes 22 = .ok (.invokevirtual 154, 3) := by decide +kernel
theorem dX5_spendMinutes_25 : decode cX5_spendMinutes 25 = .ok (.ifCond .eq 46, 3) := by decide +kernel
theorem dX5_spendMinutes_28 : decode cX5_spendMinutes 28 = .ok (.iload_n 3, 1) := by decide +kernel
theorem dX5_spendMinutes_29 : decode cX5_spendMinutes 29 = .ok (.aload_n 0, 1) := by decide +kernel
theorem dX5_spendMinutes_30 : decode cX5_spendMinutes 30 = .ok (.getfield 37, 3) := by decide +kernel
theorem dX5_spendMinutes_33 : decode cX5_spendMinutes 33 = .ok (.invokestatic 157, 3) := by decide +kernel
theorem dX5_spendMinutes_36 : decode cX5_spendMinutes 36 = .ok (.istore 5, 2) := by decide +kernel
theorem dX5_spendMinutes_38 : decode cX5_spendMinutes 38 = .ok (.iload_n 3, 1) := by decide +kernel
theorem dX5_spendMinutes_39 : decode cX5_spendMinutes 39 = .ok (.iload 5, 2) := by decide +kernel
theorem dX5_spendMinutes_41 : decode cX5_spendMinutes 41 = .ok (.isub, 1) := by decide +kernel
theorem dX5_spendMinutes_42 : decode cX5_spendMinutes 42 = .ok (.istore_n 3, 1) := by decide +kernel
theorem dX5_spendMinutes_43 : decode cX5_spendMinutes 43 = .ok (.aload_n 0, 1) := by decide +kernel
theorem dX5_spendMinutes_44 : decode cX5_spendMinutes 44 = .ok (.dup, 1) := by decide +kernel
theorem dX5_spendMinutes_45 : decode cX5_spendMinutes 45 = .ok (.getfield 37, 3) := by decide +kernel
theorem dX5_spendMinutes_48 : decode cX5_spendMinutes 48 = .ok (.iload 5, 2) := by decide +kernel
theorem dX5_spendMinutes_50 : decode cX5_spendMinutes 50 = .ok (.isub, 1) := by decide +kernel
theorem dX5_spendMinutes_51 : decode cX5_spendMinutes 51 = .ok (.putfield 37, 3) := by decide +kernel
theorem dX5_spendMinutes_54 : decode cX5_spendMinutes 54 = .ok (.aload_n 0, 1) := by decide +kernel
theorem dX5_spendMinutes_55 : decode cX5_spendMinutes 55 = .ok (.getfield 37, 3) := by decide +kernel
theorem dX5_spendMinutes_58 : decode cX5_spendMinutes 58 = .ok (.ifCond .ne 7, 3) := by decide +kernel
theorem dX5_spendMinutes_61 : decode cX5_spendMinutes 61 = .ok (.aload_n 0, 1) := by decide +kernel
theorem dX5_spendMinutes_62 : decode cX5_spendMinutes 62 = .ok (.invokevirtual 162, 3) := by decide +kernel
theorem dX5_spendMinutes_65 : decode cX5_spendMinutes 65 = .ok (.iinc 4 1, 3) := by decide +kernel
theorem dX5_spendMinutes_68 : decode cX5_spendMinutes 68 = .ok (.goto (-58), 3) := by decide +kernel
theorem dX5_spendMinutes_71 : decode cX5_spendMinutes 71 = .ok (.aload_n 0, 1) := by decide +kernel
theorem dX5_spendMinutes_72 : decode cX5_spendMinutes 72 = .ok (.getfield 58, 3) := by decide +kernel
theorem dX5_spendMinutes_75 : decode cX5_spendMinutes 75 = .ok (.iload_n 2, 1) := by decide +kernel
theorem dX5_spendMinutes_76 : decode cX5_spendMinutes 76 = .ok (.isub, 1) := by decide +kernel
theorem dX5_spendMinutes_77 : decode cX5_spendMinutes 77 = .ok (.ireturn, 1) := by decide +kernel
theorem dX5_takesUpWork_0 : decode cX5_takesUpWork 0 = .ok (.iconst 0, 1) := by decide +kernel
theorem dX5_takesUpWork_1 : decode cX5_takesUpWork 1 = .ok (.istore_n 1, 1) := by decide +kernel
theorem dX5_takesUpWork_2 : decode cX5_takesUpWork 2 = .ok (.iload_n 1, 1) := by decide +kernel
theorem dX5_takesUpWork_3 : decode cX5_takesUpWork 3 = .ok (.aload_n 0, 1) := by decide +kernel
theorem dX5_takesUpWork_4 : decode cX5_takesUpWork 4 = .ok (.getfield 52, 3) := by decide +kernel
theorem dX5_takesUpWork_7 : decode cX5_takesUpWork 7 = .ok (.if_icmp .ge 53, 3) := by decide +kernel
theorem dX5_takesUpWork_10 : decode cX5_takesUpWork 10 = .ok (.aload_n 0, 1) := by decide +kernel
theorem dX5_takesUpWork_11 : decode cX5_takesUpWork 11 = .ok (.invokevirtual 144, 3) := by decide +kernel
theorem dX5_takesUpWork_14 : decode cX5_takesUpWork 14 = .ok (.ifCond .ne 46, 3) := by decide +kernel
theorem dX5_takesUpWork_17 : decode cX5_takesUpWork 17 = .ok (.aload_n 0, 1) := by decide +kernel
theorem dX5_takesUpWork_18 : decode cX5_takesUpWork 18 = .ok (.aload_n 0, 1) := by decide +kernel
theorem dX5_takesUpWork_19 : decode cX5_takesUpWork 19 = .ok (.getfield 23, 3) := by decide +kernel
theorem dX5_takesUpWork_22 : decode cX5_takesUpWork 22 = .ok (.iload_n 1, 1) := by decide +kernel
theorem dX5_takesUpWork_23 : decode cX5_takesUpWork 23 = .ok (.aaload, 1) := by decide +kernel
theorem dX5_takesUpWork_24 : decode cX5_takesUpWork 24 = .ok (.invokevirtual 165, 3) := by decide +kernel
theorem dX5_takesUpWork_27 : decode cX5_takesUpWork 27 = .ok (.aload_n 0, 1) := by decide +kernel
theorem dX5_takesUpWork_28 : decode cX5_takesUpWork 28 = .ok (.getfield 23, 3) := by decide +kernel
theorem dX5_takesUpWork_31 : decode cX5_takesUpWork 31 = .ok (.iload_n 1, 1) := by decide +kernel
theorem dX5_takesUpWork_32 : decode cX5_takesUpWork 32 = .ok (.aaload, 1) := by decide +kernel
theorem dX5_takesUpWork_33 : decode cX5_takesUpWork 33 = .ok (.getfield 168, 3) := by decide +kernel
theorem dX5_takesUpWork_36 : decode cX5_takesUpWork 36 = .ok (.invokevirtual 171, 3) := by decide +kernel
theorem dX5_takesUpWork_39 : decode cX5_takesUpWork 39 = .ok (.istore_n 2, 1) := by decide +kernel
theorem dX5_takesUpWork_40 : decode cX5_takesUpWork 40 = .ok (.aload_n 0, 1) := by decide +kernel
theorem dX5_takesUpWork_41 : decode cX5_takesUpWork 41 = .ok (.iload_n 2, 1) := by decide +kernel
theorem dX5_takesUpWork_42 : decode cX5_takesUpWork 42 = .ok (.invokevirtual 71, 3) := by decide +kernel
theorem dX5_takesUpWork_45 : decode cX5_takesUpWork 45 = .ok (.ifCond .eq 9, 3) := by decide +kernel
theorem dX5_takesUpWork_48 : decode cX5_takesUpWork 48 = .ok (.aload_n 0, 1) := by decide +kernel
theorem dX5_takesUpWork_49 : decode cX5_takesUpWork 49 = .ok (.iload_n 1, 1) := by decide +kernel
theorem dX5_takesUpWork_50 : decode cX5_takesUpWork 50 = .ok (.iload_n 2, 1) := by decide +kernel
theorem dX5_takesUpWork_51 : decode cX5_takesUpWork 51 = .ok (.invokevirtual 174, 3) := by decide +kernel
theorem dX5_takesUpWork_54 : decode cX5_takesUpWork 54 = .ok (.iinc 1 1, 3) := by decide +kernel
theorem dX5_takesUpWork_57 : decode cX5_takesUpWork 57 = .ok (.goto (-55), 3) := by decide +kernel
theorem dX5_takesUpWork_60 : decode cX5_takesUpWork 60 = .ok (.aload_n 0, 1) := by decide +kernel
theorem dX5_takesUpWork_61 : decode cX5_takesUpWork 61 = .ok (.invokevirtual 144, 3) := by decide +kernel
theorem dX5_takesUpWork_64 : decode cX5_takesUpWork 64 = .ok (.ireturn, 1) := by decide +kernel
theorem dX5_beginOrder_0 : decode cX5_beginOrder 0 = .ok (.aload_n 0, 1) := by decide +kernel
theorem dX5_beginOrder_1 : decode cX5_beginOrder 1 = .ok (.getfield 11, 3) := by decide +kernel
theorem dX5_beginOrder_4 : decode cX5_beginOrder 4 = .ok (.iload_n 2, 1) := by decide +kernel
theorem dX5_beginOrder_5 : decode cX5_beginOrder 5 = .ok (.aaload, 1) := by decide +kernel
theorem dX5_beginOrder_6 : decode cX5_beginOrder 6 = .ok (.astore_n 3, 1) := by decide +kernel
theorem dX5_beginOrder_7 : decode cX5_beginOrder 7 = .ok (.aload_n 0, 1) := by decide +kernel
theorem dX5_beginOrder_8 : decode cX5_beginOrder 8 = .ok (.iload_n 1, 1) := by decide +kernel
theorem dX5_beginOrder_9 : decode cX5_beginOrder 9 = .ok (.putfield 27, 3) := by decide +kernel
theorem dX5_beginOrder_12 : decode cX5_beginOrder 12 = .ok (.aload_n 0, 1) := by decide +kernel
theorem dX5_beginOrder_13 : decode cX5_beginOrder 13 = .ok (.iload_n 2, 1) := by decide +kernel
theorem dX5_beginOrder_14 : decode cX5_beginOrder 14 = .ok (.putfield 31, 3) := by decide +kernel
theorem dX5_beginOrder_17 : decode cX5_beginOrder 17 = .ok (.aload_n 0, 1) := by decide +kernel
theorem dX5_beginOrder_18 : decode cX5_beginOrder 18 = .ok (.aload_n 3, 1) := by decide +kernel
theorem dX5_beginOrder_19 : decode cX5_beginOrder 19 = .ok (.aload_n 0, 1) := by decide +kernel
theorem dX5_beginOrder_20 : decode cX5_beginOrder 20 = .ok (.getfield 23, 3) := by decide +kernel
theorem dX5_beginOrder_23 : decode cX5_beginOrder 23 = .ok (.iload_n 1, 1) := by decide +kernel
theorem dX5_beginOrder_24 : decode cX5_beginOrder 24 = .ok (.aaload, 1) := by decide +kernel
theorem dX5_beginOrder_25 : decode cX5_beginOrder 25 = .ok (.getfield 168, 3) := by decide +kernel
theorem dX5_beginOrder_28 : decode cX5_beginOrder 28 = .ok (.invokevirtual 177, 3) := by decide +kernel
theorem dX5_beginOrder_31 : decode cX5_beginOrder 31 = .ok (.putfield 34, 3) := by decide +kernel
theorem dX5_beginOrder_34 : decode cX5_beginOrder 34 = .ok (.aload_n 0, 1) := by decide +kernel
theorem dX5_beginOrder_35 : decode cX5_beginOrder 35 = .ok (.aload_n 0, 1) := by decide +kernel
theorem dX5_beginOrder_36 : decode cX5_beginOrder 36 = .ok (.getfield 23, 3) := by decide +kernel
theorem dX5_beginOrder_39 : decode cX5_beginOrder 39 = .ok (.iload_n 1, 1) := by decide +kernel
theorem dX5_beginOrder_40 : decode cX5_beginOrder 40 = .ok (.aaload, 1) := by decide +kernel
theorem dX5_beginOrder_41 : decode cX5_beginOrder 41 = .ok (.invokevirtual 180, 3) := by decide +kernel
theorem dX5_beginOrder_44 : decode cX5_beginOrder 44 = .ok (.putfield 37, 3) := by decide +kernel
theorem dX5_beginOrder_47 : decode cX5_beginOrder 47 = .ok (.aload_n 3, 1) := by decide +kernel
theorem dX5_beginOrder_48 : decode cX5_beginOrder 48 = .ok (.iconst 1, 1) := by decide +kernel
theorem dX5_beginOrder_49 : decode cX5_beginOrder 49 = .ok (.putfield 82, 3) := by decide +kernel
theorem dX5_beginOrder_52 : decode cX5_beginOrder 52 = .ok (.aload_n 3, 1) := by decide +kernel
theorem dX5_beginOrder_53 : decode cX5_beginOrder 53 = .ok (.aload_n 0, 1) := by decide +kernel
theorem dX5_beginOrder_54 : decode cX5_beginOrder 54 = .ok (.getfield 34, 3) := by decide +kernel
theorem dX5_beginOrder_57 : decode cX5_beginOrder 57 = .ok (.invokevirtual 183, 3) := by decide +kernel
theorem dX5_beginOrder_60 : decode cX5_beginOrder 60 = .ok (.ifCond .ne 23, 3) := by decide +kernel
theorem dX5_beginOrder_63 : decode cX5_beginOrder 63 = .ok (.aload_n 0, 1) := by decide +kernel
theorem dX5_beginOrder_64 : decode cX5_beginOrder 64 = .ok (.aload_n 3, 1) := by decide +kernel
theorem dX5_beginOrder_65 : decode cX5_beginOrder 65 = .ok (.aload_n 0, 1) := by decide +kernel
theorem dX5_beginOrder_66 : decode cX5_beginOrder 66 = .ok (.getfield 34, 3) := by decide +kernel
theorem dX5_beginOrder_69 : decode cX5_beginOrder 69 = .ok (.invokevirtual 186, 3) := by decide +kernel
theorem dX5_beginOrder_72 : decode cX5_beginOrder 72 = .ok (.aload_n 0, 1) := by decide +kernel
theorem dX5_beginOrder_73 : decode cX5_beginOrder 73 = .ok (.dup, 1) := by decide +kernel
theorem dX5_beginOrder_74 : decode cX5_beginOrder 74 = .ok (.getfield 37, 3) := by decide +kernel
theorem dX5_beginOrder_77 : decode cX5_beginOrder 77 = .ok (.bipush 10, 2) := by decide +kernel
theorem dX5_beginOrder_79 : decode cX5_beginOrder 79 = .ok (.iadd, 1) := by decide +kernel
theorem dX5_beginOrder_80 : decode cX5_beginOrder 80 = .ok (.putfield 37, 3) := by decide +kernel
theorem dX5_beginOrder_83 : decode cX5_beginOrder 83 = .ok (.return_, 1) := by decide +kernel
theorem dX5_finishOrder_0 : decode cX5_finishOrder 0 = .ok (.aload_n 0, 1) := by decide +kernel
theorem dX5_finishOrder_1 : decode cX5_finishOrder 1 = .ok (.invokevirtual 144, 3) := by decide +kernel
theorem dX5_finishOrder_4 : decode cX5_finishOrder 4 = .ok (.ifCond .ne 4, 3) := by decide +kernel
theorem dX5_finishOrder_7 : decode cX5_finishOrder 7 = .ok (.return_, 1) := by decide +kernel
theorem dX5_finishOrder_8 : decode cX5_finishOrder 8 = .ok (.aload_n 0, 1) := by decide +kernel
theorem dX5_finishOrder_9 : decode cX5_finishOrder 9 = .ok (.getfield 23, 3) := by decide +kernel
theorem dX5_finishOrder_12 : decode cX5_finishOrder 12 = .ok (.aload_n 0, 1) := by decide +kernel
theorem dX5_finishOrder_13 : decode cX5_finishOrder 13 = .ok (.getfield 27, 3) := by decide +kernel
theorem dX5_finishOrder_16 : decode cX5_finishOrder 16 = .ok (.aaload, 1) := by decide +kernel
theorem dX5_finishOrder_17 : decode cX5_finishOrder 17 = .ok (.astore_n 1, 1) := by decide +kernel
theorem dX5_finishOrder_18 : decode cX5_finishOrder 18 = .ok (.aload_n 0, 1) := by decide +kernel
theorem dX5_finishOrder_19 : decode cX5_finishOrder 19 = .ok (.getfield 11, 3) := by decide +kernel
theorem dX5_finishOrder_22 : decode cX5_finishOrder 22 = .ok (.aload_n 0, 1) := by decide +kernel
theorem dX5_finishOrder_23 : decode cX5_finishOrder 23 = .ok (.getfield 31, 3) := by decide +kernel
theorem dX5_finishOrder_26 : decode cX5_finishOrder 26 = .ok (.aaload, 1) := by decide +kernel
theorem dX5_finishOrder_27 : decode cX5_finishOrder 27 = .ok (.astore_n 2, 1) := by decide +kernel
theorem dX5_finishOrder_28 : decode cX5_finishOrder 28 = .ok (.aload_n 2, 1) := by decide +kernel
theorem dX5_finishOrder_29 : decode cX5_finishOrder 29 = .ok (.aload_n 0, 1) := by decide +kernel
theorem dX5_finishOrder_30 : decode cX5_finishOrder 30 = .ok (.getfield 34, 3) := by decide +kernel
theorem dX5_finishOrder_33 : decode cX5_finishOrder 33 = .ok (.aload_n 1, 1) := by decide +kernel
theorem dX5_finishOrder_34 : decode cX5_finishOrder 34 = .ok (.getfield 168, 3) := by decide +kernel
theorem dX5_finishOrder_37 : decode cX5_finishOrder 37 = .ok (.invokevirtual 190, 3) := by decide +kernel
theorem dX5_finishOrder_40 : decode cX5_finishOrder 40 = .ok (.aload_n 0, 1) := by decide +kernel
theorem dX5_finishOrder_41 : decode cX5_finishOrder 41 = .ok (.aload_n 2, 1) := by decide +kernel
theorem dX5_finishOrder_42 : decode cX5_finishOrder 42 = .ok (.aload_n 1, 1) := by decide +kernel
theorem dX5_finishOrder_43 : decode cX5_finishOrder 43 = .ok (.getfield 135, 3) := by decide +kernel
theorem dX5_finishOrder_46 : decode cX5_finishOrder 46 = .ok (.aload_n 1, 1) := by decide +kernel
theorem dX5_finishOrder_47 : decode cX5_finishOrder 47 = .ok (.getfield 136, 3) := by decide +kernel
theorem dX5_finishOrder_50 : decode cX5_finishOrder 50 = .ok (.invokevirtual 193, 3) := by decide +kernel
theorem dX5_finishOrder_53 : decode cX5_finishOrder 53 = .ok (.aload_n 0, 1) := by decide +kernel
theorem dX5_finishOrder_54 : decode cX5_finishOrder 54 = .ok (.getfield 27, 3) := by decide +kernel
theorem dX5_finishOrder_57 : decode cX5_finishOrder 57 = .ok (.istore_n 3, 1) := by decide +kernel
theorem dX5_finishOrder_58 : decode cX5_finishOrder 58 = .ok (.aload_n 0, 1) := by decide +kernel
theorem dX5_finishOrder_59 : decode cX5_finishOrder 59 = .ok (.invokevirtual 148, 3) := by decide +kernel
theorem dX5_finishOrder_62 : decode cX5_finishOrder 62 = .ok (.aload_n 0, 1) := by decide +kernel
theorem dX5_finishOrder_63 : decode cX5_finishOrder 63 = .ok (.iload_n 3, 1) := by decide +kernel
theorem dX5_finishOrder_64 : decode cX5_finishOrder 64 = .ok (.invokevirtual 151, 3) := by decide +kernel
theorem dX5_finishOrder_67 : decode cX5_finishOrder 67 = .ok (.aload_n 0, 1) := by decide +kernel
theorem dX5_finishOrder_68 : decode cX5_finishOrder 68 = .ok (.dup, 1) := by decide +kernel
theorem dX5_finishOrder_69 : decode cX5_finishOrder 69 = .ok (.getfield 58, 3) := by decide +kernel
theorem dX5_finishOrder_72 : decode cX5_finishOrder 72 = .ok (.iconst 1, 1) := by decide +kernel
theorem dX5_finishOrder_73 : decode cX5_finishOrder 73 = .ok (.iadd, 1) := by decide +kernel
theorem dX5_finishOrder_74 : decode cX5_finishOrder 74 = .ok (.putfield 58, 3) := by decide +kernel
theorem dX5_finishOrder_77 : decode cX5_finishOrder 77 = .ok (.return_, 1) := by decide +kernel
theorem dX5_misspell_0 : decode cX5_misspell 0 = .ok (.aload_n 0, 1) := by decide +kernel
theorem dX5_misspell_1 : decode cX5_misspell 1 = .ok (.invokevirtual 144, 3) := by decide +kernel
theorem dX5_misspell_4 : decode cX5_misspell 4 = .ok (.ifCond .ne 6, 3) := by decide +kernel
theorem dX5_misspell_7 : decode cX5_misspell 7 = .ok (.bipush (-2), 2) := by decide +kernel
theorem dX5_misspell_9 : decode cX5_misspell 9 = .ok (.ireturn, 1) := by decide +kernel
theorem dX5_misspell_10 : decode cX5_misspell 10 = .ok (.aload_n 0, 1) := by decide +kernel
theorem dX5_misspell_11 : decode cX5_misspell 11 = .ok (.getfield 23, 3) := by decide +kernel
theorem dX5_misspell_14 : decode cX5_misspell 14 = .ok (.aload_n 0, 1) := by decide +kernel
theorem dX5_misspell_15 : decode cX5_misspell 15 = .ok (.getfield 27, 3) := by decide +kernel
theorem dX5_misspell_18 : decode cX5_misspell 18 = .ok (.aaload, 1) := by decide +kernel
theorem dX5_misspell_19 : decode cX5_misspell 19 = .ok (.astore_n 1, 1) := by decide +kernel
theorem dX5_misspell_20 : decode cX5_misspell 20 = .ok (.aload_n 0, 1) := by decide +kernel
theorem dX5_misspell_21 : decode cX5_misspell 21 = .ok (.getfield 11, 3) := by decide +kernel
theorem dX5_misspell_24 : decode cX5_misspell 24 = .ok (.aload_n 0, 1) := by decide +kernel
theorem dX5_misspell_25 : decode cX5_misspell 25 = .ok (.getfield 31, 3) := by decide +kernel
theorem dX5_misspell_28 : decode cX5_misspell 28 = .ok (.aaload, 1) := by decide +kernel
theorem dX5_misspell_29 : decode cX5_misspell 29 = .ok (.astore_n 2, 1) := by decide +kernel
theorem dX5_misspell_30 : decode cX5_misspell 30 = .ok (.aload_n 2, 1) := by decide +kernel
theorem dX5_misspell_31 : decode cX5_misspell 31 = .ok (.aload_n 0, 1) := by decide +kernel
theorem dX5_misspell_32 : decode cX5_misspell 32 = .ok (.getfield 34, 3) := by decide +kernel
theorem dX5_misspell_35 : decode cX5_misspell 35 = .ok (.aload_n 1, 1) := by decide +kernel
theorem dX5_misspell_36 : decode cX5_misspell 36 = .ok (.getfield 168, 3) := by decide +kernel
theorem dX5_misspell_39 : decode cX5_misspell 39 = .ok (.invokevirtual 190, 3) := by decide +kernel
theorem dX5_misspell_42 : decode cX5_misspell 42 = .ok (.aload_n 0, 1) := by decide +kernel
theorem dX5_misspell_43 : decode cX5_misspell 43 = .ok (.dup, 1) := by decide +kernel
theorem dX5_misspell_44 : decode cX5_misspell 44 = .ok (.getfield 61, 3) := by decide +kernel
theorem dX5_misspell_47 : decode cX5_misspell 47 = .ok (.iconst 1, 1) := by decide +kernel
theorem dX5_misspell_48 : decode cX5_misspell 48 = .ok (.iadd, 1) := by decide +kernel
theorem dX5_misspell_49 : decode cX5_misspell 49 = .ok (.putfield 61, 3) := by decide +kernel
theorem dX5_misspell_52 : decode cX5_misspell 52 = .ok (.aload_n 0, 1) := by decide +kernel
theorem dX5_misspell_53 : decode cX5_misspell 53 = .ok (.getfield 34, 3) := by decide +kernel
theorem dX5_misspell_56 : decode cX5_misspell 56 = .ok (.ifCond .ne 7, 3) := by decide +kernel
theorem dX5_misspell_59 : decode cX5_misspell 59 = .ok (.iconst 1, 1) := by decide +kernel
theorem dX5_misspell_60 : decode cX5_misspell 60 = .ok (.goto 4, 3) := by decide +kernel
theorem dX5_misspell_63 : decode cX5_misspell 63 = .ok (.iconst 0, 1) := by decide +kernel
theorem dX5_misspell_64 : decode cX5_misspell 64 = .ok (.istore_n 3, 1) := by decide +kernel
theorem dX5_misspell_65 : decode cX5_misspell 65 = .ok (.aload_n 2, 1) := by decide +kernel
theorem dX5_misspell_66 : decode cX5_misspell 66 = .ok (.iload_n 3, 1) := by decide +kernel
theorem dX5_misspell_67 : decode cX5_misspell 67 = .ok (.aload_n 1, 1) := by decide +kernel
theorem dX5_misspell_68 : decode cX5_misspell 68 = .ok (.getfield 168, 3) := by decide +kernel
theorem dX5_misspell_71 : decode cX5_misspell 71 = .ok (.invokevirtual 197, 3) := by decide +kernel
theorem dX5_misspell_74 : decode cX5_misspell 74 = .ok (.ifCond .eq 18, 3) := by decide +kernel
theorem dX5_misspell_77 : decode cX5_misspell 77 = .ok (.aload_n 0, 1) := by decide +kernel
theorem dX5_misspell_78 : decode cX5_misspell 78 = .ok (.iload_n 3, 1) := by decide +kernel
theorem dX5_misspell_79 : decode cX5_misspell 79 = .ok (.putfield 34, 3) := by decide +kernel
theorem dX5_misspell_82 : decode cX5_misspell 82 = .ok (.aload_n 0, 1) := by decide +kernel
theorem dX5_misspell_83 : decode cX5_misspell 83 = .ok (.aload_n 1, 1) := by decide +kernel
theorem dX5_misspell_84 : decode cX5_misspell 84 = .ok (.invokevirtual 180, 3) := by decide +kernel
theorem dX5_misspell_87 : decode cX5_misspell 87 = .ok (.putfield 37, 3) := by decide +kernel
theorem dX5_misspell_90 : decode cX5_misspell 90 = .ok (.iconst 1, 1) := by decide +kernel
theorem dX5_misspell_91 : decode cX5_misspell 91 = .ok (.ireturn, 1) := by decide +kernel
theorem dX5_misspell_92 : decode cX5_misspell 92 = .ok (.aload_n 2, 1) := by decide +kernel
theorem dX5_misspell_93 : decode cX5_misspell 93 = .ok (.aload_n 0, 1) := by decide +kernel
theorem dX5_misspell_94 : decode cX5_misspell 94 = .ok (.getfield 34, 3) := by decide +kernel
theorem dX5_misspell_97 : decode cX5_misspell 97 = .ok (.aload_n 1, 1) := by decide +kernel
theorem dX5_misspell_98 : decode cX5_misspell 98 = .ok (.getfield 168, 3) := by decide +kernel
theorem dX5_misspell_101 : decode cX5_misspell 101 = .ok (.invokevirtual 201, 3) := by decide +kernel
theorem dX5_misspell_104 : decode cX5_misspell 104 = .ok (.ifCond .eq 25, 3) := by decide +kernel
theorem dX5_misspell_107 : decode cX5_misspell 107 = .ok (.aload_n 0, 1) := by decide +kernel
theorem dX5_misspell_108 : decode cX5_misspell 108 = .ok (.aload_n 2, 1) := by decide +kernel
theorem dX5_misspell_109 : decode cX5_misspell 109 = .ok (.aload_n 0, 1) := by decide +kernel
theorem dX5_misspell_110 : decode cX5_misspell 110 = .ok (.getfield 34, 3) := by decide +kernel
theorem dX5_misspell_113 : decode cX5_misspell 113 = .ok (.invokevirtual 186, 3) := by decide +kernel
theorem dX5_misspell_116 : decode cX5_misspell 116 = .ok (.aload_n 0, 1) := by decide +kernel
theorem dX5_misspell_117 : decode cX5_misspell 117 = .ok (.aload_n 1, 1) := by decide +kernel
theorem dX5_misspell_118 : decode cX5_misspell 118 = .ok (.invokevirtual 180, 3) := by decide +kernel
theorem dX5_misspell_121 : decode cX5_misspell 121 = .ok (.bipush 10, 2) := by decide +kernel
theorem dX5_misspell_123 : decode cX5_misspell 123 = .ok (.iadd, 1) := by decide +kernel
theorem dX5_misspell_124 : decode cX5_misspell 124 = .ok (.putfield 37, 3) := by decide +kernel
theorem dX5_misspell_127 : decode cX5_misspell 127 = .ok (.iconst 2, 1) := by decide +kernel
theorem dX5_misspell_128 : decode cX5_misspell 128 = .ok (.ireturn, 1) := by decide +kernel
theorem dX5_misspell_129 : decode cX5_misspell 129 = .ok (.aload_n 2, 1) := by decide +kernel
theorem dX5_misspell_130 : decode cX5_misspell 130 = .ok (.iconst 3, 1) := by decide +kernel
theorem dX5_misspell_131 : decode cX5_misspell 131 = .ok (.putfield 82, 3) := by decide +kernel
theorem dX5_misspell_134 : decode cX5_misspell 134 = .ok (.aload_n 0, 1) := by decide +kernel
theorem dX5_misspell_135 : decode cX5_misspell 135 = .ok (.invokevirtual 148, 3) := by decide +kernel
theorem dX5_misspell_138 : decode cX5_misspell 138 = .ok (.iconst 3, 1) := by decide +kernel
theorem dX5_misspell_139 : decode cX5_misspell 139 = .ok (.ireturn, 1) := by decide +kernel
theorem dX6_init_0 : decode cX6_init 0 = .ok (.aload_n 0, 1) := by decide +kernel
theorem dX6_init_1 : decode cX6_init 1 = .ok (.invokespecial 1, 3) := by decide +kernel
theorem dX6_init_4 : decode cX6_init 4 = .ok (.aload_n 0, 1) := by decide +kernel
theorem dX6_init_5 : decode cX6_init 5 = .ok (.new 7, 3) := by decide +kernel
theorem dX6_init_8 : decode cX6_init 8 = .ok (.dup, 1) := by decide +kernel
theorem dX6_init_9 : decode cX6_init 9 = .ok (.invokespecial 9, 3) := by decide +kernel
theorem dX6_init_12 : decode cX6_init 12 = .ok (.putfield 10, 3) := by decide +kernel
theorem dX6_init_15 : decode cX6_init 15 = .ok (.aload_n 0, 1) := by decide +kernel
theorem dX6_init_16 : decode cX6_init 16 = .ok (.new 16, 3) := by decide +kernel
theorem dX6_init_19 : decode cX6_init 19 = .ok (.dup, 1) := by decide +kernel
theorem dX6_init_20 : decode cX6_init 20 = .ok (.invokespecial 18, 3) := by decide +kernel
theorem dX6_init_23 : decode cX6_init 23 = .ok (.putfield 19, 3) := by decide +kernel
theorem dX6_init_26 : decode cX6_init 26 = .ok (.aload_n 0, 1) := by decide +kernel
theorem dX6_init_27 : decode cX6_init 27 = .ok (.new 23, 3) := by decide +kernel
theorem dX6_init_30 : decode cX6_init 30 = .ok (.dup, 1) := by decide +kernel
theorem dX6_init_31 : decode cX6_init 31 = .ok (.invokespecial 25, 3) := by decide +kernel
theorem dX6_init_34 : decode cX6_init 34 = .ok (.putfield 26, 3) := by decide +kernel
theorem dX6_init_37 : decode cX6_init 37 = .ok (.new 7, 3) := by decide +kernel
theorem dX6_init_40 : decode cX6_init 40 = .ok (.dup, 1) := by decide +kernel
theorem dX6_init_41 : decode cX6_init 41 = .ok (.invokespecial 9, 3) := by decide +kernel
theorem dX6_init_44 : decode cX6_init 44 = .ok (.astore_n 1, 1) := by decide +kernel
theorem dX6_init_45 : decode cX6_init 45 = .ok (.aload_n 0, 1) := by decide +kernel
theorem dX6_init_46 : decode cX6_init 46 = .ok (.new 30, 3) := by decide +kernel
theorem dX6_init_49 : decode cX6_init 49 = .ok (.dup, 1) := by decide +kernel
theorem dX6_init_50 : decode cX6_init 50 = .ok (.aload_n 1, 1) := by decide +kernel
theorem dX6_init_51 : decode cX6_init 51 = .ok (.invokespecial 32, 3) := by decide +kernel
theorem dX6_init_54 : decode cX6_init 54 = .ok (.putfield 35, 3) := by decide +kernel
theorem dX6_init_57 : decode cX6_init 57 = .ok (.aload_n 0, 1) := by decide +kernel
theorem dX6_init_58 : decode cX6_init 58 = .ok (.new 30, 3) := by decide +kernel
theorem dX6_init_61 : decode cX6_init 61 = .ok (.dup, 1) := by decide +kernel
theorem dX6_init_62 : decode cX6_init 62 = .ok (.aload_n 1, 1) := by decide +kernel
theorem dX6_init_63 : decode cX6_init 63 = .ok (.invokespecial 32, 3) := by decide +kernel
theorem dX6_init_66 : decode cX6_init 66 = .ok (.putfield 39, 3) := by decide +kernel
theorem dX6_init_69 : decode cX6_init 69 = .ok (.return_, 1) := by decide +kernel
theorem dX6_cut_0 : decode cX6_cut 0 = .ok (.iload_n 1, 1) := by decide +kernel
theorem dX6_cut_1 : decode cX6_cut 1 = .ok (.bipush 10, 2) := by decide +kernel
theorem dX6_cut_3 : decode cX6_cut 3 = .ok (.sipush 200, 3) := by decide +kernel
theorem dX6_cut_6 : decode cX6_cut 6 = .ok (.invokestatic 42, 3) := by decide +kernel
theorem dX6_cut_9 : decode cX6_cut 9 = .ok (.ifCond .eq 13, 3) := by decide +kernel
theorem dX6_cut_12 : decode cX6_cut 12 = .ok (.iload_n 2, 1) := by decide +kernel
theorem dX6_cut_13 : decode cX6_cut 13 = .ok (.iconst 5, 1) := by decide +kernel
theorem dX6_cut_14 : decode cX6_cut 14 = .ok (.bipush 30, 2) := by decide +kernel
theorem dX6_cut_16 : decode cX6_cut 16 = .ok (.invokestatic 42, 3) := by decide +kernel
theorem dX6_cut_19 : decode cX6_cut 19 = .ok (.ifCond .ne 5, 3) := by decide +kernel
theorem dX6_cut_22 : decode cX6_cut 22 = .ok (.iconst (-1), 1) := by decide +kernel
theorem dX6_cut_23 : decode cX6_cut 23 = .ok (.ireturn, 1) := by decide +kernel
theorem dX6_cut_24 : decode cX6_cut 24 = .ok (.aload_n 0, 1) := by decide +kernel
theorem dX6_cut_25 : decode cX6_cut 25 = .ok (.getfield 10, 3) := by decide +kernel
theorem dX6_cut_28 : decode cX6_cut 28 = .ok (.getfield 46, 3) := by decide +kernel
theorem dX6_cut_31 : decode cX6_cut 31 = .ok (.bipush 20, 2) := by decide +kernel
theorem dX6_cut_33 : decode cX6_cut 33 = .ok (.if_icmp .lt 6, 3) := by decide +kernel
theorem dX6_cut_36 : decode cX6_cut 36 = .ok (.bipush (-3), 2) := by decide +kernel
theorem dX6_cut_38 : decode cX6_cut 38 = .ok (.ireturn, 1) := by decide +kernel
theorem dX6_cut_39 : decode cX6_cut 39 = .ok (.aload_n 0, 1) := by decide +kernel
theorem dX6_cut_40 : decode cX6_cut 40 = .ok (.getfield 19, 3) := by decide +kernel
theorem dX6_cut_43 : decode cX6_cut 43 = .ok (.aload_n 0, 1) := by decide +kernel
theorem dX6_cut_44 : decode cX6_cut 44 = .ok (.getfield 10, 3) := by decide +kernel
theorem dX6_cut_47 : decode cX6_cut 47 = .ok (.invokevirtual 50, 3) := by decide +kernel
theorem dX6_cut_50 : decode cX6_cut 50 = .ok (.aload_n 0, 1) := by decide +kernel
theorem dX6_cut_51 : decode cX6_cut 51 = .ok (.getfield 10, 3) := by decide +kernel
theorem dX6_cut_54 : decode cX6_cut 54 = .ok (.iload_n 1, 1) := by decide +kernel
theorem dX6_cut_55 : decode cX6_cut 55 = .ok (.iload_n 2, 1) := by decide +kernel
theorem dX6_cut_56 : decode cX6_cut 56 = .ok (.invokevirtual 53, 3) := by decide +kernel
theorem dX6_cut_59 : decode cX6_cut 59 = .ok (.ireturn, 1) := by decide +kernel
theorem dX6_spoil_0 : decode cX6_spoil 0 = .ok (.aload_n 0, 1) := by decide +kernel
theorem dX6_spoil_1 : decode cX6_spoil 1 = .ok (.getfield 10, 3) := by decide +kernel
theorem dX6_spoil_4 : decode cX6_spoil 4 = .ok (.iload_n 1, 1) := by decide +kernel
theorem dX6_spoil_5 : decode cX6_spoil 5 = .ok (.invokevirtual 57, 3) := by decide +kernel
theorem dX6_spoil_8 : decode cX6_spoil 8 = .ok (.ifCond .ne 5, 3) := by decide +kernel
theorem dX6_spoil_11 : decode cX6_spoil 11 = .ok (.iconst (-1), 1) := by decide +kernel
theorem dX6_spoil_12 : decode cX6_spoil 12 = .ok (.ireturn, 1) := by decide +kernel
theorem dX6_spoil_13 : decode cX6_spoil 13 = .ok (.aload_n 0, 1) := by decide +kernel
theorem dX6_spoil_14 : decode cX6_spoil 14 = .ok (.getfield 10, 3) := by decide +kernel
theorem dX6_spoil_17 : decode cX6_spoil 17 = .ok (.getfield 61, 3) := by decide +kernel
theorem dX6_spoil_20 : decode cX6_spoil 20 = .ok (.iload_n 1, 1) := by decide +kernel
theorem dX6_spoil_21 : decode cX6_spoil 21 = .ok (.aaload, 1) := by decide +kernel
theorem dX6_spoil_22 : decode cX6_spoil 22 = .ok (.astore_n 2, 1) := by decide +kernel
theorem dX6_spoil_23 : decode cX6_spoil 23 = .ok (.aload_n 2, 1) := by decide +kernel
theorem dX6_spoil_24 : decode cX6_spoil 24 = .ok (.getfield 65, 3) := by decide +kernel
theorem dX6_spoil_27 : decode cX6_spoil 27 = .ok (.ifCond .eq 6, 3) := by decide +kernel
theorem dX6_spoil_30 : decode cX6_spoil 30 = .ok (.bipush (-2), 2) := by decide +kernel
theorem dX6_spoil_32 : decode cX6_spoil 32 = .ok (.ireturn, 1) := by decide +kernel
theorem dX6_spoil_33 : decode cX6_spoil 33 = .ok (.aload_n 0, 1) := by decide +kernel
theorem dX6_spoil_34 : decode cX6_spoil 34 = .ok (.getfield 19, 3) := by decide +kernel
theorem dX6_spoil_37 : decode cX6_spoil 37 = .ok (.aload_n 0, 1) := by decide +kernel
theorem dX6_spoil_38 : decode cX6_spoil 38 = .ok (.getfield 10, 3) := by decide +kernel
theorem dX6_spoil_41 : decode cX6_spoil 41 = .ok (.invokevirtual 50, 3) := by decide +kernel
theorem dX6_spoil_44 : decode cX6_spoil 44 = .ok (.aload_n 2, 1) := by decide +kernel
theorem dX6_spoil_45 : decode cX6_spoil 45 = .ok (.iconst 3, 1) := by decide +kernel
theorem dX6_spoil_46 : decode cX6_spoil 46 = .ok (.putfield 65, 3) := by decide +kernel
theorem dX6_spoil_49 : decode cX6_spoil 49 = .ok (.aload_n 0, 1) := by decide +kernel
theorem dX6_spoil_50 : decode cX6_spoil 50 = .ok (.getfield 10, 3) := by decide +kernel
theorem dX6_spoil_53 : decode cX6_spoil 53 = .ok (.iconst 3, 1) := by decide +kernel
theorem dX6_spoil_54 : decode cX6_spoil 54 = .ok (.invokevirtual 70, 3) := by decide +kernel
theorem dX6_spoil_57 : decode cX6_spoil 57 = .ok (.ireturn, 1) := by decide +kernel
theorem dX6_grind_0 : decode cX6_grind 0 = .ok (.aload_n 0, 1) := by decide +kernel
theorem dX6_grind_1 : decode cX6_grind 1 = .ok (.getfield 10, 3) := by decide +kernel
theorem dX6_grind_4 : decode cX6_grind 4 = .ok (.iload_n 1, 1) := by decide +kernel
theorem dX6_grind_5 : decode cX6_grind 5 = .ok (.invokevirtual 57, 3) := by decide +kernel
theorem dX6_grind_8 : decode cX6_grind 8 = .ok (.ifCond .eq 12, 3) := by decide +kernel
theorem dX6_grind_11 : decode cX6_grind 11 = .ok (.iload_n 2, 1) := by decide +kernel
theorem dX6_grind_12 : decode cX6_grind 12 = .ok (.iconst 0, 1) := by decide +kernel
theorem dX6_grind_13 : decode cX6_grind 13 = .ok (.iconst 1, 1) := by decide +kernel
theorem dX6_grind_14 : decode cX6_grind 14 = .ok (.invokestatic 42, 3) := by decide +kernel
theorem dX6_grind_17 : decode cX6_grind 17 = .ok (.ifCond .ne 5, 3) := by decide +kernel
theorem dX6_grind_20 : decode cX6_grind 20 = .ok (.iconst (-1), 1) := by decide +kernel
theorem dX6_grind_21 : decode cX6_grind 21 = .ok (.ireturn, 1) := by decide +kernel
theorem dX6_grind_22 : decode cX6_grind 22 = .ok (.aload_n 0, 1) := by decide +kernel
theorem dX6_grind_23 : decode cX6_grind 23 = .ok (.getfield 10, 3) := by decide +kernel
theorem dX6_grind_26 : decode cX6_grind 26 = .ok (.getfield 61, 3) := by decide +kernel
theorem dX6_grind_29 : decode cX6_grind 29 = .ok (.iload_n 1, 1) := by decide +kernel
theorem dX6_grind_30 : decode cX6_grind 30 = .ok (.aaload, 1) := by decide +kernel
theorem dX6_grind_31 : decode cX6_grind 31 = .ok (.astore_n 3, 1) := by decide +kernel
theorem dX6_grind_32 : decode cX6_grind 32 = .ok (.aload_n 3, 1) := by decide +kernel
theorem dX6_grind_33 : decode cX6_grind 33 = .ok (.getfield 65, 3) := by decide +kernel
theorem dX6_grind_36 : decode cX6_grind 36 = .ok (.ifCond .ne 12, 3) := by decide +kernel
theorem dX6_grind_39 : decode cX6_grind 39 = .ok (.aload_n 3, 1) := by decide +kernel
theorem dX6_grind_40 : decode cX6_grind 40 = .ok (.iload_n 2, 1) := by decide +kernel
theorem dX6_grind_41 : decode cX6_grind 41 = .ok (.iconst 0, 1) := by decide +kernel
theorem dX6_grind_42 : decode cX6_grind 42 = .ok (.invokevirtual 74, 3) := by decide +kernel
theorem dX6_grind_45 : decode cX6_grind 45 = .ok (.ifCond .ne 6, 3) := by decide +kernel
theorem dX6_grind_48 : decode cX6_grind 48 = .ok (.bipush (-2), 2) := by decide +kernel
theorem dX6_grind_50 : decode cX6_grind 50 = .ok (.ireturn, 1) := by decide +kernel
theorem dX6_grind_51 : decode cX6_grind 51 = .ok (.aload_n 0, 1) := by decide +kernel
theorem dX6_grind_52 : decode cX6_grind 52 = .ok (.getfield 19, 3) := by decide +kernel
theorem dX6_grind_55 : decode cX6_grind 55 = .ok (.aload_n 0, 1) := by decide +kernel
theorem dX6_grind_56 : decode cX6_grind 56 = .ok (.getfield 10, 3) := by decide +kernel
theorem dX6_grind_59 : decode cX6_grind 59 = .ok (.invokevirtual 50, 3) := by decide +kernel
theorem dX6_grind_62 : decode cX6_grind 62 = .ok (.aload_n 0, 1) := by decide +kernel
theorem dX6_grind_63 : decode cX6_grind 63 = .ok (.getfield 10, 3) := by decide +kernel
theorem dX6_grind_66 : decode cX6_grind 66 = .ok (.aload_n 3, 1) := by decide +kernel
theorem dX6_grind_67 : decode cX6_grind 67 = .ok (.iload_n 2, 1) := by decide +kernel
theorem dX6_grind_68 : decode cX6_grind 68 = .ok (.invokevirtual 78, 3) := by decide +kernel
theorem dX6_grind_71 : decode cX6_grind 71 = .ok (.aload_n 3, 1) := by decide +kernel
theorem dX6_grind_72 : decode cX6_grind 72 = .ok (.getfield 82, 3) := by decide +kernel
theorem dX6_grind_75 : decode cX6_grind 75 = .ok (.ireturn, 1) := by decide +kernel
theorem dX6_addShield_0 : decode cX6_addShield 0 = .ok (.iload_n 1, 1) := by decide +kernel
theorem dX6_addShield_1 : decode cX6_addShield 1 = .ok (.iconst 2, 1) := by decide +kernel
theorem dX6_addShield_2 : decode cX6_addShield 2 = .ok (.bipush 6, 2) := by decide +kernel
theorem dX6_addShield_4 : decode cX6_addShield 4 = .ok (.invokestatic 42, 3) := by decide +kernel
theorem dX6_addShield_7 : decode cX6_addShield 7 = .ok (.ifCond .ne 5, 3) := by decide +kernel
theorem dX6_addShield_10 : decode cX6_addShield 10 = .ok (.iconst (-1), 1) := by decide +kernel
theorem dX6_addShield_11 : decode cX6_addShield 11 = .ok (.ireturn, 1) := by decide +kernel
theorem dX6_addShield_12 : decode cX6_addShield 12 = .ok (.aload_n 0, 1) := by decide +kernel
theorem dX6_addShield_13 : decode cX6_addShield 13 = .ok (.getfield 10, 3) := by decide +kernel
theorem dX6_addShield_16 : decode cX6_addShield 16 = .ok (.getfield 85, 3) := by decide +kernel
theorem dX6_addShield_19 : decode cX6_addShield 19 = .ok (.iconst 3, 1) := by decide +kernel
theorem dX6_addShield_20 : decode cX6_addShield 20 = .ok (.if_icmp .lt 6, 3) := by decide +kernel
theorem dX6_addShield_23 : decode cX6_addShield 23 = .ok (.bipush (-3), 2) := by decide +kernel
theorem dX6_addShield_25 : decode cX6_addShield 25 = .ok (.ireturn, 1) := by decide +kernel
theorem dX6_addShield_26 : decode cX6_addShield 26 = .ok (.aload_n 0, 1) := by decide +kernel
theorem dX6_addShield_27 : decode cX6_addShield 27 = .ok (.getfield 19, 3) := by decide +kernel
theorem dX6_addShield_30 : decode cX6_addShield 30 = .ok (.aload_n 0, 1) := by decide +kernel
theorem dX6_addShield_31 : decode cX6_addShield 31 = .ok (.getfield 10, 3) := by decide +kernel
theorem dX6_addShield_34 : decode cX6_addShield 34 = .ok (.invokevirtual 50, 3) := by decide +kernel
theorem dX6_addShield_37 : decode cX6_addShield 37 = .ok (.aload_n 0, 1) := by decide +kernel
theorem dX6_addShield_38 : decode cX6_addShield 38 = .ok (.getfield 10, 3) := by decide +kernel
theorem dX6_addShield_41 : decode cX6_addShield 41 = .ok (.iload_n 1, 1) := by decide +kernel
theorem dX6_addShield_42 : decode cX6_addShield 42 = .ok (.invokevirtual 88, 3) := by decide +kernel
theorem dX6_addShield_45 : decode cX6_addShield 45 = .ok (.ireturn, 1) := by decide +kernel
theorem dX6_takeOff_0 : decode cX6_takeOff 0 = .ok (.aload_n 0, 1) := by decide +kernel
theorem dX6_takeOff_1 : decode cX6_takeOff 1 = .ok (.getfield 10, 3) := by decide +kernel
theorem dX6_takeOff_4 : decode cX6_takeOff 4 = .ok (.iload_n 1, 1) := by decide +kernel
theorem dX6_takeOff_5 : decode cX6_takeOff 5 = .ok (.invokevirtual 91, 3) := by decide +kernel
theorem dX6_takeOff_8 : decode cX6_takeOff 8 = .ok (.ifCond .eq 10, 3) := by decide +kernel
theorem dX6_takeOff_11 : decode cX6_takeOff 11 = .ok (.iload_n 2, 1) := by decide +kernel
theorem dX6_takeOff_12 : decode cX6_takeOff 12 = .ok (.invokestatic 94, 3) := by decide +kernel
theorem dX6_takeOff_15 : decode cX6_takeOff 15 = .ok (.ifCond .ne 5, 3) := by decide +kernel
theorem dX6_takeOff_18 : decode cX6_takeOff 18 = .ok (.iconst (-1), 1) := by decide +kernel
theorem dX6_takeOff_19 : decode cX6_takeOff 19 = .ok (.ireturn, 1) := by decide +kernel
theorem dX6_takeOff_20 : decode cX6_takeOff 20 = .ok (.aload_n 0, 1) := by decide +kernel
theorem dX6_takeOff_21 : decode cX6_takeOff 21 = .ok (.getfield 10, 3) := by decide +kernel
theorem dX6_takeOff_24 : decode cX6_takeOff 24 = .ok (.iload_n 1, 1) := by decide +kernel
theorem dX6_takeOff_25 : decode cX6_takeOff 25 = .ok (.iload_n 2, 1) := by decide +kernel
theorem dX6_takeOff_26 : decode cX6_takeOff 26 = .ok (.invokevirtual 97, 3) := by decide +kernel
theorem dX6_takeOff_29 : decode cX6_takeOff 29 = .ok (.istore_n 3, 1) := by decide +kernel
theorem dX6_takeOff_30 : decode cX6_takeOff 30 = .ok (.aload_n 0, 1) := by decide +kernel
theorem dX6_takeOff_31 : decode cX6_takeOff 31 = .ok (.getfield 10, 3) := by decide +kernel
theorem dX6_takeOff_34 : decode cX6_takeOff 34 = .ok (.iload_n 3, 1) := by decide +kernel
theorem dX6_takeOff_35 : decode cX6_takeOff 35 = .ok (.invokevirtual 57, 3) := by decide +kernel
theorem dX6_takeOff_38 : decode cX6_takeOff 38 = .ok (.ifCond .ne 6, 3) := by decide +kernel
theorem dX6_takeOff_41 : decode cX6_takeOff 41 = .ok (.bipush (-2), 2) := by decide +kernel
theorem dX6_takeOff_43 : decode cX6_takeOff 43 = .ok (.ireturn, 1) := by decide +kernel
theorem dX6_takeOff_44 : decode cX6_takeOff 44 = .ok (.aload_n 0, 1) := by decide +kernel
theorem dX6_takeOff_45 : decode cX6_takeOff 45 = .ok (.getfield 19, 3) := by decide +kernel
theorem dX6_takeOff_48 : decode cX6_takeOff 48 = .ok (.aload_n 0, 1) := by decide +kernel
theorem dX6_takeOff_49 : decode cX6_takeOff 49 = .ok (.getfield 10, 3) := by decide +kernel
theorem dX6_takeOff_52 : decode cX6_takeOff 52 = .ok (.invokevirtual 50, 3) := by decide +kernel
theorem dX6_takeOff_55 : decode cX6_takeOff 55 = .ok (.aload_n 0, 1) := by decide +kernel
theorem dX6_takeOff_56 : decode cX6_takeOff 56 = .ok (.getfield 10, 3) := by decide +kernel
theorem dX6_takeOff_59 : decode cX6_takeOff 59 = .ok (.getfield 61, 3) := by decide +kernel
theorem dX6_takeOff_62 : decode cX6_takeOff 62 = .ok (.iload_n 3, 1) := by decide +kernel
theorem dX6_takeOff_63 : decode cX6_takeOff 63 = .ok (.aaload, 1) := by decide +kernel
theorem dX6_takeOff_64 : decode cX6_takeOff 64 = .ok (.invokevirtual 100, 3) := by decide +kernel
theorem dX6_takeOff_67 : decode cX6_takeOff 67 = .ok (.iload_n 3, 1) := by decide +kernel
theorem dX6_takeOff_68 : decode cX6_takeOff 68 = .ok (.ireturn, 1) := by decide +kernel
theorem dX6_append_0 : decode cX6_append 0 = .ok (.iload_n 1, 1) := by decide +kernel
theorem dX6_append_1 : decode cX6_append 1 = .ok (.bipush 97, 2) := by decide +kernel
theorem dX6_append_3 : decode cX6_append 3 = .ok (.bipush 122, 2) := by decide +kernel
theorem dX6_append_5 : decode cX6_append 5 = .ok (.invokestatic 42, 3) := by decide +kernel
theorem dX6_append_8 : decode cX6_append 8 = .ok (.ifCond .ne 5, 3) := by decide +kernel
theorem dX6_append_11 : decode cX6_append 11 = .ok (.iconst (-1), 1) := by decide +kernel
theorem dX6_append_12 : decode cX6_append 12 = .ok (.ireturn, 1) := by decide +kernel
theorem dX6_append_13 : decode cX6_append 13 = .ok (.aload_n 0, 1) := by decide +kernel
theorem dX6_append_14 : decode cX6_append 14 = .ok (.getfield 26, 3) := by decide +kernel
theorem dX6_append_17 : decode cX6_append 17 = .ok (.getfield 103, 3) := by decide +kernel
theorem dX6_append_20 : decode cX6_append 20 = .ok (.bipush 12, 2) := by decide +kernel
theorem dX6_append_22 : decode cX6_append 22 = .ok (.if_icmp .lt 6, 3) := by decide +kernel
theorem dX6_append_25 : decode cX6_append 25 = .ok (.bipush (-3), 2) := by decide +kernel
theorem dX6_append_27 : decode cX6_append 27 = .ok (.ireturn, 1) := by decide +kernel
theorem dX6_append_28 : decode cX6_append 28 = .ok (.aload_n 0, 1) := by decide +kernel
theorem dX6_append_29 : decode cX6_append 29 = .ok (.getfield 26, 3) := by decide +kernel
theorem dX6_append_32 : decode cX6_append 32 = .ok (.iload_n 1, 1) := by decide +kernel
theorem dX6_append_33 : decode cX6_append 33 = .ok (.invokevirtual 106, 3) := by decide +kernel
theorem dX6_append_36 : decode cX6_append 36 = .ok (.aload_n 0, 1) := by decide +kernel
theorem dX6_append_37 : decode cX6_append 37 = .ok (.getfield 26, 3) := by decide +kernel
theorem dX6_append_40 : decode cX6_append 40 = .ok (.getfield 103, 3) := by decide +kernel
theorem dX6_append_43 : decode cX6_append 43 = .ok (.ireturn, 1) := by decide +kernel
theorem dX6_clearText_0 : decode cX6_clearText 0 = .ok (.aload_n 0, 1) := by decide +kernel
theorem dX6_clearText_1 : decode cX6_clearText 1 = .ok (.getfield 26, 3) := by decide +kernel
theorem dX6_clearText_4 : decode cX6_clearText 4 = .ok (.getfield 103, 3) := by decide +kernel
theorem dX6_clearText_7 : decode cX6_clearText 7 = .ok (.istore_n 1, 1) := by decide +kernel
theorem dX6_clearText_8 : decode cX6_clearText 8 = .ok (.aload_n 0, 1) := by decide +kernel
theorem dX6_clearText_9 : decode cX6_clearText 9 = .ok (.getfield 26, 3) := by decide +kernel
theorem dX6_clearText_12 : decode cX6_clearText 12 = .ok (.iconst 0, 1) := by decide +kernel
theorem dX6_clearText_13 : decode cX6_clearText 13 = .ok (.putfield 103, 3) := by decide +kernel
theorem dX6_clearText_16 : decode cX6_clearText 16 = .ok (.iload_n 1, 1) := by decide +kernel
theorem dX6_clearText_17 : decode cX6_clearText 17 = .ok (.ireturn, 1) := by decide +kernel
theorem dX6_order_0 : decode cX6_order 0 = .ok (.aload_n 0, 1) := by decide +kernel
theorem dX6_order_1 : decode cX6_order 1 = .ok (.getfield 10, 3) := by decide +kernel
theorem dX6_order_4 : decode cX6_order 4 = .ok (.iload_n 1, 1) := by decide +kernel
theorem dX6_order_5 : decode cX6_order 5 = .ok (.invokevirtual 91, 3) := by decide +kernel
theorem dX6_order_8 : decode cX6_order 8 = .ok (.ifCond .eq 35, 3) := by decide +kernel
theorem dX6_order_11 : decode cX6_order 11 = .ok (.iload_n 2, 1) := by decide +kernel
theorem dX6_order_12 : decode cX6_order 12 = .ok (.invokestatic 94, 3) := by decide +kernel
theorem dX6_order_15 : decode cX6_order 15 = .ok (.ifCond .eq 28, 3) := by decide +kernel
theorem dX6_order_18 : decode cX6_order 18 = .ok (.iload_n 3, 1) := by decide +kernel
theorem dX6_order_19 : decode cX6_order 19 = .ok (.invokestatic 110, 3) := by decide +kernel
theorem dX6_order_22 : decode cX6_order 22 = .ok (.ifCond .eq 21, 3) := by decide +kernel
theorem dX6_order_25 : decode cX6_order 25 = .ok (.iload 4, 2) := by decide +kernel
theorem dX6_order_27 : decode cX6_order 27 = .ok (.invokestatic 113, 3) := by decide +kernel
theorem dX6_order_30 : decode cX6_order 30 = .ok (.ifCond .eq 13, 3) := by decide +kernel
theorem dX6_order_33 : decode cX6_order 33 = .ok (.iload 5, 2) := by decide +kernel
theorem dX6_order_35 : decode cX6_order 35 = .ok (.iconst 0, 1) := by decide +kernel
theorem dX6_order_36 : decode cX6_order 36 = .ok (.iconst 1, 1) := by decide +kernel
theorem dX6_order_37 : decode cX6_order 37 = .ok (.invokestatic 42, 3) := by decide +kernel
theorem dX6_order_40 : decode cX6_order 40 = .ok (.ifCond .ne 5, 3) := by decide +kernel
theorem dX6_order_43 : decode cX6_order 43 = .ok (.iconst (-1), 1) := by decide +kernel
theorem dX6_order_44 : decode cX6_order 44 = .ok (.ireturn, 1) := by decide +kernel
theorem dX6_order_45 : decode cX6_order 45 = .ok (.aload_n 0, 1) := by decide +kernel
theorem dX6_order_46 : decode cX6_order 46 = .ok (.getfield 26, 3) := by decide +kernel
theorem dX6_order_49 : decode cX6_order 49 = .ok (.getfield 103, 3) := by decide +kernel
theorem dX6_order_52 : decode cX6_order 52 = .ok (.ifCond .eq 29, 3) := by decide +kernel
theorem dX6_order_55 : decode cX6_order 55 = .ok (.aload_n 0, 1) := by decide +kernel
theorem dX6_order_56 : decode cX6_order 56 = .ok (.getfield 10, 3) := by decide +kernel
theorem dX6_order_59 : decode cX6_order 59 = .ok (.iload_n 1, 1) := by decide +kernel
theorem dX6_order_60 : decode cX6_order 60 = .ok (.iload_n 2, 1) := by decide +kernel
theorem dX6_order_61 : decode cX6_order 61 = .ok (.invokevirtual 97, 3) := by decide +kernel
theorem dX6_order_64 : decode cX6_order 64 = .ok (.bipush (-9), 2) := by decide +kernel
theorem dX6_order_66 : decode cX6_order 66 = .ok (.if_icmp .ne 15, 3) := by decide +kernel
theorem dX6_order_69 : decode cX6_order 69 = .ok (.aload_n 0, 1) := by decide +kernel
theorem dX6_order_70 : decode cX6_order 70 = .ok (.getfield 10, 3) := by decide +kernel
theorem dX6_order_73 : decode cX6_order 73 = .ok (.iload_n 1, 1) := by decide +kernel
theorem dX6_order_74 : decode cX6_order 74 = .ok (.iload_n 2, 1) := by decide +kernel
theorem dX6_order_75 : decode cX6_order 75 = .ok (.invokevirtual 116, 3) := by decide +kernel
theorem dX6_order_78 : decode cX6_order 78 = .ok (.ifCond .eq 6, 3) := by decide +kernel
theorem dX6_order_81 : decode cX6_order 81 = .ok (.bipush (-2), 2) := by decide +kernel
theorem dX6_order_83 : decode cX6_order 83 = .ok (.ireturn, 1) := by decide +kernel
theorem dX6_order_84 : decode cX6_order 84 = .ok (.aload_n 0, 1) := by decide +kernel
theorem dX6_order_85 : decode cX6_order 85 = .ok (.getfield 10, 3) := by decide +kernel
theorem dX6_order_88 : decode cX6_order 88 = .ok (.getfield 119, 3) := by decide +kernel
theorem dX6_order_91 : decode cX6_order 91 = .ok (.bipush 10, 2) := by decide +kernel
theorem dX6_order_93 : decode cX6_order 93 = .ok (.if_icmp .lt 6, 3) := by decide +kernel
theorem dX6_order_96 : decode cX6_order 96 = .ok (.bipush (-3), 2) := by decide +kernel
theorem dX6_order_98 : decode cX6_order 98 = .ok (.ireturn, 1) := by decide +kernel
theorem dX6_order_99 : decode cX6_order 99 = .ok (.aload_n 0, 1) := by decide +kernel
theorem dX6_order_100 : decode cX6_order 100 = .ok (.getfield 19, 3) := by decide +kernel
theorem dX6_order_103 : decode cX6_order 103 = .ok (.aload_n 0, 1) := by decide +kernel
theorem dX6_order_104 : decode cX6_order 104 = .ok (.getfield 10, 3) := by decide +kernel
theorem dX6_order_107 : decode cX6_order 107 = .ok (.invokevirtual 50, 3) := by decide +kernel
theorem dX6_order_110 : decode cX6_order 110 = .ok (.aload_n 0, 1) := by decide +kernel
theorem dX6_order_111 : decode cX6_order 111 = .ok (.getfield 10, 3) := by decide +kernel
theorem dX6_order_114 : decode cX6_order 114 = .ok (.getfield 122, 3) := by decide +kernel
theorem dX6_order_117 : decode cX6_order 117 = .ok (.aload_n 0, 1) := by decide +kernel
theorem dX6_order_118 : decode cX6_order 118 = .ok (.getfield 10, 3) := by decide +kernel
theorem dX6_order_121 : decode cX6_order 121 = .ok (.getfield 119, 3) := by decide +kernel
theorem dX6_order_124 : decode cX6_order 124 = .ok (.aaload, 1) := by decide +kernel
theorem dX6_order_125 : decode cX6_order 125 = .ok (.astore 6, 2) := by decide +kernel
theorem dX6_order_127 : decode cX6_order 127 = .ok (.aload 6, 2) := by decide +kernel
theorem dX6_order_129 : decode cX6_order 129 = .ok (.getfield 126, 3) := by decide +kernel
theorem dX6_order_132 : decode cX6_order 132 = .ok (.aload_n 0, 1) := by decide +kernel
theorem dX6_order_133 : decode cX6_order 133 = .ok (.getfield 26, 3) := by decide +kernel
theorem dX6_order_136 : decode cX6_order 136 = .ok (.invokevirtual 131, 3) := by decide +kernel
theorem dX6_order_139 : decode cX6_order 139 = .ok (.aload 6, 2) := by decide +kernel
theorem dX6_order_141 : decode cX6_order 141 = .ok (.iload_n 1, 1) := by decide +kernel
theorem dX6_order_142 : decode cX6_order 142 = .ok (.putfield 135, 3) := by decide +kernel
theorem dX6_order_145 : decode cX6_order 145 = .ok (.aload 6, 2) := by decide +kernel
theorem dX6_order_147 : decode cX6_order 147 = .ok (.iload_n 2, 1) := by decide +kernel
theorem dX6_order_148 : decode cX6_order 148 = .ok (.putfield 138, 3) := by decide +kernel
theorem dX6_order_151 : decode cX6_order 151 = .ok (.aload 6, 2) := by decide +kernel
theorem dX6_order_153 : decode cX6_order 153 = .ok (.iload_n 3, 1) := by decide +kernel
theorem dX6_order_154 : decode cX6_order 154 = .ok (.putfield 141, 3) := by decide +kernel
theorem dX6_order_157 : decode cX6_order 157 = .ok (.aload 6, 2) := by decide +kernel
theorem dX6_order_159 : decode cX6_order 159 = .ok (.iload 4, 2) := by decide +kernel
theorem dX6_order_161 : decode cX6_order 161 = .ok (.putfield 144, 3) := by decide +kernel
theorem dX6_order_164 : decode cX6_order 164 = .ok (.aload 6, 2) := by decide +kernel
theorem dX6_order_166 : decode cX6_order 166 = .ok (.iload 5, 2) := by decide +kernel
theorem dX6_order_168 : decode cX6_order 168 = .ok (.iconst 1, 1) := by decide +kernel
theorem dX6_order_169 : decode cX6_order 169 = .ok (.if_icmp .ne 7, 3) := by decide +kernel
theorem dX6_order_172 : decode cX6_order 172 = .ok (.iconst 1, 1) := by decide +kernel
theorem dX6_order_173 : decode cX6_order 173 = .ok (.goto 4, 3) := by decide +kernel
theorem dX6_order_176 : decode cX6_order 176 = .ok (.iconst 0, 1) := by decide +kernel
theorem dX6_order_177 : decode cX6_order 177 = .ok (.putfield 147, 3) := by decide +kernel
theorem dX6_order_180 : decode cX6_order 180 = .ok (.aload_n 0, 1) := by decide +kernel
theorem dX6_order_181 : decode cX6_order 181 = .ok (.getfield 26, 3) := by decide +kernel
theorem dX6_order_184 : decode cX6_order 184 = .ok (.iconst 0, 1) := by decide +kernel
theorem dX6_order_185 : decode cX6_order 185 = .ok (.putfield 103, 3) := by decide +kernel
theorem dX6_order_188 : decode cX6_order 188 = .ok (.aload_n 0, 1) := by decide +kernel
theorem dX6_order_189 : decode cX6_order 189 = .ok (.getfield 10, 3) := by decide +kernel
theorem dX6_order_192 : decode cX6_order 192 = .ok (.invokevirtual 151, 3) := by decide +kernel
theorem dX6_order_195 : decode cX6_order 195 = .ok (.ireturn, 1) := by decide +kernel
theorem dX6_hurry_0 : decode cX6_hurry 0 = .ok (.aload_n 0, 1) := by decide +kernel
theorem dX6_hurry_1 : decode cX6_hurry 1 = .ok (.getfield 10, 3) := by decide +kernel
theorem dX6_hurry_4 : decode cX6_hurry 4 = .ok (.iload_n 1, 1) := by decide +kernel
theorem dX6_hurry_5 : decode cX6_hurry 5 = .ok (.invokevirtual 155, 3) := by decide +kernel
theorem dX6_hurry_8 : decode cX6_hurry 8 = .ok (.ifCond .ne 5, 3) := by decide +kernel
theorem dX6_hurry_11 : decode cX6_hurry 11 = .ok (.iconst (-1), 1) := by decide +kernel
theorem dX6_hurry_12 : decode cX6_hurry 12 = .ok (.ireturn, 1) := by decide +kernel
theorem dX6_hurry_13 : decode cX6_hurry 13 = .ok (.aload_n 0, 1) := by decide +kernel
theorem dX6_hurry_14 : decode cX6_hurry 14 = .ok (.getfield 10, 3) := by decide +kernel
theorem dX6_hurry_17 : decode cX6_hurry 17 = .ok (.getfield 122, 3) := by decide +kernel
theorem dX6_hurry_20 : decode cX6_hurry 20 = .ok (.iload_n 1, 1) := by decide +kernel
theorem dX6_hurry_21 : decode cX6_hurry 21 = .ok (.aaload, 1) := by decide +kernel
theorem dX6_hurry_22 : decode cX6_hurry 22 = .ok (.getfield 147, 3) := by decide +kernel
theorem dX6_hurry_25 : decode cX6_hurry 25 = .ok (.ifCond .eq 6, 3) := by decide +kernel
theorem dX6_hurry_28 : decode cX6_hurry 28 = .ok (.bipush (-2), 2) := by decide +kernel
theorem dX6_hurry_30 : decode cX6_hurry 30 = .ok (.ireturn, 1) := by decide +kernel
theorem dX6_hurry_31 : decode cX6_hurry 31 = .ok (.aload_n 0, 1) := by decide +kernel
theorem dX6_hurry_32 : decode cX6_hurry 32 = .ok (.getfield 19, 3) := by decide +kernel
theorem dX6_hurry_35 : decode cX6_hurry 35 = .ok (.aload_n 0, 1) := by decide +kernel
theorem dX6_hurry_36 : decode cX6_hurry 36 = .ok (.getfield 10, 3) := by decide +kernel
theorem dX6_hurry_39 : decode cX6_hurry 39 = .ok (.invokevirtual 50, 3) := by decide +kernel
theorem dX6_hurry_42 : decode cX6_hurry 42 = .ok (.aload_n 0, 1) := by decide +kernel
theorem dX6_hurry_43 : decode cX6_hurry 43 = .ok (.getfield 10, 3) := by decide +kernel
theorem dX6_hurry_46 : decode cX6_hurry 46 = .ok (.iload_n 1, 1) := by decide +kernel
theorem dX6_hurry_47 : decode cX6_hurry 47 = .ok (.invokevirtual 158, 3) := by decide +kernel
theorem dX6_hurry_50 : decode cX6_hurry 50 = .ok (.ireturn, 1) := by decide +kernel
theorem dX6_cancel_0 : decode cX6_cancel 0 = .ok (.aload_n 0, 1) := by decide +kernel
theorem dX6_cancel_1 : decode cX6_cancel 1 = .ok (.getfield 10, 3) := by decide +kernel
theorem dX6_cancel_4 : decode cX6_cancel 4 = .ok (.iload_n 1, 1) := by decide +kernel
theorem dX6_cancel_5 : decode cX6_cancel 5 = .ok (.invokevirtual 155, 3) := by decide +kernel
theorem dX6_cancel_8 : decode cX6_cancel 8 = .ok (.ifCond .ne 5, 3) := by decide +kernel
theorem dX6_cancel_11 : decode cX6_cancel 11 = .ok (.iconst (-1), 1) := by decide +kernel
theorem dX6_cancel_12 : decode cX6_cancel 12 = .ok (.ireturn, 1) := by decide +kernel
theorem dX6_cancel_13 : decode cX6_cancel 13 = .ok (.aload_n 0, 1) := by decide +kernel
theorem dX6_cancel_14 : decode cX6_cancel 14 = .ok (.getfield 19, 3) := by decide +kernel
theorem dX6_cancel_17 : decode cX6_cancel 17 = .ok (.aload_n 0, 1) := by decide +kernel
theorem dX6_cancel_18 : decode cX6_cancel 18 = .ok (.getfield 10, 3) := by decide +kernel
theorem dX6_cancel_21 : decode cX6_cancel 21 = .ok (.invokevirtual 50, 3) := by decide +kernel
theorem dX6_cancel_24 : decode cX6_cancel 24 = .ok (.aload_n 0, 1) := by decide +kernel
theorem dX6_cancel_25 : decode cX6_cancel 25 = .ok (.getfield 10, 3) := by decide +kernel
theorem dX6_cancel_28 : decode cX6_cancel 28 = .ok (.iload_n 1, 1) := by decide +kernel
theorem dX6_cancel_29 : decode cX6_cancel 29 = .ok (.invokevirtual 161, 3) := by decide +kernel
theorem dX6_cancel_32 : decode cX6_cancel 32 = .ok (.aload_n 0, 1) := by decide +kernel
theorem dX6_cancel_33 : decode cX6_cancel 33 = .ok (.getfield 10, 3) := by decide +kernel
theorem dX6_cancel_36 : decode cX6_cancel 36 = .ok (.getfield 119, 3) := by decide +kernel
theorem dX6_cancel_39 : decode cX6_cancel 39 = .ok (.ireturn, 1) := by decide +kernel
theorem dX6_work_0 : decode cX6_work 0 = .ok (.iload_n 1, 1) := by decide +kernel
theorem dX6_work_1 : decode cX6_work 1 = .ok (.iconst 1, 1) := by decide +kernel
theorem dX6_work_2 : decode cX6_work 2 = .ok (.sipush 600, 3) := by decide +kernel
theorem dX6_work_5 : decode cX6_work 5 = .ok (.invokestatic 42, 3) := by decide +kernel
theorem dX6_work_8 : decode cX6_work 8 = .ok (.ifCond .ne 5, 3) := by decide +kernel
theorem dX6_work_11 : decode cX6_work 11 = .ok (.iconst (-1), 1) := by decide +kernel
theorem dX6_work_12 : decode cX6_work 12 = .ok (.ireturn, 1) := by decide +kernel
theorem dX6_work_13 : decode cX6_work 13 = .ok (.aload_n 0, 1) := by decide +kernel
theorem dX6_work_14 : decode cX6_work 14 = .ok (.getfield 19, 3) := by decide +kernel
theorem dX6_work_17 : decode cX6_work 17 = .ok (.aload_n 0, 1) := by decide +kernel
theorem dX6_work_18 : decode cX6_work 18 = .ok (.getfield 10, 3) := by decide +kernel
theorem dX6_work_21 : decode cX6_work 21 = .ok (.invokevirtual 50, 3) := by decide +kernel
theorem dX6_work_24 : decode cX6_work 24 = .ok (.aload_n 0, 1) := by decide +kernel
theorem dX6_work_25 : decode cX6_work 25 = .ok (.getfield 10, 3) := by decide +kernel
theorem dX6_work_28 : decode cX6_work 28 = .ok (.iload_n 1, 1) := by decide +kernel
theorem dX6_work_29 : decode cX6_work 29 = .ok (.invokevirtual 164, 3) := by decide +kernel
theorem dX6_work_32 : decode cX6_work 32 = .ok (.ireturn, 1) := by decide +kernel
theorem dX6_slip_0 : decode cX6_slip 0 = .ok (.aload_n 0, 1) := by decide +kernel
theorem dX6_slip_1 : decode cX6_slip 1 = .ok (.getfield 10, 3) := by decide +kernel
theorem dX6_slip_4 : decode cX6_slip 4 = .ok (.invokevirtual 167, 3) := by decide +kernel
theorem dX6_slip_7 : decode cX6_slip 7 = .ok (.ifCond .ne 6, 3) := by decide +kernel
theorem dX6_slip_10 : decode cX6_slip 10 = .ok (.bipush (-2), 2) := by decide +kernel
theorem dX6_slip_12 : decode cX6_slip 12 = .ok (.ireturn, 1) := by decide +kernel
theorem dX6_slip_13 : decode cX6_slip 13 = .ok (.aload_n 0, 1) := by decide +kernel
theorem dX6_slip_14 : decode cX6_slip 14 = .ok (.getfield 19, 3) := by decide +kernel
theorem dX6_slip_17 : decode cX6_slip 17 = .ok (.aload_n 0, 1) := by decide +kernel
theorem dX6_slip_18 : decode cX6_slip 18 = .ok (.getfield 10, 3) := by decide +kernel
theorem dX6_slip_21 : decode cX6_slip 21 = .ok (.invokevirtual 50, 3) := by decide +kernel
theorem dX6_slip_24 : decode cX6_slip 24 = .ok (.aload_n 0, 1) := by decide +kernel
theorem dX6_slip_25 : decode cX6_slip 25 = .ok (.getfield 10, 3) := by decide +kernel
theorem dX6_slip_28 : decode cX6_slip 28 = .ok (.invokevirtual 171, 3) := by decide +kernel
theorem dX6_slip_31 : decode cX6_slip 31 = .ok (.ireturn, 1) := by decide +kernel
theorem dX6_undo_0 : decode cX6_undo 0 = .ok (.aload_n 0, 1) := by decide +kernel
theorem dX6_undo_1 : decode cX6_undo 1 = .ok (.getfield 19, 3) := by decide +kernel
theorem dX6_undo_4 : decode cX6_undo 4 = .ok (.getfield 174, 3) := by decide +kernel
theorem dX6_undo_7 : decode cX6_undo 7 = .ok (.ifCond .gt 6, 3) := by decide +kernel
theorem dX6_undo_10 : decode cX6_undo 10 = .ok (.bipush (-2), 2) := by decide +kernel
theorem dX6_undo_12 : decode cX6_undo 12 = .ok (.ireturn, 1) := by decide +kernel
theorem dX6_undo_13 : decode cX6_undo 13 = .ok (.aload_n 0, 1) := by decide +kernel
theorem dX6_undo_14 : decode cX6_undo 14 = .ok (.getfield 19, 3) := by decide +kernel
theorem dX6_undo_17 : decode cX6_undo 17 = .ok (.aload_n 0, 1) := by decide +kernel
theorem dX6_undo_18 : decode cX6_undo 18 = .ok (.getfield 10, 3) := by decide +kernel
theorem dX6_undo_21 : decode cX6_undo 21 = .ok (.invokevirtual 177, 3) := by decide +kernel
theorem dX6_undo_24 : decode cX6_undo 24 = .ok (.aload_n 0, 1) := by decide +kernel
theorem dX6_undo_25 : decode cX6_undo 25 = .ok (.getfield 19, 3) := by decide +kernel
theorem dX6_undo_28 : decode cX6_undo 28 = .ok (.getfield 174, 3) := by decide +kernel
theorem dX6_undo_31 : decode cX6_undo 31 = .ok (.ireturn, 1) := by decide +kernel
theorem dX6_count_0 : decode cX6_count 0 = .ok (.iload_n 1, 1) := by decide +kernel
theorem dX6_count_1 : decode cX6_count 1 = .ok (.tableswitch 184 0 15 #[79, 79, 79, 79, 88, 96, 104, 112, 120, 128, 136, 144, 152, 160, 168, 176], 79) := by decide +kernel
theorem dX6_count_80 : decode cX6_count 80 = .ok (.aload_n 0, 1) := by decide +kernel
theorem dX6_count_81 : decode cX6_count 81 = .ok (.getfield 10, 3) := by decide +kernel
theorem dX6_count_84 : decode cX6_count 84 = .ok (.iload_n 1, 1) := by decide +kernel
theorem dX6_count_85 : decode cX6_count 85 = .ok (.invokevirtual 70, 3) := by decide +kernel
theorem dX6_count_88 : decode cX6_count 88 = .ok (.ireturn, 1) := by decide +kernel
theorem dX6_count_89 : decode cX6_count 89 = .ok (.aload_n 0, 1) := by decide +kernel
theorem dX6_count_90 : decode cX6_count 90 = .ok (.getfield 10, 3) := by decide +kernel
theorem dX6_count_93 : decode cX6_count 93 = .ok (.getfield 46, 3) := by decide +kernel
theorem dX6_count_96 : decode cX6_count 96 = .ok (.ireturn, 1) := by decide +kernel
theorem dX6_count_97 : decode cX6_count 97 = .ok (.aload_n 0, 1) := by decide +kernel
theorem dX6_count_98 : decode cX6_count 98 = .ok (.getfield 10, 3) := by decide +kernel
theorem dX6_count_101 : decode cX6_count 101 = .ok (.getfield 85, 3) := by decide +kernel
theorem dX6_count_104 : decode cX6_count 104 = .ok (.ireturn, 1) := by decide +kernel
theorem dX6_count_105 : decode cX6_count 105 = .ok (.aload_n 0, 1) := by decide +kernel
theorem dX6_count_106 : decode cX6_count 106 = .ok (.getfield 10, 3) := by decide +kernel
theorem dX6_count_109 : decode cX6_count 109 = .ok (.getfield 119, 3) := by decide +kernel
theorem dX6_count_112 : decode cX6_count 112 = .ok (.ireturn, 1) := by decide +kernel
theorem dX6_count_113 : decode cX6_count 113 = .ok (.aload_n 0, 1) := by decide +kernel
theorem dX6_count_114 : decode cX6_count 114 = .ok (.getfield 10, 3) := by decide +kernel
theorem dX6_count_117 : decode cX6_count 117 = .ok (.invokevirtual 180, 3) := by decide +kernel
theorem dX6_count_120 : decode cX6_count 120 = .ok (.ireturn, 1) := by decide +kernel
theorem dX6_count_121 : decode cX6_count 121 = .ok (.aload_n 0, 1) := by decide +kernel
theorem dX6_count_122 : decode cX6_count 122 = .ok (.getfield 10, 3) := by decide +kernel
theorem dX6_count_125 : decode cX6_count 125 = .ok (.getfield 183, 3) := by decide +kernel
theorem dX6_count_128 : decode cX6_count 128 = .ok (.ireturn, 1) := by decide +kernel
theorem dX6_count_129 : decode cX6_count 129 = .ok (.aload_n 0, 1) := by decide +kernel
theorem dX6_count_130 : decode cX6_count 130 = .ok (.getfield 10, 3) := by decide +kernel
theorem dX6_count_133 : decode cX6_count 133 = .ok (.getfield 186, 3) := by decide +kernel
theorem dX6_count_136 : decode cX6_count 136 = .ok (.ireturn, 1) := by decide +kernel
theorem dX6_count_137 : decode cX6_count 137 = .ok (.aload_n 0, 1) := by decide +kernel
theorem dX6_count_138 : decode cX6_count 138 = .ok (.getfield 10, 3) := by decide +kernel
theorem dX6_count_141 : decode cX6_count 141 = .ok (.getfield 189, 3) := by decide +kernel
theorem dX6_count_144 : decode cX6_count 144 = .ok (.ireturn, 1) := by decide +kernel
theorem dX6_count_145 : decode cX6_count 145 = .ok (.aload_n 0, 1) := by decide +kernel
theorem dX6_count_146 : decode cX6_count 146 = .ok (.getfield 10, 3) := by decide +kernel
theorem dX6_count_149 : decode cX6_count 149 = .ok (.getfield 192, 3) := by decide +kernel
theorem dX6_count_152 : decode cX6_count 152 = .ok (.ireturn, 1) := by decide +kernel
theorem dX6_count_153 : decode cX6_count 153 = .ok (.aload_n 0, 1) := by decide +kernel
theorem dX6_count_154 : decode cX6_count 154 = .ok (.getfield 10, 3) := by decide +kernel
theorem dX6_count_157 : decode cX6_count 157 = .ok (.getfield 195, 3) := by decide +kernel
theorem dX6_count_160 : decode cX6_count 160 = .ok (.ireturn, 1) := by decide +kernel
theorem dX6_count_161 : decode cX6_count 161 = .ok (.aload_n 0, 1) := by decide +kernel
theorem dX6_count_162 : decode cX6_count 162 = .ok (.getfield 10, 3) := by decide +kernel
theorem dX6_count_165 : decode cX6_count 165 = .ok (.getfield 198, 3) := by decide +kernel
theorem dX6_count_168 : decode cX6_count 168 = .ok (.ireturn, 1) := by decide +kernel
theorem dX6_count_169 : decode cX6_count 169 = .ok (.aload_n 0, 1) := by decide +kernel
theorem dX6_count_170 : decode cX6_count 170 = .ok (.getfield 19, 3) := by decide +kernel
theorem dX6_count_173 : decode cX6_count 173 = .ok (.getfield 174, 3) := by decide +kernel
theorem dX6_count_176 : decode cX6_count 176 = .ok (.ireturn, 1) := by decide +kernel
theorem dX6_count_177 : decode cX6_count 177 = .ok (.aload_n 0, 1) := by decide +kernel
theorem dX6_count_178 : decode cX6_count 178 = .ok (.getfield 26, 3) := by decide +kernel
theorem dX6_count_181 : decode cX6_count 181 = .ok (.getfield 103, 3) := by decide +kernel
theorem dX6_count_184 : decode cX6_count 184 = .ok (.ireturn, 1) := by decide +kernel
theorem dX6_count_185 : decode cX6_count 185 = .ok (.iconst (-1), 1) := by decide +kernel
theorem dX6_count_186 : decode cX6_count 186 = .ok (.ireturn, 1) := by decide +kernel
theorem dX6_plate_0 : decode cX6_plate 0 = .ok (.aload_n 0, 1) := by decide +kernel
theorem dX6_plate_1 : decode cX6_plate 1 = .ok (.getfield 10, 3) := by decide +kernel
theorem dX6_plate_4 : decode cX6_plate 4 = .ok (.iload_n 1, 1) := by decide +kernel
theorem dX6_plate_5 : decode cX6_plate 5 = .ok (.invokevirtual 57, 3) := by decide +kernel
theorem dX6_plate_8 : decode cX6_plate 8 = .ok (.ifCond .ne 5, 3) := by decide +kernel
theorem dX6_plate_11 : decode cX6_plate 11 = .ok (.iconst (-1), 1) := by decide +kernel
theorem dX6_plate_12 : decode cX6_plate 12 = .ok (.ireturn, 1) := by decide +kernel
theorem dX6_plate_13 : decode cX6_plate 13 = .ok (.aload_n 0, 1) := by decide +kernel
theorem dX6_plate_14 : decode cX6_plate 14 = .ok (.getfield 10, 3) := by decide +kernel
theorem dX6_plate_17 : decode cX6_plate 17 = .ok (.getfield 61, 3) := by decide +kernel
theorem dX6_plate_20 : decode cX6_plate 20 = .ok (.iload_n 1, 1) := by decide +kernel
theorem dX6_plate_21 : decode cX6_plate 21 = .ok (.aaload, 1) := by decide +kernel
theorem dX6_plate_22 : decode cX6_plate 22 = .ok (.astore_n 3, 1) := by decide +kernel
theorem dX6_plate_23 : decode cX6_plate 23 = .ok (.iload_n 2, 1) := by decide +kernel
theorem dX6_plate_24 : decode cX6_plate 24 = .ok (.tableswitch 79 0 6 #[44, 49, 54, 59, 64, 69, 74], 44) := by decide +kernel
theorem dX6_plate_68 : decode cX6_plate 68 = .ok (.aload_n 3, 1) := by decide +kernel
theorem dX6_plate_69 : decode cX6_plate 69 = .ok (.getfield 201, 3) := by decide +kernel
theorem dX6_plate_72 : decode cX6_plate 72 = .ok (.ireturn, 1) := by decide +kernel
theorem dX6_plate_73 : decode cX6_plate 73 = .ok (.aload_n 3, 1) := by decide +kernel
theorem dX6_plate_74 : decode cX6_plate 74 = .ok (.getfield 82, 3) := by decide +kernel
theorem dX6_plate_77 : decode cX6_plate 77 = .ok (.ireturn, 1) := by decide +kernel
theorem dX6_plate_78 : decode cX6_plate 78 = .ok (.aload_n 3, 1) := by decide +kernel
theorem dX6_plate_79 : decode cX6_plate 79 = .ok (.getfield 65, 3) := by decide +kernel
theorem dX6_plate_82 : decode cX6_plate 82 = .ok (.ireturn, 1) := by decide +kernel
theorem dX6_plate_83 : decode cX6_plate 83 = .ok (.aload_n 3, 1) := by decide +kernel
theorem dX6_plate_84 : decode cX6_plate 84 = .ok (.getfield 204, 3) := by decide +kernel
theorem dX6_plate_87 : decode cX6_plate 87 = .ok (.ireturn, 1) := by decide +kernel
theorem dX6_plate_88 : decode cX6_plate 88 = .ok (.aload_n 3, 1) := by decide +kernel
theorem dX6_plate_89 : decode cX6_plate 89 = .ok (.getfield 207, 3) := by decide +kernel
theorem dX6_plate_92 : decode cX6_plate 92 = .ok (.ireturn, 1) := by decide +kernel
theorem dX6_plate_93 : decode cX6_plate 93 = .ok (.aload_n 3, 1) := by decide +kernel
theorem dX6_plate_94 : decode cX6_plate 94 = .ok (.getfield 210, 3) := by decide +kernel
theorem dX6_plate_97 : decode cX6_plate 97 = .ok (.ireturn, 1) := by decide +kernel
theorem dX6_plate_98 : decode cX6_plate 98 = .ok (.aload_n 3, 1) := by decide +kernel
theorem dX6_plate_99 : decode cX6_plate 99 = .ok (.getfield 211, 3) := by decide +kernel
theorem dX6_plate_102 : decode cX6_plate 102 = .ok (.ireturn, 1) := by decide +kernel
theorem dX6_plate_103 : decode cX6_plate 103 = .ok (.iconst (-1), 1) := by decide +kernel
theorem dX6_plate_104 : decode cX6_plate 104 = .ok (.ireturn, 1) := by decide +kernel
theorem dX6_shield_0 : decode cX6_shield 0 = .ok (.aload_n 0, 1) := by decide +kernel
theorem dX6_shield_1 : decode cX6_shield 1 = .ok (.getfield 10, 3) := by decide +kernel
theorem dX6_shield_4 : decode cX6_shield 4 = .ok (.iload_n 1, 1) := by decide +kernel
theorem dX6_shield_5 : decode cX6_shield 5 = .ok (.invokevirtual 91, 3) := by decide +kernel
theorem dX6_shield_8 : decode cX6_shield 8 = .ok (.ifCond .ne 5, 3) := by decide +kernel
theorem dX6_shield_11 : decode cX6_shield 11 = .ok (.iconst (-1), 1) := by decide +kernel
theorem dX6_shield_12 : decode cX6_shield 12 = .ok (.ireturn, 1) := by decide +kernel
theorem dX6_shield_13 : decode cX6_shield 13 = .ok (.iload_n 2, 1) := by decide +kernel
theorem dX6_shield_14 : decode cX6_shield 14 = .ok (.tableswitch 80 0 4 #[34, 44, 53, 62, 71], 34) := by decide +kernel
theorem dX6_shield_48 : decode cX6_shield 48 = .ok (.aload_n 0, 1) := by decide +kernel
theorem dX6_shield_49 : decode cX6_shield 49 = .ok (.getfield 10, 3) := by decide +kernel
theorem dX6_shield_52 : decode cX6_shield 52 = .ok (.getfield 212, 3) := by decide +kernel
theorem dX6_shield_55 : decode cX6_shield 55 = .ok (.iload_n 1, 1) := by decide +kernel
theorem dX6_shield_56 : decode cX6_shield 56 = .ok (.iaload, 1) := by decide +kernel
theorem dX6_shield_57 : decode cX6_shield 57 = .ok (.ireturn, 1) := by decide +kernel
theorem dX6_shield_58 : decode cX6_shield 58 = .ok (.aload_n 0, 1) := by decide +kernel
theorem dX6_shield_59 : decode cX6_shield 59 = .ok (.getfield 10, 3) := by decide +kernel
theorem dX6_shield_62 : decode cX6_shield 62 = .ok (.iload_n 1, 1) := by decide +kernel
theorem dX6_shield_63 : decode cX6_shield 63 = .ok (.invokevirtual 216, 3) := by decide +kernel
theorem dX6_shield_66 : decode cX6_shield 66 = .ok (.ireturn, 1) := by decide +kernel
theorem dX6_shield_67 : decode cX6_shield 67 = .ok (.aload_n 0, 1) := by decide +kernel
theorem dX6_shield_68 : decode cX6_shield 68 = .ok (.getfield 10, 3) := by decide +kernel
theorem dX6_shield_71 : decode cX6_shield 71 = .ok (.iload_n 1, 1) := by decide +kernel
theorem dX6_shield_72 : decode cX6_shield 72 = .ok (.invokevirtual 219, 3) := by decide +kernel
theorem dX6_shield_75 : decode cX6_shield 75 = .ok (.ireturn, 1) := by decide +kernel
theorem dX6_shield_76 : decode cX6_shield 76 = .ok (.aload_n 0, 1) := by decide +kernel
theorem dX6_shield_77 : decode cX6_shield 77 = .ok (.getfield 10, 3) := by decide +kernel
theorem dX6_shield_80 : decode cX6_shield 80 = .ok (.iload_n 1, 1) := by decide +kernel
theorem dX6_shield_81 : decode cX6_shield 81 = .ok (.invokevirtual 222, 3) := by decide +kernel
theorem dX6_shield_84 : decode cX6_shield 84 = .ok (.ireturn, 1) := by decide +kernel
theorem dX6_shield_85 : decode cX6_shield 85 = .ok (.aload_n 0, 1) := by decide +kernel
theorem dX6_shield_86 : decode cX6_shield 86 = .ok (.getfield 10, 3) := by decide +kernel
theorem dX6_shield_89 : decode cX6_shield 89 = .ok (.iload_n 1, 1) := by decide +kernel
theorem dX6_shield_90 : decode cX6_shield 90 = .ok (.invokevirtual 225, 3) := by decide +kernel
theorem dX6_shield_93 : decode cX6_shield 93 = .ok (.ireturn, 1) := by decide +kernel
theorem dX6_shield_94 : decode cX6_shield 94 = .ok (.iconst (-1), 1) := by decide +kernel
theorem dX6_shield_95 : decode cX6_shield 95 = .ok (.ireturn, 1) := by decide +kernel
theorem dX6_plateFor_0 : decode cX6_plateFor 0 = .ok (.aload_n 0, 1) := by decide +kernel
theorem dX6_plateFor_1 : decode cX6_plateFor 1 = .ok (.getfield 10, 3) := by decide +kernel
theorem dX6_plateFor_4 : decode cX6_plateFor 4 = .ok (.iload_n 1, 1) := by decide +kernel
theorem dX6_plateFor_5 : decode cX6_plateFor 5 = .ok (.invokevirtual 91, 3) := by decide +kernel
theorem dX6_plateFor_8 : decode cX6_plateFor 8 = .ok (.ifCond .eq 10, 3) := by decide +kernel
theorem dX6_plateFor_11 : decode cX6_plateFor 11 = .ok (.iload_n 2, 1) := by decide +kernel
theorem dX6_plateFor_12 : decode cX6_plateFor 12 = .ok (.invokestatic 94, 3) := by decide +kernel
theorem dX6_plateFor_15 : decode cX6_plateFor 15 = .ok (.ifCond .ne 5, 3) := by decide +kernel
theorem dX6_plateFor_18 : decode cX6_plateFor 18 = .ok (.iconst (-1), 1) := by decide +kernel
theorem dX6_plateFor_19 : decode cX6_plateFor 19 = .ok (.ireturn, 1) := by decide +kernel
theorem dX6_plateFor_20 : decode cX6_plateFor 20 = .ok (.aload_n 0, 1) := by decide +kernel
theorem dX6_plateFor_21 : decode cX6_plateFor 21 = .ok (.getfield 10, 3) := by decide +kernel
theorem dX6_plateFor_24 : decode cX6_plateFor 24 = .ok (.iload_n 1, 1) := by decide +kernel
theorem dX6_plateFor_25 : decode cX6_plateFor 25 = .ok (.iload_n 2, 1) := by decide +kernel
theorem dX6_plateFor_26 : decode cX6_plateFor 26 = .ok (.invokevirtual 97, 3) := by decide +kernel
theorem dX6_plateFor_29 : decode cX6_plateFor 29 = .ok (.ireturn, 1) := by decide +kernel
theorem dX6_orderOf_0 : decode cX6_orderOf 0 = .ok (.aload_n 0, 1) := by decide +kernel
theorem dX6_orderOf_1 : decode cX6_orderOf 1 = .ok (.getfield 10, 3) := by decide +kernel
theorem dX6_orderOf_4 : decode cX6_orderOf 4 = .ok (.iload_n 1, 1) := by decide +kernel
theorem dX6_orderOf_5 : decode cX6_orderOf 5 = .ok (.invokevirtual 155, 3) := by decide +kernel
theorem dX6_orderOf_8 : decode cX6_orderOf 8 = .ok (.ifCond .ne 5, 3) := by decide +kernel
theorem dX6_orderOf_11 : decode cX6_orderOf 11 = .ok (.iconst (-1), 1) := by decide +kernel
theorem dX6_orderOf_12 : decode cX6_orderOf 12 = .ok (.ireturn, 1) := by decide +kernel
theorem dX6_orderOf_13 : decode cX6_orderOf 13 = .ok (.aload_n 0, 1) := by decide +kernel
theorem dX6_orderOf_14 : decode cX6_orderOf 14 = .ok (.getfield 10, 3) := by decide +kernel
theorem dX6_orderOf_17 : decode cX6_orderOf 17 = .ok (.getfield 122, 3) := by decide +kernel
theorem dX6_orderOf_20 : decode cX6_orderOf 20 = .ok (.iload_n 1, 1) := by decide +kernel
theorem dX6_orderOf_21 : decode cX6_orderOf 21 = .ok (.aaload, 1) := by decide +kernel
theorem dX6_orderOf_22 : decode cX6_orderOf 22 = .ok (.astore_n 3, 1) := by decide +kernel
theorem dX6_orderOf_23 : decode cX6_orderOf 23 = .ok (.iload_n 2, 1) := by decide +kernel
theorem dX6_orderOf_24 : decode cX6_orderOf 24 = .ok (.tableswitch 99 0 7 #[48, 53, 58, 63, 68, 81, 89, 94], 48) := by decide +kernel
theorem dX6_orderOf_72 : decode cX6_orderOf 72 = .ok (.aload_n 3, 1) := by decide +kernel
theorem dX6_orderOf_73 : decode cX6_orderOf 73 = .ok (.getfield 135, 3) := by decide +kernel
theorem dX6_orderOf_76 : decode cX6_orderOf 76 = .ok (.ireturn, 1) := by decide +kernel
theorem dX6_orderOf_77 : decode cX6_orderOf 77 = .ok (.aload_n 3, 1) := by decide +kernel
theorem dX6_orderOf_78 : decode cX6_orderOf 78 = .ok (.getfield 138, 3) := by decide +kernel
theorem dX6_orderOf_81 : decode cX6_orderOf 81 = .ok (.ireturn, 1) := by decide +kernel
theorem dX6_orderOf_82 : decode cX6_orderOf 82 = .ok (.aload_n 3, 1) := by decide +kernel
theorem dX6_orderOf_83 : decode cX6_orderOf 83 = .ok (.getfield 141, 3) := by decide +kernel
theorem dX6_orderOf_86 : decode cX6_orderOf 86 = .ok (.ireturn, 1) := by decide +kernel
theorem dX6_orderOf_87 : decode cX6_orderOf 87 = .ok (.aload_n 3, 1) := by decide +kernel
theorem dX6_orderOf_88 : decode cX6_orderOf 88 = .ok (.getfield 144, 3) := by decide +kernel
theorem dX6_orderOf_91 : decode cX6_orderOf 91 = .ok (.ireturn, 1) := by decide +kernel
theorem dX6_orderOf_92 : decode cX6_orderOf 92 = .ok (.aload_n 3, 1) := by decide +kernel
theorem dX6_orderOf_93 : decode cX6_orderOf 93 = .ok (.getfield 147, 3) := by decide +kernel
theorem dX6_orderOf_96 : decode cX6_orderOf 96 = .ok (.ifCond .eq 7, 3) := by decide +kernel
theorem dX6_orderOf_99 : decode cX6_orderOf 99 = .ok (.iconst 1, 1) := by decide +kernel
theorem dX6_orderOf_100 : decode cX6_orderOf 100 = .ok (.goto 4, 3) := by decide +kernel
theorem dX6_orderOf_103 : decode cX6_orderOf 103 = .ok (.iconst 0, 1) := by decide +kernel
theorem dX6_orderOf_104 : decode cX6_orderOf 104 = .ok (.ireturn, 1) := by decide +kernel
theorem dX6_orderOf_105 : decode cX6_orderOf 105 = .ok (.aload_n 3, 1) := by decide +kernel
theorem dX6_orderOf_106 : decode cX6_orderOf 106 = .ok (.getfield 126, 3) := by decide +kernel
theorem dX6_orderOf_109 : decode cX6_orderOf 109 = .ok (.getfield 103, 3) := by decide +kernel
theorem dX6_orderOf_112 : decode cX6_orderOf 112 = .ok (.ireturn, 1) := by decide +kernel
theorem dX6_orderOf_113 : decode cX6_orderOf 113 = .ok (.aload_n 3, 1) := by decide +kernel
theorem dX6_orderOf_114 : decode cX6_orderOf 114 = .ok (.invokevirtual 228, 3) := by decide +kernel
theorem dX6_orderOf_117 : decode cX6_orderOf 117 = .ok (.ireturn, 1) := by decide +kernel
theorem dX6_orderOf_118 : decode cX6_orderOf 118 = .ok (.aload_n 3, 1) := by decide +kernel
theorem dX6_orderOf_119 : decode cX6_orderOf 119 = .ok (.invokevirtual 231, 3) := by decide +kernel
theorem dX6_orderOf_122 : decode cX6_orderOf 122 = .ok (.ireturn, 1) := by decide +kernel
theorem dX6_orderOf_123 : decode cX6_orderOf 123 = .ok (.iconst (-1), 1) := by decide +kernel
theorem dX6_orderOf_124 : decode cX6_orderOf 124 = .ok (.ireturn, 1) := by decide +kernel
theorem dX6_letter_0 : decode cX6_letter 0 = .ok (.aload_n 0, 1) := by decide +kernel
theorem dX6_letter_1 : decode cX6_letter 1 = .ok (.getfield 10, 3) := by decide +kernel
theorem dX6_letter_4 : decode cX6_letter 4 = .ok (.iload_n 1, 1) := by decide +kernel
theorem dX6_letter_5 : decode cX6_letter 5 = .ok (.invokevirtual 155, 3) := by decide +kernel
theorem dX6_letter_8 : decode cX6_letter 8 = .ok (.ifCond .eq 7, 3) := by decide +kernel
theorem dX6_letter_11 : decode cX6_letter 11 = .ok (.iload_n 2, 1) := by decide +kernel
theorem dX6_letter_12 : decode cX6_letter 12 = .ok (.ifCond .ge 5, 3) := by decide +kernel
theorem dX6_letter_15 : decode cX6_letter 15 = .ok (.iconst (-1), 1) := by decide +kernel
theorem dX6_letter_16 : decode cX6_letter 16 = .ok (.ireturn, 1) := by decide +kernel
theorem dX6_letter_17 : decode cX6_letter 17 = .ok (.aload_n 0, 1) := by decide +kernel
theorem dX6_letter_18 : decode cX6_letter 18 = .ok (.getfield 10, 3) := by decide +kernel
theorem dX6_letter_21 : decode cX6_letter 21 = .ok (.getfield 122, 3) := by decide +kernel
theorem dX6_letter_24 : decode cX6_letter 24 = .ok (.iload_n 1, 1) := by decide +kernel
theorem dX6_letter_25 : decode cX6_letter 25 = .ok (.aaload, 1) := by decide +kernel
theorem dX6_letter_26 : decode cX6_letter 26 = .ok (.getfield 126, 3) := by decide +kernel
theorem dX6_letter_29 : decode cX6_letter 29 = .ok (.astore_n 3, 1) := by decide +kernel
theorem dX6_letter_30 : decode cX6_letter 30 = .ok (.iload_n 2, 1) := by decide +kernel
theorem dX6_letter_31 : decode cX6_letter 31 = .ok (.aload_n 3, 1) := by decide +kernel
theorem dX6_letter_32 : decode cX6_letter 32 = .ok (.getfield 103, 3) := by decide +kernel
theorem dX6_letter_35 : decode cX6_letter 35 = .ok (.if_icmp .ge 12, 3) := by decide +kernel
theorem dX6_letter_38 : decode cX6_letter 38 = .ok (.aload_n 3, 1) := by decide +kernel
theorem dX6_letter_39 : decode cX6_letter 39 = .ok (.getfield 234, 3) := by decide +kernel
theorem dX6_letter_42 : decode cX6_letter 42 = .ok (.iload_n 2, 1) := by decide +kernel
theorem dX6_letter_43 : decode cX6_letter 43 = .ok (.iaload, 1) := by decide +kernel
theorem dX6_letter_44 : decode cX6_letter 44 = .ok (.goto 5, 3) := by decide +kernel
theorem dX6_letter_47 : decode cX6_letter 47 = .ok (.bipush (-9), 2) := by decide +kernel
theorem dX6_letter_49 : decode cX6_letter 49 = .ok (.ireturn, 1) := by decide +kernel
theorem dX6_lengthOf_0 : decode cX6_lengthOf 0 = .ok (.iload_n 1, 1) := by decide +kernel
theorem dX6_lengthOf_1 : decode cX6_lengthOf 1 = .ok (.invokestatic 110, 3) := by decide +kernel
theorem dX6_lengthOf_4 : decode cX6_lengthOf 4 = .ok (.ifCond .eq 14, 3) := by decide +kernel
theorem dX6_lengthOf_7 : decode cX6_lengthOf 7 = .ok (.aload_n 0, 1) := by decide +kernel
theorem dX6_lengthOf_8 : decode cX6_lengthOf 8 = .ok (.getfield 26, 3) := by decide +kernel
theorem dX6_lengthOf_11 : decode cX6_lengthOf 11 = .ok (.iload_n 1, 1) := by decide +kernel
theorem dX6_lengthOf_12 : decode cX6_lengthOf 12 = .ok (.invokevirtual 237, 3) := by decide +kernel
theorem dX6_lengthOf_15 : decode cX6_lengthOf 15 = .ok (.goto 4, 3) := by decide +kernel
theorem dX6_lengthOf_18 : decode cX6_lengthOf 18 = .ok (.iconst (-1), 1) := by decide +kernel
theorem dX6_lengthOf_19 : decode cX6_lengthOf 19 = .ok (.ireturn, 1) := by decide +kernel
theorem dX6_plateFound_0 : decode cX6_plateFound 0 = .ok (.iload_n 1, 1) := by decide +kernel
theorem dX6_plateFound_1 : decode cX6_plateFound 1 = .ok (.invokestatic 110, 3) := by decide +kernel
theorem dX6_plateFound_4 : decode cX6_plateFound 4 = .ok (.ifCond .eq 19, 3) := by decide +kernel
theorem dX6_plateFound_7 : decode cX6_plateFound 7 = .ok (.iload_n 2, 1) := by decide +kernel
theorem dX6_plateFound_8 : decode cX6_plateFound 8 = .ok (.invokestatic 113, 3) := by decide +kernel
theorem dX6_plateFound_11 : decode cX6_plateFound 11 = .ok (.ifCond .eq 12, 3) := by decide +kernel
theorem dX6_plateFound_14 : decode cX6_plateFound 14 = .ok (.iload_n 3, 1) := by decide +kernel
theorem dX6_plateFound_15 : decode cX6_plateFound 15 = .ok (.iconst 0, 1) := by decide +kernel
theorem dX6_plateFound_16 : decode cX6_plateFound 16 = .ok (.iconst 2, 1) := by decide +kernel
theorem dX6_plateFound_17 : decode cX6_plateFound 17 = .ok (.invokestatic 42, 3) := by decide +kernel
theorem dX6_plateFound_20 : decode cX6_plateFound 20 = .ok (.ifCond .ne 5, 3) := by decide +kernel
theorem dX6_plateFound_23 : decode cX6_plateFound 23 = .ok (.iconst (-1), 1) := by decide +kernel
theorem dX6_plateFound_24 : decode cX6_plateFound 24 = .ok (.ireturn, 1) := by decide +kernel
theorem dX6_plateFound_25 : decode cX6_plateFound 25 = .ok (.aload_n 0, 1) := by decide +kernel
theorem dX6_plateFound_26 : decode cX6_plateFound 26 = .ok (.getfield 26, 3) := by decide +kernel
theorem dX6_plateFound_29 : decode cX6_plateFound 29 = .ok (.getfield 103, 3) := by decide +kernel
theorem dX6_plateFound_32 : decode cX6_plateFound 32 = .ok (.ifCond .ne 6, 3) := by decide +kernel
theorem dX6_plateFound_35 : decode cX6_plateFound 35 = .ok (.bipush (-2), 2) := by decide +kernel
theorem dX6_plateFound_37 : decode cX6_plateFound 37 = .ok (.ireturn, 1) := by decide +kernel
theorem dX6_plateFound_38 : decode cX6_plateFound 38 = .ok (.aload_n 0, 1) := by decide +kernel
theorem dX6_plateFound_39 : decode cX6_plateFound 39 = .ok (.getfield 10, 3) := by decide +kernel
theorem dX6_plateFound_42 : decode cX6_plateFound 42 = .ok (.aload_n 0, 1) := by decide +kernel
theorem dX6_plateFound_43 : decode cX6_plateFound 43 = .ok (.getfield 26, 3) := by decide +kernel
theorem dX6_plateFound_46 : decode cX6_plateFound 46 = .ok (.iload_n 1, 1) := by decide +kernel
theorem dX6_plateFound_47 : decode cX6_plateFound 47 = .ok (.invokevirtual 237, 3) := by decide +kernel
theorem dX6_plateFound_50 : decode cX6_plateFound 50 = .ok (.iload_n 2, 1) := by decide +kernel
theorem dX6_plateFound_51 : decode cX6_plateFound 51 = .ok (.invokevirtual 240, 3) := by decide +kernel
theorem dX6_plateFound_54 : decode cX6_plateFound 54 = .ok (.istore 4, 2) := by decide +kernel
theorem dX6_plateFound_56 : decode cX6_plateFound 56 = .ok (.aload_n 0, 1) := by decide +kernel
theorem dX6_plateFound_57 : decode cX6_plateFound 57 = .ok (.getfield 10, 3) := by decide +kernel
theorem dX6_plateFound_60 : decode cX6_plateFound 60 = .ok (.iload 4, 2) := by decide +kernel
theorem dX6_plateFound_62 : decode cX6_plateFound 62 = .ok (.invokevirtual 57, 3) := by decide +kernel
theorem dX6_plateFound_65 : decode cX6_plateFound 65 = .ok (.ifCond .ne 6, 3) := by decide +kernel
theorem dX6_plateFound_68 : decode cX6_plateFound 68 = .ok (.bipush (-9), 2) := by decide +kernel
theorem dX6_plateFound_70 : decode cX6_plateFound 70 = .ok (.ireturn, 1) := by decide +kernel
theorem dX6_plateFound_71 : decode cX6_plateFound 71 = .ok (.aload_n 0, 1) := by decide +kernel
theorem dX6_plateFound_72 : decode cX6_plateFound 72 = .ok (.getfield 10, 3) := by decide +kernel
theorem dX6_plateFound_75 : decode cX6_plateFound 75 = .ok (.getfield 61, 3) := by decide +kernel
theorem dX6_plateFound_78 : decode cX6_plateFound 78 = .ok (.iload 4, 2) := by decide +kernel
theorem dX6_plateFound_80 : decode cX6_plateFound 80 = .ok (.aaload, 1) := by decide +kernel
theorem dX6_plateFound_81 : decode cX6_plateFound 81 = .ok (.iload_n 2, 1) := by decide +kernel
theorem dX6_plateFound_82 : decode cX6_plateFound 82 = .ok (.invokevirtual 243, 3) := by decide +kernel
theorem dX6_plateFound_85 : decode cX6_plateFound 85 = .ok (.istore 5, 2) := by decide +kernel
theorem dX6_plateFound_87 : decode cX6_plateFound 87 = .ok (.iload_n 3, 1) := by decide +kernel
theorem dX6_plateFound_88 : decode cX6_plateFound 88 = .ok (.lookupswitch 34 #[(0, 28), (1, 31)], 28) := by decide +kernel
theorem dX6_plateFound_116 : decode cX6_plateFound 116 = .ok (.iload 4, 2) := by decide +kernel
theorem dX6_plateFound_118 : decode cX6_plateFound 118 = .ok (.ireturn, 1) := by decide +kernel
theorem dX6_plateFound_119 : decode cX6_plateFound 119 = .ok (.iload 5, 2) := by decide +kernel
theorem dX6_plateFound_121 : decode cX6_plateFound 121 = .ok (.ireturn, 1) := by decide +kernel
theorem dX6_plateFound_122 : decode cX6_plateFound 122 = .ok (.aload_n 0, 1) := by decide +kernel
theorem dX6_plateFound_123 : decode cX6_plateFound 123 = .ok (.getfield 10, 3) := by decide +kernel
theorem dX6_plateFound_126 : decode cX6_plateFound 126 = .ok (.getfield 61, 3) := by decide +kernel
theorem dX6_plateFound_129 : decode cX6_plateFound 129 = .ok (.iload 4, 2) := by decide +kernel
theorem dX6_plateFound_131 : decode cX6_plateFound 131 = .ok (.aaload, 1) := by decide +kernel
theorem dX6_plateFound_132 : decode cX6_plateFound 132 = .ok (.iload 5, 2) := by decide +kernel
theorem dX6_plateFound_134 : decode cX6_plateFound 134 = .ok (.invokevirtual 246, 3) := by decide +kernel
theorem dX6_plateFound_137 : decode cX6_plateFound 137 = .ok (.ifCond .eq 7, 3) := by decide +kernel
theorem dX6_plateFound_140 : decode cX6_plateFound 140 = .ok (.iconst 0, 1) := by decide +kernel
theorem dX6_plateFound_141 : decode cX6_plateFound 141 = .ok (.goto 4, 3) := by decide +kernel
theorem dX6_plateFound_144 : decode cX6_plateFound 144 = .ok (.iconst 1, 1) := by decide +kernel
theorem dX6_plateFound_145 : decode cX6_plateFound 145 = .ok (.ireturn, 1) := by decide +kernel
theorem dX6_doneIn_0 : decode cX6_doneIn 0 = .ok (.aload_n 0, 1) := by decide +kernel
theorem dX6_doneIn_1 : decode cX6_doneIn 1 = .ok (.getfield 10, 3) := by decide +kernel
theorem dX6_doneIn_4 : decode cX6_doneIn 4 = .ok (.iload_n 1, 1) := by decide +kernel
theorem dX6_doneIn_5 : decode cX6_doneIn 5 = .ok (.invokevirtual 155, 3) := by decide +kernel
theorem dX6_doneIn_8 : decode cX6_doneIn 8 = .ok (.ifCond .ne 5, 3) := by decide +kernel
theorem dX6_doneIn_11 : decode cX6_doneIn 11 = .ok (.iconst (-1), 1) := by decide +kernel
theorem dX6_doneIn_12 : decode cX6_doneIn 12 = .ok (.ireturn, 1) := by decide +kernel
theorem dX6_doneIn_13 : decode cX6_doneIn 13 = .ok (.aload_n 0, 1) := by decide +kernel
theorem dX6_doneIn_14 : decode cX6_doneIn 14 = .ok (.getfield 35, 3) := by decide +kernel
theorem dX6_doneIn_17 : decode cX6_doneIn 17 = .ok (.aload_n 0, 1) := by decide +kernel
theorem dX6_doneIn_18 : decode cX6_doneIn 18 = .ok (.getfield 10, 3) := by decide +kernel
theorem dX6_doneIn_21 : decode cX6_doneIn 21 = .ok (.bipush (-9), 2) := by decide +kernel
theorem dX6_doneIn_23 : decode cX6_doneIn 23 = .ok (.invokevirtual 249, 3) := by decide +kernel
theorem dX6_doneIn_26 : decode cX6_doneIn 26 = .ok (.aload_n 0, 1) := by decide +kernel
theorem dX6_doneIn_27 : decode cX6_doneIn 27 = .ok (.getfield 35, 3) := by decide +kernel
theorem dX6_doneIn_30 : decode cX6_doneIn 30 = .ok (.getfield 253, 3) := by decide +kernel
theorem dX6_doneIn_33 : decode cX6_doneIn 33 = .ok (.iload_n 1, 1) := by decide +kernel
theorem dX6_doneIn_34 : decode cX6_doneIn 34 = .ok (.iaload, 1) := by decide +kernel
theorem dX6_doneIn_35 : decode cX6_doneIn 35 = .ok (.ireturn, 1) := by decide +kernel
theorem dX6_moved_0 : decode cX6_moved 0 = .ok (.aload_n 0, 1) := by decide +kernel
theorem dX6_moved_1 : decode cX6_moved 1 = .ok (.getfield 10, 3) := by decide +kernel
theorem dX6_moved_4 : decode cX6_moved 4 = .ok (.iload_n 1, 1) := by decide +kernel
theorem dX6_moved_5 : decode cX6_moved 5 = .ok (.invokevirtual 155, 3) := by decide +kernel
theorem dX6_moved_8 : decode cX6_moved 8 = .ok (.ifCond .ne 5, 3) := by decide +kernel
theorem dX6_moved_11 : decode cX6_moved 11 = .ok (.iconst (-1), 1) := by decide +kernel
theorem dX6_moved_12 : decode cX6_moved 12 = .ok (.ireturn, 1) := by decide +kernel
theorem dX6_moved_13 : decode cX6_moved 13 = .ok (.aload_n 0, 1) := by decide +kernel
theorem dX6_moved_14 : decode cX6_moved 14 = .ok (.getfield 10, 3) := by decide +kernel
theorem dX6_moved_17 : decode cX6_moved 17 = .ok (.getfield 122, 3) := by decide +kernel
theorem dX6_moved_20 : decode cX6_moved 20 = .ok (.iload_n 1, 1) := by decide +kernel
theorem dX6_moved_21 : decode cX6_moved 21 = .ok (.aaload, 1) := by decide +kernel
theorem dX6_moved_22 : decode cX6_moved 22 = .ok (.getfield 147, 3) := by decide +kernel
theorem dX6_moved_25 : decode cX6_moved 25 = .ok (.ifCond .eq 6, 3) := by decide +kernel
theorem dX6_moved_28 : decode cX6_moved 28 = .ok (.bipush (-2), 2) := by decide +kernel
theorem dX6_moved_30 : decode cX6_moved 30 = .ok (.ireturn, 1) := by decide +kernel
theorem dX6_moved_31 : decode cX6_moved 31 = .ok (.aload_n 0, 1) := by decide +kernel
theorem dX6_moved_32 : decode cX6_moved 32 = .ok (.getfield 35, 3) := by decide +kernel
theorem dX6_moved_35 : decode cX6_moved 35 = .ok (.aload_n 0, 1) := by decide +kernel
theorem dX6_moved_36 : decode cX6_moved 36 = .ok (.getfield 10, 3) := by decide +kernel
theorem dX6_moved_39 : decode cX6_moved 39 = .ok (.bipush (-9), 2) := by decide +kernel
theorem dX6_moved_41 : decode cX6_moved 41 = .ok (.invokevirtual 249, 3) := by decide +kernel
theorem dX6_moved_44 : decode cX6_moved 44 = .ok (.aload_n 0, 1) := by decide +kernel
theorem dX6_moved_45 : decode cX6_moved 45 = .ok (.getfield 39, 3) := by decide +kernel
theorem dX6_moved_48 : decode cX6_moved 48 = .ok (.aload_n 0, 1) := by decide +kernel
theorem dX6_moved_49 : decode cX6_moved 49 = .ok (.getfield 10, 3) := by decide +kernel
theorem dX6_moved_52 : decode cX6_moved 52 = .ok (.iload_n 1, 1) := by decide +kernel
theorem dX6_moved_53 : decode cX6_moved 53 = .ok (.invokevirtual 249, 3) := by decide +kernel
theorem dX6_moved_56 : decode cX6_moved 56 = .ok (.ldc_w 256, 3) := by decide +kernel
theorem dX6_moved_59 : decode cX6_moved 59 = .ok (.istore_n 2, 1) := by decide +kernel
theorem dX6_moved_60 : decode cX6_moved 60 = .ok (.iconst 0, 1) := by decide +kernel
theorem dX6_moved_61 : decode cX6_moved 61 = .ok (.istore_n 3, 1) := by decide +kernel
theorem dX6_moved_62 : decode cX6_moved 62 = .ok (.iload_n 3, 1) := by decide +kernel
theorem dX6_moved_63 : decode cX6_moved 63 = .ok (.aload_n 0, 1) := by decide +kernel
theorem dX6_moved_64 : decode cX6_moved 64 = .ok (.getfield 10, 3) := by decide +kernel
theorem dX6_moved_67 : decode cX6_moved 67 = .ok (.getfield 119, 3) := by decide +kernel
theorem dX6_moved_70 : decode cX6_moved 70 = .ok (.if_icmp .ge 67, 3) := by decide +kernel
theorem dX6_moved_73 : decode cX6_moved 73 = .ok (.aload_n 0, 1) := by decide +kernel
theorem dX6_moved_74 : decode cX6_moved 74 = .ok (.getfield 35, 3) := by decide +kernel
theorem dX6_moved_77 : decode cX6_moved 77 = .ok (.getfield 253, 3) := by decide +kernel
theorem dX6_moved_80 : decode cX6_moved 80 = .ok (.iload_n 3, 1) := by decide +kernel
theorem dX6_moved_81 : decode cX6_moved 81 = .ok (.iaload, 1) := by decide +kernel
theorem dX6_moved_82 : decode cX6_moved 82 = .ok (.bipush (-9), 2) := by decide +kernel
theorem dX6_moved_84 : decode cX6_moved 84 = .ok (.if_icmp .eq 17, 3) := by decide +kernel
theorem dX6_moved_87 : decode cX6_moved 87 = .ok (.aload_n 0, 1) := by decide +kernel
theorem dX6_moved_88 : decode cX6_moved 88 = .ok (.getfield 39, 3) := by decide +kernel
theorem dX6_moved_91 : decode cX6_moved 91 = .ok (.getfield 253, 3) := by decide +kernel
theorem dX6_moved_94 : decode cX6_moved 94 = .ok (.iload_n 3, 1) := by decide +kernel
theorem dX6_moved_95 : decode cX6_moved 95 = .ok (.iaload, 1) := by decide +kernel
theorem dX6_moved_96 : decode cX6_moved 96 = .ok (.bipush (-9), 2) := by decide +kernel
theorem dX6_moved_98 : decode cX6_moved 98 = .ok (.if_icmp .ne 6, 3) := by decide +kernel
theorem dX6_moved_101 : decode cX6_moved 101 = .ok (.bipush (-9), 2) := by decide +kernel
theorem dX6_moved_103 : decode cX6_moved 103 = .ok (.ireturn, 1) := by decide +kernel
theorem dX6_moved_104 : decode cX6_moved 104 = .ok (.iload_n 3, 1) := by decide +kernel
theorem dX6_moved_105 : decode cX6_moved 105 = .ok (.iload_n 1, 1) := by decide +kernel
theorem dX6_moved_106 : decode cX6_moved 106 = .ok (.if_icmp .eq 25, 3) := by decide +kernel
theorem dX6_moved_109 : decode cX6_moved 109 = .ok (.iload_n 2, 1) := by decide +kernel
theorem dX6_moved_110 : decode cX6_moved 110 = .ok (.aload_n 0, 1) := by decide +kernel
theorem dX6_moved_111 : decode cX6_moved 111 = .ok (.getfield 39, 3) := by decide +kernel
theorem dX6_moved_114 : decode cX6_moved 114 = .ok (.getfield 253, 3) := by decide +kernel
theorem dX6_moved_117 : decode cX6_moved 117 = .ok (.iload_n 3, 1) := by decide +kernel
theorem dX6_moved_118 : decode cX6_moved 118 = .ok (.iaload, 1) := by decide +kernel
theorem dX6_moved_119 : decode cX6_moved 119 = .ok (.aload_n 0, 1) := by decide +kernel
theorem dX6_moved_120 : decode cX6_moved 120 = .ok (.getfield 35, 3) := by decide +kernel
theorem dX6_moved_123 : decode cX6_moved 123 = .ok (.getfield 253, 3) := by decide +kernel
theorem dX6_moved_126 : decode cX6_moved 126 = .ok (.iload_n 3, 1) := by decide +kernel
theorem dX6_moved_127 : decode cX6_moved 127 = .ok (.iaload, 1) := by decide +kernel
theorem dX6_moved_128 : decode cX6_moved 128 = .ok (.isub, 1) := by decide +kernel
theorem dX6_moved_129 : decode cX6_moved 129 = .ok (.iadd, 1) := by decide +kernel
theorem dX6_moved_130 : decode cX6_moved 130 = .ok (.istore_n 2, 1) := by decide +kernel
theorem dX6_moved_131 : decode cX6_moved 131 = .ok (.iinc 3 1, 3) := by decide +kernel
theorem dX6_moved_134 : decode cX6_moved 134 = .ok (.goto (-72), 3) := by decide +kernel
theorem dX6_moved_137 : decode cX6_moved 137 = .ok (.iload_n 2, 1) := by decide +kernel
theorem dX6_moved_138 : decode cX6_moved 138 = .ok (.ireturn, 1) := by decide +kernel
theorem dX6_largestSize_0 : decode cX6_largestSize 0 = .ok (.aload_n 0, 1) := by decide +kernel
theorem dX6_largestSize_1 : decode cX6_largestSize 1 = .ok (.getfield 10, 3) := by decide +kernel
theorem dX6_largestSize_4 : decode cX6_largestSize 4 = .ok (.iload_n 1, 1) := by decide +kernel
theorem dX6_largestSize_5 : decode cX6_largestSize 5 = .ok (.invokevirtual 57, 3) := by decide +kernel
theorem dX6_largestSize_8 : decode cX6_largestSize 8 = .ok (.ifCond .ne 5, 3) := by decide +kernel
theorem dX6_largestSize_11 : decode cX6_largestSize 11 = .ok (.iconst (-1), 1) := by decide +kernel
theorem dX6_largestSize_12 : decode cX6_largestSize 12 = .ok (.ireturn, 1) := by decide +kernel
theorem dX6_largestSize_13 : decode cX6_largestSize 13 = .ok (.aload_n 0, 1) := by decide +kernel
theorem dX6_largestSize_14 : decode cX6_largestSize 14 = .ok (.getfield 26, 3) := by decide +kernel
theorem dX6_largestSize_17 : decode cX6_largestSize 17 = .ok (.getfield 103, 3) := by decide +kernel
theorem dX6_largestSize_20 : decode cX6_largestSize 20 = .ok (.ifCond .ne 6, 3) := by decide +kernel
theorem dX6_largestSize_23 : decode cX6_largestSize 23 = .ok (.bipush (-2), 2) := by decide +kernel
theorem dX6_largestSize_25 : decode cX6_largestSize 25 = .ok (.ireturn, 1) := by decide +kernel
theorem dX6_largestSize_26 : decode cX6_largestSize 26 = .ok (.iconst 4, 1) := by decide +kernel
theorem dX6_largestSize_27 : decode cX6_largestSize 27 = .ok (.istore_n 2, 1) := by decide +kernel
theorem dX6_largestSize_28 : decode cX6_largestSize 28 = .ok (.iload_n 2, 1) := by decide +kernel
theorem dX6_largestSize_29 : decode cX6_largestSize 29 = .ok (.iconst 1, 1) := by decide +kernel
theorem dX6_largestSize_30 : decode cX6_largestSize 30 = .ok (.if_icmp .lt 34, 3) := by decide +kernel
theorem dX6_largestSize_33 : decode cX6_largestSize 33 = .ok (.aload_n 0, 1) := by decide +kernel
theorem dX6_largestSize_34 : decode cX6_largestSize 34 = .ok (.getfield 26, 3) := by decide +kernel
theorem dX6_largestSize_37 : decode cX6_largestSize 37 = .ok (.iload_n 2, 1) := by decide +kernel
theorem dX6_largestSize_38 : decode cX6_largestSize 38 = .ok (.invokevirtual 237, 3) := by decide +kernel
theorem dX6_largestSize_41 : decode cX6_largestSize 41 = .ok (.aload_n 0, 1) := by decide +kernel
theorem dX6_largestSize_42 : decode cX6_largestSize 42 = .ok (.getfield 10, 3) := by decide +kernel
theorem dX6_largestSize_45 : decode cX6_largestSize 45 = .ok (.getfield 61, 3) := by decide +kernel
theorem dX6_largestSize_48 : decode cX6_largestSize 48 = .ok (.iload_n 1, 1) := by decide +kernel
theorem dX6_largestSize_49 : decode cX6_largestSize 49 = .ok (.aaload, 1) := by decide +kernel
theorem dX6_largestSize_50 : decode cX6_largestSize 50 = .ok (.getfield 201, 3) := by decide +kernel
theorem dX6_largestSize_53 : decode cX6_largestSize 53 = .ok (.if_icmp .gt 5, 3) := by decide +kernel
theorem dX6_largestSize_56 : decode cX6_largestSize 56 = .ok (.iload_n 2, 1) := by decide +kernel
theorem dX6_largestSize_57 : decode cX6_largestSize 57 = .ok (.ireturn, 1) := by decide +kernel
theorem dX6_largestSize_58 : decode cX6_largestSize 58 = .ok (.iinc 2 (-1), 3) := by decide +kernel
theorem dX6_largestSize_61 : decode cX6_largestSize 61 = .ok (.goto (-33), 3) := by decide +kernel
theorem dX6_largestSize_64 : decode cX6_largestSize 64 = .ok (.bipush (-9), 2) := by decide +kernel
theorem dX6_largestSize_66 : decode cX6_largestSize 66 = .ok (.ireturn, 1) := by decide +kernel
theorem dX6_isWithin_0 : decode cX6_isWithin 0 = .ok (.iload_n 0, 1) := by decide +kernel
theorem dX6_isWithin_1 : decode cX6_isWithin 1 = .ok (.iload_n 1, 1) := by decide +kernel
theorem dX6_isWithin_2 : decode cX6_isWithin 2 = .ok (.if_icmp .lt 12, 3) := by decide +kernel
theorem dX6_isWithin_5 : decode cX6_isWithin 5 = .ok (.iload_n 0, 1) := by decide +kernel
theorem dX6_isWithin_6 : decode cX6_isWithin 6 = .ok (.iload_n 2, 1) := by decide +kernel
theorem dX6_isWithin_7 : decode cX6_isWithin 7 = .ok (.if_icmp .gt 7, 3) := by decide +kernel
theorem dX6_isWithin_10 : decode cX6_isWithin 10 = .ok (.iconst 1, 1) := by decide +kernel
theorem dX6_isWithin_11 : decode cX6_isWithin 11 = .ok (.goto 4, 3) := by decide +kernel
theorem dX6_isWithin_14 : decode cX6_isWithin 14 = .ok (.iconst 0, 1) := by decide +kernel
theorem dX6_isWithin_15 : decode cX6_isWithin 15 = .ok (.ireturn, 1) := by decide +kernel
theorem dX6_isYear_0 : decode cX6_isYear 0 = .ok (.iload_n 0, 1) := by decide +kernel
theorem dX6_isYear_1 : decode cX6_isYear 1 = .ok (.iconst 1, 1) := by decide +kernel
theorem dX6_isYear_2 : decode cX6_isYear 2 = .ok (.sipush 999, 3) := by decide +kernel
theorem dX6_isYear_5 : decode cX6_isYear 5 = .ok (.invokestatic 42, 3) := by decide +kernel
theorem dX6_isYear_8 : decode cX6_isYear 8 = .ok (.ireturn, 1) := by decide +kernel
theorem dX6_isSize_0 : decode cX6_isSize 0 = .ok (.iload_n 0, 1) := by decide +kernel
theorem dX6_isSize_1 : decode cX6_isSize 1 = .ok (.iconst 1, 1) := by decide +kernel
theorem dX6_isSize_2 : decode cX6_isSize 2 = .ok (.iconst 4, 1) := by decide +kernel
theorem dX6_isSize_3 : decode cX6_isSize 3 = .ok (.invokestatic 42, 3) := by decide +kernel
theorem dX6_isSize_6 : decode cX6_isSize 6 = .ok (.ireturn, 1) := by decide +kernel
theorem dX6_isDepth_0 : decode cX6_isDepth 0 = .ok (.iload_n 0, 1) := by decide +kernel
theorem dX6_isDepth_1 : decode cX6_isDepth 1 = .ok (.iconst 1, 1) := by decide +kernel
theorem dX6_isDepth_2 : decode cX6_isDepth 2 = .ok (.iconst 5, 1) := by decide +kernel
theorem dX6_isDepth_3 : decode cX6_isDepth 3 = .ok (.invokestatic 42, 3) := by decide +kernel
theorem dX6_isDepth_6 : decode cX6_isDepth 6 = .ok (.ireturn, 1) := by decide +kernel
theorem dX7_init_0 : decode cX7_init 0 = .ok (.aload_n 0, 1) := by decide +kernel
theorem dX7_init_1 : decode cX7_init 1 = .ok (.invokespecial 1, 3) := by decide +kernel
theorem dX7_init_4 : decode cX7_init 4 = .ok (.aload_n 0, 1) := by decide +kernel
theorem dX7_init_5 : decode cX7_init 5 = .ok (.sipush 343, 3) := by decide +kernel
theorem dX7_init_8 : decode cX7_init 8 = .ok (.newarray .int, 2) := by decide +kernel
theorem dX7_init_10 : decode cX7_init 10 = .ok (.putfield 7, 3) := by decide +kernel
theorem dX7_init_13 : decode cX7_init 13 = .ok (.aload_n 0, 1) := by decide +kernel
theorem dX7_init_14 : decode cX7_init 14 = .ok (.sipush 343, 3) := by decide +kernel
theorem dX7_init_17 : decode cX7_init 17 = .ok (.newarray .int, 2) := by decide +kernel
theorem dX7_init_19 : decode cX7_init 19 = .ok (.putfield 13, 3) := by decide +kernel
theorem dX7_init_22 : decode cX7_init 22 = .ok (.aload_n 0, 1) := by decide +kernel
theorem dX7_init_23 : decode cX7_init 23 = .ok (.sipush 1715, 3) := by decide +kernel
theorem dX7_init_26 : decode cX7_init 26 = .ok (.newarray .int, 2) := by decide +kernel
theorem dX7_init_28 : decode cX7_init 28 = .ok (.putfield 16, 3) := by decide +kernel
theorem dX7_init_31 : decode cX7_init 31 = .ok (.aload_n 0, 1) := by decide +kernel
theorem dX7_init_32 : decode cX7_init 32 = .ok (.bipush 12, 2) := by decide +kernel
theorem dX7_init_34 : decode cX7_init 34 = .ok (.newarray .int, 2) := by decide +kernel
theorem dX7_init_36 : decode cX7_init 36 = .ok (.putfield 19, 3) := by decide +kernel
theorem dX7_init_39 : decode cX7_init 39 = .ok (.aload_n 0, 1) := by decide +kernel
theorem dX7_init_40 : decode cX7_init 40 = .ok (.bipush 10, 2) := by decide +kernel
theorem dX7_init_42 : decode cX7_init 42 = .ok (.newarray .int, 2) := by decide +kernel
theorem dX7_init_44 : decode cX7_init 44 = .ok (.putfield 22, 3) := by decide +kernel
theorem dX7_init_47 : decode cX7_init 47 = .ok (.aload_n 0, 1) := by decide +kernel
theorem dX7_init_48 : decode cX7_init 48 = .ok (.bipush 10, 2) := by decide +kernel
theorem dX7_init_50 : decode cX7_init 50 = .ok (.newarray .int, 2) := by decide +kernel
theorem dX7_init_52 : decode cX7_init 52 = .ok (.putfield 25, 3) := by decide +kernel
theorem dX7_init_55 : decode cX7_init 55 = .ok (.aload_n 0, 1) := by decide +kernel
theorem dX7_init_56 : decode cX7_init 56 = .ok (.bipush 19, 2) := by decide +kernel
theorem dX7_init_58 : decode cX7_init 58 = .ok (.newarray .int, 2) := by decide +kernel
theorem dX7_init_60 : decode cX7_init 60 = .ok (.putfield 28, 3) := by decide +kernel
theorem dX7_init_63 : decode cX7_init 63 = .ok (.aload_n 0, 1) := by decide +kernel
theorem dX7_init_64 : decode cX7_init 64 = .ok (.iconst 0, 1) := by decide +kernel
theorem dX7_init_65 : decode cX7_init 65 = .ok (.putfield 31, 3) := by decide +kernel
theorem dX7_init_68 : decode cX7_init 68 = .ok (.aload_n 0, 1) := by decide +kernel
theorem dX7_init_69 : decode cX7_init 69 = .ok (.getfield 7, 3) := by decide +kernel
theorem dX7_init_72 : decode cX7_init 72 = .ok (.iconst 3, 1) := by decide +kernel
theorem dX7_init_73 : decode cX7_init 73 = .ok (.bipush (-9), 2) := by decide +kernel
theorem dX7_init_75 : decode cX7_init 75 = .ok (.iastore, 1) := by decide +kernel
theorem dX7_init_76 : decode cX7_init 76 = .ok (.aload_n 0, 1) := by decide +kernel
theorem dX7_init_77 : decode cX7_init 77 = .ok (.getfield 7, 3) := by decide +kernel
theorem dX7_init_80 : decode cX7_init 80 = .ok (.iconst 5, 1) := by decide +kernel
theorem dX7_init_81 : decode cX7_init 81 = .ok (.bipush (-9), 2) := by decide +kernel
theorem dX7_init_83 : decode cX7_init 83 = .ok (.iastore, 1) := by decide +kernel
theorem dX7_init_84 : decode cX7_init 84 = .ok (.return_, 1) := by decide +kernel
theorem dX7_in_0 : decode cX7_in 0 = .ok (.iload_n 0, 1) := by decide +kernel
theorem dX7_in_1 : decode cX7_in 1 = .ok (.iload_n 1, 1) := by decide +kernel
theorem dX7_in_2 : decode cX7_in 2 = .ok (.if_icmp .lt 12, 3) := by decide +kernel
theorem dX7_in_5 : decode cX7_in 5 = .ok (.iload_n 0, 1) := by decide +kernel
theorem dX7_in_6 : decode cX7_in 6 = .ok (.iload_n 2, 1) := by decide +kernel
theorem dX7_in_7 : decode cX7_in 7 = .ok (.if_icmp .gt 7, 3) := by decide +kernel
theorem dX7_in_10 : decode cX7_in 10 = .ok (.iconst 1, 1) := by decide +kernel
theorem dX7_in_11 : decode cX7_in 11 = .ok (.goto 4, 3) := by decide +kernel
theorem dX7_in_14 : decode cX7_in 14 = .ok (.iconst 0, 1) := by decide +kernel
theorem dX7_in_15 : decode cX7_in 15 = .ok (.ireturn, 1) := by decide +kernel
theorem dX7_act_0 : decode cX7_act 0 = .ok (.aload_n 0, 1) := by decide +kernel
theorem dX7_act_1 : decode cX7_act 1 = .ok (.getfield 35, 3) := by decide +kernel
theorem dX7_act_4 : decode cX7_act 4 = .ok (.iconst 5, 1) := by decide +kernel
theorem dX7_act_5 : decode cX7_act 5 = .ok (.if_icmp .ne 44, 3) := by decide +kernel
theorem dX7_act_8 : decode cX7_act 8 = .ok (.iconst 0, 1) := by decide +kernel
theorem dX7_act_9 : decode cX7_act 9 = .ok (.istore_n 1, 1) := by decide +kernel
theorem dX7_act_10 : decode cX7_act 10 = .ok (.iload_n 1, 1) := by decide +kernel
theorem dX7_act_11 : decode cX7_act 11 = .ok (.sipush 1372, 3) := by decide +kernel
theorem dX7_act_14 : decode cX7_act 14 = .ok (.if_icmp .ge 25, 3) := by decide +kernel
theorem dX7_act_17 : decode cX7_act 17 = .ok (.aload_n 0, 1) := by decide +kernel
theorem dX7_act_18 : decode cX7_act 18 = .ok (.getfield 16, 3) := by decide +kernel
theorem dX7_act_21 : decode cX7_act 21 = .ok (.iload_n 1, 1) := by decide +kernel
theorem dX7_act_22 : decode cX7_act 22 = .ok (.aload_n 0, 1) := by decide +kernel
theorem dX7_act_23 : decode cX7_act 23 = .ok (.getfield 16, 3) := by decide +kernel
theorem dX7_act_26 : decode cX7_act 26 = .ok (.iload_n 1, 1) := by decide +kernel
theorem dX7_act_27 : decode cX7_act 27 = .ok (.sipush 343, 3) := by decide +kernel
theorem dX7_act_30 : decode cX7_act 30 = .ok (.iadd, 1) := by decide +kernel
theorem dX7_act_31 : decode cX7_act 31 = .ok (.iaload, 1) := by decide +kernel
theorem dX7_act_32 : decode cX7_act 32 = .ok (.iastore, 1) := by decide +kernel
theorem dX7_act_33 : decode cX7_act 33 = .ok (.iinc 1 1, 3) := by decide +kernel
theorem dX7_act_36 : decode cX7_act 36 = .ok (.goto (-26), 3) := by decide +kernel
theorem dX7_act_39 : decode cX7_act 39 = .ok (.aload_n 0, 1) := by decide +kernel
theorem dX7_act_40 : decode cX7_act 40 = .ok (.dup, 1) := by decide +kernel
theorem dX7_act_41 : decode cX7_act 41 = .ok (.getfield 35, 3) := by decide +kernel
theorem dX7_act_44 : decode cX7_act 44 = .ok (.iconst 1, 1) := by decide +kernel
theorem dX7_act_45 : decode cX7_act 45 = .ok (.isub, 1) := by decide +kernel
theorem dX7_act_46 : decode cX7_act 46 = .ok (.putfield 35, 3) := by decide +kernel
theorem dX7_act_49 : decode cX7_act 49 = .ok (.iconst 0, 1) := by decide +kernel
theorem dX7_act_50 : decode cX7_act 50 = .ok (.istore_n 1, 1) := by decide +kernel
theorem dX7_act_51 : decode cX7_act 51 = .ok (.iload_n 1, 1) := by decide +kernel
theorem dX7_act_52 : decode cX7_act 52 = .ok (.sipush 343, 3) := by decide +kernel
theorem dX7_act_55 : decode cX7_act 55 = .ok (.if_icmp .ge 30, 3) := by decide +kernel
theorem dX7_act_58 : decode cX7_act 58 = .ok (.aload_n 0, 1) := by decide +kernel
theorem dX7_act_59 : decode cX7_act 59 = .ok (.getfield 16, 3) := by decide +kernel
theorem dX7_act_62 : decode cX7_act 62 = .ok (.sipush 343, 3) := by decide +kernel
theorem dX7_act_65 : decode cX7_act 65 = .ok (.aload_n 0, 1) := by decide +kernel
theorem dX7_act_66 : decode cX7_act 66 = .ok (.getfield 35, 3) := by decide +kernel
theorem dX7_act_69 : decode cX7_act 69 = .ok (.imul, 1) := by decide +kernel
theorem dX7_act_70 : decode cX7_act 70 = .ok (.iload_n 1, 1) := by decide +kernel
theorem dX7_act_71 : decode cX7_act 71 = .ok (.iadd, 1) := by decide +kernel
theorem dX7_act_72 : decode cX7_act 72 = .ok (.aload_n 0, 1) := by decide +kernel
theorem dX7_act_73 : decode cX7_act 73 = .ok (.getfield 7, 3) := by decide +kernel
theorem dX7_act_76 : decode cX7_act 76 = .ok (.iload_n 1, 1) := by decide +kernel
theorem dX7_act_77 : decode cX7_act 77 = .ok (.iaload, 1) := by decide +kernel
theorem dX7_act_78 : decode cX7_act 78 = .ok (.iastore, 1) := by decide +kernel
theorem dX7_act_79 : decode cX7_act 79 = .ok (.iinc 1 1, 3) := by decide +kernel
theorem dX7_act_82 : decode cX7_act 82 = .ok (.goto (-31), 3) := by decide +kernel
theorem dX7_act_85 : decode cX7_act 85 = .ok (.aload_n 0, 1) := by decide +kernel
theorem dX7_act_86 : decode cX7_act 86 = .ok (.dup, 1) := by decide +kernel
theorem dX7_act_87 : decode cX7_act 87 = .ok (.getfield 35, 3) := by decide +kernel
theorem dX7_act_90 : decode cX7_act 90 = .ok (.iconst 1, 1) := by decide +kernel
theorem dX7_act_91 : decode cX7_act 91 = .ok (.iadd, 1) := by decide +kernel
theorem dX7_act_92 : decode cX7_act 92 = .ok (.putfield 35, 3) := by decide +kernel
theorem dX7_act_95 : decode cX7_act 95 = .ok (.return_, 1) := by decide +kernel
theorem dX7_ofPlate_0 : decode cX7_ofPlate 0 = .ok (.aload_n 0, 1) := by decide +kernel
theorem dX7_ofPlate_1 : decode cX7_ofPlate 1 = .ok (.bipush 10, 2) := by decide +kernel
theorem dX7_ofPlate_3 : decode cX7_ofPlate 3 = .ok (.bipush 7, 2) := by decide +kernel
theorem dX7_ofPlate_5 : decode cX7_ofPlate 5 = .ok (.iload_n 1, 1) := by decide +kernel
theorem dX7_ofPlate_6 : decode cX7_ofPlate 6 = .ok (.imul, 1) := by decide +kernel
theorem dX7_ofPlate_7 : decode cX7_ofPlate 7 = .ok (.iadd, 1) := by decide +kernel
theorem dX7_ofPlate_8 : decode cX7_ofPlate 8 = .ok (.iload_n 2, 1) := by decide +kernel
theorem dX7_ofPlate_9 : decode cX7_ofPlate 9 = .ok (.iadd, 1) := by decide +kernel
theorem dX7_ofPlate_10 : decode cX7_ofPlate 10 = .ok (.iaload, 1) := by decide +kernel
theorem dX7_ofPlate_11 : decode cX7_ofPlate 11 = .ok (.ireturn, 1) := by decide +kernel
theorem dX7_setPlate_0 : decode cX7_setPlate 0 = .ok (.aload_n 0, 1) := by decide +kernel
theorem dX7_setPlate_1 : decode cX7_setPlate 1 = .ok (.bipush 10, 2) := by decide +kernel
theorem dX7_setPlate_3 : decode cX7_setPlate 3 = .ok (.bipush 7, 2) := by decide +kernel
theorem dX7_setPlate_5 : decode cX7_setPlate 5 = .ok (.iload_n 1, 1) := by decide +kernel
theorem dX7_setPlate_6 : decode cX7_setPlate 6 = .ok (.imul, 1) := by decide +kernel
theorem dX7_setPlate_7 : decode cX7_setPlate 7 = .ok (.iadd, 1) := by decide +kernel
theorem dX7_setPlate_8 : decode cX7_setPlate 8 = .ok (.iload_n 2, 1) := by decide +kernel
theorem dX7_setPlate_9 : decode cX7_setPlate 9 = .ok (.iadd, 1) := by decide +kernel
theorem dX7_setPlate_10 : decode cX7_setPlate 10 = .ok (.iload_n 3, 1) := by decide +kernel
theorem dX7_setPlate_11 : decode cX7_setPlate 11 = .ok (.iastore, 1) := by decide +kernel
theorem dX7_setPlate_12 : decode cX7_setPlate 12 = .ok (.return_, 1) := by decide +kernel
theorem dX7_of_0 : decode cX7_of 0 = .ok (.aload_n 0, 1) := by decide +kernel
theorem dX7_of_1 : decode cX7_of 1 = .ok (.sipush 153, 3) := by decide +kernel
theorem dX7_of_4 : decode cX7_of 4 = .ok (.bipush 19, 2) := by decide +kernel
theorem dX7_of_6 : decode cX7_of 6 = .ok (.iload_n 1, 1) := by decide +kernel
theorem dX7_of_7 : decode cX7_of 7 = .ok (.imul, 1) := by decide +kernel
theorem dX7_of_8 : decode cX7_of 8 = .ok (.iadd, 1) := by decide +kernel
theorem dX7_of_9 : decode cX7_of 9 = .ok (.iload_n 2, 1) := by decide +kernel
theorem dX7_of_10 : decode cX7_of 10 = .ok (.iadd, 1) := by decide +kernel
theorem dX7_of_11 : decode cX7_of 11 = .ok (.iaload, 1) := by decide +kernel
theorem dX7_of_12 : decode cX7_of 12 = .ok (.ireturn, 1) := by decide +kernel
theorem dX7_isPlate_0 : decode cX7_isPlate 0 = .ok (.iload_n 1, 1) := by decide +kernel
theorem dX7_isPlate_1 : decode cX7_isPlate 1 = .ok (.iconst 0, 1) := by decide +kernel
theorem dX7_isPlate_2 : decode cX7_isPlate 2 = .ok (.aload_n 0, 1) := by decide +kernel
theorem dX7_isPlate_3 : decode cX7_isPlate 3 = .ok (.getfield 7, 3) := by decide +kernel
theorem dX7_isPlate_6 : decode cX7_isPlate 6 = .ok (.iconst 1, 1) := by decide +kernel
theorem dX7_isPlate_7 : decode cX7_isPlate 7 = .ok (.iaload, 1) := by decide +kernel
theorem dX7_isPlate_8 : decode cX7_isPlate 8 = .ok (.iconst 1, 1) := by decide +kernel
theorem dX7_isPlate_9 : decode cX7_isPlate 9 = .ok (.isub, 1) := by decide +kernel
theorem dX7_isPlate_10 : decode cX7_isPlate 10 = .ok (.invokestatic 38, 3) := by decide +kernel
theorem dX7_isPlate_13 : decode cX7_isPlate 13 = .ok (.ireturn, 1) := by decide +kernel
theorem dX7_isShield_0 : decode cX7_isShield 0 = .ok (.iload_n 1, 1) := by decide +kernel
theorem dX7_isShield_1 : decode cX7_isShield 1 = .ok (.iconst 0, 1) := by decide +kernel
theorem dX7_isShield_2 : decode cX7_isShield 2 = .ok (.aload_n 0, 1) := by decide +kernel
theorem dX7_isShield_3 : decode cX7_isShield 3 = .ok (.getfield 7, 3) := by decide +kernel
theorem dX7_isShield_6 : decode cX7_isShield 6 = .ok (.iconst 0, 1) := by decide +kernel
theorem dX7_isShield_7 : decode cX7_isShield 7 = .ok (.iaload, 1) := by decide +kernel
theorem dX7_isShield_8 : decode cX7_isShield 8 = .ok (.iconst 1, 1) := by decide +kernel
theorem dX7_isShield_9 : decode cX7_isShield 9 = .ok (.isub, 1) := by decide +kernel
theorem dX7_isShield_10 : decode cX7_isShield 10 = .ok (.invokestatic 38, 3) := by decide +kernel
theorem dX7_isShield_13 : decode cX7_isShield 13 = .ok (.ireturn, 1) := by decide +kernel
theorem dX7_isOrder_0 : decode cX7_isOrder 0 = .ok (.iload_n 1, 1) := by decide +kernel
theorem dX7_isOrder_1 : decode cX7_isOrder 1 = .ok (.iconst 0, 1) := by decide +kernel
theorem dX7_isOrder_2 : decode cX7_isOrder 2 = .ok (.aload_n 0, 1) := by decide +kernel
theorem dX7_isOrder_3 : decode cX7_isOrder 3 = .ok (.getfield 7, 3) := by decide +kernel
theorem dX7_isOrder_6 : decode cX7_isOrder 6 = .ok (.iconst 2, 1) := by decide +kernel
theorem dX7_isOrder_7 : decode cX7_isOrder 7 = .ok (.iaload, 1) := by decide +kernel
theorem dX7_isOrder_8 : decode cX7_isOrder 8 = .ok (.iconst 1, 1) := by decide +kernel
theorem dX7_isOrder_9 : decode cX7_isOrder 9 = .ok (.isub, 1) := by decide +kernel
theorem dX7_isOrder_10 : decode cX7_isOrder 10 = .ok (.invokestatic 38, 3) := by decide +kernel
theorem dX7_isOrder_13 : decode cX7_isOrder 13 = .ok (.ireturn, 1) := by decide +kernel
theorem dX7_isYear_0 : decode cX7_isYear 0 = .ok (.iload_n 0, 1) := by decide +kernel
theorem dX7_isYear_1 : decode cX7_isYear 1 = .ok (.iconst 1, 1) := by decide +kernel
theorem dX7_isYear_2 : decode cX7_isYear 2 = .ok (.sipush 999, 3) := by decide +kernel
theorem dX7_isYear_5 : decode cX7_isYear 5 = .ok (.invokestatic 38, 3) := by decide +kernel
theorem dX7_isYear_8 : decode cX7_isYear 8 = .ok (.ireturn, 1) := by decide +kernel
theorem dX7_widthOf_0 : decode cX7_widthOf 0 = .ok (.iload_n 0, 1) := by decide +kernel
theorem dX7_widthOf_1 : decode cX7_widthOf 1 = .ok (.tableswitch 91 102 119 #[87, 91, 91, 87, 87, 91, 87, 89, 91, 91, 91, 91, 87, 91, 87, 91, 91, 89], 87) := by decide +kernel
theorem dX7_widthOf_88 : decode cX7_widthOf 88 = .ok (.iconst 2, 1) := by decide +kernel
theorem dX7_widthOf_89 : decode cX7_widthOf 89 = .ok (.ireturn, 1) := by decide +kernel
theorem dX7_widthOf_90 : decode cX7_widthOf 90 = .ok (.iconst 5, 1) := by decide +kernel
theorem dX7_widthOf_91 : decode cX7_widthOf 91 = .ok (.ireturn, 1) := by decide +kernel
theorem dX7_widthOf_92 : decode cX7_widthOf 92 = .ok (.iconst 4, 1) := by decide +kernel
theorem dX7_widthOf_93 : decode cX7_widthOf 93 = .ok (.ireturn, 1) := by decide +kernel
theorem dX7_nameLength_0 : decode cX7_nameLength 0 = .ok (.aload_n 0, 1) := by decide +kernel
theorem dX7_nameLength_1 : decode cX7_nameLength 1 = .ok (.iload_n 1, 1) := by decide +kernel
theorem dX7_nameLength_2 : decode cX7_nameLength 2 = .ok (.iconst 5, 1) := by decide +kernel
theorem dX7_nameLength_3 : decode cX7_nameLength 3 = .ok (.invokestatic 42, 3) := by decide +kernel
theorem dX7_nameLength_6 : decode cX7_nameLength 6 = .ok (.istore_n 2, 1) := by decide +kernel
theorem dX7_nameLength_7 : decode cX7_nameLength 7 = .ok (.iload_n 2, 1) := by decide +kernel
theorem dX7_nameLength_8 : decode cX7_nameLength 8 = .ok (.iconst 1, 1) := by decide +kernel
theorem dX7_nameLength_9 : decode cX7_nameLength 9 = .ok (.isub, 1) := by decide +kernel
theorem dX7_nameLength_10 : decode cX7_nameLength 10 = .ok (.istore_n 3, 1) := by decide +kernel
theorem dX7_nameLength_11 : decode cX7_nameLength 11 = .ok (.iconst 0, 1) := by decide +kernel
theorem dX7_nameLength_12 : decode cX7_nameLength 12 = .ok (.istore 4, 2) := by decide +kernel
theorem dX7_nameLength_14 : decode cX7_nameLength 14 = .ok (.iload 4, 2) := by decide +kernel
theorem dX7_nameLength_16 : decode cX7_nameLength 16 = .ok (.iload_n 2, 1) := by decide +kernel
theorem dX7_nameLength_17 : decode cX7_nameLength 17 = .ok (.if_icmp .ge 25, 3) := by decide +kernel
theorem dX7_nameLength_20 : decode cX7_nameLength 20 = .ok (.iload_n 3, 1) := by decide +kernel
theorem dX7_nameLength_21 : decode cX7_nameLength 21 = .ok (.aload_n 0, 1) := by decide +kernel
theorem dX7_nameLength_22 : decode cX7_nameLength 22 = .ok (.iload_n 1, 1) := by decide +kernel
theorem dX7_nameLength_23 : decode cX7_nameLength 23 = .ok (.bipush 6, 2) := by decide +kernel
theorem dX7_nameLength_25 : decode cX7_nameLength 25 = .ok (.iload 4, 2) := by decide +kernel
theorem dX7_nameLength_27 : decode cX7_nameLength 27 = .ok (.iadd, 1) := by decide +kernel
theorem dX7_nameLength_28 : decode cX7_nameLength 28 = .ok (.invokestatic 42, 3) := by decide +kernel
theorem dX7_nameLength_31 : decode cX7_nameLength 31 = .ok (.invokestatic 46, 3) := by decide +kernel
theorem dX7_nameLength_34 : decode cX7_nameLength 34 = .ok (.iadd, 1) := by decide +kernel
theorem dX7_nameLength_35 : decode cX7_nameLength 35 = .ok (.istore_n 3, 1) := by decide +kernel
theorem dX7_nameLength_36 : decode cX7_nameLength 36 = .ok (.iinc 4 1, 3) := by decide +kernel
theorem dX7_nameLength_39 : decode cX7_nameLength 39 = .ok (.goto (-25), 3) := by decide +kernel
theorem dX7_nameLength_42 : decode cX7_nameLength 42 = .ok (.aload_n 0, 1) := by decide +kernel
theorem dX7_nameLength_43 : decode cX7_nameLength 43 = .ok (.iload_n 1, 1) := by decide +kernel
theorem dX7_nameLength_44 : decode cX7_nameLength 44 = .ok (.iconst 2, 1) := by decide +kernel
theorem dX7_nameLength_45 : decode cX7_nameLength 45 = .ok (.invokestatic 42, 3) := by decide +kernel
theorem dX7_nameLength_48 : decode cX7_nameLength 48 = .ok (.iload_n 3, 1) := by decide +kernel
theorem dX7_nameLength_49 : decode cX7_nameLength 49 = .ok (.imul, 1) := by decide +kernel
theorem dX7_nameLength_50 : decode cX7_nameLength 50 = .ok (.ireturn, 1) := by decide +kernel
theorem dX7_textLength_0 : decode cX7_textLength 0 = .ok (.aload_n 0, 1) := by decide +kernel
theorem dX7_textLength_1 : decode cX7_textLength 1 = .ok (.getfield 50, 3) := by decide +kernel
theorem dX7_textLength_4 : decode cX7_textLength 4 = .ok (.ifCond .ne 7, 3) := by decide +kernel
theorem dX7_textLength_7 : decode cX7_textLength 7 = .ok (.iconst 0, 1) := by decide +kernel
theorem dX7_textLength_8 : decode cX7_textLength 8 = .ok (.goto 9, 3) := by decide +kernel
theorem dX7_textLength_11 : decode cX7_textLength 11 = .ok (.aload_n 0, 1) := by decide +kernel
theorem dX7_textLength_12 : decode cX7_textLength 12 = .ok (.getfield 50, 3) := by decide +kernel
theorem dX7_textLength_15 : decode cX7_textLength 15 = .ok (.iconst 1, 1) := by decide +kernel
theorem dX7_textLength_16 : decode cX7_textLength 16 = .ok (.isub, 1) := by decide +kernel
theorem dX7_textLength_17 : decode cX7_textLength 17 = .ok (.istore_n 2, 1) := by decide +kernel
theorem dX7_textLength_18 : decode cX7_textLength 18 = .ok (.iconst 0, 1) := by decide +kernel
theorem dX7_textLength_19 : decode cX7_textLength 19 = .ok (.istore_n 3, 1) := by decide +kernel
theorem dX7_textLength_20 : decode cX7_textLength 20 = .ok (.iload_n 3, 1) := by decide +kernel
theorem dX7_textLength_21 : decode cX7_textLength 21 = .ok (.aload_n 0, 1) := by decide +kernel
theorem dX7_textLength_22 : decode cX7_textLength 22 = .ok (.getfield 50, 3) := by decide +kernel
theorem dX7_textLength_25 : decode cX7_textLength 25 = .ok (.if_icmp .ge 21, 3) := by decide +kernel
theorem dX7_textLength_28 : decode cX7_textLength 28 = .ok (.iload_n 2, 1) := by decide +kernel
theorem dX7_textLength_29 : decode cX7_textLength 29 = .ok (.aload_n 0, 1) := by decide +kernel
theorem dX7_textLength_30 : decode cX7_textLength 30 = .ok (.getfield 19, 3) := by decide +kernel
theorem dX7_textLength_33 : decode cX7_textLength 33 = .ok (.iload_n 3, 1) := by decide +kernel
theorem dX7_textLength_34 : decode cX7_textLength 34 = .ok (.iaload, 1) := by decide +kernel
theorem dX7_textLength_35 : decode cX7_textLength 35 = .ok (.invokestatic 46, 3) := by decide +kernel
theorem dX7_textLength_38 : decode cX7_textLength 38 = .ok (.iadd, 1) := by decide +kernel
theorem dX7_textLength_39 : decode cX7_textLength 39 = .ok (.istore_n 2, 1) := by decide +kernel
theorem dX7_textLength_40 : decode cX7_textLength 40 = .ok (.iinc 3 1, 3) := by decide +kernel
theorem dX7_textLength_43 : decode cX7_textLength 43 = .ok (.goto (-23), 3) := by decide +kernel
theorem dX7_textLength_46 : decode cX7_textLength 46 = .ok (.iload_n 1, 1) := by decide +kernel
theorem dX7_textLength_47 : decode cX7_textLength 47 = .ok (.iload_n 2, 1) := by decide +kernel
theorem dX7_textLength_48 : decode cX7_textLength 48 = .ok (.imul, 1) := by decide +kernel
theorem dX7_textLength_49 : decode cX7_textLength 49 = .ok (.ireturn, 1) := by decide +kernel
theorem dX7_effort_0 : decode cX7_effort 0 = .ok (.aload_n 0, 1) := by decide +kernel
theorem dX7_effort_1 : decode cX7_effort 1 = .ok (.iload_n 1, 1) := by decide +kernel
theorem dX7_effort_2 : decode cX7_effort 2 = .ok (.iconst 5, 1) := by decide +kernel
theorem dX7_effort_3 : decode cX7_effort 3 = .ok (.invokestatic 42, 3) := by decide +kernel
theorem dX7_effort_6 : decode cX7_effort 6 = .ok (.aload_n 0, 1) := by decide +kernel
theorem dX7_effort_7 : decode cX7_effort 7 = .ok (.iload_n 1, 1) := by decide +kernel
theorem dX7_effort_8 : decode cX7_effort 8 = .ok (.iconst 2, 1) := by decide +kernel
theorem dX7_effort_9 : decode cX7_effort 9 = .ok (.invokestatic 42, 3) := by decide +kernel
theorem dX7_effort_12 : decode cX7_effort 12 = .ok (.aload_n 0, 1) := by decide +kernel
theorem dX7_effort_13 : decode cX7_effort 13 = .ok (.iload_n 1, 1) := by decide +kernel
theorem dX7_effort_14 : decode cX7_effort 14 = .ok (.iconst 3, 1) := by decide +kernel
theorem dX7_effort_15 : decode cX7_effort 15 = .ok (.invokestatic 42, 3) := by decide +kernel
theorem dX7_effort_18 : decode cX7_effort 18 = .ok (.iadd, 1) := by decide +kernel
theorem dX7_effort_19 : decode cX7_effort 19 = .ok (.imul, 1) := by decide +kernel
theorem dX7_effort_20 : decode cX7_effort 20 = .ok (.ireturn, 1) := by decide +kernel
theorem dX7_depthOf_0 : decode cX7_depthOf 0 = .ok (.aload_n 0, 1) := by decide +kernel
theorem dX7_depthOf_1 : decode cX7_depthOf 1 = .ok (.iload_n 1, 1) := by decide +kernel
theorem dX7_depthOf_2 : decode cX7_depthOf 2 = .ok (.iconst 3, 1) := by decide +kernel
theorem dX7_depthOf_3 : decode cX7_depthOf 3 = .ok (.iload_n 2, 1) := by decide +kernel
theorem dX7_depthOf_4 : decode cX7_depthOf 4 = .ok (.iadd, 1) := by decide +kernel
theorem dX7_depthOf_5 : decode cX7_depthOf 5 = .ok (.invokestatic 53, 3) := by decide +kernel
theorem dX7_depthOf_8 : decode cX7_depthOf 8 = .ok (.ireturn, 1) := by decide +kernel
theorem dX7_leftOver_0 : decode cX7_leftOver 0 = .ok (.aload_n 0, 1) := by decide +kernel
theorem dX7_leftOver_1 : decode cX7_leftOver 1 = .ok (.iload_n 1, 1) := by decide +kernel
theorem dX7_leftOver_2 : decode cX7_leftOver 2 = .ok (.iconst 1, 1) := by decide +kernel
theorem dX7_leftOver_3 : decode cX7_leftOver 3 = .ok (.invokestatic 53, 3) := by decide +kernel
theorem dX7_leftOver_6 : decode cX7_leftOver 6 = .ok (.iload 4, 2) := by decide +kernel
theorem dX7_leftOver_8 : decode cX7_leftOver 8 = .ok (.isub, 1) := by decide +kernel
theorem dX7_leftOver_9 : decode cX7_leftOver 9 = .ok (.iload_n 3, 1) := by decide +kernel
theorem dX7_leftOver_10 : decode cX7_leftOver 10 = .ok (.isub, 1) := by decide +kernel
theorem dX7_leftOver_11 : decode cX7_leftOver 11 = .ok (.aload_n 0, 1) := by decide +kernel
theorem dX7_leftOver_12 : decode cX7_leftOver 12 = .ok (.iload_n 1, 1) := by decide +kernel
theorem dX7_leftOver_13 : decode cX7_leftOver 13 = .ok (.iconst 1, 1) := by decide +kernel
theorem dX7_leftOver_14 : decode cX7_leftOver 14 = .ok (.iload_n 2, 1) := by decide +kernel
theorem dX7_leftOver_15 : decode cX7_leftOver 15 = .ok (.isub, 1) := by decide +kernel
theorem dX7_leftOver_16 : decode cX7_leftOver 16 = .ok (.invokestatic 56, 3) := by decide +kernel
theorem dX7_leftOver_19 : decode cX7_leftOver 19 = .ok (.isub, 1) := by decide +kernel
theorem dX7_leftOver_20 : decode cX7_leftOver 20 = .ok (.ireturn, 1) := by decide +kernel
theorem dX7_isReady_0 : decode cX7_isReady 0 = .ok (.aload_n 0, 1) := by decide +kernel
theorem dX7_isReady_1 : decode cX7_isReady 1 = .ok (.iload_n 1, 1) := by decide +kernel
theorem dX7_isReady_2 : decode cX7_isReady 2 = .ok (.iload_n 2, 1) := by decide +kernel
theorem dX7_isReady_3 : decode cX7_isReady 3 = .ok (.invokestatic 56, 3) := by decide +kernel
theorem dX7_isReady_6 : decode cX7_isReady 6 = .ok (.ifCond .ne 19, 3) := by decide +kernel
theorem dX7_isReady_9 : decode cX7_isReady 9 = .ok (.aload_n 0, 1) := by decide +kernel
theorem dX7_isReady_10 : decode cX7_isReady 10 = .ok (.iload_n 1, 1) := by decide +kernel
theorem dX7_isReady_11 : decode cX7_isReady 11 = .ok (.iload_n 2, 1) := by decide +kernel
theorem dX7_isReady_12 : decode cX7_isReady 12 = .ok (.iload_n 3, 1) := by decide +kernel
theorem dX7_isReady_13 : decode cX7_isReady 13 = .ok (.iconst 0, 1) := by decide +kernel
theorem dX7_isReady_14 : decode cX7_isReady 14 = .ok (.invokestatic 59, 3) := by decide +kernel
theorem dX7_isReady_17 : decode cX7_isReady 17 = .ok (.iconst 2, 1) := by decide +kernel
theorem dX7_isReady_18 : decode cX7_isReady 18 = .ok (.if_icmp .lt 7, 3) := by decide +kernel
theorem dX7_isReady_21 : decode cX7_isReady 21 = .ok (.iconst 1, 1) := by decide +kernel
theorem dX7_isReady_22 : decode cX7_isReady 22 = .ok (.goto 4, 3) := by decide +kernel
theorem dX7_isReady_25 : decode cX7_isReady 25 = .ok (.iconst 0, 1) := by decide +kernel
theorem dX7_isReady_26 : decode cX7_isReady 26 = .ok (.ireturn, 1) := by decide +kernel
theorem dX7_canBeGround_0 : decode cX7_canBeGround 0 = .ok (.aload_n 0, 1) := by decide +kernel
theorem dX7_canBeGround_1 : decode cX7_canBeGround 1 = .ok (.iload_n 1, 1) := by decide +kernel
theorem dX7_canBeGround_2 : decode cX7_canBeGround 2 = .ok (.iload_n 2, 1) := by decide +kernel
theorem dX7_canBeGround_3 : decode cX7_canBeGround 3 = .ok (.invokestatic 56, 3) := by decide +kernel
theorem dX7_canBeGround_6 : decode cX7_canBeGround 6 = .ok (.istore 4, 2) := by decide +kernel
theorem dX7_canBeGround_8 : decode cX7_canBeGround 8 = .ok (.iload 4, 2) := by decide +kernel
theorem dX7_canBeGround_10 : decode cX7_canBeGround 10 = .ok (.ifCond .le 22, 3) := by decide +kernel
theorem dX7_canBeGround_13 : decode cX7_canBeGround 13 = .ok (.aload_n 0, 1) := by decide +kernel
theorem dX7_canBeGround_14 : decode cX7_canBeGround 14 = .ok (.iload_n 1, 1) := by decide +kernel
theorem dX7_canBeGround_15 : decode cX7_canBeGround 15 = .ok (.iload_n 2, 1) := by decide +kernel
theorem dX7_canBeGround_16 : decode cX7_canBeGround 16 = .ok (.iload_n 3, 1) := by decide +kernel
theorem dX7_canBeGround_17 : decode cX7_canBeGround 17 = .ok (.iload 4, 2) := by decide +kernel
theorem dX7_canBeGround_19 : decode cX7_canBeGround 19 = .ok (.iconst 1, 1) := by decide +kernel
theorem dX7_canBeGround_20 : decode cX7_canBeGround 20 = .ok (.iadd, 1) := by decide +kernel
theorem dX7_canBeGround_21 : decode cX7_canBeGround 21 = .ok (.invokestatic 59, 3) := by decide +kernel
theorem dX7_canBeGround_24 : decode cX7_canBeGround 24 = .ok (.iconst 2, 1) := by decide +kernel
theorem dX7_canBeGround_25 : decode cX7_canBeGround 25 = .ok (.if_icmp .lt 7, 3) := by decide +kernel
theorem dX7_canBeGround_28 : decode cX7_canBeGround 28 = .ok (.iconst 1, 1) := by decide +kernel
theorem dX7_canBeGround_29 : decode cX7_canBeGround 29 = .ok (.goto 4, 3) := by decide +kernel
theorem dX7_canBeGround_32 : decode cX7_canBeGround 32 = .ok (.iconst 0, 1) := by decide +kernel
theorem dX7_canBeGround_33 : decode cX7_canBeGround 33 = .ok (.ireturn, 1) := by decide +kernel
theorem dX7_grindSide_0 : decode cX7_grindSide 0 = .ok (.aload_n 0, 1) := by decide +kernel
theorem dX7_grindSide_1 : decode cX7_grindSide 1 = .ok (.iload_n 1, 1) := by decide +kernel
theorem dX7_grindSide_2 : decode cX7_grindSide 2 = .ok (.iconst 1, 1) := by decide +kernel
theorem dX7_grindSide_3 : decode cX7_grindSide 3 = .ok (.aload_n 0, 1) := by decide +kernel
theorem dX7_grindSide_4 : decode cX7_grindSide 4 = .ok (.iload_n 1, 1) := by decide +kernel
theorem dX7_grindSide_5 : decode cX7_grindSide 5 = .ok (.iconst 1, 1) := by decide +kernel
theorem dX7_grindSide_6 : decode cX7_grindSide 6 = .ok (.invokestatic 53, 3) := by decide +kernel
theorem dX7_grindSide_9 : decode cX7_grindSide 9 = .ok (.aload_n 0, 1) := by decide +kernel
theorem dX7_grindSide_10 : decode cX7_grindSide 10 = .ok (.iload_n 1, 1) := by decide +kernel
theorem dX7_grindSide_11 : decode cX7_grindSide 11 = .ok (.iload_n 2, 1) := by decide +kernel
theorem dX7_grindSide_12 : decode cX7_grindSide 12 = .ok (.invokestatic 56, 3) := by decide +kernel
theorem dX7_grindSide_15 : decode cX7_grindSide 15 = .ok (.isub, 1) := by decide +kernel
theorem dX7_grindSide_16 : decode cX7_grindSide 16 = .ok (.iconst 1, 1) := by decide +kernel
theorem dX7_grindSide_17 : decode cX7_grindSide 17 = .ok (.isub, 1) := by decide +kernel
theorem dX7_grindSide_18 : decode cX7_grindSide 18 = .ok (.invokestatic 63, 3) := by decide +kernel
theorem dX7_grindSide_21 : decode cX7_grindSide 21 = .ok (.aload_n 0, 1) := by decide +kernel
theorem dX7_grindSide_22 : decode cX7_grindSide 22 = .ok (.iload_n 1, 1) := by decide +kernel
theorem dX7_grindSide_23 : decode cX7_grindSide 23 = .ok (.iconst 3, 1) := by decide +kernel
theorem dX7_grindSide_24 : decode cX7_grindSide 24 = .ok (.iload_n 2, 1) := by decide +kernel
theorem dX7_grindSide_25 : decode cX7_grindSide 25 = .ok (.iadd, 1) := by decide +kernel
theorem dX7_grindSide_26 : decode cX7_grindSide 26 = .ok (.iconst 0, 1) := by decide +kernel
theorem dX7_grindSide_27 : decode cX7_grindSide 27 = .ok (.invokestatic 63, 3) := by decide +kernel
theorem dX7_grindSide_30 : decode cX7_grindSide 30 = .ok (.aload_n 0, 1) := by decide +kernel
theorem dX7_grindSide_31 : decode cX7_grindSide 31 = .ok (.bipush 9, 2) := by decide +kernel
theorem dX7_grindSide_33 : decode cX7_grindSide 33 = .ok (.dup2, 1) := by decide +kernel
theorem dX7_grindSide_34 : decode cX7_grindSide 34 = .ok (.iaload, 1) := by decide +kernel
theorem dX7_grindSide_35 : decode cX7_grindSide 35 = .ok (.iconst 1, 1) := by decide +kernel
theorem dX7_grindSide_36 : decode cX7_grindSide 36 = .ok (.iadd, 1) := by decide +kernel
theorem dX7_grindSide_37 : decode cX7_grindSide 37 = .ok (.iastore, 1) := by decide +kernel
theorem dX7_grindSide_38 : decode cX7_grindSide 38 = .ok (.return_, 1) := by decide +kernel
theorem dX7_isBetter_0 : decode cX7_isBetter 0 = .ok (.iload_n 2, 1) := by decide +kernel
theorem dX7_isBetter_1 : decode cX7_isBetter 1 = .ok (.bipush (-9), 2) := by decide +kernel
theorem dX7_isBetter_3 : decode cX7_isBetter 3 = .ok (.if_icmp .ne 5, 3) := by decide +kernel
theorem dX7_isBetter_6 : decode cX7_isBetter 6 = .ok (.iconst 1, 1) := by decide +kernel
theorem dX7_isBetter_7 : decode cX7_isBetter 7 = .ok (.ireturn, 1) := by decide +kernel
theorem dX7_isBetter_8 : decode cX7_isBetter 8 = .ok (.aload_n 0, 1) := by decide +kernel
theorem dX7_isBetter_9 : decode cX7_isBetter 9 = .ok (.iload_n 1, 1) := by decide +kernel
theorem dX7_isBetter_10 : decode cX7_isBetter 10 = .ok (.iconst 0, 1) := by decide +kernel
theorem dX7_isBetter_11 : decode cX7_isBetter 11 = .ok (.invokestatic 53, 3) := by decide +kernel
theorem dX7_isBetter_14 : decode cX7_isBetter 14 = .ok (.aload_n 0, 1) := by decide +kernel
theorem dX7_isBetter_15 : decode cX7_isBetter 15 = .ok (.iload_n 2, 1) := by decide +kernel
theorem dX7_isBetter_16 : decode cX7_isBetter 16 = .ok (.iconst 0, 1) := by decide +kernel
theorem dX7_isBetter_17 : decode cX7_isBetter 17 = .ok (.invokestatic 53, 3) := by decide +kernel
theorem dX7_isBetter_20 : decode cX7_isBetter 20 = .ok (.isub, 1) := by decide +kernel
theorem dX7_isBetter_21 : decode cX7_isBetter 21 = .ok (.istore_n 3, 1) := by decide +kernel
theorem dX7_isBetter_22 : decode cX7_isBetter 22 = .ok (.iload_n 3, 1) := by decide +kernel
theorem dX7_isBetter_23 : decode cX7_isBetter 23 = .ok (.ifCond .lt 22, 3) := by decide +kernel
theorem dX7_isBetter_26 : decode cX7_isBetter 26 = .ok (.iload_n 3, 1) := by decide +kernel
theorem dX7_isBetter_27 : decode cX7_isBetter 27 = .ok (.ifCond .ne 22, 3) := by decide +kernel
theorem dX7_isBetter_30 : decode cX7_isBetter 30 = .ok (.aload_n 0, 1) := by decide +kernel
theorem dX7_isBetter_31 : decode cX7_isBetter 31 = .ok (.iload_n 1, 1) := by decide +kernel
theorem dX7_isBetter_32 : decode cX7_isBetter 32 = .ok (.iconst 1, 1) := by decide +kernel
theorem dX7_isBetter_33 : decode cX7_isBetter 33 = .ok (.invokestatic 53, 3) := by decide +kernel
theorem dX7_isBetter_36 : decode cX7_isBetter 36 = .ok (.aload_n 0, 1) := by decide +kernel
theorem dX7_isBetter_37 : decode cX7_isBetter 37 = .ok (.iload_n 2, 1) := by decide +kernel
theorem dX7_isBetter_38 : decode cX7_isBetter 38 = .ok (.iconst 1, 1) := by decide +kernel
theorem dX7_isBetter_39 : decode cX7_isBetter 39 = .ok (.invokestatic 53, 3) := by decide +kernel
theorem dX7_isBetter_42 : decode cX7_isBetter 42 = .ok (.if_icmp .ge 7, 3) := by decide +kernel
theorem dX7_isBetter_45 : decode cX7_isBetter 45 = .ok (.iconst 1, 1) := by decide +kernel
theorem dX7_isBetter_46 : decode cX7_isBetter 46 = .ok (.goto 4, 3) := by decide +kernel
theorem dX7_isBetter_49 : decode cX7_isBetter 49 = .ok (.iconst 0, 1) := by decide +kernel
theorem dX7_isBetter_50 : decode cX7_isBetter 50 = .ok (.ireturn, 1) := by decide +kernel
theorem dX7_mayTake_0 : decode cX7_mayTake 0 = .ok (.iload 4, 2) := by decide +kernel
theorem dX7_mayTake_2 : decode cX7_mayTake 2 = .ok (.ifCond .eq 13, 3) := by decide +kernel
theorem dX7_mayTake_5 : decode cX7_mayTake 5 = .ok (.aload_n 0, 1) := by decide +kernel
theorem dX7_mayTake_6 : decode cX7_mayTake 6 = .ok (.iload_n 1, 1) := by decide +kernel
theorem dX7_mayTake_7 : decode cX7_mayTake 7 = .ok (.iload_n 2, 1) := by decide +kernel
theorem dX7_mayTake_8 : decode cX7_mayTake 8 = .ok (.iload_n 3, 1) := by decide +kernel
theorem dX7_mayTake_9 : decode cX7_mayTake 9 = .ok (.invokestatic 67, 3) := by decide +kernel
theorem dX7_mayTake_12 : decode cX7_mayTake 12 = .ok (.goto 10, 3) := by decide +kernel
theorem dX7_mayTake_15 : decode cX7_mayTake 15 = .ok (.aload_n 0, 1) := by decide +kernel
theorem dX7_mayTake_16 : decode cX7_mayTake 16 = .ok (.iload_n 1, 1) := by decide +kernel
theorem dX7_mayTake_17 : decode cX7_mayTake 17 = .ok (.iload_n 2, 1) := by decide +kernel
theorem dX7_mayTake_18 : decode cX7_mayTake 18 = .ok (.iload_n 3, 1) := by decide +kernel
theorem dX7_mayTake_19 : decode cX7_mayTake 19 = .ok (.invokestatic 71, 3) := by decide +kernel
theorem dX7_mayTake_22 : decode cX7_mayTake 22 = .ok (.ireturn, 1) := by decide +kernel
theorem dX7_findPlate_0 : decode cX7_findPlate 0 = .ok (.aload_n 0, 1) := by decide +kernel
theorem dX7_findPlate_1 : decode cX7_findPlate 1 = .ok (.bipush (-9), 2) := by decide +kernel
theorem dX7_findPlate_3 : decode cX7_findPlate 3 = .ok (.putfield 74, 3) := by decide +kernel
theorem dX7_findPlate_6 : decode cX7_findPlate 6 = .ok (.iconst 0, 1) := by decide +kernel
theorem dX7_findPlate_7 : decode cX7_findPlate 7 = .ok (.istore 4, 2) := by decide +kernel
theorem dX7_findPlate_9 : decode cX7_findPlate 9 = .ok (.iload 4, 2) := by decide +kernel
theorem dX7_findPlate_11 : decode cX7_findPlate 11 = .ok (.iconst 2, 1) := by decide +kernel
theorem dX7_findPlate_12 : decode cX7_findPlate 12 = .ok (.if_icmp .ge 163, 3) := by decide +kernel
theorem dX7_findPlate_15 : decode cX7_findPlate 15 = .ok (.aload_n 0, 1) := by decide +kernel
theorem dX7_findPlate_16 : decode cX7_findPlate 16 = .ok (.getfield 74, 3) := by decide +kernel
theorem dX7_findPlate_19 : decode cX7_findPlate 19 = .ok (.bipush (-9), 2) := by decide +kernel
theorem dX7_findPlate_21 : decode cX7_findPlate 21 = .ok (.if_icmp .ne 154, 3) := by decide +kernel
theorem dX7_findPlate_24 : decode cX7_findPlate 24 = .ok (.aload_n 0, 1) := by decide +kernel
theorem dX7_findPlate_25 : decode cX7_findPlate 25 = .ok (.iload 4, 2) := by decide +kernel
theorem dX7_findPlate_27 : decode cX7_findPlate 27 = .ok (.iconst 1, 1) := by decide +kernel
theorem dX7_findPlate_28 : decode cX7_findPlate 28 = .ok (.if_icmp .ne 7, 3) := by decide +kernel
theorem dX7_findPlate_31 : decode cX7_findPlate 31 = .ok (.iconst 1, 1) := by decide +kernel
theorem dX7_findPlate_32 : decode cX7_findPlate 32 = .ok (.goto 4, 3) := by decide +kernel
theorem dX7_findPlate_35 : decode cX7_findPlate 35 = .ok (.iconst 0, 1) := by decide +kernel
theorem dX7_findPlate_36 : decode cX7_findPlate 36 = .ok (.putfield 77, 3) := by decide +kernel
theorem dX7_findPlate_39 : decode cX7_findPlate 39 = .ok (.iconst 0, 1) := by decide +kernel
theorem dX7_findPlate_40 : decode cX7_findPlate 40 = .ok (.istore 5, 2) := by decide +kernel
theorem dX7_findPlate_42 : decode cX7_findPlate 42 = .ok (.iload 5, 2) := by decide +kernel
theorem dX7_findPlate_44 : decode cX7_findPlate 44 = .ok (.aload_n 1, 1) := by decide +kernel
theorem dX7_findPlate_45 : decode cX7_findPlate 45 = .ok (.iconst 1, 1) := by decide +kernel
theorem dX7_findPlate_46 : decode cX7_findPlate 46 = .ok (.iaload, 1) := by decide +kernel
theorem dX7_findPlate_47 : decode cX7_findPlate 47 = .ok (.if_icmp .ge 122, 3) := by decide +kernel
theorem dX7_findPlate_50 : decode cX7_findPlate 50 = .ok (.aload_n 1, 1) := by decide +kernel
theorem dX7_findPlate_51 : decode cX7_findPlate 51 = .ok (.iload 5, 2) := by decide +kernel
theorem dX7_findPlate_53 : decode cX7_findPlate 53 = .ok (.iconst 2, 1) := by decide +kernel
theorem dX7_findPlate_54 : decode cX7_findPlate 54 = .ok (.invokestatic 53, 3) := by decide +kernel
theorem dX7_findPlate_57 : decode cX7_findPlate 57 = .ok (.ifCond .ne 18, 3) := by decide +kernel
theorem dX7_findPlate_60 : decode cX7_findPlate 60 = .ok (.aload_n 1, 1) := by decide +kernel
theorem dX7_findPlate_61 : decode cX7_findPlate 61 = .ok (.iload 5, 2) := by decide +kernel
theorem dX7_findPlate_63 : decode cX7_findPlate 63 = .ok (.iconst 0, 1) := by decide +kernel
theorem dX7_findPlate_64 : decode cX7_findPlate 64 = .ok (.invokestatic 53, 3) := by decide +kernel
theorem dX7_findPlate_67 : decode cX7_findPlate 67 = .ok (.iload_n 2, 1) := by decide +kernel
theorem dX7_findPlate_68 : decode cX7_findPlate 68 = .ok (.if_icmp .lt 7, 3) := by decide +kernel
theorem dX7_findPlate_71 : decode cX7_findPlate 71 = .ok (.iconst 1, 1) := by decide +kernel
theorem dX7_findPlate_72 : decode cX7_findPlate 72 = .ok (.goto 4, 3) := by decide +kernel
theorem dX7_findPlate_75 : decode cX7_findPlate 75 = .ok (.iconst 0, 1) := by decide +kernel
theorem dX7_findPlate_76 : decode cX7_findPlate 76 = .ok (.istore 6, 2) := by decide +kernel
theorem dX7_findPlate_78 : decode cX7_findPlate 78 = .ok (.iload 6, 2) := by decide +kernel
theorem dX7_findPlate_80 : decode cX7_findPlate 80 = .ok (.ifCond .eq 22, 3) := by decide +kernel
theorem dX7_findPlate_83 : decode cX7_findPlate 83 = .ok (.aload_n 1, 1) := by decide +kernel
theorem dX7_findPlate_84 : decode cX7_findPlate 84 = .ok (.iload 5, 2) := by decide +kernel
theorem dX7_findPlate_86 : decode cX7_findPlate 86 = .ok (.iconst 0, 1) := by decide +kernel
theorem dX7_findPlate_87 : decode cX7_findPlate 87 = .ok (.iload_n 3, 1) := by decide +kernel
theorem dX7_findPlate_88 : decode cX7_findPlate 88 = .ok (.aload_n 0, 1) := by decide +kernel
theorem dX7_findPlate_89 : decode cX7_findPlate 89 = .ok (.getfield 77, 3) := by decide +kernel
theorem dX7_findPlate_92 : decode cX7_findPlate 92 = .ok (.invokestatic 81, 3) := by decide +kernel
theorem dX7_findPlate_95 : decode cX7_findPlate 95 = .ok (.ifCond .eq 7, 3) := by decide +kernel
theorem dX7_findPlate_98 : decode cX7_findPlate 98 = .ok (.iconst 1, 1) := by decide +kernel
theorem dX7_findPlate_99 : decode cX7_findPlate 99 = .ok (.goto 4, 3) := by decide +kernel
theorem dX7_findPlate_102 : decode cX7_findPlate 102 = .ok (.iconst 0, 1) := by decide +kernel
theorem dX7_findPlate_103 : decode cX7_findPlate 103 = .ok (.istore 7, 2) := by decide +kernel
theorem dX7_findPlate_105 : decode cX7_findPlate 105 = .ok (.iload 7, 2) := by decide +kernel
theorem dX7_findPlate_107 : decode cX7_findPlate 107 = .ok (.ifCond .ne 23, 3) := by decide +kernel
theorem dX7_findPlate_110 : decode cX7_findPlate 110 = .ok (.iload 6, 2) := by decide +kernel
theorem dX7_findPlate_112 : decode cX7_findPlate 112 = .ok (.ifCond .eq 51, 3) := by decide +kernel
theorem dX7_findPlate_115 : decode cX7_findPlate 115 = .ok (.aload_n 1, 1) := by decide +kernel
theorem dX7_findPlate_116 : decode cX7_findPlate 116 = .ok (.iload 5, 2) := by decide +kernel
theorem dX7_findPlate_118 : decode cX7_findPlate 118 = .ok (.iconst 1, 1) := by decide +kernel
theorem dX7_findPlate_119 : decode cX7_findPlate 119 = .ok (.iload_n 3, 1) := by decide +kernel
theorem dX7_findPlate_120 : decode cX7_findPlate 120 = .ok (.aload_n 0, 1) := by decide +kernel
theorem dX7_findPlate_121 : decode cX7_findPlate 121 = .ok (.getfield 77, 3) := by decide +kernel
theorem dX7_findPlate_124 : decode cX7_findPlate 124 = .ok (.invokestatic 81, 3) := by decide +kernel
theorem dX7_findPlate_127 : decode cX7_findPlate 127 = .ok (.ifCond .eq 36, 3) := by decide +kernel
theorem dX7_findPlate_130 : decode cX7_findPlate 130 = .ok (.aload_n 1, 1) := by decide +kernel
theorem dX7_findPlate_131 : decode cX7_findPlate 131 = .ok (.iload 5, 2) := by decide +kernel
theorem dX7_findPlate_133 : decode cX7_findPlate 133 = .ok (.aload_n 0, 1) := by decide +kernel
theorem dX7_findPlate_134 : decode cX7_findPlate 134 = .ok (.getfield 74, 3) := by decide +kernel
theorem dX7_findPlate_137 : decode cX7_findPlate 137 = .ok (.invokestatic 85, 3) := by decide +kernel
theorem dX7_findPlate_140 : decode cX7_findPlate 140 = .ok (.ifCond .eq 23, 3) := by decide +kernel
theorem dX7_findPlate_143 : decode cX7_findPlate 143 = .ok (.aload_n 0, 1) := by decide +kernel
theorem dX7_findPlate_144 : decode cX7_findPlate 144 = .ok (.iload 5, 2) := by decide +kernel
theorem dX7_findPlate_146 : decode cX7_findPlate 146 = .ok (.putfield 74, 3) := by decide +kernel
theorem dX7_findPlate_149 : decode cX7_findPlate 149 = .ok (.aload_n 0, 1) := by decide +kernel
theorem dX7_findPlate_150 : decode cX7_findPlate 150 = .ok (.iload 7, 2) := by decide +kernel
theorem dX7_findPlate_152 : decode cX7_findPlate 152 = .ok (.ifCond .eq 7, 3) := by decide +kernel
theorem dX7_findPlate_155 : decode cX7_findPlate 155 = .ok (.iconst 0, 1) := by decide +kernel
theorem dX7_findPlate_156 : decode cX7_findPlate 156 = .ok (.goto 4, 3) := by decide +kernel
theorem dX7_findPlate_159 : decode cX7_findPlate 159 = .ok (.iconst 1, 1) := by decide +kernel
theorem dX7_findPlate_160 : decode cX7_findPlate 160 = .ok (.putfield 89, 3) := by decide +kernel
theorem dX7_findPlate_163 : decode cX7_findPlate 163 = .ok (.iinc 5 1, 3) := by decide +kernel
theorem dX7_findPlate_166 : decode cX7_findPlate 166 = .ok (.goto (-124), 3) := by decide +kernel
theorem dX7_findPlate_169 : decode cX7_findPlate 169 = .ok (.iinc 4 1, 3) := by decide +kernel
theorem dX7_findPlate_172 : decode cX7_findPlate 172 = .ok (.goto (-163), 3) := by decide +kernel
theorem dX7_findPlate_175 : decode cX7_findPlate 175 = .ok (.aload_n 0, 1) := by decide +kernel
theorem dX7_findPlate_176 : decode cX7_findPlate 176 = .ok (.getfield 74, 3) := by decide +kernel
theorem dX7_findPlate_179 : decode cX7_findPlate 179 = .ok (.bipush (-9), 2) := by decide +kernel
theorem dX7_findPlate_181 : decode cX7_findPlate 181 = .ok (.if_icmp .eq 7, 3) := by decide +kernel
theorem dX7_findPlate_184 : decode cX7_findPlate 184 = .ok (.iconst 1, 1) := by decide +kernel
theorem dX7_findPlate_185 : decode cX7_findPlate 185 = .ok (.goto 4, 3) := by decide +kernel
theorem dX7_findPlate_188 : decode cX7_findPlate 188 = .ok (.iconst 0, 1) := by decide +kernel
theorem dX7_findPlate_189 : decode cX7_findPlate 189 = .ok (.ireturn, 1) := by decide +kernel
theorem dX7_plateOn_0 : decode cX7_plateOn 0 = .ok (.bipush (-9), 2) := by decide +kernel
theorem dX7_plateOn_2 : decode cX7_plateOn 2 = .ok (.istore_n 3, 1) := by decide +kernel
theorem dX7_plateOn_3 : decode cX7_plateOn 3 = .ok (.iconst 0, 1) := by decide +kernel
theorem dX7_plateOn_4 : decode cX7_plateOn 4 = .ok (.istore 4, 2) := by decide +kernel
theorem dX7_plateOn_6 : decode cX7_plateOn 6 = .ok (.iload 4, 2) := by decide +kernel
theorem dX7_plateOn_8 : decode cX7_plateOn 8 = .ok (.aload_n 0, 1) := by decide +kernel
theorem dX7_plateOn_9 : decode cX7_plateOn 9 = .ok (.iconst 1, 1) := by decide +kernel
theorem dX7_plateOn_10 : decode cX7_plateOn 10 = .ok (.iaload, 1) := by decide +kernel
theorem dX7_plateOn_11 : decode cX7_plateOn 11 = .ok (.if_icmp .ge 62, 3) := by decide +kernel
theorem dX7_plateOn_14 : decode cX7_plateOn 14 = .ok (.aload_n 0, 1) := by decide +kernel
theorem dX7_plateOn_15 : decode cX7_plateOn 15 = .ok (.iload 4, 2) := by decide +kernel
theorem dX7_plateOn_17 : decode cX7_plateOn 17 = .ok (.iconst 2, 1) := by decide +kernel
theorem dX7_plateOn_18 : decode cX7_plateOn 18 = .ok (.invokestatic 53, 3) := by decide +kernel
theorem dX7_plateOn_21 : decode cX7_plateOn 21 = .ok (.iconst 2, 1) := by decide +kernel
theorem dX7_plateOn_22 : decode cX7_plateOn 22 = .ok (.if_icmp .ne 30, 3) := by decide +kernel
theorem dX7_plateOn_25 : decode cX7_plateOn 25 = .ok (.aload_n 0, 1) := by decide +kernel
theorem dX7_plateOn_26 : decode cX7_plateOn 26 = .ok (.iload 4, 2) := by decide +kernel
theorem dX7_plateOn_28 : decode cX7_plateOn 28 = .ok (.iconst 5, 1) := by decide +kernel
theorem dX7_plateOn_29 : decode cX7_plateOn 29 = .ok (.invokestatic 53, 3) := by decide +kernel
theorem dX7_plateOn_32 : decode cX7_plateOn 32 = .ok (.iload_n 1, 1) := by decide +kernel
theorem dX7_plateOn_33 : decode cX7_plateOn 33 = .ok (.if_icmp .ne 19, 3) := by decide +kernel
theorem dX7_plateOn_36 : decode cX7_plateOn 36 = .ok (.aload_n 0, 1) := by decide +kernel
theorem dX7_plateOn_37 : decode cX7_plateOn 37 = .ok (.iload 4, 2) := by decide +kernel
theorem dX7_plateOn_39 : decode cX7_plateOn 39 = .ok (.bipush 6, 2) := by decide +kernel
theorem dX7_plateOn_41 : decode cX7_plateOn 41 = .ok (.invokestatic 53, 3) := by decide +kernel
theorem dX7_plateOn_44 : decode cX7_plateOn 44 = .ok (.iload_n 2, 1) := by decide +kernel
theorem dX7_plateOn_45 : decode cX7_plateOn 45 = .ok (.if_icmp .ne 7, 3) := by decide +kernel
theorem dX7_plateOn_48 : decode cX7_plateOn 48 = .ok (.iconst 1, 1) := by decide +kernel
theorem dX7_plateOn_49 : decode cX7_plateOn 49 = .ok (.goto 4, 3) := by decide +kernel
theorem dX7_plateOn_52 : decode cX7_plateOn 52 = .ok (.iconst 0, 1) := by decide +kernel
theorem dX7_plateOn_53 : decode cX7_plateOn 53 = .ok (.istore 5, 2) := by decide +kernel
theorem dX7_plateOn_55 : decode cX7_plateOn 55 = .ok (.iload 5, 2) := by decide +kernel
theorem dX7_plateOn_57 : decode cX7_plateOn 57 = .ok (.ifCond .eq 8, 3) := by decide +kernel
theorem dX7_plateOn_60 : decode cX7_plateOn 60 = .ok (.iload 4, 2) := by decide +kernel
theorem dX7_plateOn_62 : decode cX7_plateOn 62 = .ok (.goto 4, 3) := by decide +kernel
theorem dX7_plateOn_65 : decode cX7_plateOn 65 = .ok (.iload_n 3, 1) := by decide +kernel
theorem dX7_plateOn_66 : decode cX7_plateOn 66 = .ok (.istore_n 3, 1) := by decide +kernel
theorem dX7_plateOn_67 : decode cX7_plateOn 67 = .ok (.iinc 4 1, 3) := by decide +kernel
theorem dX7_plateOn_70 : decode cX7_plateOn 70 = .ok (.goto (-64), 3) := by decide +kernel
theorem dX7_plateOn_73 : decode cX7_plateOn 73 = .ok (.iload_n 3, 1) := by decide +kernel
theorem dX7_plateOn_74 : decode cX7_plateOn 74 = .ok (.ireturn, 1) := by decide +kernel
theorem dX7_platesOn_0 : decode cX7_platesOn 0 = .ok (.iconst 0, 1) := by decide +kernel
theorem dX7_platesOn_1 : decode cX7_platesOn 1 = .ok (.istore_n 2, 1) := by decide +kernel
theorem dX7_platesOn_2 : decode cX7_platesOn 2 = .ok (.iconst 0, 1) := by decide +kernel
theorem dX7_platesOn_3 : decode cX7_platesOn 3 = .ok (.istore_n 3, 1) := by decide +kernel
theorem dX7_platesOn_4 : decode cX7_platesOn 4 = .ok (.iload_n 3, 1) := by decide +kernel
theorem dX7_platesOn_5 : decode cX7_platesOn 5 = .ok (.aload_n 0, 1) := by decide +kernel
theorem dX7_platesOn_6 : decode cX7_platesOn 6 = .ok (.iconst 1, 1) := by decide +kernel
theorem dX7_platesOn_7 : decode cX7_platesOn 7 = .ok (.iaload, 1) := by decide +kernel
theorem dX7_platesOn_8 : decode cX7_platesOn 8 = .ok (.if_icmp .ge 37, 3) := by decide +kernel
theorem dX7_platesOn_11 : decode cX7_platesOn 11 = .ok (.iload_n 2, 1) := by decide +kernel
theorem dX7_platesOn_12 : decode cX7_platesOn 12 = .ok (.aload_n 0, 1) := by decide +kernel
theorem dX7_platesOn_13 : decode cX7_platesOn 13 = .ok (.iload_n 3, 1) := by decide +kernel
theorem dX7_platesOn_14 : decode cX7_platesOn 14 = .ok (.iconst 2, 1) := by decide +kernel
theorem dX7_platesOn_15 : decode cX7_platesOn 15 = .ok (.invokestatic 53, 3) := by decide +kernel
theorem dX7_platesOn_18 : decode cX7_platesOn 18 = .ok (.iconst 2, 1) := by decide +kernel
theorem dX7_platesOn_19 : decode cX7_platesOn 19 = .ok (.if_icmp .ne 17, 3) := by decide +kernel
theorem dX7_platesOn_22 : decode cX7_platesOn 22 = .ok (.aload_n 0, 1) := by decide +kernel
theorem dX7_platesOn_23 : decode cX7_platesOn 23 = .ok (.iload_n 3, 1) := by decide +kernel
theorem dX7_platesOn_24 : decode cX7_platesOn 24 = .ok (.iconst 5, 1) := by decide +kernel
theorem dX7_platesOn_25 : decode cX7_platesOn 25 = .ok (.invokestatic 53, 3) := by decide +kernel
theorem dX7_platesOn_28 : decode cX7_platesOn 28 = .ok (.iload_n 1, 1) := by decide +kernel
theorem dX7_platesOn_29 : decode cX7_platesOn 29 = .ok (.if_icmp .ne 7, 3) := by decide +kernel
theorem dX7_platesOn_32 : decode cX7_platesOn 32 = .ok (.iconst 1, 1) := by decide +kernel
theorem dX7_platesOn_33 : decode cX7_platesOn 33 = .ok (.goto 4, 3) := by decide +kernel
theorem dX7_platesOn_36 : decode cX7_platesOn 36 = .ok (.iconst 0, 1) := by decide +kernel
theorem dX7_platesOn_37 : decode cX7_platesOn 37 = .ok (.iadd, 1) := by decide +kernel
theorem dX7_platesOn_38 : decode cX7_platesOn 38 = .ok (.istore_n 2, 1) := by decide +kernel
theorem dX7_platesOn_39 : decode cX7_platesOn 39 = .ok (.iinc 3 1, 3) := by decide +kernel
theorem dX7_platesOn_42 : decode cX7_platesOn 42 = .ok (.goto (-38), 3) := by decide +kernel
theorem dX7_platesOn_45 : decode cX7_platesOn 45 = .ok (.iload_n 2, 1) := by decide +kernel
theorem dX7_platesOn_46 : decode cX7_platesOn 46 = .ok (.ireturn, 1) := by decide +kernel
theorem dX7_yearOn_0 : decode cX7_yearOn 0 = .ok (.bipush (-9), 2) := by decide +kernel
theorem dX7_yearOn_2 : decode cX7_yearOn 2 = .ok (.istore_n 3, 1) := by decide +kernel
theorem dX7_yearOn_3 : decode cX7_yearOn 3 = .ok (.iconst 0, 1) := by decide +kernel
theorem dX7_yearOn_4 : decode cX7_yearOn 4 = .ok (.istore 4, 2) := by decide +kernel
theorem dX7_yearOn_6 : decode cX7_yearOn 6 = .ok (.iload 4, 2) := by decide +kernel
theorem dX7_yearOn_8 : decode cX7_yearOn 8 = .ok (.aload_n 0, 1) := by decide +kernel
theorem dX7_yearOn_9 : decode cX7_yearOn 9 = .ok (.iconst 1, 1) := by decide +kernel
theorem dX7_yearOn_10 : decode cX7_yearOn 10 = .ok (.iaload, 1) := by decide +kernel
theorem dX7_yearOn_11 : decode cX7_yearOn 11 = .ok (.if_icmp .ge 76, 3) := by decide +kernel
theorem dX7_yearOn_14 : decode cX7_yearOn 14 = .ok (.aload_n 0, 1) := by decide +kernel
theorem dX7_yearOn_15 : decode cX7_yearOn 15 = .ok (.iload 4, 2) := by decide +kernel
theorem dX7_yearOn_17 : decode cX7_yearOn 17 = .ok (.iconst 2, 1) := by decide +kernel
theorem dX7_yearOn_18 : decode cX7_yearOn 18 = .ok (.invokestatic 53, 3) := by decide +kernel
theorem dX7_yearOn_21 : decode cX7_yearOn 21 = .ok (.iconst 2, 1) := by decide +kernel
theorem dX7_yearOn_22 : decode cX7_yearOn 22 = .ok (.if_icmp .ne 18, 3) := by decide +kernel
theorem dX7_yearOn_25 : decode cX7_yearOn 25 = .ok (.aload_n 0, 1) := by decide +kernel
theorem dX7_yearOn_26 : decode cX7_yearOn 26 = .ok (.iload 4, 2) := by decide +kernel
theorem dX7_yearOn_28 : decode cX7_yearOn 28 = .ok (.iconst 5, 1) := by decide +kernel
theorem dX7_yearOn_29 : decode cX7_yearOn 29 = .ok (.invokestatic 53, 3) := by decide +kernel
theorem dX7_yearOn_32 : decode cX7_yearOn 32 = .ok (.iload_n 1, 1) := by decide +kernel
theorem dX7_yearOn_33 : decode cX7_yearOn 33 = .ok (.if_icmp .ne 7, 3) := by decide +kernel
theorem dX7_yearOn_36 : decode cX7_yearOn 36 = .ok (.iconst 1, 1) := by decide +kernel
theorem dX7_yearOn_37 : decode cX7_yearOn 37 = .ok (.goto 4, 3) := by decide +kernel
theorem dX7_yearOn_40 : decode cX7_yearOn 40 = .ok (.iconst 0, 1) := by decide +kernel
theorem dX7_yearOn_41 : decode cX7_yearOn 41 = .ok (.istore 5, 2) := by decide +kernel
theorem dX7_yearOn_43 : decode cX7_yearOn 43 = .ok (.aload_n 0, 1) := by decide +kernel
theorem dX7_yearOn_44 : decode cX7_yearOn 44 = .ok (.iload 4, 2) := by decide +kernel
theorem dX7_yearOn_46 : decode cX7_yearOn 46 = .ok (.bipush 6, 2) := by decide +kernel
theorem dX7_yearOn_48 : decode cX7_yearOn 48 = .ok (.invokestatic 53, 3) := by decide +kernel
theorem dX7_yearOn_51 : decode cX7_yearOn 51 = .ok (.istore 6, 2) := by decide +kernel
theorem dX7_yearOn_53 : decode cX7_yearOn 53 = .ok (.iload 5, 2) := by decide +kernel
theorem dX7_yearOn_55 : decode cX7_yearOn 55 = .ok (.ifCond .eq 24, 3) := by decide +kernel
theorem dX7_yearOn_58 : decode cX7_yearOn 58 = .ok (.iload_n 3, 1) := by decide +kernel
theorem dX7_yearOn_59 : decode cX7_yearOn 59 = .ok (.bipush (-9), 2) := by decide +kernel
theorem dX7_yearOn_61 : decode cX7_yearOn 61 = .ok (.if_icmp .eq 13, 3) := by decide +kernel
theorem dX7_yearOn_64 : decode cX7_yearOn 64 = .ok (.iload_n 2, 1) := by decide +kernel
theorem dX7_yearOn_65 : decode cX7_yearOn 65 = .ok (.iload 6, 2) := by decide +kernel
theorem dX7_yearOn_67 : decode cX7_yearOn 67 = .ok (.imul, 1) := by decide +kernel
theorem dX7_yearOn_68 : decode cX7_yearOn 68 = .ok (.iload_n 2, 1) := by decide +kernel
theorem dX7_yearOn_69 : decode cX7_yearOn 69 = .ok (.iload_n 3, 1) := by decide +kernel
theorem dX7_yearOn_70 : decode cX7_yearOn 70 = .ok (.imul, 1) := by decide +kernel
theorem dX7_yearOn_71 : decode cX7_yearOn 71 = .ok (.if_icmp .ge 8, 3) := by decide +kernel
theorem dX7_yearOn_74 : decode cX7_yearOn 74 = .ok (.iload 6, 2) := by decide +kernel
theorem dX7_yearOn_76 : decode cX7_yearOn 76 = .ok (.goto 4, 3) := by decide +kernel
theorem dX7_yearOn_79 : decode cX7_yearOn 79 = .ok (.iload_n 3, 1) := by decide +kernel
theorem dX7_yearOn_80 : decode cX7_yearOn 80 = .ok (.istore_n 3, 1) := by decide +kernel
theorem dX7_yearOn_81 : decode cX7_yearOn 81 = .ok (.iinc 4 1, 3) := by decide +kernel
theorem dX7_yearOn_84 : decode cX7_yearOn 84 = .ok (.goto (-78), 3) := by decide +kernel
theorem dX7_yearOn_87 : decode cX7_yearOn 87 = .ok (.iload_n 3, 1) := by decide +kernel
theorem dX7_yearOn_88 : decode cX7_yearOn 88 = .ok (.ireturn, 1) := by decide +kernel
theorem dX7_fix_0 : decode cX7_fix 0 = .ok (.aload_n 0, 1) := by decide +kernel
theorem dX7_fix_1 : decode cX7_fix 1 = .ok (.iload_n 1, 1) := by decide +kernel
theorem dX7_fix_2 : decode cX7_fix 2 = .ok (.iconst 2, 1) := by decide +kernel
theorem dX7_fix_3 : decode cX7_fix 3 = .ok (.iconst 2, 1) := by decide +kernel
theorem dX7_fix_4 : decode cX7_fix 4 = .ok (.invokestatic 63, 3) := by decide +kernel
theorem dX7_fix_7 : decode cX7_fix 7 = .ok (.aload_n 0, 1) := by decide +kernel
theorem dX7_fix_8 : decode cX7_fix 8 = .ok (.iload_n 1, 1) := by decide +kernel
theorem dX7_fix_9 : decode cX7_fix 9 = .ok (.iconst 5, 1) := by decide +kernel
theorem dX7_fix_10 : decode cX7_fix 10 = .ok (.iload_n 2, 1) := by decide +kernel
theorem dX7_fix_11 : decode cX7_fix 11 = .ok (.invokestatic 63, 3) := by decide +kernel
theorem dX7_fix_14 : decode cX7_fix 14 = .ok (.aload_n 0, 1) := by decide +kernel
theorem dX7_fix_15 : decode cX7_fix 15 = .ok (.iload_n 1, 1) := by decide +kernel
theorem dX7_fix_16 : decode cX7_fix 16 = .ok (.bipush 6, 2) := by decide +kernel
theorem dX7_fix_18 : decode cX7_fix 18 = .ok (.iload_n 3, 1) := by decide +kernel
theorem dX7_fix_19 : decode cX7_fix 19 = .ok (.invokestatic 63, 3) := by decide +kernel
theorem dX7_fix_22 : decode cX7_fix 22 = .ok (.aload_n 0, 1) := by decide +kernel
theorem dX7_fix_23 : decode cX7_fix 23 = .ok (.iload_n 2, 1) := by decide +kernel
theorem dX7_fix_24 : decode cX7_fix 24 = .ok (.invokestatic 92, 3) := by decide +kernel
theorem dX7_fix_27 : decode cX7_fix 27 = .ok (.aload_n 0, 1) := by decide +kernel
theorem dX7_fix_28 : decode cX7_fix 28 = .ok (.sipush 150, 3) := by decide +kernel
theorem dX7_fix_31 : decode cX7_fix 31 = .ok (.iload_n 2, 1) := by decide +kernel
theorem dX7_fix_32 : decode cX7_fix 32 = .ok (.iadd, 1) := by decide +kernel
theorem dX7_fix_33 : decode cX7_fix 33 = .ok (.iaload, 1) := by decide +kernel
theorem dX7_fix_34 : decode cX7_fix 34 = .ok (.if_icmp .le 20, 3) := by decide +kernel
theorem dX7_fix_37 : decode cX7_fix 37 = .ok (.aload_n 0, 1) := by decide +kernel
theorem dX7_fix_38 : decode cX7_fix 38 = .ok (.aload_n 0, 1) := by decide +kernel
theorem dX7_fix_39 : decode cX7_fix 39 = .ok (.iload_n 2, 1) := by decide +kernel
theorem dX7_fix_40 : decode cX7_fix 40 = .ok (.aload_n 0, 1) := by decide +kernel
theorem dX7_fix_41 : decode cX7_fix 41 = .ok (.iload_n 2, 1) := by decide +kernel
theorem dX7_fix_42 : decode cX7_fix 42 = .ok (.iconst 1, 1) := by decide +kernel
theorem dX7_fix_43 : decode cX7_fix 43 = .ok (.invokestatic 96, 3) := by decide +kernel
theorem dX7_fix_46 : decode cX7_fix 46 = .ok (.invokestatic 99, 3) := by decide +kernel
theorem dX7_fix_49 : decode cX7_fix 49 = .ok (.iconst 2, 1) := by decide +kernel
theorem dX7_fix_50 : decode cX7_fix 50 = .ok (.iconst 0, 1) := by decide +kernel
theorem dX7_fix_51 : decode cX7_fix 51 = .ok (.invokestatic 63, 3) := by decide +kernel
theorem dX7_fix_54 : decode cX7_fix 54 = .ok (.return_, 1) := by decide +kernel
theorem dX7_platesIn_0 : decode cX7_platesIn 0 = .ok (.iconst 0, 1) := by decide +kernel
theorem dX7_platesIn_1 : decode cX7_platesIn 1 = .ok (.istore_n 2, 1) := by decide +kernel
theorem dX7_platesIn_2 : decode cX7_platesIn 2 = .ok (.iconst 0, 1) := by decide +kernel
theorem dX7_platesIn_3 : decode cX7_platesIn 3 = .ok (.istore_n 3, 1) := by decide +kernel
theorem dX7_platesIn_4 : decode cX7_platesIn 4 = .ok (.iload_n 3, 1) := by decide +kernel
theorem dX7_platesIn_5 : decode cX7_platesIn 5 = .ok (.aload_n 0, 1) := by decide +kernel
theorem dX7_platesIn_6 : decode cX7_platesIn 6 = .ok (.iconst 1, 1) := by decide +kernel
theorem dX7_platesIn_7 : decode cX7_platesIn 7 = .ok (.iaload, 1) := by decide +kernel
theorem dX7_platesIn_8 : decode cX7_platesIn 8 = .ok (.if_icmp .ge 27, 3) := by decide +kernel
theorem dX7_platesIn_11 : decode cX7_platesIn 11 = .ok (.iload_n 2, 1) := by decide +kernel
theorem dX7_platesIn_12 : decode cX7_platesIn 12 = .ok (.aload_n 0, 1) := by decide +kernel
theorem dX7_platesIn_13 : decode cX7_platesIn 13 = .ok (.iload_n 3, 1) := by decide +kernel
theorem dX7_platesIn_14 : decode cX7_platesIn 14 = .ok (.iconst 2, 1) := by decide +kernel
theorem dX7_platesIn_15 : decode cX7_platesIn 15 = .ok (.invokestatic 53, 3) := by decide +kernel
theorem dX7_platesIn_18 : decode cX7_platesIn 18 = .ok (.iload_n 1, 1) := by decide +kernel
theorem dX7_platesIn_19 : decode cX7_platesIn 19 = .ok (.if_icmp .ne 7, 3) := by decide +kernel
theorem dX7_platesIn_22 : decode cX7_platesIn 22 = .ok (.iconst 1, 1) := by decide +kernel
theorem dX7_platesIn_23 : decode cX7_platesIn 23 = .ok (.goto 4, 3) := by decide +kernel
theorem dX7_platesIn_26 : decode cX7_platesIn 26 = .ok (.iconst 0, 1) := by decide +kernel
theorem dX7_platesIn_27 : decode cX7_platesIn 27 = .ok (.iadd, 1) := by decide +kernel
theorem dX7_platesIn_28 : decode cX7_platesIn 28 = .ok (.istore_n 2, 1) := by decide +kernel
theorem dX7_platesIn_29 : decode cX7_platesIn 29 = .ok (.iinc 3 1, 3) := by decide +kernel
theorem dX7_platesIn_32 : decode cX7_platesIn 32 = .ok (.goto (-28), 3) := by decide +kernel
theorem dX7_platesIn_35 : decode cX7_platesIn 35 = .ok (.iload_n 2, 1) := by decide +kernel
theorem dX7_platesIn_36 : decode cX7_platesIn 36 = .ok (.ireturn, 1) := by decide +kernel
theorem dX7_cut_0 : decode cX7_cut 0 = .ok (.aload_n 0, 1) := by decide +kernel
theorem dX7_cut_1 : decode cX7_cut 1 = .ok (.iconst 0, 1) := by decide +kernel
theorem dX7_cut_2 : decode cX7_cut 2 = .ok (.putfield 31, 3) := by decide +kernel
theorem dX7_cut_5 : decode cX7_cut 5 = .ok (.iload_n 1, 1) := by decide +kernel
theorem dX7_cut_6 : decode cX7_cut 6 = .ok (.bipush 10, 2) := by decide +kernel
theorem dX7_cut_8 : decode cX7_cut 8 = .ok (.sipush 200, 3) := by decide +kernel
theorem dX7_cut_11 : decode cX7_cut 11 = .ok (.invokestatic 38, 3) := by decide +kernel
theorem dX7_cut_14 : decode cX7_cut 14 = .ok (.ifCond .eq 13, 3) := by decide +kernel
theorem dX7_cut_17 : decode cX7_cut 17 = .ok (.iload_n 2, 1) := by decide +kernel
theorem dX7_cut_18 : decode cX7_cut 18 = .ok (.iconst 5, 1) := by decide +kernel
theorem dX7_cut_19 : decode cX7_cut 19 = .ok (.bipush 30, 2) := by decide +kernel
theorem dX7_cut_21 : decode cX7_cut 21 = .ok (.invokestatic 38, 3) := by decide +kernel
theorem dX7_cut_24 : decode cX7_cut 24 = .ok (.ifCond .ne 5, 3) := by decide +kernel
theorem dX7_cut_27 : decode cX7_cut 27 = .ok (.iconst (-1), 1) := by decide +kernel
theorem dX7_cut_28 : decode cX7_cut 28 = .ok (.ireturn, 1) := by decide +kernel
theorem dX7_cut_29 : decode cX7_cut 29 = .ok (.aload_n 0, 1) := by decide +kernel
theorem dX7_cut_30 : decode cX7_cut 30 = .ok (.getfield 7, 3) := by decide +kernel
theorem dX7_cut_33 : decode cX7_cut 33 = .ok (.iconst 1, 1) := by decide +kernel
theorem dX7_cut_34 : decode cX7_cut 34 = .ok (.iaload, 1) := by decide +kernel
theorem dX7_cut_35 : decode cX7_cut 35 = .ok (.bipush 20, 2) := by decide +kernel
theorem dX7_cut_37 : decode cX7_cut 37 = .ok (.if_icmp .ne 6, 3) := by decide +kernel
theorem dX7_cut_40 : decode cX7_cut 40 = .ok (.bipush (-3), 2) := by decide +kernel
theorem dX7_cut_42 : decode cX7_cut 42 = .ok (.ireturn, 1) := by decide +kernel
theorem dX7_cut_43 : decode cX7_cut 43 = .ok (.aload_n 0, 1) := by decide +kernel
theorem dX7_cut_44 : decode cX7_cut 44 = .ok (.invokevirtual 102, 3) := by decide +kernel
theorem dX7_cut_47 : decode cX7_cut 47 = .ok (.aload_n 0, 1) := by decide +kernel
theorem dX7_cut_48 : decode cX7_cut 48 = .ok (.getfield 7, 3) := by decide +kernel
theorem dX7_cut_51 : decode cX7_cut 51 = .ok (.iconst 1, 1) := by decide +kernel
theorem dX7_cut_52 : decode cX7_cut 52 = .ok (.iaload, 1) := by decide +kernel
theorem dX7_cut_53 : decode cX7_cut 53 = .ok (.istore_n 3, 1) := by decide +kernel
theorem dX7_cut_54 : decode cX7_cut 54 = .ok (.aload_n 0, 1) := by decide +kernel
theorem dX7_cut_55 : decode cX7_cut 55 = .ok (.getfield 7, 3) := by decide +kernel
theorem dX7_cut_58 : decode cX7_cut 58 = .ok (.iconst 1, 1) := by decide +kernel
theorem dX7_cut_59 : decode cX7_cut 59 = .ok (.dup2, 1) := by decide +kernel
theorem dX7_cut_60 : decode cX7_cut 60 = .ok (.iaload, 1) := by decide +kernel
theorem dX7_cut_61 : decode cX7_cut 61 = .ok (.iconst 1, 1) := by decide +kernel
theorem dX7_cut_62 : decode cX7_cut 62 = .ok (.iadd, 1) := by decide +kernel
theorem dX7_cut_63 : decode cX7_cut 63 = .ok (.iastore, 1) := by decide +kernel
theorem dX7_cut_64 : decode cX7_cut 64 = .ok (.iconst 0, 1) := by decide +kernel
theorem dX7_cut_65 : decode cX7_cut 65 = .ok (.istore 4, 2) := by decide +kernel
theorem dX7_cut_67 : decode cX7_cut 67 = .ok (.iload 4, 2) := by decide +kernel
theorem dX7_cut_69 : decode cX7_cut 69 = .ok (.bipush 7, 2) := by decide +kernel
theorem dX7_cut_71 : decode cX7_cut 71 = .ok (.if_icmp .ge 20, 3) := by decide +kernel
theorem dX7_cut_74 : decode cX7_cut 74 = .ok (.aload_n 0, 1) := by decide +kernel
theorem dX7_cut_75 : decode cX7_cut 75 = .ok (.getfield 7, 3) := by decide +kernel
theorem dX7_cut_78 : decode cX7_cut 78 = .ok (.iload_n 3, 1) := by decide +kernel
theorem dX7_cut_79 : decode cX7_cut 79 = .ok (.iload 4, 2) := by decide +kernel
theorem dX7_cut_81 : decode cX7_cut 81 = .ok (.iconst 0, 1) := by decide +kernel
theorem dX7_cut_82 : decode cX7_cut 82 = .ok (.invokestatic 63, 3) := by decide +kernel
theorem dX7_cut_85 : decode cX7_cut 85 = .ok (.iinc 4 1, 3) := by decide +kernel
theorem dX7_cut_88 : decode cX7_cut 88 = .ok (.goto (-21), 3) := by decide +kernel
theorem dX7_cut_91 : decode cX7_cut 91 = .ok (.aload_n 0, 1) := by decide +kernel
theorem dX7_cut_92 : decode cX7_cut 92 = .ok (.getfield 7, 3) := by decide +kernel
theorem dX7_cut_95 : decode cX7_cut 95 = .ok (.iload_n 3, 1) := by decide +kernel
theorem dX7_cut_96 : decode cX7_cut 96 = .ok (.iconst 0, 1) := by decide +kernel
theorem dX7_cut_97 : decode cX7_cut 97 = .ok (.iload_n 1, 1) := by decide +kernel
theorem dX7_cut_98 : decode cX7_cut 98 = .ok (.invokestatic 63, 3) := by decide +kernel
theorem dX7_cut_101 : decode cX7_cut 101 = .ok (.aload_n 0, 1) := by decide +kernel
theorem dX7_cut_102 : decode cX7_cut 102 = .ok (.getfield 7, 3) := by decide +kernel
theorem dX7_cut_105 : decode cX7_cut 105 = .ok (.iload_n 3, 1) := by decide +kernel
theorem dX7_cut_106 : decode cX7_cut 106 = .ok (.iconst 1, 1) := by decide +kernel
theorem dX7_cut_107 : decode cX7_cut 107 = .ok (.iload_n 2, 1) := by decide +kernel
theorem dX7_cut_108 : decode cX7_cut 108 = .ok (.invokestatic 63, 3) := by decide +kernel
theorem dX7_cut_111 : decode cX7_cut 111 = .ok (.iload_n 3, 1) := by decide +kernel
theorem dX7_cut_112 : decode cX7_cut 112 = .ok (.ireturn, 1) := by decide +kernel
theorem dX7_spoil_0 : decode cX7_spoil 0 = .ok (.aload_n 0, 1) := by decide +kernel
theorem dX7_spoil_1 : decode cX7_spoil 1 = .ok (.iconst 0, 1) := by decide +kernel
theorem dX7_spoil_2 : decode cX7_spoil 2 = .ok (.putfield 31, 3) := by decide +kernel
theorem dX7_spoil_5 : decode cX7_spoil 5 = .ok (.aload_n 0, 1) := by decide +kernel
theorem dX7_spoil_6 : decode cX7_spoil 6 = .ok (.iload_n 1, 1) := by decide +kernel
theorem dX7_spoil_7 : decode cX7_spoil 7 = .ok (.invokevirtual 105, 3) := by decide +kernel
theorem dX7_spoil_10 : decode cX7_spoil 10 = .ok (.ifCond .ne 5, 3) := by decide +kernel
theorem dX7_spoil_13 : decode cX7_spoil 13 = .ok (.iconst (-1), 1) := by decide +kernel
theorem dX7_spoil_14 : decode cX7_spoil 14 = .ok (.ireturn, 1) := by decide +kernel
theorem dX7_spoil_15 : decode cX7_spoil 15 = .ok (.aload_n 0, 1) := by decide +kernel
theorem dX7_spoil_16 : decode cX7_spoil 16 = .ok (.getfield 7, 3) := by decide +kernel
theorem dX7_spoil_19 : decode cX7_spoil 19 = .ok (.iload_n 1, 1) := by decide +kernel
theorem dX7_spoil_20 : decode cX7_spoil 20 = .ok (.iconst 2, 1) := by decide +kernel
theorem dX7_spoil_21 : decode cX7_spoil 21 = .ok (.invokestatic 53, 3) := by decide +kernel
theorem dX7_spoil_24 : decode cX7_spoil 24 = .ok (.ifCond .eq 6, 3) := by decide +kernel
theorem dX7_spoil_27 : decode cX7_spoil 27 = .ok (.bipush (-2), 2) := by decide +kernel
theorem dX7_spoil_29 : decode cX7_spoil 29 = .ok (.ireturn, 1) := by decide +kernel
theorem dX7_spoil_30 : decode cX7_spoil 30 = .ok (.aload_n 0, 1) := by decide +kernel
theorem dX7_spoil_31 : decode cX7_spoil 31 = .ok (.invokevirtual 102, 3) := by decide +kernel
theorem dX7_spoil_34 : decode cX7_spoil 34 = .ok (.aload_n 0, 1) := by decide +kernel
theorem dX7_spoil_35 : decode cX7_spoil 35 = .ok (.getfield 7, 3) := by decide +kernel
theorem dX7_spoil_38 : decode cX7_spoil 38 = .ok (.iload_n 1, 1) := by decide +kernel
theorem dX7_spoil_39 : decode cX7_spoil 39 = .ok (.iconst 2, 1) := by decide +kernel
theorem dX7_spoil_40 : decode cX7_spoil 40 = .ok (.iconst 3, 1) := by decide +kernel
theorem dX7_spoil_41 : decode cX7_spoil 41 = .ok (.invokestatic 63, 3) := by decide +kernel
theorem dX7_spoil_44 : decode cX7_spoil 44 = .ok (.aload_n 0, 1) := by decide +kernel
theorem dX7_spoil_45 : decode cX7_spoil 45 = .ok (.getfield 7, 3) := by decide +kernel
theorem dX7_spoil_48 : decode cX7_spoil 48 = .ok (.iconst 3, 1) := by decide +kernel
theorem dX7_spoil_49 : decode cX7_spoil 49 = .ok (.invokestatic 109, 3) := by decide +kernel
theorem dX7_spoil_52 : decode cX7_spoil 52 = .ok (.ireturn, 1) := by decide +kernel
theorem dX7_grind_0 : decode cX7_grind 0 = .ok (.aload_n 0, 1) := by decide +kernel
theorem dX7_grind_1 : decode cX7_grind 1 = .ok (.iconst 0, 1) := by decide +kernel
theorem dX7_grind_2 : decode cX7_grind 2 = .ok (.putfield 31, 3) := by decide +kernel
theorem dX7_grind_5 : decode cX7_grind 5 = .ok (.aload_n 0, 1) := by decide +kernel
theorem dX7_grind_6 : decode cX7_grind 6 = .ok (.iload_n 1, 1) := by decide +kernel
theorem dX7_grind_7 : decode cX7_grind 7 = .ok (.invokevirtual 105, 3) := by decide +kernel
theorem dX7_grind_10 : decode cX7_grind 10 = .ok (.ifCond .eq 12, 3) := by decide +kernel
theorem dX7_grind_13 : decode cX7_grind 13 = .ok (.iload_n 2, 1) := by decide +kernel
theorem dX7_grind_14 : decode cX7_grind 14 = .ok (.iconst 0, 1) := by decide +kernel
theorem dX7_grind_15 : decode cX7_grind 15 = .ok (.iconst 1, 1) := by decide +kernel
theorem dX7_grind_16 : decode cX7_grind 16 = .ok (.invokestatic 38, 3) := by decide +kernel
theorem dX7_grind_19 : decode cX7_grind 19 = .ok (.ifCond .ne 5, 3) := by decide +kernel
theorem dX7_grind_22 : decode cX7_grind 22 = .ok (.iconst (-1), 1) := by decide +kernel
theorem dX7_grind_23 : decode cX7_grind 23 = .ok (.ireturn, 1) := by decide +kernel
theorem dX7_grind_24 : decode cX7_grind 24 = .ok (.aload_n 0, 1) := by decide +kernel
theorem dX7_grind_25 : decode cX7_grind 25 = .ok (.getfield 7, 3) := by decide +kernel
theorem dX7_grind_28 : decode cX7_grind 28 = .ok (.iload_n 1, 1) := by decide +kernel
theorem dX7_grind_29 : decode cX7_grind 29 = .ok (.iload_n 2, 1) := by decide +kernel
theorem dX7_grind_30 : decode cX7_grind 30 = .ok (.invokestatic 56, 3) := by decide +kernel
theorem dX7_grind_33 : decode cX7_grind 33 = .ok (.istore_n 3, 1) := by decide +kernel
theorem dX7_grind_34 : decode cX7_grind 34 = .ok (.aload_n 0, 1) := by decide +kernel
theorem dX7_grind_35 : decode cX7_grind 35 = .ok (.getfield 7, 3) := by decide +kernel
theorem dX7_grind_38 : decode cX7_grind 38 = .ok (.iload_n 1, 1) := by decide +kernel
theorem dX7_grind_39 : decode cX7_grind 39 = .ok (.iconst 2, 1) := by decide +kernel
theorem dX7_grind_40 : decode cX7_grind 40 = .ok (.invokestatic 53, 3) := by decide +kernel
theorem dX7_grind_43 : decode cX7_grind 43 = .ok (.ifCond .ne 24, 3) := by decide +kernel
theorem dX7_grind_46 : decode cX7_grind 46 = .ok (.iload_n 3, 1) := by decide +kernel
theorem dX7_grind_47 : decode cX7_grind 47 = .ok (.ifCond .eq 20, 3) := by decide +kernel
theorem dX7_grind_50 : decode cX7_grind 50 = .ok (.aload_n 0, 1) := by decide +kernel
theorem dX7_grind_51 : decode cX7_grind 51 = .ok (.getfield 7, 3) := by decide +kernel
theorem dX7_grind_54 : decode cX7_grind 54 = .ok (.iload_n 1, 1) := by decide +kernel
theorem dX7_grind_55 : decode cX7_grind 55 = .ok (.iload_n 2, 1) := by decide +kernel
theorem dX7_grind_56 : decode cX7_grind 56 = .ok (.iconst 0, 1) := by decide +kernel
theorem dX7_grind_57 : decode cX7_grind 57 = .ok (.iload_n 3, 1) := by decide +kernel
theorem dX7_grind_58 : decode cX7_grind 58 = .ok (.iconst 1, 1) := by decide +kernel
theorem dX7_grind_59 : decode cX7_grind 59 = .ok (.iadd, 1) := by decide +kernel
theorem dX7_grind_60 : decode cX7_grind 60 = .ok (.invokestatic 59, 3) := by decide +kernel
theorem dX7_grind_63 : decode cX7_grind 63 = .ok (.iconst 2, 1) := by decide +kernel
theorem dX7_grind_64 : decode cX7_grind 64 = .ok (.if_icmp .ge 6, 3) := by decide +kernel
theorem dX7_grind_67 : decode cX7_grind 67 = .ok (.bipush (-2), 2) := by decide +kernel
theorem dX7_grind_69 : decode cX7_grind 69 = .ok (.ireturn, 1) := by decide +kernel
theorem dX7_grind_70 : decode cX7_grind 70 = .ok (.aload_n 0, 1) := by decide +kernel
theorem dX7_grind_71 : decode cX7_grind 71 = .ok (.invokevirtual 102, 3) := by decide +kernel
theorem dX7_grind_74 : decode cX7_grind 74 = .ok (.aload_n 0, 1) := by decide +kernel
theorem dX7_grind_75 : decode cX7_grind 75 = .ok (.getfield 7, 3) := by decide +kernel
theorem dX7_grind_78 : decode cX7_grind 78 = .ok (.iload_n 1, 1) := by decide +kernel
theorem dX7_grind_79 : decode cX7_grind 79 = .ok (.iload_n 2, 1) := by decide +kernel
theorem dX7_grind_80 : decode cX7_grind 80 = .ok (.invokestatic 112, 3) := by decide +kernel
theorem dX7_grind_83 : decode cX7_grind 83 = .ok (.aload_n 0, 1) := by decide +kernel
theorem dX7_grind_84 : decode cX7_grind 84 = .ok (.getfield 7, 3) := by decide +kernel
theorem dX7_grind_87 : decode cX7_grind 87 = .ok (.iload_n 1, 1) := by decide +kernel
theorem dX7_grind_88 : decode cX7_grind 88 = .ok (.iconst 1, 1) := by decide +kernel
theorem dX7_grind_89 : decode cX7_grind 89 = .ok (.invokestatic 53, 3) := by decide +kernel
theorem dX7_grind_92 : decode cX7_grind 92 = .ok (.ireturn, 1) := by decide +kernel
theorem dX7_addShield_0 : decode cX7_addShield 0 = .ok (.aload_n 0, 1) := by decide +kernel
theorem dX7_addShield_1 : decode cX7_addShield 1 = .ok (.iconst 0, 1) := by decide +kernel
theorem dX7_addShield_2 : decode cX7_addShield 2 = .ok (.putfield 31, 3) := by decide +kernel
theorem dX7_addShield_5 : decode cX7_addShield 5 = .ok (.iload_n 1, 1) := by decide +kernel
theorem dX7_addShield_6 : decode cX7_addShield 6 = .ok (.iconst 2, 1) := by decide +kernel
theorem dX7_addShield_7 : decode cX7_addShield 7 = .ok (.bipush 6, 2) := by decide +kernel
theorem dX7_addShield_9 : decode cX7_addShield 9 = .ok (.invokestatic 38, 3) := by decide +kernel
theorem dX7_addShield_12 : decode cX7_addShield 12 = .ok (.ifCond .ne 5, 3) := by decide +kernel
theorem dX7_addShield_15 : decode cX7_addShield 15 = .ok (.iconst (-1), 1) := by decide +kernel
theorem dX7_addShield_16 : decode cX7_addShield 16 = .ok (.ireturn, 1) := by decide +kernel
theorem dX7_addShield_17 : decode cX7_addShield 17 = .ok (.aload_n 0, 1) := by decide +kernel
theorem dX7_addShield_18 : decode cX7_addShield 18 = .ok (.getfield 7, 3) := by decide +kernel
theorem dX7_addShield_21 : decode cX7_addShield 21 = .ok (.iconst 0, 1) := by decide +kernel
theorem dX7_addShield_22 : decode cX7_addShield 22 = .ok (.iaload, 1) := by decide +kernel
theorem dX7_addShield_23 : decode cX7_addShield 23 = .ok (.iconst 3, 1) := by decide +kernel
theorem dX7_addShield_24 : decode cX7_addShield 24 = .ok (.if_icmp .ne 6, 3) := by decide +kernel
theorem dX7_addShield_27 : decode cX7_addShield 27 = .ok (.bipush (-3), 2) := by decide +kernel
theorem dX7_addShield_29 : decode cX7_addShield 29 = .ok (.ireturn, 1) := by decide +kernel
theorem dX7_addShield_30 : decode cX7_addShield 30 = .ok (.aload_n 0, 1) := by decide +kernel
theorem dX7_addShield_31 : decode cX7_addShield 31 = .ok (.invokevirtual 102, 3) := by decide +kernel
theorem dX7_addShield_34 : decode cX7_addShield 34 = .ok (.aload_n 0, 1) := by decide +kernel
theorem dX7_addShield_35 : decode cX7_addShield 35 = .ok (.getfield 7, 3) := by decide +kernel
theorem dX7_addShield_38 : decode cX7_addShield 38 = .ok (.sipush 150, 3) := by decide +kernel
theorem dX7_addShield_41 : decode cX7_addShield 41 = .ok (.aload_n 0, 1) := by decide +kernel
theorem dX7_addShield_42 : decode cX7_addShield 42 = .ok (.getfield 7, 3) := by decide +kernel
theorem dX7_addShield_45 : decode cX7_addShield 45 = .ok (.iconst 0, 1) := by decide +kernel
theorem dX7_addShield_46 : decode cX7_addShield 46 = .ok (.iaload, 1) := by decide +kernel
theorem dX7_addShield_47 : decode cX7_addShield 47 = .ok (.iadd, 1) := by decide +kernel
theorem dX7_addShield_48 : decode cX7_addShield 48 = .ok (.iload_n 1, 1) := by decide +kernel
theorem dX7_addShield_49 : decode cX7_addShield 49 = .ok (.iastore, 1) := by decide +kernel
theorem dX7_addShield_50 : decode cX7_addShield 50 = .ok (.aload_n 0, 1) := by decide +kernel
theorem dX7_addShield_51 : decode cX7_addShield 51 = .ok (.getfield 7, 3) := by decide +kernel
theorem dX7_addShield_54 : decode cX7_addShield 54 = .ok (.iconst 0, 1) := by decide +kernel
theorem dX7_addShield_55 : decode cX7_addShield 55 = .ok (.dup2, 1) := by decide +kernel
theorem dX7_addShield_56 : decode cX7_addShield 56 = .ok (.iaload, 1) := by decide +kernel
theorem dX7_addShield_57 : decode cX7_addShield 57 = .ok (.iconst 1, 1) := by decide +kernel
theorem dX7_addShield_58 : decode cX7_addShield 58 = .ok (.iadd, 1) := by decide +kernel
theorem dX7_addShield_59 : decode cX7_addShield 59 = .ok (.iastore, 1) := by decide +kernel
theorem dX7_addShield_60 : decode cX7_addShield 60 = .ok (.aload_n 0, 1) := by decide +kernel
theorem dX7_addShield_61 : decode cX7_addShield 61 = .ok (.getfield 7, 3) := by decide +kernel
theorem dX7_addShield_64 : decode cX7_addShield 64 = .ok (.iconst 0, 1) := by decide +kernel
theorem dX7_addShield_65 : decode cX7_addShield 65 = .ok (.iaload, 1) := by decide +kernel
theorem dX7_addShield_66 : decode cX7_addShield 66 = .ok (.iconst 1, 1) := by decide +kernel
theorem dX7_addShield_67 : decode cX7_addShield 67 = .ok (.isub, 1) := by decide +kernel
theorem dX7_addShield_68 : decode cX7_addShield 68 = .ok (.ireturn, 1) := by decide +kernel
theorem dX7_takeOff_0 : decode cX7_takeOff 0 = .ok (.aload_n 0, 1) := by decide +kernel
theorem dX7_takeOff_1 : decode cX7_takeOff 1 = .ok (.iconst 0, 1) := by decide +kernel
theorem dX7_takeOff_2 : decode cX7_takeOff 2 = .ok (.putfield 31, 3) := by decide +kernel
theorem dX7_takeOff_5 : decode cX7_takeOff 5 = .ok (.aload_n 0, 1) := by decide +kernel
theorem dX7_takeOff_6 : decode cX7_takeOff 6 = .ok (.iload_n 1, 1) := by decide +kernel
theorem dX7_takeOff_7 : decode cX7_takeOff 7 = .ok (.invokevirtual 116, 3) := by decide +kernel
theorem dX7_takeOff_10 : decode cX7_takeOff 10 = .ok (.ifCond .eq 10, 3) := by decide +kernel
theorem dX7_takeOff_13 : decode cX7_takeOff 13 = .ok (.iload_n 2, 1) := by decide +kernel
theorem dX7_takeOff_14 : decode cX7_takeOff 14 = .ok (.invokestatic 119, 3) := by decide +kernel
theorem dX7_takeOff_17 : decode cX7_takeOff 17 = .ok (.ifCond .ne 5, 3) := by decide +kernel
theorem dX7_takeOff_20 : decode cX7_takeOff 20 = .ok (.iconst (-1), 1) := by decide +kernel
theorem dX7_takeOff_21 : decode cX7_takeOff 21 = .ok (.ireturn, 1) := by decide +kernel
theorem dX7_takeOff_22 : decode cX7_takeOff 22 = .ok (.aload_n 0, 1) := by decide +kernel
theorem dX7_takeOff_23 : decode cX7_takeOff 23 = .ok (.getfield 7, 3) := by decide +kernel
theorem dX7_takeOff_26 : decode cX7_takeOff 26 = .ok (.iload_n 1, 1) := by decide +kernel
theorem dX7_takeOff_27 : decode cX7_takeOff 27 = .ok (.iload_n 2, 1) := by decide +kernel
theorem dX7_takeOff_28 : decode cX7_takeOff 28 = .ok (.invokestatic 99, 3) := by decide +kernel
theorem dX7_takeOff_31 : decode cX7_takeOff 31 = .ok (.istore_n 3, 1) := by decide +kernel
theorem dX7_takeOff_32 : decode cX7_takeOff 32 = .ok (.iload_n 3, 1) := by decide +kernel
theorem dX7_takeOff_33 : decode cX7_takeOff 33 = .ok (.bipush (-9), 2) := by decide +kernel
theorem dX7_takeOff_35 : decode cX7_takeOff 35 = .ok (.if_icmp .ne 6, 3) := by decide +kernel
theorem dX7_takeOff_38 : decode cX7_takeOff 38 = .ok (.bipush (-2), 2) := by decide +kernel
theorem dX7_takeOff_40 : decode cX7_takeOff 40 = .ok (.ireturn, 1) := by decide +kernel
theorem dX7_takeOff_41 : decode cX7_takeOff 41 = .ok (.aload_n 0, 1) := by decide +kernel
theorem dX7_takeOff_42 : decode cX7_takeOff 42 = .ok (.invokevirtual 102, 3) := by decide +kernel
theorem dX7_takeOff_45 : decode cX7_takeOff 45 = .ok (.aload_n 0, 1) := by decide +kernel
theorem dX7_takeOff_46 : decode cX7_takeOff 46 = .ok (.getfield 7, 3) := by decide +kernel
theorem dX7_takeOff_49 : decode cX7_takeOff 49 = .ok (.iload_n 3, 1) := by decide +kernel
theorem dX7_takeOff_50 : decode cX7_takeOff 50 = .ok (.iconst 2, 1) := by decide +kernel
theorem dX7_takeOff_51 : decode cX7_takeOff 51 = .ok (.iconst 0, 1) := by decide +kernel
theorem dX7_takeOff_52 : decode cX7_takeOff 52 = .ok (.invokestatic 63, 3) := by decide +kernel
theorem dX7_takeOff_55 : decode cX7_takeOff 55 = .ok (.iload_n 3, 1) := by decide +kernel
theorem dX7_takeOff_56 : decode cX7_takeOff 56 = .ok (.ireturn, 1) := by decide +kernel
theorem dX7_append_0 : decode cX7_append 0 = .ok (.aload_n 0, 1) := by decide +kernel
theorem dX7_append_1 : decode cX7_append 1 = .ok (.iconst 0, 1) := by decide +kernel
theorem dX7_append_2 : decode cX7_append 2 = .ok (.putfield 31, 3) := by decide +kernel
theorem dX7_append_5 : decode cX7_append 5 = .ok (.iload_n 1, 1) := by decide +kernel
theorem dX7_append_6 : decode cX7_append 6 = .ok (.bipush 97, 2) := by decide +kernel
theorem dX7_append_8 : decode cX7_append 8 = .ok (.bipush 122, 2) := by decide +kernel
theorem dX7_append_10 : decode cX7_append 10 = .ok (.invokestatic 38, 3) := by decide +kernel
theorem dX7_append_13 : decode cX7_append 13 = .ok (.ifCond .ne 5, 3) := by decide +kernel
theorem dX7_append_16 : decode cX7_append 16 = .ok (.iconst (-1), 1) := by decide +kernel
theorem dX7_append_17 : decode cX7_append 17 = .ok (.ireturn, 1) := by decide +kernel
theorem dX7_append_18 : decode cX7_append 18 = .ok (.aload_n 0, 1) := by decide +kernel
theorem dX7_append_19 : decode cX7_append 19 = .ok (.getfield 50, 3) := by decide +kernel
theorem dX7_append_22 : decode cX7_append 22 = .ok (.bipush 12, 2) := by decide +kernel
theorem dX7_append_24 : decode cX7_append 24 = .ok (.if_icmp .ne 6, 3) := by decide +kernel
theorem dX7_append_27 : decode cX7_append 27 = .ok (.bipush (-3), 2) := by decide +kernel
theorem dX7_append_29 : decode cX7_append 29 = .ok (.ireturn, 1) := by decide +kernel
theorem dX7_append_30 : decode cX7_append 30 = .ok (.aload_n 0, 1) := by decide +kernel
theorem dX7_append_31 : decode cX7_append 31 = .ok (.getfield 19, 3) := by decide +kernel
theorem dX7_append_34 : decode cX7_append 34 = .ok (.aload_n 0, 1) := by decide +kernel
theorem dX7_append_35 : decode cX7_append 35 = .ok (.getfield 50, 3) := by decide +kernel
theorem dX7_append_38 : decode cX7_append 38 = .ok (.iload_n 1, 1) := by decide +kernel
theorem dX7_append_39 : decode cX7_append 39 = .ok (.iastore, 1) := by decide +kernel
theorem dX7_append_40 : decode cX7_append 40 = .ok (.aload_n 0, 1) := by decide +kernel
theorem dX7_append_41 : decode cX7_append 41 = .ok (.dup, 1) := by decide +kernel
theorem dX7_append_42 : decode cX7_append 42 = .ok (.getfield 50, 3) := by decide +kernel
theorem dX7_append_45 : decode cX7_append 45 = .ok (.iconst 1, 1) := by decide +kernel
theorem dX7_append_46 : decode cX7_append 46 = .ok (.iadd, 1) := by decide +kernel
theorem dX7_append_47 : decode cX7_append 47 = .ok (.putfield 50, 3) := by decide +kernel
theorem dX7_append_50 : decode cX7_append 50 = .ok (.aload_n 0, 1) := by decide +kernel
theorem dX7_append_51 : decode cX7_append 51 = .ok (.getfield 50, 3) := by decide +kernel
theorem dX7_append_54 : decode cX7_append 54 = .ok (.ireturn, 1) := by decide +kernel
theorem dX7_clearText_0 : decode cX7_clearText 0 = .ok (.aload_n 0, 1) := by decide +kernel
theorem dX7_clearText_1 : decode cX7_clearText 1 = .ok (.iconst 0, 1) := by decide +kernel
theorem dX7_clearText_2 : decode cX7_clearText 2 = .ok (.putfield 31, 3) := by decide +kernel
theorem dX7_clearText_5 : decode cX7_clearText 5 = .ok (.aload_n 0, 1) := by decide +kernel
theorem dX7_clearText_6 : decode cX7_clearText 6 = .ok (.getfield 50, 3) := by decide +kernel
theorem dX7_clearText_9 : decode cX7_clearText 9 = .ok (.istore_n 1, 1) := by decide +kernel
theorem dX7_clearText_10 : decode cX7_clearText 10 = .ok (.aload_n 0, 1) := by decide +kernel
theorem dX7_clearText_11 : decode cX7_clearText 11 = .ok (.iconst 0, 1) := by decide +kernel
theorem dX7_clearText_12 : decode cX7_clearText 12 = .ok (.putfield 50, 3) := by decide +kernel
theorem dX7_clearText_15 : decode cX7_clearText 15 = .ok (.iload_n 1, 1) := by decide +kernel
theorem dX7_clearText_16 : decode cX7_clearText 16 = .ok (.ireturn, 1) := by decide +kernel
theorem dX7_rushes_0 : decode cX7_rushes 0 = .ok (.iconst 0, 1) := by decide +kernel
theorem dX7_rushes_1 : decode cX7_rushes 1 = .ok (.istore_n 1, 1) := by decide +kernel
theorem dX7_rushes_2 : decode cX7_rushes 2 = .ok (.iconst 0, 1) := by decide +kernel
theorem dX7_rushes_3 : decode cX7_rushes 3 = .ok (.istore_n 2, 1) := by decide +kernel
theorem dX7_rushes_4 : decode cX7_rushes 4 = .ok (.iload_n 2, 1) := by decide +kernel
theorem dX7_rushes_5 : decode cX7_rushes 5 = .ok (.aload_n 0, 1) := by decide +kernel
theorem dX7_rushes_6 : decode cX7_rushes 6 = .ok (.iconst 2, 1) := by decide +kernel
theorem dX7_rushes_7 : decode cX7_rushes 7 = .ok (.iaload, 1) := by decide +kernel
theorem dX7_rushes_8 : decode cX7_rushes 8 = .ok (.if_icmp .ge 18, 3) := by decide +kernel
theorem dX7_rushes_11 : decode cX7_rushes 11 = .ok (.iload_n 1, 1) := by decide +kernel
theorem dX7_rushes_12 : decode cX7_rushes 12 = .ok (.aload_n 0, 1) := by decide +kernel
theorem dX7_rushes_13 : decode cX7_rushes 13 = .ok (.iload_n 2, 1) := by decide +kernel
theorem dX7_rushes_14 : decode cX7_rushes 14 = .ok (.iconst 4, 1) := by decide +kernel
theorem dX7_rushes_15 : decode cX7_rushes 15 = .ok (.invokestatic 42, 3) := by decide +kernel
theorem dX7_rushes_18 : decode cX7_rushes 18 = .ok (.iadd, 1) := by decide +kernel
theorem dX7_rushes_19 : decode cX7_rushes 19 = .ok (.istore_n 1, 1) := by decide +kernel
theorem dX7_rushes_20 : decode cX7_rushes 20 = .ok (.iinc 2 1, 3) := by decide +kernel
theorem dX7_rushes_23 : decode cX7_rushes 23 = .ok (.goto (-19), 3) := by decide +kernel
theorem dX7_rushes_26 : decode cX7_rushes 26 = .ok (.iload_n 1, 1) := by decide +kernel
theorem dX7_rushes_27 : decode cX7_rushes 27 = .ok (.ireturn, 1) := by decide +kernel
theorem dX7_isOrdered_0 : decode cX7_isOrdered 0 = .ok (.iconst 0, 1) := by decide +kernel
theorem dX7_isOrdered_1 : decode cX7_isOrdered 1 = .ok (.istore_n 3, 1) := by decide +kernel
theorem dX7_isOrdered_2 : decode cX7_isOrdered 2 = .ok (.iconst 0, 1) := by decide +kernel
theorem dX7_isOrdered_3 : decode cX7_isOrdered 3 = .ok (.istore 4, 2) := by decide +kernel
theorem dX7_isOrdered_5 : decode cX7_isOrdered 5 = .ok (.iload 4, 2) := by decide +kernel
theorem dX7_isOrdered_7 : decode cX7_isOrdered 7 = .ok (.aload_n 0, 1) := by decide +kernel
theorem dX7_isOrdered_8 : decode cX7_isOrdered 8 = .ok (.getfield 7, 3) := by decide +kernel
theorem dX7_isOrdered_11 : decode cX7_isOrdered 11 = .ok (.iconst 2, 1) := by decide +kernel
theorem dX7_isOrdered_12 : decode cX7_isOrdered 12 = .ok (.iaload, 1) := by decide +kernel
theorem dX7_isOrdered_13 : decode cX7_isOrdered 13 = .ok (.if_icmp .ge 47, 3) := by decide +kernel
theorem dX7_isOrdered_16 : decode cX7_isOrdered 16 = .ok (.iload_n 3, 1) := by decide +kernel
theorem dX7_isOrdered_17 : decode cX7_isOrdered 17 = .ok (.ifCond .ne 31, 3) := by decide +kernel
theorem dX7_isOrdered_20 : decode cX7_isOrdered 20 = .ok (.aload_n 0, 1) := by decide +kernel
theorem dX7_isOrdered_21 : decode cX7_isOrdered 21 = .ok (.getfield 7, 3) := by decide +kernel
theorem dX7_isOrdered_24 : decode cX7_isOrdered 24 = .ok (.iload 4, 2) := by decide +kernel
theorem dX7_isOrdered_26 : decode cX7_isOrdered 26 = .ok (.iconst 0, 1) := by decide +kernel
theorem dX7_isOrdered_27 : decode cX7_isOrdered 27 = .ok (.invokestatic 42, 3) := by decide +kernel
theorem dX7_isOrdered_30 : decode cX7_isOrdered 30 = .ok (.iload_n 1, 1) := by decide +kernel
theorem dX7_isOrdered_31 : decode cX7_isOrdered 31 = .ok (.if_icmp .ne 21, 3) := by decide +kernel
theorem dX7_isOrdered_34 : decode cX7_isOrdered 34 = .ok (.aload_n 0, 1) := by decide +kernel
theorem dX7_isOrdered_35 : decode cX7_isOrdered 35 = .ok (.getfield 7, 3) := by decide +kernel
theorem dX7_isOrdered_38 : decode cX7_isOrdered 38 = .ok (.iload 4, 2) := by decide +kernel
theorem dX7_isOrdered_40 : decode cX7_isOrdered 40 = .ok (.iconst 1, 1) := by decide +kernel
theorem dX7_isOrdered_41 : decode cX7_isOrdered 41 = .ok (.invokestatic 42, 3) := by decide +kernel
theorem dX7_isOrdered_44 : decode cX7_isOrdered 44 = .ok (.iload_n 2, 1) := by decide +kernel
theorem dX7_isOrdered_45 : decode cX7_isOrdered 45 = .ok (.if_icmp .ne 7, 3) := by decide +kernel
theorem dX7_isOrdered_48 : decode cX7_isOrdered 48 = .ok (.iconst 1, 1) := by decide +kernel
theorem dX7_isOrdered_49 : decode cX7_isOrdered 49 = .ok (.goto 4, 3) := by decide +kernel
theorem dX7_isOrdered_52 : decode cX7_isOrdered 52 = .ok (.iconst 0, 1) := by decide +kernel
theorem dX7_isOrdered_53 : decode cX7_isOrdered 53 = .ok (.istore_n 3, 1) := by decide +kernel
theorem dX7_isOrdered_54 : decode cX7_isOrdered 54 = .ok (.iinc 4 1, 3) := by decide +kernel
theorem dX7_isOrdered_57 : decode cX7_isOrdered 57 = .ok (.goto (-52), 3) := by decide +kernel
theorem dX7_isOrdered_60 : decode cX7_isOrdered 60 = .ok (.iload_n 3, 1) := by decide +kernel
theorem dX7_isOrdered_61 : decode cX7_isOrdered 61 = .ok (.ireturn, 1) := by decide +kernel
theorem dX7_takeOut_0 : decode cX7_takeOut 0 = .ok (.iconst 0, 1) := by decide +kernel
theorem dX7_takeOut_1 : decode cX7_takeOut 1 = .ok (.istore_n 3, 1) := by decide +kernel
theorem dX7_takeOut_2 : decode cX7_takeOut 2 = .ok (.iload_n 3, 1) := by decide +kernel
theorem dX7_takeOut_3 : decode cX7_takeOut 3 = .ok (.bipush 19, 2) := by decide +kernel
theorem dX7_takeOut_5 : decode cX7_takeOut 5 = .ok (.if_icmp .ge 21, 3) := by decide +kernel
theorem dX7_takeOut_8 : decode cX7_takeOut 8 = .ok (.aload_n 0, 1) := by decide +kernel
theorem dX7_takeOut_9 : decode cX7_takeOut 9 = .ok (.getfield 28, 3) := by decide +kernel
theorem dX7_takeOut_12 : decode cX7_takeOut 12 = .ok (.iload_n 3, 1) := by decide +kernel
theorem dX7_takeOut_13 : decode cX7_takeOut 13 = .ok (.aload_n 1, 1) := by decide +kernel
theorem dX7_takeOut_14 : decode cX7_takeOut 14 = .ok (.iload_n 2, 1) := by decide +kernel
theorem dX7_takeOut_15 : decode cX7_takeOut 15 = .ok (.iload_n 3, 1) := by decide +kernel
theorem dX7_takeOut_16 : decode cX7_takeOut 16 = .ok (.invokestatic 42, 3) := by decide +kernel
theorem dX7_takeOut_19 : decode cX7_takeOut 19 = .ok (.iastore, 1) := by decide +kernel
theorem dX7_takeOut_20 : decode cX7_takeOut 20 = .ok (.iinc 3 1, 3) := by decide +kernel
theorem dX7_takeOut_23 : decode cX7_takeOut 23 = .ok (.goto (-21), 3) := by decide +kernel
theorem dX7_takeOut_26 : decode cX7_takeOut 26 = .ok (.aload_n 1, 1) := by decide +kernel
theorem dX7_takeOut_27 : decode cX7_takeOut 27 = .ok (.iconst 2, 1) := by decide +kernel
theorem dX7_takeOut_28 : decode cX7_takeOut 28 = .ok (.dup2, 1) := by decide +kernel
theorem dX7_takeOut_29 : decode cX7_takeOut 29 = .ok (.iaload, 1) := by decide +kernel
theorem dX7_takeOut_30 : decode cX7_takeOut 30 = .ok (.iconst 1, 1) := by decide +kernel
theorem dX7_takeOut_31 : decode cX7_takeOut 31 = .ok (.isub, 1) := by decide +kernel
theorem dX7_takeOut_32 : decode cX7_takeOut 32 = .ok (.iastore, 1) := by decide +kernel
theorem dX7_takeOut_33 : decode cX7_takeOut 33 = .ok (.sipush 153, 3) := by decide +kernel
theorem dX7_takeOut_36 : decode cX7_takeOut 36 = .ok (.bipush 19, 2) := by decide +kernel
theorem dX7_takeOut_38 : decode cX7_takeOut 38 = .ok (.iload_n 2, 1) := by decide +kernel
theorem dX7_takeOut_39 : decode cX7_takeOut 39 = .ok (.imul, 1) := by decide +kernel
theorem dX7_takeOut_40 : decode cX7_takeOut 40 = .ok (.iadd, 1) := by decide +kernel
theorem dX7_takeOut_41 : decode cX7_takeOut 41 = .ok (.istore_n 3, 1) := by decide +kernel
theorem dX7_takeOut_42 : decode cX7_takeOut 42 = .ok (.iload_n 3, 1) := by decide +kernel
theorem dX7_takeOut_43 : decode cX7_takeOut 43 = .ok (.sipush 153, 3) := by decide +kernel
theorem dX7_takeOut_46 : decode cX7_takeOut 46 = .ok (.bipush 19, 2) := by decide +kernel
theorem dX7_takeOut_48 : decode cX7_takeOut 48 = .ok (.aload_n 1, 1) := by decide +kernel
theorem dX7_takeOut_49 : decode cX7_takeOut 49 = .ok (.iconst 2, 1) := by decide +kernel
theorem dX7_takeOut_50 : decode cX7_takeOut 50 = .ok (.iaload, 1) := by decide +kernel
theorem dX7_takeOut_51 : decode cX7_takeOut 51 = .ok (.imul, 1) := by decide +kernel
theorem dX7_takeOut_52 : decode cX7_takeOut 52 = .ok (.iadd, 1) := by decide +kernel
theorem dX7_takeOut_53 : decode cX7_takeOut 53 = .ok (.if_icmp .ge 18, 3) := by decide +kernel
theorem dX7_takeOut_56 : decode cX7_takeOut 56 = .ok (.aload_n 1, 1) := by decide +kernel
theorem dX7_takeOut_57 : decode cX7_takeOut 57 = .ok (.iload_n 3, 1) := by decide +kernel
theorem dX7_takeOut_58 : decode cX7_takeOut 58 = .ok (.aload_n 1, 1) := by decide +kernel
theorem dX7_takeOut_59 : decode cX7_takeOut 59 = .ok (.iload_n 3, 1) := by decide +kernel
theorem dX7_takeOut_60 : decode cX7_takeOut 60 = .ok (.bipush 19, 2) := by decide +kernel
theorem dX7_takeOut_62 : decode cX7_takeOut 62 = .ok (.iadd, 1) := by decide +kernel
theorem dX7_takeOut_63 : decode cX7_takeOut 63 = .ok (.iaload, 1) := by decide +kernel
theorem dX7_takeOut_64 : decode cX7_takeOut 64 = .ok (.iastore, 1) := by decide +kernel
theorem dX7_takeOut_65 : decode cX7_takeOut 65 = .ok (.iinc 3 1, 3) := by decide +kernel
theorem dX7_takeOut_68 : decode cX7_takeOut 68 = .ok (.goto (-26), 3) := by decide +kernel
theorem dX7_takeOut_71 : decode cX7_takeOut 71 = .ok (.aload_n 1, 1) := by decide +kernel
theorem dX7_takeOut_72 : decode cX7_takeOut 72 = .ok (.iconst 3, 1) := by decide +kernel
theorem dX7_takeOut_73 : decode cX7_takeOut 73 = .ok (.dup2, 1) := by decide +kernel
theorem dX7_takeOut_74 : decode cX7_takeOut 74 = .ok (.iaload, 1) := by decide +kernel
theorem dX7_takeOut_75 : decode cX7_takeOut 75 = .ok (.aload_n 1, 1) := by decide +kernel
theorem dX7_takeOut_76 : decode cX7_takeOut 76 = .ok (.iconst 3, 1) := by decide +kernel
theorem dX7_takeOut_77 : decode cX7_takeOut 77 = .ok (.iaload, 1) := by decide +kernel
theorem dX7_takeOut_78 : decode cX7_takeOut 78 = .ok (.iload_n 2, 1) := by decide +kernel
theorem dX7_takeOut_79 : decode cX7_takeOut 79 = .ok (.if_icmp .le 7, 3) := by decide +kernel
theorem dX7_takeOut_82 : decode cX7_takeOut 82 = .ok (.iconst 1, 1) := by decide +kernel
theorem dX7_takeOut_83 : decode cX7_takeOut 83 = .ok (.goto 4, 3) := by decide +kernel
theorem dX7_takeOut_86 : decode cX7_takeOut 86 = .ok (.iconst 0, 1) := by decide +kernel
theorem dX7_takeOut_87 : decode cX7_takeOut 87 = .ok (.isub, 1) := by decide +kernel
theorem dX7_takeOut_88 : decode cX7_takeOut 88 = .ok (.iastore, 1) := by decide +kernel
theorem dX7_takeOut_89 : decode cX7_takeOut 89 = .ok (.return_, 1) := by decide +kernel
theorem dX7_putIn_0 : decode cX7_putIn 0 = .ok (.sipush 153, 3) := by decide +kernel
theorem dX7_putIn_3 : decode cX7_putIn 3 = .ok (.bipush 19, 2) := by decide +kernel
theorem dX7_putIn_5 : decode cX7_putIn 5 = .ok (.aload_n 1, 1) := by decide +kernel
theorem dX7_putIn_6 : decode cX7_putIn 6 = .ok (.iconst 2, 1) := by decide +kernel
theorem dX7_putIn_7 : decode cX7_putIn 7 = .ok (.iaload, 1) := by decide +kernel
theorem dX7_putIn_8 : decode cX7_putIn 8 = .ok (.imul, 1) := by decide +kernel
theorem dX7_putIn_9 : decode cX7_putIn 9 = .ok (.iadd, 1) := by decide +kernel
theorem dX7_putIn_10 : decode cX7_putIn 10 = .ok (.iconst 1, 1) := by decide +kernel
theorem dX7_putIn_11 : decode cX7_putIn 11 = .ok (.isub, 1) := by decide +kernel
theorem dX7_putIn_12 : decode cX7_putIn 12 = .ok (.istore_n 3, 1) := by decide +kernel
theorem dX7_putIn_13 : decode cX7_putIn 13 = .ok (.iload_n 3, 1) := by decide +kernel
theorem dX7_putIn_14 : decode cX7_putIn 14 = .ok (.sipush 153, 3) := by decide +kernel
theorem dX7_putIn_17 : decode cX7_putIn 17 = .ok (.bipush 19, 2) := by decide +kernel
theorem dX7_putIn_19 : decode cX7_putIn 19 = .ok (.iload_n 2, 1) := by decide +kernel
theorem dX7_putIn_20 : decode cX7_putIn 20 = .ok (.imul, 1) := by decide +kernel
theorem dX7_putIn_21 : decode cX7_putIn 21 = .ok (.iadd, 1) := by decide +kernel
theorem dX7_putIn_22 : decode cX7_putIn 22 = .ok (.if_icmp .lt 18, 3) := by decide +kernel
theorem dX7_putIn_25 : decode cX7_putIn 25 = .ok (.aload_n 1, 1) := by decide +kernel
theorem dX7_putIn_26 : decode cX7_putIn 26 = .ok (.iload_n 3, 1) := by decide +kernel
theorem dX7_putIn_27 : decode cX7_putIn 27 = .ok (.bipush 19, 2) := by decide +kernel
theorem dX7_putIn_29 : decode cX7_putIn 29 = .ok (.iadd, 1) := by decide +kernel
theorem dX7_putIn_30 : decode cX7_putIn 30 = .ok (.aload_n 1, 1) := by decide +kernel
theorem dX7_putIn_31 : decode cX7_putIn 31 = .ok (.iload_n 3, 1) := by decide +kernel
theorem dX7_putIn_32 : decode cX7_putIn 32 = .ok (.iaload, 1) := by decide +kernel
theorem dX7_putIn_33 : decode cX7_putIn 33 = .ok (.iastore, 1) := by decide +kernel
theorem dX7_putIn_34 : decode cX7_putIn 34 = .ok (.iinc 3 (-1), 3) := by decide +kernel
theorem dX7_putIn_37 : decode cX7_putIn 37 = .ok (.goto (-24), 3) := by decide +kernel
theorem dX7_putIn_40 : decode cX7_putIn 40 = .ok (.iconst 0, 1) := by decide +kernel
theorem dX7_putIn_41 : decode cX7_putIn 41 = .ok (.istore_n 3, 1) := by decide +kernel
theorem dX7_putIn_42 : decode cX7_putIn 42 = .ok (.iload_n 3, 1) := by decide +kernel
theorem dX7_putIn_43 : decode cX7_putIn 43 = .ok (.bipush 19, 2) := by decide +kernel
theorem dX7_putIn_45 : decode cX7_putIn 45 = .ok (.if_icmp .ge 27, 3) := by decide +kernel
theorem dX7_putIn_48 : decode cX7_putIn 48 = .ok (.aload_n 1, 1) := by decide +kernel
theorem dX7_putIn_49 : decode cX7_putIn 49 = .ok (.sipush 153, 3) := by decide +kernel
theorem dX7_putIn_52 : decode cX7_putIn 52 = .ok (.bipush 19, 2) := by decide +kernel
theorem dX7_putIn_54 : decode cX7_putIn 54 = .ok (.iload_n 2, 1) := by decide +kernel
theorem dX7_putIn_55 : decode cX7_putIn 55 = .ok (.imul, 1) := by decide +kernel
theorem dX7_putIn_56 : decode cX7_putIn 56 = .ok (.iadd, 1) := by decide +kernel
theorem dX7_putIn_57 : decode cX7_putIn 57 = .ok (.iload_n 3, 1) := by decide +kernel
theorem dX7_putIn_58 : decode cX7_putIn 58 = .ok (.iadd, 1) := by decide +kernel
theorem dX7_putIn_59 : decode cX7_putIn 59 = .ok (.aload_n 0, 1) := by decide +kernel
theorem dX7_putIn_60 : decode cX7_putIn 60 = .ok (.getfield 28, 3) := by decide +kernel
theorem dX7_putIn_63 : decode cX7_putIn 63 = .ok (.iload_n 3, 1) := by decide +kernel
theorem dX7_putIn_64 : decode cX7_putIn 64 = .ok (.iaload, 1) := by decide +kernel
theorem dX7_putIn_65 : decode cX7_putIn 65 = .ok (.iastore, 1) := by decide +kernel
theorem dX7_putIn_66 : decode cX7_putIn 66 = .ok (.iinc 3 1, 3) := by decide +kernel
theorem dX7_putIn_69 : decode cX7_putIn 69 = .ok (.goto (-27), 3) := by decide +kernel
theorem dX7_putIn_72 : decode cX7_putIn 72 = .ok (.aload_n 1, 1) := by decide +kernel
theorem dX7_putIn_73 : decode cX7_putIn 73 = .ok (.iconst 2, 1) := by decide +kernel
theorem dX7_putIn_74 : decode cX7_putIn 74 = .ok (.dup2, 1) := by decide +kernel
theorem dX7_putIn_75 : decode cX7_putIn 75 = .ok (.iaload, 1) := by decide +kernel
theorem dX7_putIn_76 : decode cX7_putIn 76 = .ok (.iconst 1, 1) := by decide +kernel
theorem dX7_putIn_77 : decode cX7_putIn 77 = .ok (.iadd, 1) := by decide +kernel
theorem dX7_putIn_78 : decode cX7_putIn 78 = .ok (.iastore, 1) := by decide +kernel
theorem dX7_putIn_79 : decode cX7_putIn 79 = .ok (.aload_n 1, 1) := by decide +kernel
theorem dX7_putIn_80 : decode cX7_putIn 80 = .ok (.iconst 3, 1) := by decide +kernel
theorem dX7_putIn_81 : decode cX7_putIn 81 = .ok (.dup2, 1) := by decide +kernel
theorem dX7_putIn_82 : decode cX7_putIn 82 = .ok (.iaload, 1) := by decide +kernel
theorem dX7_putIn_83 : decode cX7_putIn 83 = .ok (.aload_n 1, 1) := by decide +kernel
theorem dX7_putIn_84 : decode cX7_putIn 84 = .ok (.iconst 3, 1) := by decide +kernel
theorem dX7_putIn_85 : decode cX7_putIn 85 = .ok (.iaload, 1) := by decide +kernel
theorem dX7_putIn_86 : decode cX7_putIn 86 = .ok (.iload_n 2, 1) := by decide +kernel
theorem dX7_putIn_87 : decode cX7_putIn 87 = .ok (.if_icmp .lt 7, 3) := by decide +kernel
theorem dX7_putIn_90 : decode cX7_putIn 90 = .ok (.iconst 1, 1) := by decide +kernel
theorem dX7_putIn_91 : decode cX7_putIn 91 = .ok (.goto 4, 3) := by decide +kernel
theorem dX7_putIn_94 : decode cX7_putIn 94 = .ok (.iconst 0, 1) := by decide +kernel
theorem dX7_putIn_95 : decode cX7_putIn 95 = .ok (.iadd, 1) := by decide +kernel
theorem dX7_putIn_96 : decode cX7_putIn 96 = .ok (.iastore, 1) := by decide +kernel
theorem dX7_putIn_97 : decode cX7_putIn 97 = .ok (.return_, 1) := by decide +kernel
theorem dX7_order_0 : decode cX7_order 0 = .ok (.aload_n 0, 1) := by decide +kernel
theorem dX7_order_1 : decode cX7_order 1 = .ok (.iconst 0, 1) := by decide +kernel
theorem dX7_order_2 : decode cX7_order 2 = .ok (.putfield 31, 3) := by decide +kernel
theorem dX7_order_5 : decode cX7_order 5 = .ok (.aload_n 0, 1) := by decide +kernel
theorem dX7_order_6 : decode cX7_order 6 = .ok (.iload_n 1, 1) := by decide +kernel
theorem dX7_order_7 : decode cX7_order 7 = .ok (.invokevirtual 116, 3) := by decide +kernel
theorem dX7_order_10 : decode cX7_order 10 = .ok (.ifCond .eq 39, 3) := by decide +kernel
theorem dX7_order_13 : decode cX7_order 13 = .ok (.iload_n 2, 1) := by decide +kernel
theorem dX7_order_14 : decode cX7_order 14 = .ok (.invokestatic 119, 3) := by decide +kernel
theorem dX7_order_17 : decode cX7_order 17 = .ok (.ifCond .eq 32, 3) := by decide +kernel
theorem dX7_order_20 : decode cX7_order 20 = .ok (.iload_n 3, 1) := by decide +kernel
theorem dX7_order_21 : decode cX7_order 21 = .ok (.iconst 1, 1) := by decide +kernel
theorem dX7_order_22 : decode cX7_order 22 = .ok (.iconst 4, 1) := by decide +kernel
theorem dX7_order_23 : decode cX7_order 23 = .ok (.invokestatic 38, 3) := by decide +kernel
theorem dX7_order_26 : decode cX7_order 26 = .ok (.ifCond .eq 23, 3) := by decide +kernel
theorem dX7_order_29 : decode cX7_order 29 = .ok (.iload 4, 2) := by decide +kernel
theorem dX7_order_31 : decode cX7_order 31 = .ok (.iconst 1, 1) := by decide +kernel
theorem dX7_order_32 : decode cX7_order 32 = .ok (.iconst 5, 1) := by decide +kernel
theorem dX7_order_33 : decode cX7_order 33 = .ok (.invokestatic 38, 3) := by decide +kernel
theorem dX7_order_36 : decode cX7_order 36 = .ok (.ifCond .eq 13, 3) := by decide +kernel
theorem dX7_order_39 : decode cX7_order 39 = .ok (.iload 5, 2) := by decide +kernel
theorem dX7_order_41 : decode cX7_order 41 = .ok (.iconst 0, 1) := by decide +kernel
theorem dX7_order_42 : decode cX7_order 42 = .ok (.iconst 1, 1) := by decide +kernel
theorem dX7_order_43 : decode cX7_order 43 = .ok (.invokestatic 38, 3) := by decide +kernel
theorem dX7_order_46 : decode cX7_order 46 = .ok (.ifCond .ne 5, 3) := by decide +kernel
theorem dX7_order_49 : decode cX7_order 49 = .ok (.iconst (-1), 1) := by decide +kernel
theorem dX7_order_50 : decode cX7_order 50 = .ok (.ireturn, 1) := by decide +kernel
theorem dX7_order_51 : decode cX7_order 51 = .ok (.aload_n 0, 1) := by decide +kernel
theorem dX7_order_52 : decode cX7_order 52 = .ok (.getfield 50, 3) := by decide +kernel
theorem dX7_order_55 : decode cX7_order 55 = .ok (.ifCond .eq 26, 3) := by decide +kernel
theorem dX7_order_58 : decode cX7_order 58 = .ok (.aload_n 0, 1) := by decide +kernel
theorem dX7_order_59 : decode cX7_order 59 = .ok (.getfield 7, 3) := by decide +kernel
theorem dX7_order_62 : decode cX7_order 62 = .ok (.iload_n 1, 1) := by decide +kernel
theorem dX7_order_63 : decode cX7_order 63 = .ok (.iload_n 2, 1) := by decide +kernel
theorem dX7_order_64 : decode cX7_order 64 = .ok (.invokestatic 99, 3) := by decide +kernel
theorem dX7_order_67 : decode cX7_order 67 = .ok (.bipush (-9), 2) := by decide +kernel
theorem dX7_order_69 : decode cX7_order 69 = .ok (.if_icmp .ne 12, 3) := by decide +kernel
theorem dX7_order_72 : decode cX7_order 72 = .ok (.aload_n 0, 1) := by decide +kernel
theorem dX7_order_73 : decode cX7_order 73 = .ok (.iload_n 1, 1) := by decide +kernel
theorem dX7_order_74 : decode cX7_order 74 = .ok (.iload_n 2, 1) := by decide +kernel
theorem dX7_order_75 : decode cX7_order 75 = .ok (.invokevirtual 122, 3) := by decide +kernel
theorem dX7_order_78 : decode cX7_order 78 = .ok (.ifCond .eq 6, 3) := by decide +kernel
theorem dX7_order_81 : decode cX7_order 81 = .ok (.bipush (-2), 2) := by decide +kernel
theorem dX7_order_83 : decode cX7_order 83 = .ok (.ireturn, 1) := by decide +kernel
theorem dX7_order_84 : decode cX7_order 84 = .ok (.aload_n 0, 1) := by decide +kernel
theorem dX7_order_85 : decode cX7_order 85 = .ok (.getfield 7, 3) := by decide +kernel
theorem dX7_order_88 : decode cX7_order 88 = .ok (.iconst 2, 1) := by decide +kernel
theorem dX7_order_89 : decode cX7_order 89 = .ok (.iaload, 1) := by decide +kernel
theorem dX7_order_90 : decode cX7_order 90 = .ok (.bipush 10, 2) := by decide +kernel
theorem dX7_order_92 : decode cX7_order 92 = .ok (.if_icmp .ne 6, 3) := by decide +kernel
theorem dX7_order_95 : decode cX7_order 95 = .ok (.bipush (-3), 2) := by decide +kernel
theorem dX7_order_97 : decode cX7_order 97 = .ok (.ireturn, 1) := by decide +kernel
theorem dX7_order_98 : decode cX7_order 98 = .ok (.aload_n 0, 1) := by decide +kernel
theorem dX7_order_99 : decode cX7_order 99 = .ok (.invokevirtual 102, 3) := by decide +kernel
theorem dX7_order_102 : decode cX7_order 102 = .ok (.aload_n 0, 1) := by decide +kernel
theorem dX7_order_103 : decode cX7_order 103 = .ok (.getfield 28, 3) := by decide +kernel
theorem dX7_order_106 : decode cX7_order 106 = .ok (.iconst 0, 1) := by decide +kernel
theorem dX7_order_107 : decode cX7_order 107 = .ok (.iload_n 1, 1) := by decide +kernel
theorem dX7_order_108 : decode cX7_order 108 = .ok (.iastore, 1) := by decide +kernel
theorem dX7_order_109 : decode cX7_order 109 = .ok (.aload_n 0, 1) := by decide +kernel
theorem dX7_order_110 : decode cX7_order 110 = .ok (.getfield 28, 3) := by decide +kernel
theorem dX7_order_113 : decode cX7_order 113 = .ok (.iconst 1, 1) := by decide +kernel
theorem dX7_order_114 : decode cX7_order 114 = .ok (.iload_n 2, 1) := by decide +kernel
theorem dX7_order_115 : decode cX7_order 115 = .ok (.iastore, 1) := by decide +kernel
theorem dX7_order_116 : decode cX7_order 116 = .ok (.aload_n 0, 1) := by decide +kernel
theorem dX7_order_117 : decode cX7_order 117 = .ok (.getfield 28, 3) := by decide +kernel
theorem dX7_order_120 : decode cX7_order 120 = .ok (.iconst 2, 1) := by decide +kernel
theorem dX7_order_121 : decode cX7_order 121 = .ok (.iload_n 3, 1) := by decide +kernel
theorem dX7_order_122 : decode cX7_order 122 = .ok (.iastore, 1) := by decide +kernel
theorem dX7_order_123 : decode cX7_order 123 = .ok (.aload_n 0, 1) := by decide +kernel
theorem dX7_order_124 : decode cX7_order 124 = .ok (.getfield 28, 3) := by decide +kernel
theorem dX7_order_127 : decode cX7_order 127 = .ok (.iconst 3, 1) := by decide +kernel
theorem dX7_order_128 : decode cX7_order 128 = .ok (.iload 4, 2) := by decide +kernel
theorem dX7_order_130 : decode cX7_order 130 = .ok (.iastore, 1) := by decide +kernel
theorem dX7_order_131 : decode cX7_order 131 = .ok (.aload_n 0, 1) := by decide +kernel
theorem dX7_order_132 : decode cX7_order 132 = .ok (.getfield 28, 3) := by decide +kernel
theorem dX7_order_135 : decode cX7_order 135 = .ok (.iconst 4, 1) := by decide +kernel
theorem dX7_order_136 : decode cX7_order 136 = .ok (.iload 5, 2) := by decide +kernel
theorem dX7_order_138 : decode cX7_order 138 = .ok (.iastore, 1) := by decide +kernel
theorem dX7_order_139 : decode cX7_order 139 = .ok (.aload_n 0, 1) := by decide +kernel
theorem dX7_order_140 : decode cX7_order 140 = .ok (.getfield 28, 3) := by decide +kernel
theorem dX7_order_143 : decode cX7_order 143 = .ok (.iconst 5, 1) := by decide +kernel
theorem dX7_order_144 : decode cX7_order 144 = .ok (.aload_n 0, 1) := by decide +kernel
theorem dX7_order_145 : decode cX7_order 145 = .ok (.getfield 50, 3) := by decide +kernel
theorem dX7_order_148 : decode cX7_order 148 = .ok (.iastore, 1) := by decide +kernel
theorem dX7_order_149 : decode cX7_order 149 = .ok (.iconst 0, 1) := by decide +kernel
theorem dX7_order_150 : decode cX7_order 150 = .ok (.istore 6, 2) := by decide +kernel
theorem dX7_order_152 : decode cX7_order 152 = .ok (.iload 6, 2) := by decide +kernel
theorem dX7_order_154 : decode cX7_order 154 = .ok (.bipush 12, 2) := by decide +kernel
theorem dX7_order_156 : decode cX7_order 156 = .ok (.if_icmp .ge 39, 3) := by decide +kernel
theorem dX7_order_159 : decode cX7_order 159 = .ok (.aload_n 0, 1) := by decide +kernel
theorem dX7_order_160 : decode cX7_order 160 = .ok (.getfield 28, 3) := by decide +kernel
theorem dX7_order_163 : decode cX7_order 163 = .ok (.bipush 6, 2) := by decide +kernel
theorem dX7_order_165 : decode cX7_order 165 = .ok (.iload 6, 2) := by decide +kernel
theorem dX7_order_167 : decode cX7_order 167 = .ok (.iadd, 1) := by decide +kernel
theorem dX7_order_168 : decode cX7_order 168 = .ok (.iload 6, 2) := by decide +kernel
theorem dX7_order_170 : decode cX7_order 170 = .ok (.aload_n 0, 1) := by decide +kernel
theorem dX7_order_171 : decode cX7_order 171 = .ok (.getfield 50, 3) := by decide +kernel
theorem dX7_order_174 : decode cX7_order 174 = .ok (.if_icmp .ge 13, 3) := by decide +kernel
theorem dX7_order_177 : decode cX7_order 177 = .ok (.aload_n 0, 1) := by decide +kernel
theorem dX7_order_178 : decode cX7_order 178 = .ok (.getfield 19, 3) := by decide +kernel
theorem dX7_order_181 : decode cX7_order 181 = .ok (.iload 6, 2) := by decide +kernel
theorem dX7_order_183 : decode cX7_order 183 = .ok (.iaload, 1) := by decide +kernel
theorem dX7_order_184 : decode cX7_order 184 = .ok (.goto 4, 3) := by decide +kernel
theorem dX7_order_187 : decode cX7_order 187 = .ok (.iconst 0, 1) := by decide +kernel
theorem dX7_order_188 : decode cX7_order 188 = .ok (.iastore, 1) := by decide +kernel
theorem dX7_order_189 : decode cX7_order 189 = .ok (.iinc 6 1, 3) := by decide +kernel
theorem dX7_order_192 : decode cX7_order 192 = .ok (.goto (-40), 3) := by decide +kernel
theorem dX7_order_195 : decode cX7_order 195 = .ok (.aload_n 0, 1) := by decide +kernel
theorem dX7_order_196 : decode cX7_order 196 = .ok (.getfield 28, 3) := by decide +kernel
theorem dX7_order_199 : decode cX7_order 199 = .ok (.bipush 18, 2) := by decide +kernel
theorem dX7_order_201 : decode cX7_order 201 = .ok (.iconst 0, 1) := by decide +kernel
theorem dX7_order_202 : decode cX7_order 202 = .ok (.iastore, 1) := by decide +kernel
theorem dX7_order_203 : decode cX7_order 203 = .ok (.aload_n 0, 1) := by decide +kernel
theorem dX7_order_204 : decode cX7_order 204 = .ok (.iconst 0, 1) := by decide +kernel
theorem dX7_order_205 : decode cX7_order 205 = .ok (.putfield 50, 3) := by decide +kernel
theorem dX7_order_208 : decode cX7_order 208 = .ok (.iload 5, 2) := by decide +kernel
theorem dX7_order_210 : decode cX7_order 210 = .ok (.iconst 1, 1) := by decide +kernel
theorem dX7_order_211 : decode cX7_order 211 = .ok (.if_icmp .ne 13, 3) := by decide +kernel
theorem dX7_order_214 : decode cX7_order 214 = .ok (.aload_n 0, 1) := by decide +kernel
theorem dX7_order_215 : decode cX7_order 215 = .ok (.getfield 7, 3) := by decide +kernel
theorem dX7_order_218 : decode cX7_order 218 = .ok (.invokestatic 126, 3) := by decide +kernel
theorem dX7_order_221 : decode cX7_order 221 = .ok (.goto 9, 3) := by decide +kernel
theorem dX7_order_224 : decode cX7_order 224 = .ok (.aload_n 0, 1) := by decide +kernel
theorem dX7_order_225 : decode cX7_order 225 = .ok (.getfield 7, 3) := by decide +kernel
theorem dX7_order_228 : decode cX7_order 228 = .ok (.iconst 2, 1) := by decide +kernel
theorem dX7_order_229 : decode cX7_order 229 = .ok (.iaload, 1) := by decide +kernel
theorem dX7_order_230 : decode cX7_order 230 = .ok (.istore 6, 2) := by decide +kernel
theorem dX7_order_232 : decode cX7_order 232 = .ok (.aload_n 0, 1) := by decide +kernel
theorem dX7_order_233 : decode cX7_order 233 = .ok (.aload_n 0, 1) := by decide +kernel
theorem dX7_order_234 : decode cX7_order 234 = .ok (.getfield 7, 3) := by decide +kernel
theorem dX7_order_237 : decode cX7_order 237 = .ok (.iload 6, 2) := by decide +kernel
theorem dX7_order_239 : decode cX7_order 239 = .ok (.invokevirtual 130, 3) := by decide +kernel
theorem dX7_order_242 : decode cX7_order 242 = .ok (.iload 6, 2) := by decide +kernel
theorem dX7_order_244 : decode cX7_order 244 = .ok (.ireturn, 1) := by decide +kernel
theorem dX7_hurryIn_0 : decode cX7_hurryIn 0 = .ok (.aload_n 1, 1) := by decide +kernel
theorem dX7_hurryIn_1 : decode cX7_hurryIn 1 = .ok (.iconst 3, 1) := by decide +kernel
theorem dX7_hurryIn_2 : decode cX7_hurryIn 2 = .ok (.iaload, 1) := by decide +kernel
theorem dX7_hurryIn_3 : decode cX7_hurryIn 3 = .ok (.iload_n 2, 1) := by decide +kernel
theorem dX7_hurryIn_4 : decode cX7_hurryIn 4 = .ok (.if_icmp .ne 7, 3) := by decide +kernel
theorem dX7_hurryIn_7 : decode cX7_hurryIn 7 = .ok (.iconst 1, 1) := by decide +kernel
theorem dX7_hurryIn_8 : decode cX7_hurryIn 8 = .ok (.goto 4, 3) := by decide +kernel
theorem dX7_hurryIn_11 : decode cX7_hurryIn 11 = .ok (.iconst 0, 1) := by decide +kernel
theorem dX7_hurryIn_12 : decode cX7_hurryIn 12 = .ok (.istore_n 3, 1) := by decide +kernel
theorem dX7_hurryIn_13 : decode cX7_hurryIn 13 = .ok (.aload_n 1, 1) := by decide +kernel
theorem dX7_hurryIn_14 : decode cX7_hurryIn 14 = .ok (.invokestatic 126, 3) := by decide +kernel
theorem dX7_hurryIn_17 : decode cX7_hurryIn 17 = .ok (.istore 4, 2) := by decide +kernel
theorem dX7_hurryIn_19 : decode cX7_hurryIn 19 = .ok (.aload_n 0, 1) := by decide +kernel
theorem dX7_hurryIn_20 : decode cX7_hurryIn 20 = .ok (.aload_n 1, 1) := by decide +kernel
theorem dX7_hurryIn_21 : decode cX7_hurryIn 21 = .ok (.iload_n 2, 1) := by decide +kernel
theorem dX7_hurryIn_22 : decode cX7_hurryIn 22 = .ok (.invokevirtual 134, 3) := by decide +kernel
theorem dX7_hurryIn_25 : decode cX7_hurryIn 25 = .ok (.aload_n 0, 1) := by decide +kernel
theorem dX7_hurryIn_26 : decode cX7_hurryIn 26 = .ok (.getfield 28, 3) := by decide +kernel
theorem dX7_hurryIn_29 : decode cX7_hurryIn 29 = .ok (.iconst 4, 1) := by decide +kernel
theorem dX7_hurryIn_30 : decode cX7_hurryIn 30 = .ok (.iconst 1, 1) := by decide +kernel
theorem dX7_hurryIn_31 : decode cX7_hurryIn 31 = .ok (.iastore, 1) := by decide +kernel
theorem dX7_hurryIn_32 : decode cX7_hurryIn 32 = .ok (.aload_n 0, 1) := by decide +kernel
theorem dX7_hurryIn_33 : decode cX7_hurryIn 33 = .ok (.aload_n 1, 1) := by decide +kernel
theorem dX7_hurryIn_34 : decode cX7_hurryIn 34 = .ok (.iload 4, 2) := by decide +kernel
theorem dX7_hurryIn_36 : decode cX7_hurryIn 36 = .ok (.invokevirtual 130, 3) := by decide +kernel
theorem dX7_hurryIn_39 : decode cX7_hurryIn 39 = .ok (.aload_n 1, 1) := by decide +kernel
theorem dX7_hurryIn_40 : decode cX7_hurryIn 40 = .ok (.iconst 3, 1) := by decide +kernel
theorem dX7_hurryIn_41 : decode cX7_hurryIn 41 = .ok (.iload_n 3, 1) := by decide +kernel
theorem dX7_hurryIn_42 : decode cX7_hurryIn 42 = .ok (.ifCond .eq 8, 3) := by decide +kernel
theorem dX7_hurryIn_45 : decode cX7_hurryIn 45 = .ok (.iload 4, 2) := by decide +kernel
theorem dX7_hurryIn_47 : decode cX7_hurryIn 47 = .ok (.goto 6, 3) := by decide +kernel
theorem dX7_hurryIn_50 : decode cX7_hurryIn 50 = .ok (.aload_n 1, 1) := by decide +kernel
theorem dX7_hurryIn_51 : decode cX7_hurryIn 51 = .ok (.iconst 3, 1) := by decide +kernel
theorem dX7_hurryIn_52 : decode cX7_hurryIn 52 = .ok (.iaload, 1) := by decide +kernel
theorem dX7_hurryIn_53 : decode cX7_hurryIn 53 = .ok (.iastore, 1) := by decide +kernel
theorem dX7_hurryIn_54 : decode cX7_hurryIn 54 = .ok (.iload 4, 2) := by decide +kernel
theorem dX7_hurryIn_56 : decode cX7_hurryIn 56 = .ok (.ireturn, 1) := by decide +kernel
theorem dX7_hurry_0 : decode cX7_hurry 0 = .ok (.aload_n 0, 1) := by decide +kernel
theorem dX7_hurry_1 : decode cX7_hurry 1 = .ok (.iconst 0, 1) := by decide +kernel
theorem dX7_hurry_2 : decode cX7_hurry 2 = .ok (.putfield 31, 3) := by decide +kernel
theorem dX7_hurry_5 : decode cX7_hurry 5 = .ok (.aload_n 0, 1) := by decide +kernel
theorem dX7_hurry_6 : decode cX7_hurry 6 = .ok (.iload_n 1, 1) := by decide +kernel
theorem dX7_hurry_7 : decode cX7_hurry 7 = .ok (.invokevirtual 137, 3) := by decide +kernel
theorem dX7_hurry_10 : decode cX7_hurry 10 = .ok (.ifCond .ne 5, 3) := by decide +kernel
theorem dX7_hurry_13 : decode cX7_hurry 13 = .ok (.iconst (-1), 1) := by decide +kernel
theorem dX7_hurry_14 : decode cX7_hurry 14 = .ok (.ireturn, 1) := by decide +kernel
theorem dX7_hurry_15 : decode cX7_hurry 15 = .ok (.aload_n 0, 1) := by decide +kernel
theorem dX7_hurry_16 : decode cX7_hurry 16 = .ok (.getfield 7, 3) := by decide +kernel
theorem dX7_hurry_19 : decode cX7_hurry 19 = .ok (.iload_n 1, 1) := by decide +kernel
theorem dX7_hurry_20 : decode cX7_hurry 20 = .ok (.iconst 4, 1) := by decide +kernel
theorem dX7_hurry_21 : decode cX7_hurry 21 = .ok (.invokestatic 42, 3) := by decide +kernel
theorem dX7_hurry_24 : decode cX7_hurry 24 = .ok (.iconst 1, 1) := by decide +kernel
theorem dX7_hurry_25 : decode cX7_hurry 25 = .ok (.if_icmp .ne 6, 3) := by decide +kernel
theorem dX7_hurry_28 : decode cX7_hurry 28 = .ok (.bipush (-2), 2) := by decide +kernel
theorem dX7_hurry_30 : decode cX7_hurry 30 = .ok (.ireturn, 1) := by decide +kernel
theorem dX7_hurry_31 : decode cX7_hurry 31 = .ok (.aload_n 0, 1) := by decide +kernel
theorem dX7_hurry_32 : decode cX7_hurry 32 = .ok (.invokevirtual 102, 3) := by decide +kernel
theorem dX7_hurry_35 : decode cX7_hurry 35 = .ok (.aload_n 0, 1) := by decide +kernel
theorem dX7_hurry_36 : decode cX7_hurry 36 = .ok (.aload_n 0, 1) := by decide +kernel
theorem dX7_hurry_37 : decode cX7_hurry 37 = .ok (.getfield 7, 3) := by decide +kernel
theorem dX7_hurry_40 : decode cX7_hurry 40 = .ok (.iload_n 1, 1) := by decide +kernel
theorem dX7_hurry_41 : decode cX7_hurry 41 = .ok (.invokevirtual 140, 3) := by decide +kernel
theorem dX7_hurry_44 : decode cX7_hurry 44 = .ok (.ireturn, 1) := by decide +kernel
theorem dX7_rest_0 : decode cX7_rest 0 = .ok (.aload_n 0, 1) := by decide +kernel
theorem dX7_rest_1 : decode cX7_rest 1 = .ok (.iconst 3, 1) := by decide +kernel
theorem dX7_rest_2 : decode cX7_rest 2 = .ok (.bipush (-9), 2) := by decide +kernel
theorem dX7_rest_4 : decode cX7_rest 4 = .ok (.iastore, 1) := by decide +kernel
theorem dX7_rest_5 : decode cX7_rest 5 = .ok (.aload_n 0, 1) := by decide +kernel
theorem dX7_rest_6 : decode cX7_rest 6 = .ok (.iconst 4, 1) := by decide +kernel
theorem dX7_rest_7 : decode cX7_rest 7 = .ok (.iconst 0, 1) := by decide +kernel
theorem dX7_rest_8 : decode cX7_rest 8 = .ok (.iastore, 1) := by decide +kernel
theorem dX7_rest_9 : decode cX7_rest 9 = .ok (.aload_n 0, 1) := by decide +kernel
theorem dX7_rest_10 : decode cX7_rest 10 = .ok (.iconst 5, 1) := by decide +kernel
theorem dX7_rest_11 : decode cX7_rest 11 = .ok (.bipush (-9), 2) := by decide +kernel
theorem dX7_rest_13 : decode cX7_rest 13 = .ok (.iastore, 1) := by decide +kernel
theorem dX7_rest_14 : decode cX7_rest 14 = .ok (.aload_n 0, 1) := by decide +kernel
theorem dX7_rest_15 : decode cX7_rest 15 = .ok (.bipush 6, 2) := by decide +kernel
theorem dX7_rest_17 : decode cX7_rest 17 = .ok (.iconst 0, 1) := by decide +kernel
theorem dX7_rest_18 : decode cX7_rest 18 = .ok (.iastore, 1) := by decide +kernel
theorem dX7_rest_19 : decode cX7_rest 19 = .ok (.return_, 1) := by decide +kernel
theorem dX7_cancel_0 : decode cX7_cancel 0 = .ok (.aload_n 0, 1) := by decide +kernel
theorem dX7_cancel_1 : decode cX7_cancel 1 = .ok (.iconst 0, 1) := by decide +kernel
theorem dX7_cancel_2 : decode cX7_cancel 2 = .ok (.putfield 31, 3) := by decide +kernel
theorem dX7_cancel_5 : decode cX7_cancel 5 = .ok (.aload_n 0, 1) := by decide +kernel
theorem dX7_cancel_6 : decode cX7_cancel 6 = .ok (.iload_n 1, 1) := by decide +kernel
theorem dX7_cancel_7 : decode cX7_cancel 7 = .ok (.invokevirtual 137, 3) := by decide +kernel
theorem dX7_cancel_10 : decode cX7_cancel 10 = .ok (.ifCond .ne 5, 3) := by decide +kernel
theorem dX7_cancel_13 : decode cX7_cancel 13 = .ok (.iconst (-1), 1) := by decide +kernel
theorem dX7_cancel_14 : decode cX7_cancel 14 = .ok (.ireturn, 1) := by decide +kernel
theorem dX7_cancel_15 : decode cX7_cancel 15 = .ok (.aload_n 0, 1) := by decide +kernel
theorem dX7_cancel_16 : decode cX7_cancel 16 = .ok (.invokevirtual 102, 3) := by decide +kernel
theorem dX7_cancel_19 : decode cX7_cancel 19 = .ok (.aload_n 0, 1) := by decide +kernel
theorem dX7_cancel_20 : decode cX7_cancel 20 = .ok (.getfield 7, 3) := by decide +kernel
theorem dX7_cancel_23 : decode cX7_cancel 23 = .ok (.iconst 3, 1) := by decide +kernel
theorem dX7_cancel_24 : decode cX7_cancel 24 = .ok (.iaload, 1) := by decide +kernel
theorem dX7_cancel_25 : decode cX7_cancel 25 = .ok (.iload_n 1, 1) := by decide +kernel
theorem dX7_cancel_26 : decode cX7_cancel 26 = .ok (.if_icmp .ne 25, 3) := by decide +kernel
theorem dX7_cancel_29 : decode cX7_cancel 29 = .ok (.aload_n 0, 1) := by decide +kernel
theorem dX7_cancel_30 : decode cX7_cancel 30 = .ok (.getfield 7, 3) := by decide +kernel
theorem dX7_cancel_33 : decode cX7_cancel 33 = .ok (.aload_n 0, 1) := by decide +kernel
theorem dX7_cancel_34 : decode cX7_cancel 34 = .ok (.getfield 7, 3) := by decide +kernel
theorem dX7_cancel_37 : decode cX7_cancel 37 = .ok (.iconst 5, 1) := by decide +kernel
theorem dX7_cancel_38 : decode cX7_cancel 38 = .ok (.iaload, 1) := by decide +kernel
theorem dX7_cancel_39 : decode cX7_cancel 39 = .ok (.iconst 2, 1) := by decide +kernel
theorem dX7_cancel_40 : decode cX7_cancel 40 = .ok (.iconst 0, 1) := by decide +kernel
theorem dX7_cancel_41 : decode cX7_cancel 41 = .ok (.invokestatic 63, 3) := by decide +kernel
theorem dX7_cancel_44 : decode cX7_cancel 44 = .ok (.aload_n 0, 1) := by decide +kernel
theorem dX7_cancel_45 : decode cX7_cancel 45 = .ok (.getfield 7, 3) := by decide +kernel
theorem dX7_cancel_48 : decode cX7_cancel 48 = .ok (.invokestatic 143, 3) := by decide +kernel
theorem dX7_cancel_51 : decode cX7_cancel 51 = .ok (.aload_n 0, 1) := by decide +kernel
theorem dX7_cancel_52 : decode cX7_cancel 52 = .ok (.aload_n 0, 1) := by decide +kernel
theorem dX7_cancel_53 : decode cX7_cancel 53 = .ok (.getfield 7, 3) := by decide +kernel
theorem dX7_cancel_56 : decode cX7_cancel 56 = .ok (.iload_n 1, 1) := by decide +kernel
theorem dX7_cancel_57 : decode cX7_cancel 57 = .ok (.invokevirtual 134, 3) := by decide +kernel
theorem dX7_cancel_60 : decode cX7_cancel 60 = .ok (.aload_n 0, 1) := by decide +kernel
theorem dX7_cancel_61 : decode cX7_cancel 61 = .ok (.getfield 7, 3) := by decide +kernel
theorem dX7_cancel_64 : decode cX7_cancel 64 = .ok (.iconst 2, 1) := by decide +kernel
theorem dX7_cancel_65 : decode cX7_cancel 65 = .ok (.iaload, 1) := by decide +kernel
theorem dX7_cancel_66 : decode cX7_cancel 66 = .ok (.ireturn, 1) := by decide +kernel
theorem dX7_goesOn_0 : decode cX7_goesOn 0 = .ok (.iconst 0, 1) := by decide +kernel
theorem dX7_goesOn_1 : decode cX7_goesOn 1 = .ok (.istore_n 2, 1) := by decide +kernel
theorem dX7_goesOn_2 : decode cX7_goesOn 2 = .ok (.iload_n 2, 1) := by decide +kernel
theorem dX7_goesOn_3 : decode cX7_goesOn 3 = .ok (.aload_n 1, 1) := by decide +kernel
theorem dX7_goesOn_4 : decode cX7_goesOn 4 = .ok (.iconst 2, 1) := by decide +kernel
theorem dX7_goesOn_5 : decode cX7_goesOn 5 = .ok (.iaload, 1) := by decide +kernel
theorem dX7_goesOn_6 : decode cX7_goesOn 6 = .ok (.if_icmp .ge 106, 3) := by decide +kernel
theorem dX7_goesOn_9 : decode cX7_goesOn 9 = .ok (.aload_n 1, 1) := by decide +kernel
theorem dX7_goesOn_10 : decode cX7_goesOn 10 = .ok (.iconst 3, 1) := by decide +kernel
theorem dX7_goesOn_11 : decode cX7_goesOn 11 = .ok (.iaload, 1) := by decide +kernel
theorem dX7_goesOn_12 : decode cX7_goesOn 12 = .ok (.bipush (-9), 2) := by decide +kernel
theorem dX7_goesOn_14 : decode cX7_goesOn 14 = .ok (.if_icmp .ne 98, 3) := by decide +kernel
theorem dX7_goesOn_17 : decode cX7_goesOn 17 = .ok (.aload_n 0, 1) := by decide +kernel
theorem dX7_goesOn_18 : decode cX7_goesOn 18 = .ok (.aload_n 1, 1) := by decide +kernel
theorem dX7_goesOn_19 : decode cX7_goesOn 19 = .ok (.aload_n 1, 1) := by decide +kernel
theorem dX7_goesOn_20 : decode cX7_goesOn 20 = .ok (.iload_n 2, 1) := by decide +kernel
theorem dX7_goesOn_21 : decode cX7_goesOn 21 = .ok (.invokestatic 147, 3) := by decide +kernel
theorem dX7_goesOn_24 : decode cX7_goesOn 24 = .ok (.aload_n 1, 1) := by decide +kernel
theorem dX7_goesOn_25 : decode cX7_goesOn 25 = .ok (.iload_n 2, 1) := by decide +kernel
theorem dX7_goesOn_26 : decode cX7_goesOn 26 = .ok (.iconst 3, 1) := by decide +kernel
theorem dX7_goesOn_27 : decode cX7_goesOn 27 = .ok (.invokestatic 42, 3) := by decide +kernel
theorem dX7_goesOn_30 : decode cX7_goesOn 30 = .ok (.invokevirtual 150, 3) := by decide +kernel
theorem dX7_goesOn_33 : decode cX7_goesOn 33 = .ok (.ifCond .eq 73, 3) := by decide +kernel
theorem dX7_goesOn_36 : decode cX7_goesOn 36 = .ok (.aload_n 1, 1) := by decide +kernel
theorem dX7_goesOn_37 : decode cX7_goesOn 37 = .ok (.iconst 3, 1) := by decide +kernel
theorem dX7_goesOn_38 : decode cX7_goesOn 38 = .ok (.iload_n 2, 1) := by decide +kernel
theorem dX7_goesOn_39 : decode cX7_goesOn 39 = .ok (.iastore, 1) := by decide +kernel
theorem dX7_goesOn_40 : decode cX7_goesOn 40 = .ok (.aload_n 1, 1) := by decide +kernel
theorem dX7_goesOn_41 : decode cX7_goesOn 41 = .ok (.iconst 5, 1) := by decide +kernel
theorem dX7_goesOn_42 : decode cX7_goesOn 42 = .ok (.aload_n 0, 1) := by decide +kernel
theorem dX7_goesOn_43 : decode cX7_goesOn 43 = .ok (.getfield 74, 3) := by decide +kernel
theorem dX7_goesOn_46 : decode cX7_goesOn 46 = .ok (.iastore, 1) := by decide +kernel
theorem dX7_goesOn_47 : decode cX7_goesOn 47 = .ok (.aload_n 1, 1) := by decide +kernel
theorem dX7_goesOn_48 : decode cX7_goesOn 48 = .ok (.bipush 6, 2) := by decide +kernel
theorem dX7_goesOn_50 : decode cX7_goesOn 50 = .ok (.aload_n 0, 1) := by decide +kernel
theorem dX7_goesOn_51 : decode cX7_goesOn 51 = .ok (.getfield 89, 3) := by decide +kernel
theorem dX7_goesOn_54 : decode cX7_goesOn 54 = .ok (.iastore, 1) := by decide +kernel
theorem dX7_goesOn_55 : decode cX7_goesOn 55 = .ok (.aload_n 1, 1) := by decide +kernel
theorem dX7_goesOn_56 : decode cX7_goesOn 56 = .ok (.iconst 4, 1) := by decide +kernel
theorem dX7_goesOn_57 : decode cX7_goesOn 57 = .ok (.aload_n 1, 1) := by decide +kernel
theorem dX7_goesOn_58 : decode cX7_goesOn 58 = .ok (.iload_n 2, 1) := by decide +kernel
theorem dX7_goesOn_59 : decode cX7_goesOn 59 = .ok (.invokestatic 153, 3) := by decide +kernel
theorem dX7_goesOn_62 : decode cX7_goesOn 62 = .ok (.aload_n 0, 1) := by decide +kernel
theorem dX7_goesOn_63 : decode cX7_goesOn 63 = .ok (.getfield 77, 3) := by decide +kernel
theorem dX7_goesOn_66 : decode cX7_goesOn 66 = .ok (.ifCond .eq 8, 3) := by decide +kernel
theorem dX7_goesOn_69 : decode cX7_goesOn 69 = .ok (.bipush 10, 2) := by decide +kernel
theorem dX7_goesOn_71 : decode cX7_goesOn 71 = .ok (.goto 4, 3) := by decide +kernel
theorem dX7_goesOn_74 : decode cX7_goesOn 74 = .ok (.iconst 0, 1) := by decide +kernel
theorem dX7_goesOn_75 : decode cX7_goesOn 75 = .ok (.iadd, 1) := by decide +kernel
theorem dX7_goesOn_76 : decode cX7_goesOn 76 = .ok (.iastore, 1) := by decide +kernel
theorem dX7_goesOn_77 : decode cX7_goesOn 77 = .ok (.aload_n 1, 1) := by decide +kernel
theorem dX7_goesOn_78 : decode cX7_goesOn 78 = .ok (.aload_n 0, 1) := by decide +kernel
theorem dX7_goesOn_79 : decode cX7_goesOn 79 = .ok (.getfield 74, 3) := by decide +kernel
theorem dX7_goesOn_82 : decode cX7_goesOn 82 = .ok (.iconst 2, 1) := by decide +kernel
theorem dX7_goesOn_83 : decode cX7_goesOn 83 = .ok (.iconst 1, 1) := by decide +kernel
theorem dX7_goesOn_84 : decode cX7_goesOn 84 = .ok (.invokestatic 63, 3) := by decide +kernel
theorem dX7_goesOn_87 : decode cX7_goesOn 87 = .ok (.aload_n 0, 1) := by decide +kernel
theorem dX7_goesOn_88 : decode cX7_goesOn 88 = .ok (.getfield 77, 3) := by decide +kernel
theorem dX7_goesOn_91 : decode cX7_goesOn 91 = .ok (.ifCond .eq 15, 3) := by decide +kernel
theorem dX7_goesOn_94 : decode cX7_goesOn 94 = .ok (.aload_n 1, 1) := by decide +kernel
theorem dX7_goesOn_95 : decode cX7_goesOn 95 = .ok (.aload_n 0, 1) := by decide +kernel
theorem dX7_goesOn_96 : decode cX7_goesOn 96 = .ok (.getfield 74, 3) := by decide +kernel
theorem dX7_goesOn_99 : decode cX7_goesOn 99 = .ok (.aload_n 0, 1) := by decide +kernel
theorem dX7_goesOn_100 : decode cX7_goesOn 100 = .ok (.getfield 89, 3) := by decide +kernel
theorem dX7_goesOn_103 : decode cX7_goesOn 103 = .ok (.invokestatic 112, 3) := by decide +kernel
theorem dX7_goesOn_106 : decode cX7_goesOn 106 = .ok (.iinc 2 1, 3) := by decide +kernel
theorem dX7_goesOn_109 : decode cX7_goesOn 109 = .ok (.goto (-107), 3) := by decide +kernel
theorem dX7_goesOn_112 : decode cX7_goesOn 112 = .ok (.aload_n 1, 1) := by decide +kernel
theorem dX7_goesOn_113 : decode cX7_goesOn 113 = .ok (.iconst 3, 1) := by decide +kernel
theorem dX7_goesOn_114 : decode cX7_goesOn 114 = .ok (.iaload, 1) := by decide +kernel
theorem dX7_goesOn_115 : decode cX7_goesOn 115 = .ok (.bipush (-9), 2) := by decide +kernel
theorem dX7_goesOn_117 : decode cX7_goesOn 117 = .ok (.if_icmp .eq 7, 3) := by decide +kernel
theorem dX7_goesOn_120 : decode cX7_goesOn 120 = .ok (.iconst 1, 1) := by decide +kernel
theorem dX7_goesOn_121 : decode cX7_goesOn 121 = .ok (.goto 4, 3) := by decide +kernel
theorem dX7_goesOn_124 : decode cX7_goesOn 124 = .ok (.iconst 0, 1) := by decide +kernel
theorem dX7_goesOn_125 : decode cX7_goesOn 125 = .ok (.ireturn, 1) := by decide +kernel
theorem dX7_finish_0 : decode cX7_finish 0 = .ok (.aload_n 1, 1) := by decide +kernel
theorem dX7_finish_1 : decode cX7_finish 1 = .ok (.iconst 3, 1) := by decide +kernel
theorem dX7_finish_2 : decode cX7_finish 2 = .ok (.iaload, 1) := by decide +kernel
theorem dX7_finish_3 : decode cX7_finish 3 = .ok (.istore_n 2, 1) := by decide +kernel
theorem dX7_finish_4 : decode cX7_finish 4 = .ok (.aload_n 1, 1) := by decide +kernel
theorem dX7_finish_5 : decode cX7_finish 5 = .ok (.iconst 5, 1) := by decide +kernel
theorem dX7_finish_6 : decode cX7_finish 6 = .ok (.iaload, 1) := by decide +kernel
theorem dX7_finish_7 : decode cX7_finish 7 = .ok (.istore_n 3, 1) := by decide +kernel
theorem dX7_finish_8 : decode cX7_finish 8 = .ok (.aload_n 1, 1) := by decide +kernel
theorem dX7_finish_9 : decode cX7_finish 9 = .ok (.iload_n 3, 1) := by decide +kernel
theorem dX7_finish_10 : decode cX7_finish 10 = .ok (.iconst 3, 1) := by decide +kernel
theorem dX7_finish_11 : decode cX7_finish 11 = .ok (.aload_n 1, 1) := by decide +kernel
theorem dX7_finish_12 : decode cX7_finish 12 = .ok (.bipush 6, 2) := by decide +kernel
theorem dX7_finish_14 : decode cX7_finish 14 = .ok (.iaload, 1) := by decide +kernel
theorem dX7_finish_15 : decode cX7_finish 15 = .ok (.iadd, 1) := by decide +kernel
theorem dX7_finish_16 : decode cX7_finish 16 = .ok (.aload_n 1, 1) := by decide +kernel
theorem dX7_finish_17 : decode cX7_finish 17 = .ok (.iload_n 2, 1) := by decide +kernel
theorem dX7_finish_18 : decode cX7_finish 18 = .ok (.iconst 3, 1) := by decide +kernel
theorem dX7_finish_19 : decode cX7_finish 19 = .ok (.invokestatic 42, 3) := by decide +kernel
theorem dX7_finish_22 : decode cX7_finish 22 = .ok (.invokestatic 63, 3) := by decide +kernel
theorem dX7_finish_25 : decode cX7_finish 25 = .ok (.aload_n 1, 1) := by decide +kernel
theorem dX7_finish_26 : decode cX7_finish 26 = .ok (.iload_n 3, 1) := by decide +kernel
theorem dX7_finish_27 : decode cX7_finish 27 = .ok (.aload_n 1, 1) := by decide +kernel
theorem dX7_finish_28 : decode cX7_finish 28 = .ok (.iload_n 2, 1) := by decide +kernel
theorem dX7_finish_29 : decode cX7_finish 29 = .ok (.iconst 0, 1) := by decide +kernel
theorem dX7_finish_30 : decode cX7_finish 30 = .ok (.invokestatic 42, 3) := by decide +kernel
theorem dX7_finish_33 : decode cX7_finish 33 = .ok (.aload_n 1, 1) := by decide +kernel
theorem dX7_finish_34 : decode cX7_finish 34 = .ok (.iload_n 2, 1) := by decide +kernel
theorem dX7_finish_35 : decode cX7_finish 35 = .ok (.iconst 1, 1) := by decide +kernel
theorem dX7_finish_36 : decode cX7_finish 36 = .ok (.invokestatic 42, 3) := by decide +kernel
theorem dX7_finish_39 : decode cX7_finish 39 = .ok (.invokestatic 156, 3) := by decide +kernel
theorem dX7_finish_42 : decode cX7_finish 42 = .ok (.aload_n 1, 1) := by decide +kernel
theorem dX7_finish_43 : decode cX7_finish 43 = .ok (.invokestatic 143, 3) := by decide +kernel
theorem dX7_finish_46 : decode cX7_finish 46 = .ok (.aload_n 0, 1) := by decide +kernel
theorem dX7_finish_47 : decode cX7_finish 47 = .ok (.aload_n 1, 1) := by decide +kernel
theorem dX7_finish_48 : decode cX7_finish 48 = .ok (.iload_n 2, 1) := by decide +kernel
theorem dX7_finish_49 : decode cX7_finish 49 = .ok (.invokevirtual 134, 3) := by decide +kernel
theorem dX7_finish_52 : decode cX7_finish 52 = .ok (.aload_n 1, 1) := by decide +kernel
theorem dX7_finish_53 : decode cX7_finish 53 = .ok (.bipush 7, 2) := by decide +kernel
theorem dX7_finish_55 : decode cX7_finish 55 = .ok (.dup2, 1) := by decide +kernel
theorem dX7_finish_56 : decode cX7_finish 56 = .ok (.iaload, 1) := by decide +kernel
theorem dX7_finish_57 : decode cX7_finish 57 = .ok (.iconst 1, 1) := by decide +kernel
theorem dX7_finish_58 : decode cX7_finish 58 = .ok (.iadd, 1) := by decide +kernel
theorem dX7_finish_59 : decode cX7_finish 59 = .ok (.iastore, 1) := by decide +kernel
theorem dX7_finish_60 : decode cX7_finish 60 = .ok (.return_, 1) := by decide +kernel
theorem dX7_work_0 : decode cX7_work 0 = .ok (.aload_n 0, 1) := by decide +kernel
theorem dX7_work_1 : decode cX7_work 1 = .ok (.iconst 0, 1) := by decide +kernel
theorem dX7_work_2 : decode cX7_work 2 = .ok (.putfield 31, 3) := by decide +kernel
theorem dX7_work_5 : decode cX7_work 5 = .ok (.iload_n 1, 1) := by decide +kernel
theorem dX7_work_6 : decode cX7_work 6 = .ok (.iconst 1, 1) := by decide +kernel
theorem dX7_work_7 : decode cX7_work 7 = .ok (.sipush 600, 3) := by decide +kernel
theorem dX7_work_10 : decode cX7_work 10 = .ok (.invokestatic 38, 3) := by decide +kernel
theorem dX7_work_13 : decode cX7_work 13 = .ok (.ifCond .ne 5, 3) := by decide +kernel
theorem dX7_work_16 : decode cX7_work 16 = .ok (.iconst (-1), 1) := by decide +kernel
theorem dX7_work_17 : decode cX7_work 17 = .ok (.ireturn, 1) := by decide +kernel
theorem dX7_work_18 : decode cX7_work 18 = .ok (.aload_n 0, 1) := by decide +kernel
theorem dX7_work_19 : decode cX7_work 19 = .ok (.invokevirtual 102, 3) := by decide +kernel
theorem dX7_work_22 : decode cX7_work 22 = .ok (.iload_n 1, 1) := by decide +kernel
theorem dX7_work_23 : decode cX7_work 23 = .ok (.istore_n 2, 1) := by decide +kernel
theorem dX7_work_24 : decode cX7_work 24 = .ok (.iconst 0, 1) := by decide +kernel
theorem dX7_work_25 : decode cX7_work 25 = .ok (.istore_n 3, 1) := by decide +kernel
theorem dX7_work_26 : decode cX7_work 26 = .ok (.iload_n 2, 1) := by decide +kernel
theorem dX7_work_27 : decode cX7_work 27 = .ok (.ifCond .le 75, 3) := by decide +kernel
theorem dX7_work_30 : decode cX7_work 30 = .ok (.aload_n 0, 1) := by decide +kernel
theorem dX7_work_31 : decode cX7_work 31 = .ok (.aload_n 0, 1) := by decide +kernel
theorem dX7_work_32 : decode cX7_work 32 = .ok (.getfield 7, 3) := by decide +kernel
theorem dX7_work_35 : decode cX7_work 35 = .ok (.invokevirtual 159, 3) := by decide +kernel
theorem dX7_work_38 : decode cX7_work 38 = .ok (.ifCond .eq 64, 3) := by decide +kernel
theorem dX7_work_41 : decode cX7_work 41 = .ok (.iload_n 2, 1) := by decide +kernel
theorem dX7_work_42 : decode cX7_work 42 = .ok (.aload_n 0, 1) := by decide +kernel
theorem dX7_work_43 : decode cX7_work 43 = .ok (.getfield 7, 3) := by decide +kernel
theorem dX7_work_46 : decode cX7_work 46 = .ok (.iconst 4, 1) := by decide +kernel
theorem dX7_work_47 : decode cX7_work 47 = .ok (.iaload, 1) := by decide +kernel
theorem dX7_work_48 : decode cX7_work 48 = .ok (.if_icmp .ge 7, 3) := by decide +kernel
theorem dX7_work_51 : decode cX7_work 51 = .ok (.iload_n 2, 1) := by decide +kernel
theorem dX7_work_52 : decode cX7_work 52 = .ok (.goto 9, 3) := by decide +kernel
theorem dX7_work_55 : decode cX7_work 55 = .ok (.aload_n 0, 1) := by decide +kernel
theorem dX7_work_56 : decode cX7_work 56 = .ok (.getfield 7, 3) := by decide +kernel
theorem dX7_work_59 : decode cX7_work 59 = .ok (.iconst 4, 1) := by decide +kernel
theorem dX7_work_60 : decode cX7_work 60 = .ok (.iaload, 1) := by decide +kernel
theorem dX7_work_61 : decode cX7_work 61 = .ok (.istore 4, 2) := by decide +kernel
theorem dX7_work_63 : decode cX7_work 63 = .ok (.aload_n 0, 1) := by decide +kernel
theorem dX7_work_64 : decode cX7_work 64 = .ok (.getfield 7, 3) := by decide +kernel
theorem dX7_work_67 : decode cX7_work 67 = .ok (.iconst 4, 1) := by decide +kernel
theorem dX7_work_68 : decode cX7_work 68 = .ok (.dup2, 1) := by decide +kernel
theorem dX7_work_69 : decode cX7_work 69 = .ok (.iaload, 1) := by decide +kernel
theorem dX7_work_70 : decode cX7_work 70 = .ok (.iload 4, 2) := by decide +kernel
theorem dX7_work_72 : decode cX7_work 72 = .ok (.isub, 1) := by decide +kernel
theorem dX7_work_73 : decode cX7_work 73 = .ok (.iastore, 1) := by decide +kernel
theorem dX7_work_74 : decode cX7_work 74 = .ok (.iload_n 2, 1) := by decide +kernel
theorem dX7_work_75 : decode cX7_work 75 = .ok (.iload 4, 2) := by decide +kernel
theorem dX7_work_77 : decode cX7_work 77 = .ok (.isub, 1) := by decide +kernel
theorem dX7_work_78 : decode cX7_work 78 = .ok (.istore_n 2, 1) := by decide +kernel
theorem dX7_work_79 : decode cX7_work 79 = .ok (.aload_n 0, 1) := by decide +kernel
theorem dX7_work_80 : decode cX7_work 80 = .ok (.getfield 7, 3) := by decide +kernel
theorem dX7_work_83 : decode cX7_work 83 = .ok (.iconst 4, 1) := by decide +kernel
theorem dX7_work_84 : decode cX7_work 84 = .ok (.iaload, 1) := by decide +kernel
theorem dX7_work_85 : decode cX7_work 85 = .ok (.ifCond .ne 14, 3) := by decide +kernel
theorem dX7_work_88 : decode cX7_work 88 = .ok (.aload_n 0, 1) := by decide +kernel
theorem dX7_work_89 : decode cX7_work 89 = .ok (.aload_n 0, 1) := by decide +kernel
theorem dX7_work_90 : decode cX7_work 90 = .ok (.getfield 7, 3) := by decide +kernel
theorem dX7_work_93 : decode cX7_work 93 = .ok (.invokevirtual 163, 3) := by decide +kernel
theorem dX7_work_96 : decode cX7_work 96 = .ok (.iinc 3 1, 3) := by decide +kernel
theorem dX7_work_99 : decode cX7_work 99 = .ok (.goto (-73), 3) := by decide +kernel
theorem dX7_work_102 : decode cX7_work 102 = .ok (.iload_n 3, 1) := by decide +kernel
theorem dX7_work_103 : decode cX7_work 103 = .ok (.ireturn, 1) := by decide +kernel
theorem dX7_slip_0 : decode cX7_slip 0 = .ok (.aload_n 0, 1) := by decide +kernel
theorem dX7_slip_1 : decode cX7_slip 1 = .ok (.iconst 0, 1) := by decide +kernel
theorem dX7_slip_2 : decode cX7_slip 2 = .ok (.putfield 31, 3) := by decide +kernel
theorem dX7_slip_5 : decode cX7_slip 5 = .ok (.aload_n 0, 1) := by decide +kernel
theorem dX7_slip_6 : decode cX7_slip 6 = .ok (.getfield 7, 3) := by decide +kernel
theorem dX7_slip_9 : decode cX7_slip 9 = .ok (.iconst 3, 1) := by decide +kernel
theorem dX7_slip_10 : decode cX7_slip 10 = .ok (.iaload, 1) := by decide +kernel
theorem dX7_slip_11 : decode cX7_slip 11 = .ok (.bipush (-9), 2) := by decide +kernel
theorem dX7_slip_13 : decode cX7_slip 13 = .ok (.if_icmp .ne 6, 3) := by decide +kernel
theorem dX7_slip_16 : decode cX7_slip 16 = .ok (.bipush (-2), 2) := by decide +kernel
theorem dX7_slip_18 : decode cX7_slip 18 = .ok (.ireturn, 1) := by decide +kernel
theorem dX7_slip_19 : decode cX7_slip 19 = .ok (.aload_n 0, 1) := by decide +kernel
theorem dX7_slip_20 : decode cX7_slip 20 = .ok (.invokevirtual 102, 3) := by decide +kernel
theorem dX7_slip_23 : decode cX7_slip 23 = .ok (.aload_n 0, 1) := by decide +kernel
theorem dX7_slip_24 : decode cX7_slip 24 = .ok (.getfield 7, 3) := by decide +kernel
theorem dX7_slip_27 : decode cX7_slip 27 = .ok (.iconst 3, 1) := by decide +kernel
theorem dX7_slip_28 : decode cX7_slip 28 = .ok (.iaload, 1) := by decide +kernel
theorem dX7_slip_29 : decode cX7_slip 29 = .ok (.istore_n 1, 1) := by decide +kernel
theorem dX7_slip_30 : decode cX7_slip 30 = .ok (.aload_n 0, 1) := by decide +kernel
theorem dX7_slip_31 : decode cX7_slip 31 = .ok (.getfield 7, 3) := by decide +kernel
theorem dX7_slip_34 : decode cX7_slip 34 = .ok (.iload_n 1, 1) := by decide +kernel
theorem dX7_slip_35 : decode cX7_slip 35 = .ok (.iconst 3, 1) := by decide +kernel
theorem dX7_slip_36 : decode cX7_slip 36 = .ok (.invokestatic 42, 3) := by decide +kernel
theorem dX7_slip_39 : decode cX7_slip 39 = .ok (.istore_n 2, 1) := by decide +kernel
theorem dX7_slip_40 : decode cX7_slip 40 = .ok (.aload_n 0, 1) := by decide +kernel
theorem dX7_slip_41 : decode cX7_slip 41 = .ok (.getfield 7, 3) := by decide +kernel
theorem dX7_slip_44 : decode cX7_slip 44 = .ok (.iconst 5, 1) := by decide +kernel
theorem dX7_slip_45 : decode cX7_slip 45 = .ok (.iaload, 1) := by decide +kernel
theorem dX7_slip_46 : decode cX7_slip 46 = .ok (.istore_n 3, 1) := by decide +kernel
theorem dX7_slip_47 : decode cX7_slip 47 = .ok (.aload_n 0, 1) := by decide +kernel
theorem dX7_slip_48 : decode cX7_slip 48 = .ok (.getfield 7, 3) := by decide +kernel
theorem dX7_slip_51 : decode cX7_slip 51 = .ok (.bipush 6, 2) := by decide +kernel
theorem dX7_slip_53 : decode cX7_slip 53 = .ok (.iaload, 1) := by decide +kernel
theorem dX7_slip_54 : decode cX7_slip 54 = .ok (.istore 4, 2) := by decide +kernel
theorem dX7_slip_56 : decode cX7_slip 56 = .ok (.aload_n 0, 1) := by decide +kernel
theorem dX7_slip_57 : decode cX7_slip 57 = .ok (.getfield 7, 3) := by decide +kernel
theorem dX7_slip_60 : decode cX7_slip 60 = .ok (.iload_n 3, 1) := by decide +kernel
theorem dX7_slip_61 : decode cX7_slip 61 = .ok (.iconst 3, 1) := by decide +kernel
theorem dX7_slip_62 : decode cX7_slip 62 = .ok (.iload 4, 2) := by decide +kernel
theorem dX7_slip_64 : decode cX7_slip 64 = .ok (.iadd, 1) := by decide +kernel
theorem dX7_slip_65 : decode cX7_slip 65 = .ok (.iload_n 2, 1) := by decide +kernel
theorem dX7_slip_66 : decode cX7_slip 66 = .ok (.invokestatic 63, 3) := by decide +kernel
theorem dX7_slip_69 : decode cX7_slip 69 = .ok (.aload_n 0, 1) := by decide +kernel
theorem dX7_slip_70 : decode cX7_slip 70 = .ok (.getfield 7, 3) := by decide +kernel
theorem dX7_slip_73 : decode cX7_slip 73 = .ok (.bipush 8, 2) := by decide +kernel
theorem dX7_slip_75 : decode cX7_slip 75 = .ok (.dup2, 1) := by decide +kernel
theorem dX7_slip_76 : decode cX7_slip 76 = .ok (.iaload, 1) := by decide +kernel
theorem dX7_slip_77 : decode cX7_slip 77 = .ok (.iconst 1, 1) := by decide +kernel
theorem dX7_slip_78 : decode cX7_slip 78 = .ok (.iadd, 1) := by decide +kernel
theorem dX7_slip_79 : decode cX7_slip 79 = .ok (.iastore, 1) := by decide +kernel
theorem dX7_slip_80 : decode cX7_slip 80 = .ok (.aload_n 0, 1) := by decide +kernel
theorem dX7_slip_81 : decode cX7_slip 81 = .ok (.getfield 7, 3) := by decide +kernel
theorem dX7_slip_84 : decode cX7_slip 84 = .ok (.iload_n 3, 1) := by decide +kernel
theorem dX7_slip_85 : decode cX7_slip 85 = .ok (.iconst 1, 1) := by decide +kernel
theorem dX7_slip_86 : decode cX7_slip 86 = .ok (.iload 4, 2) := by decide +kernel
theorem dX7_slip_88 : decode cX7_slip 88 = .ok (.isub, 1) := by decide +kernel
theorem dX7_slip_89 : decode cX7_slip 89 = .ok (.iload_n 2, 1) := by decide +kernel
theorem dX7_slip_90 : decode cX7_slip 90 = .ok (.invokestatic 71, 3) := by decide +kernel
theorem dX7_slip_93 : decode cX7_slip 93 = .ok (.ifCond .eq 30, 3) := by decide +kernel
theorem dX7_slip_96 : decode cX7_slip 96 = .ok (.aload_n 0, 1) := by decide +kernel
theorem dX7_slip_97 : decode cX7_slip 97 = .ok (.getfield 7, 3) := by decide +kernel
theorem dX7_slip_100 : decode cX7_slip 100 = .ok (.bipush 6, 2) := by decide +kernel
theorem dX7_slip_102 : decode cX7_slip 102 = .ok (.iconst 1, 1) := by decide +kernel
theorem dX7_slip_103 : decode cX7_slip 103 = .ok (.iload 4, 2) := by decide +kernel
theorem dX7_slip_105 : decode cX7_slip 105 = .ok (.isub, 1) := by decide +kernel
theorem dX7_slip_106 : decode cX7_slip 106 = .ok (.iastore, 1) := by decide +kernel
theorem dX7_slip_107 : decode cX7_slip 107 = .ok (.aload_n 0, 1) := by decide +kernel
theorem dX7_slip_108 : decode cX7_slip 108 = .ok (.getfield 7, 3) := by decide +kernel
theorem dX7_slip_111 : decode cX7_slip 111 = .ok (.iconst 4, 1) := by decide +kernel
theorem dX7_slip_112 : decode cX7_slip 112 = .ok (.aload_n 0, 1) := by decide +kernel
theorem dX7_slip_113 : decode cX7_slip 113 = .ok (.getfield 7, 3) := by decide +kernel
theorem dX7_slip_116 : decode cX7_slip 116 = .ok (.iload_n 1, 1) := by decide +kernel
theorem dX7_slip_117 : decode cX7_slip 117 = .ok (.invokestatic 153, 3) := by decide +kernel
theorem dX7_slip_120 : decode cX7_slip 120 = .ok (.iastore, 1) := by decide +kernel
theorem dX7_slip_121 : decode cX7_slip 121 = .ok (.iconst 1, 1) := by decide +kernel
theorem dX7_slip_122 : decode cX7_slip 122 = .ok (.ireturn, 1) := by decide +kernel
theorem dX7_slip_123 : decode cX7_slip 123 = .ok (.aload_n 0, 1) := by decide +kernel
theorem dX7_slip_124 : decode cX7_slip 124 = .ok (.getfield 7, 3) := by decide +kernel
theorem dX7_slip_127 : decode cX7_slip 127 = .ok (.iload_n 3, 1) := by decide +kernel
theorem dX7_slip_128 : decode cX7_slip 128 = .ok (.iload 4, 2) := by decide +kernel
theorem dX7_slip_130 : decode cX7_slip 130 = .ok (.iload_n 2, 1) := by decide +kernel
theorem dX7_slip_131 : decode cX7_slip 131 = .ok (.invokestatic 67, 3) := by decide +kernel
theorem dX7_slip_134 : decode cX7_slip 134 = .ok (.ifCond .eq 32, 3) := by decide +kernel
theorem dX7_slip_137 : decode cX7_slip 137 = .ok (.aload_n 0, 1) := by decide +kernel
theorem dX7_slip_138 : decode cX7_slip 138 = .ok (.getfield 7, 3) := by decide +kernel
theorem dX7_slip_141 : decode cX7_slip 141 = .ok (.iload_n 3, 1) := by decide +kernel
theorem dX7_slip_142 : decode cX7_slip 142 = .ok (.iload 4, 2) := by decide +kernel
theorem dX7_slip_144 : decode cX7_slip 144 = .ok (.invokestatic 112, 3) := by decide +kernel
theorem dX7_slip_147 : decode cX7_slip 147 = .ok (.aload_n 0, 1) := by decide +kernel
theorem dX7_slip_148 : decode cX7_slip 148 = .ok (.getfield 7, 3) := by decide +kernel
theorem dX7_slip_151 : decode cX7_slip 151 = .ok (.iconst 4, 1) := by decide +kernel
theorem dX7_slip_152 : decode cX7_slip 152 = .ok (.aload_n 0, 1) := by decide +kernel
theorem dX7_slip_153 : decode cX7_slip 153 = .ok (.getfield 7, 3) := by decide +kernel
theorem dX7_slip_156 : decode cX7_slip 156 = .ok (.iload_n 1, 1) := by decide +kernel
theorem dX7_slip_157 : decode cX7_slip 157 = .ok (.invokestatic 153, 3) := by decide +kernel
theorem dX7_slip_160 : decode cX7_slip 160 = .ok (.bipush 10, 2) := by decide +kernel
theorem dX7_slip_162 : decode cX7_slip 162 = .ok (.iadd, 1) := by decide +kernel
theorem dX7_slip_163 : decode cX7_slip 163 = .ok (.iastore, 1) := by decide +kernel
theorem dX7_slip_164 : decode cX7_slip 164 = .ok (.iconst 2, 1) := by decide +kernel
theorem dX7_slip_165 : decode cX7_slip 165 = .ok (.ireturn, 1) := by decide +kernel
theorem dX7_slip_166 : decode cX7_slip 166 = .ok (.aload_n 0, 1) := by decide +kernel
theorem dX7_slip_167 : decode cX7_slip 167 = .ok (.getfield 7, 3) := by decide +kernel
theorem dX7_slip_170 : decode cX7_slip 170 = .ok (.iload_n 3, 1) := by decide +kernel
theorem dX7_slip_171 : decode cX7_slip 171 = .ok (.iconst 2, 1) := by decide +kernel
theorem dX7_slip_172 : decode cX7_slip 172 = .ok (.iconst 3, 1) := by decide +kernel
theorem dX7_slip_173 : decode cX7_slip 173 = .ok (.invokestatic 63, 3) := by decide +kernel
theorem dX7_slip_176 : decode cX7_slip 176 = .ok (.aload_n 0, 1) := by decide +kernel
theorem dX7_slip_177 : decode cX7_slip 177 = .ok (.getfield 7, 3) := by decide +kernel
theorem dX7_slip_180 : decode cX7_slip 180 = .ok (.invokestatic 143, 3) := by decide +kernel
theorem dX7_slip_183 : decode cX7_slip 183 = .ok (.iconst 3, 1) := by decide +kernel
theorem dX7_slip_184 : decode cX7_slip 184 = .ok (.ireturn, 1) := by decide +kernel
theorem dX7_undo_0 : decode cX7_undo 0 = .ok (.aload_n 0, 1) := by decide +kernel
theorem dX7_undo_1 : decode cX7_undo 1 = .ok (.iconst 0, 1) := by decide +kernel
theorem dX7_undo_2 : decode cX7_undo 2 = .ok (.putfield 31, 3) := by decide +kernel
theorem dX7_undo_5 : decode cX7_undo 5 = .ok (.aload_n 0, 1) := by decide +kernel
theorem dX7_undo_6 : decode cX7_undo 6 = .ok (.getfield 35, 3) := by decide +kernel
theorem dX7_undo_9 : decode cX7_undo 9 = .ok (.ifCond .ne 6, 3) := by decide +kernel
theorem dX7_undo_12 : decode cX7_undo 12 = .ok (.bipush (-2), 2) := by decide +kernel
theorem dX7_undo_14 : decode cX7_undo 14 = .ok (.ireturn, 1) := by decide +kernel
theorem dX7_undo_15 : decode cX7_undo 15 = .ok (.aload_n 0, 1) := by decide +kernel
theorem dX7_undo_16 : decode cX7_undo 16 = .ok (.dup, 1) := by decide +kernel
theorem dX7_undo_17 : decode cX7_undo 17 = .ok (.getfield 35, 3) := by decide +kernel
theorem dX7_undo_20 : decode cX7_undo 20 = .ok (.iconst 1, 1) := by decide +kernel
theorem dX7_undo_21 : decode cX7_undo 21 = .ok (.isub, 1) := by decide +kernel
theorem dX7_undo_22 : decode cX7_undo 22 = .ok (.putfield 35, 3) := by decide +kernel
theorem dX7_undo_25 : decode cX7_undo 25 = .ok (.iconst 0, 1) := by decide +kernel
theorem dX7_undo_26 : decode cX7_undo 26 = .ok (.istore_n 1, 1) := by decide +kernel
theorem dX7_undo_27 : decode cX7_undo 27 = .ok (.iload_n 1, 1) := by decide +kernel
theorem dX7_undo_28 : decode cX7_undo 28 = .ok (.sipush 343, 3) := by decide +kernel
theorem dX7_undo_31 : decode cX7_undo 31 = .ok (.if_icmp .ge 30, 3) := by decide +kernel
theorem dX7_undo_34 : decode cX7_undo 34 = .ok (.aload_n 0, 1) := by decide +kernel
theorem dX7_undo_35 : decode cX7_undo 35 = .ok (.getfield 7, 3) := by decide +kernel
theorem dX7_undo_38 : decode cX7_undo 38 = .ok (.iload_n 1, 1) := by decide +kernel
theorem dX7_undo_39 : decode cX7_undo 39 = .ok (.aload_n 0, 1) := by decide +kernel
theorem dX7_undo_40 : decode cX7_undo 40 = .ok (.getfield 16, 3) := by decide +kernel
theorem dX7_undo_43 : decode cX7_undo 43 = .ok (.sipush 343, 3) := by decide +kernel
theorem dX7_undo_46 : decode cX7_undo 46 = .ok (.aload_n 0, 1) := by decide +kernel
theorem dX7_undo_47 : decode cX7_undo 47 = .ok (.getfield 35, 3) := by decide +kernel
theorem dX7_undo_50 : decode cX7_undo 50 = .ok (.imul, 1) := by decide +kernel
theorem dX7_undo_51 : decode cX7_undo 51 = .ok (.iload_n 1, 1) := by decide +kernel
theorem dX7_undo_52 : decode cX7_undo 52 = .ok (.iadd, 1) := by decide +kernel
theorem dX7_undo_53 : decode cX7_undo 53 = .ok (.iaload, 1) := by decide +kernel
theorem dX7_undo_54 : decode cX7_undo 54 = .ok (.iastore, 1) := by decide +kernel
theorem dX7_undo_55 : decode cX7_undo 55 = .ok (.iinc 1 1, 3) := by decide +kernel
theorem dX7_undo_58 : decode cX7_undo 58 = .ok (.goto (-31), 3) := by decide +kernel
theorem dX7_undo_61 : decode cX7_undo 61 = .ok (.aload_n 0, 1) := by decide +kernel
theorem dX7_undo_62 : decode cX7_undo 62 = .ok (.getfield 35, 3) := by decide +kernel
theorem dX7_undo_65 : decode cX7_undo 65 = .ok (.ireturn, 1) := by decide +kernel
theorem dX7_count_0 : decode cX7_count 0 = .ok (.aload_n 0, 1) := by decide +kernel
theorem dX7_count_1 : decode cX7_count 1 = .ok (.iconst 0, 1) := by decide +kernel
theorem dX7_count_2 : decode cX7_count 2 = .ok (.putfield 31, 3) := by decide +kernel
theorem dX7_count_5 : decode cX7_count 5 = .ok (.aload_n 0, 1) := by decide +kernel
theorem dX7_count_6 : decode cX7_count 6 = .ok (.getfield 7, 3) := by decide +kernel
theorem dX7_count_9 : decode cX7_count 9 = .ok (.iconst 3, 1) := by decide +kernel
theorem dX7_count_10 : decode cX7_count 10 = .ok (.iaload, 1) := by decide +kernel
theorem dX7_count_11 : decode cX7_count 11 = .ok (.bipush (-9), 2) := by decide +kernel
theorem dX7_count_13 : decode cX7_count 13 = .ok (.if_icmp .eq 7, 3) := by decide +kernel
theorem dX7_count_16 : decode cX7_count 16 = .ok (.iconst 1, 1) := by decide +kernel
theorem dX7_count_17 : decode cX7_count 17 = .ok (.goto 4, 3) := by decide +kernel
theorem dX7_count_20 : decode cX7_count 20 = .ok (.iconst 0, 1) := by decide +kernel
theorem dX7_count_21 : decode cX7_count 21 = .ok (.istore_n 2, 1) := by decide +kernel
theorem dX7_count_22 : decode cX7_count 22 = .ok (.iload_n 1, 1) := by decide +kernel
theorem dX7_count_23 : decode cX7_count 23 = .ok (.tableswitch 179 0 15 #[77, 77, 77, 77, 86, 93, 100, 107, 115, 122, 138, 145, 153, 161, 169, 174], 77) := by decide +kernel
theorem dX7_count_100 : decode cX7_count 100 = .ok (.aload_n 0, 1) := by decide +kernel
theorem dX7_count_101 : decode cX7_count 101 = .ok (.getfield 7, 3) := by decide +kernel
theorem dX7_count_104 : decode cX7_count 104 = .ok (.iload_n 1, 1) := by decide +kernel
theorem dX7_count_105 : decode cX7_count 105 = .ok (.invokestatic 109, 3) := by decide +kernel
theorem dX7_count_108 : decode cX7_count 108 = .ok (.ireturn, 1) := by decide +kernel
theorem dX7_count_109 : decode cX7_count 109 = .ok (.aload_n 0, 1) := by decide +kernel
theorem dX7_count_110 : decode cX7_count 110 = .ok (.getfield 7, 3) := by decide +kernel
theorem dX7_count_113 : decode cX7_count 113 = .ok (.iconst 1, 1) := by decide +kernel
theorem dX7_count_114 : decode cX7_count 114 = .ok (.iaload, 1) := by decide +kernel
theorem dX7_count_115 : decode cX7_count 115 = .ok (.ireturn, 1) := by decide +kernel
theorem dX7_count_116 : decode cX7_count 116 = .ok (.aload_n 0, 1) := by decide +kernel
theorem dX7_count_117 : decode cX7_count 117 = .ok (.getfield 7, 3) := by decide +kernel
theorem dX7_count_120 : decode cX7_count 120 = .ok (.iconst 0, 1) := by decide +kernel
theorem dX7_count_121 : decode cX7_count 121 = .ok (.iaload, 1) := by decide +kernel
theorem dX7_count_122 : decode cX7_count 122 = .ok (.ireturn, 1) := by decide +kernel
theorem dX7_count_123 : decode cX7_count 123 = .ok (.aload_n 0, 1) := by decide +kernel
theorem dX7_count_124 : decode cX7_count 124 = .ok (.getfield 7, 3) := by decide +kernel
theorem dX7_count_127 : decode cX7_count 127 = .ok (.iconst 2, 1) := by decide +kernel
theorem dX7_count_128 : decode cX7_count 128 = .ok (.iaload, 1) := by decide +kernel
theorem dX7_count_129 : decode cX7_count 129 = .ok (.ireturn, 1) := by decide +kernel
theorem dX7_count_130 : decode cX7_count 130 = .ok (.aload_n 0, 1) := by decide +kernel
theorem dX7_count_131 : decode cX7_count 131 = .ok (.getfield 7, 3) := by decide +kernel
theorem dX7_count_134 : decode cX7_count 134 = .ok (.invokestatic 126, 3) := by decide +kernel
theorem dX7_count_137 : decode cX7_count 137 = .ok (.ireturn, 1) := by decide +kernel
theorem dX7_count_138 : decode cX7_count 138 = .ok (.aload_n 0, 1) := by decide +kernel
theorem dX7_count_139 : decode cX7_count 139 = .ok (.getfield 7, 3) := by decide +kernel
theorem dX7_count_142 : decode cX7_count 142 = .ok (.iconst 3, 1) := by decide +kernel
theorem dX7_count_143 : decode cX7_count 143 = .ok (.iaload, 1) := by decide +kernel
theorem dX7_count_144 : decode cX7_count 144 = .ok (.ireturn, 1) := by decide +kernel
theorem dX7_count_145 : decode cX7_count 145 = .ok (.iload_n 2, 1) := by decide +kernel
theorem dX7_count_146 : decode cX7_count 146 = .ok (.ifCond .eq 12, 3) := by decide +kernel
theorem dX7_count_149 : decode cX7_count 149 = .ok (.aload_n 0, 1) := by decide +kernel
theorem dX7_count_150 : decode cX7_count 150 = .ok (.getfield 7, 3) := by decide +kernel
theorem dX7_count_153 : decode cX7_count 153 = .ok (.iconst 4, 1) := by decide +kernel
theorem dX7_count_154 : decode cX7_count 154 = .ok (.iaload, 1) := by decide +kernel
theorem dX7_count_155 : decode cX7_count 155 = .ok (.goto 5, 3) := by decide +kernel
theorem dX7_count_158 : decode cX7_count 158 = .ok (.bipush (-9), 2) := by decide +kernel
theorem dX7_count_160 : decode cX7_count 160 = .ok (.ireturn, 1) := by decide +kernel
theorem dX7_count_161 : decode cX7_count 161 = .ok (.aload_n 0, 1) := by decide +kernel
theorem dX7_count_162 : decode cX7_count 162 = .ok (.getfield 7, 3) := by decide +kernel
theorem dX7_count_165 : decode cX7_count 165 = .ok (.iconst 5, 1) := by decide +kernel
theorem dX7_count_166 : decode cX7_count 166 = .ok (.iaload, 1) := by decide +kernel
theorem dX7_count_167 : decode cX7_count 167 = .ok (.ireturn, 1) := by decide +kernel
theorem dX7_count_168 : decode cX7_count 168 = .ok (.aload_n 0, 1) := by decide +kernel
theorem dX7_count_169 : decode cX7_count 169 = .ok (.getfield 7, 3) := by decide +kernel
theorem dX7_count_172 : decode cX7_count 172 = .ok (.bipush 7, 2) := by decide +kernel
theorem dX7_count_174 : decode cX7_count 174 = .ok (.iaload, 1) := by decide +kernel
theorem dX7_count_175 : decode cX7_count 175 = .ok (.ireturn, 1) := by decide +kernel
theorem dX7_count_176 : decode cX7_count 176 = .ok (.aload_n 0, 1) := by decide +kernel
theorem dX7_count_177 : decode cX7_count 177 = .ok (.getfield 7, 3) := by decide +kernel
theorem dX7_count_180 : decode cX7_count 180 = .ok (.bipush 8, 2) := by decide +kernel
theorem dX7_count_182 : decode cX7_count 182 = .ok (.iaload, 1) := by decide +kernel
theorem dX7_count_183 : decode cX7_count 183 = .ok (.ireturn, 1) := by decide +kernel
theorem dX7_count_184 : decode cX7_count 184 = .ok (.aload_n 0, 1) := by decide +kernel
theorem dX7_count_185 : decode cX7_count 185 = .ok (.getfield 7, 3) := by decide +kernel
theorem dX7_count_188 : decode cX7_count 188 = .ok (.bipush 9, 2) := by decide +kernel
theorem dX7_count_190 : decode cX7_count 190 = .ok (.iaload, 1) := by decide +kernel
theorem dX7_count_191 : decode cX7_count 191 = .ok (.ireturn, 1) := by decide +kernel
theorem dX7_count_192 : decode cX7_count 192 = .ok (.aload_n 0, 1) := by decide +kernel
theorem dX7_count_193 : decode cX7_count 193 = .ok (.getfield 35, 3) := by decide +kernel
theorem dX7_count_196 : decode cX7_count 196 = .ok (.ireturn, 1) := by decide +kernel
theorem dX7_count_197 : decode cX7_count 197 = .ok (.aload_n 0, 1) := by decide +kernel
theorem dX7_count_198 : decode cX7_count 198 = .ok (.getfield 50, 3) := by decide +kernel
theorem dX7_count_201 : decode cX7_count 201 = .ok (.ireturn, 1) := by decide +kernel
theorem dX7_count_202 : decode cX7_count 202 = .ok (.iconst (-1), 1) := by decide +kernel
theorem dX7_count_203 : decode cX7_count 203 = .ok (.ireturn, 1) := by decide +kernel
theorem dX7_plate_0 : decode cX7_plate 0 = .ok (.aload_n 0, 1) := by decide +kernel
theorem dX7_plate_1 : decode cX7_plate 1 = .ok (.iconst 0, 1) := by decide +kernel
theorem dX7_plate_2 : decode cX7_plate 2 = .ok (.putfield 31, 3) := by decide +kernel
theorem dX7_plate_5 : decode cX7_plate 5 = .ok (.aload_n 0, 1) := by decide +kernel
theorem dX7_plate_6 : decode cX7_plate 6 = .ok (.iload_n 1, 1) := by decide +kernel
theorem dX7_plate_7 : decode cX7_plate 7 = .ok (.invokevirtual 105, 3) := by decide +kernel
theorem dX7_plate_10 : decode cX7_plate 10 = .ok (.ifCond .eq 13, 3) := by decide +kernel
theorem dX7_plate_13 : decode cX7_plate 13 = .ok (.iload_n 2, 1) := by decide +kernel
theorem dX7_plate_14 : decode cX7_plate 14 = .ok (.iconst 0, 1) := by decide +kernel
theorem dX7_plate_15 : decode cX7_plate 15 = .ok (.bipush 6, 2) := by decide +kernel
theorem dX7_plate_17 : decode cX7_plate 17 = .ok (.invokestatic 38, 3) := by decide +kernel
theorem dX7_plate_20 : decode cX7_plate 20 = .ok (.ifCond .ne 5, 3) := by decide +kernel
theorem dX7_plate_23 : decode cX7_plate 23 = .ok (.iconst (-1), 1) := by decide +kernel
theorem dX7_plate_24 : decode cX7_plate 24 = .ok (.ireturn, 1) := by decide +kernel
theorem dX7_plate_25 : decode cX7_plate 25 = .ok (.iload_n 2, 1) := by decide +kernel
theorem dX7_plate_26 : decode cX7_plate 26 = .ok (.iconst 4, 1) := by decide +kernel
theorem dX7_plate_27 : decode cX7_plate 27 = .ok (.if_icmp .le 21, 3) := by decide +kernel
theorem dX7_plate_30 : decode cX7_plate 30 = .ok (.aload_n 0, 1) := by decide +kernel
theorem dX7_plate_31 : decode cX7_plate 31 = .ok (.getfield 7, 3) := by decide +kernel
theorem dX7_plate_34 : decode cX7_plate 34 = .ok (.iload_n 1, 1) := by decide +kernel
theorem dX7_plate_35 : decode cX7_plate 35 = .ok (.iconst 2, 1) := by decide +kernel
theorem dX7_plate_36 : decode cX7_plate 36 = .ok (.invokestatic 53, 3) := by decide +kernel
theorem dX7_plate_39 : decode cX7_plate 39 = .ok (.iconst 2, 1) := by decide +kernel
theorem dX7_plate_40 : decode cX7_plate 40 = .ok (.if_icmp .eq 8, 3) := by decide +kernel
theorem dX7_plate_43 : decode cX7_plate 43 = .ok (.bipush (-9), 2) := by decide +kernel
theorem dX7_plate_45 : decode cX7_plate 45 = .ok (.goto 12, 3) := by decide +kernel
theorem dX7_plate_48 : decode cX7_plate 48 = .ok (.aload_n 0, 1) := by decide +kernel
theorem dX7_plate_49 : decode cX7_plate 49 = .ok (.getfield 7, 3) := by decide +kernel
theorem dX7_plate_52 : decode cX7_plate 52 = .ok (.iload_n 1, 1) := by decide +kernel
theorem dX7_plate_53 : decode cX7_plate 53 = .ok (.iload_n 2, 1) := by decide +kernel
theorem dX7_plate_54 : decode cX7_plate 54 = .ok (.invokestatic 53, 3) := by decide +kernel
theorem dX7_plate_57 : decode cX7_plate 57 = .ok (.ireturn, 1) := by decide +kernel
theorem dX7_shield_0 : decode cX7_shield 0 = .ok (.aload_n 0, 1) := by decide +kernel
theorem dX7_shield_1 : decode cX7_shield 1 = .ok (.iconst 0, 1) := by decide +kernel
theorem dX7_shield_2 : decode cX7_shield 2 = .ok (.putfield 31, 3) := by decide +kernel
theorem dX7_shield_5 : decode cX7_shield 5 = .ok (.aload_n 0, 1) := by decide +kernel
theorem dX7_shield_6 : decode cX7_shield 6 = .ok (.iload_n 1, 1) := by decide +kernel
theorem dX7_shield_7 : decode cX7_shield 7 = .ok (.invokevirtual 116, 3) := by decide +kernel
theorem dX7_shield_10 : decode cX7_shield 10 = .ok (.ifCond .eq 12, 3) := by decide +kernel
theorem dX7_shield_13 : decode cX7_shield 13 = .ok (.iload_n 2, 1) := by decide +kernel
theorem dX7_shield_14 : decode cX7_shield 14 = .ok (.iconst 0, 1) := by decide +kernel
theorem dX7_shield_15 : decode cX7_shield 15 = .ok (.iconst 4, 1) := by decide +kernel
theorem dX7_shield_16 : decode cX7_shield 16 = .ok (.invokestatic 38, 3) := by decide +kernel
theorem dX7_shield_19 : decode cX7_shield 19 = .ok (.ifCond .ne 5, 3) := by decide +kernel
theorem dX7_shield_22 : decode cX7_shield 22 = .ok (.iconst (-1), 1) := by decide +kernel
theorem dX7_shield_23 : decode cX7_shield 23 = .ok (.ireturn, 1) := by decide +kernel
theorem dX7_shield_24 : decode cX7_shield 24 = .ok (.aload_n 0, 1) := by decide +kernel
theorem dX7_shield_25 : decode cX7_shield 25 = .ok (.getfield 7, 3) := by decide +kernel
theorem dX7_shield_28 : decode cX7_shield 28 = .ok (.iload_n 1, 1) := by decide +kernel
theorem dX7_shield_29 : decode cX7_shield 29 = .ok (.invokestatic 92, 3) := by decide +kernel
theorem dX7_shield_32 : decode cX7_shield 32 = .ok (.istore_n 3, 1) := by decide +kernel
theorem dX7_shield_33 : decode cX7_shield 33 = .ok (.aload_n 0, 1) := by decide +kernel
theorem dX7_shield_34 : decode cX7_shield 34 = .ok (.getfield 7, 3) := by decide +kernel
theorem dX7_shield_37 : decode cX7_shield 37 = .ok (.iload_n 1, 1) := by decide +kernel
theorem dX7_shield_38 : decode cX7_shield 38 = .ok (.iconst 1, 1) := by decide +kernel
theorem dX7_shield_39 : decode cX7_shield 39 = .ok (.invokestatic 96, 3) := by decide +kernel
theorem dX7_shield_42 : decode cX7_shield 42 = .ok (.istore 4, 2) := by decide +kernel
theorem dX7_shield_44 : decode cX7_shield 44 = .ok (.aload_n 0, 1) := by decide +kernel
theorem dX7_shield_45 : decode cX7_shield 45 = .ok (.getfield 7, 3) := by decide +kernel
theorem dX7_shield_48 : decode cX7_shield 48 = .ok (.iload_n 1, 1) := by decide +kernel
theorem dX7_shield_49 : decode cX7_shield 49 = .ok (.iconst (-1), 1) := by decide +kernel
theorem dX7_shield_50 : decode cX7_shield 50 = .ok (.invokestatic 96, 3) := by decide +kernel
theorem dX7_shield_53 : decode cX7_shield 53 = .ok (.istore 5, 2) := by decide +kernel
theorem dX7_shield_55 : decode cX7_shield 55 = .ok (.iload_n 2, 1) := by decide +kernel
theorem dX7_shield_56 : decode cX7_shield 56 = .ok (.tableswitch 51 0 3 #[32, 43, 45, 48], 32) := by decide +kernel
theorem dX7_shield_88 : decode cX7_shield 88 = .ok (.aload_n 0, 1) := by decide +kernel
theorem dX7_shield_89 : decode cX7_shield 89 = .ok (.getfield 7, 3) := by decide +kernel
theorem dX7_shield_92 : decode cX7_shield 92 = .ok (.sipush 150, 3) := by decide +kernel
theorem dX7_shield_95 : decode cX7_shield 95 = .ok (.iload_n 1, 1) := by decide +kernel
theorem dX7_shield_96 : decode cX7_shield 96 = .ok (.iadd, 1) := by decide +kernel
theorem dX7_shield_97 : decode cX7_shield 97 = .ok (.iaload, 1) := by decide +kernel
theorem dX7_shield_98 : decode cX7_shield 98 = .ok (.ireturn, 1) := by decide +kernel
theorem dX7_shield_99 : decode cX7_shield 99 = .ok (.iload_n 3, 1) := by decide +kernel
theorem dX7_shield_100 : decode cX7_shield 100 = .ok (.ireturn, 1) := by decide +kernel
theorem dX7_shield_101 : decode cX7_shield 101 = .ok (.iload 4, 2) := by decide +kernel
theorem dX7_shield_103 : decode cX7_shield 103 = .ok (.ireturn, 1) := by decide +kernel
theorem dX7_shield_104 : decode cX7_shield 104 = .ok (.iload 5, 2) := by decide +kernel
theorem dX7_shield_106 : decode cX7_shield 106 = .ok (.ireturn, 1) := by decide +kernel
theorem dX7_shield_107 : decode cX7_shield 107 = .ok (.iload_n 3, 1) := by decide +kernel
theorem dX7_shield_108 : decode cX7_shield 108 = .ok (.ifCond .ne 7, 3) := by decide +kernel
theorem dX7_shield_111 : decode cX7_shield 111 = .ok (.iconst 0, 1) := by decide +kernel
theorem dX7_shield_112 : decode cX7_shield 112 = .ok (.goto 12, 3) := by decide +kernel
theorem dX7_shield_115 : decode cX7_shield 115 = .ok (.iload 5, 2) := by decide +kernel
theorem dX7_shield_117 : decode cX7_shield 117 = .ok (.iload 4, 2) := by decide +kernel
theorem dX7_shield_119 : decode cX7_shield 119 = .ok (.isub, 1) := by decide +kernel
theorem dX7_shield_120 : decode cX7_shield 120 = .ok (.iconst 1, 1) := by decide +kernel
theorem dX7_shield_121 : decode cX7_shield 121 = .ok (.iadd, 1) := by decide +kernel
theorem dX7_shield_122 : decode cX7_shield 122 = .ok (.iload_n 3, 1) := by decide +kernel
theorem dX7_shield_123 : decode cX7_shield 123 = .ok (.isub, 1) := by decide +kernel
theorem dX7_shield_124 : decode cX7_shield 124 = .ok (.ireturn, 1) := by decide +kernel
theorem dX7_plateFor_0 : decode cX7_plateFor 0 = .ok (.aload_n 0, 1) := by decide +kernel
theorem dX7_plateFor_1 : decode cX7_plateFor 1 = .ok (.iconst 0, 1) := by decide +kernel
theorem dX7_plateFor_2 : decode cX7_plateFor 2 = .ok (.putfield 31, 3) := by decide +kernel
theorem dX7_plateFor_5 : decode cX7_plateFor 5 = .ok (.aload_n 0, 1) := by decide +kernel
theorem dX7_plateFor_6 : decode cX7_plateFor 6 = .ok (.iload_n 1, 1) := by decide +kernel
theorem dX7_plateFor_7 : decode cX7_plateFor 7 = .ok (.invokevirtual 116, 3) := by decide +kernel
theorem dX7_plateFor_10 : decode cX7_plateFor 10 = .ok (.ifCond .eq 22, 3) := by decide +kernel
theorem dX7_plateFor_13 : decode cX7_plateFor 13 = .ok (.iload_n 2, 1) := by decide +kernel
theorem dX7_plateFor_14 : decode cX7_plateFor 14 = .ok (.invokestatic 119, 3) := by decide +kernel
theorem dX7_plateFor_17 : decode cX7_plateFor 17 = .ok (.ifCond .eq 15, 3) := by decide +kernel
theorem dX7_plateFor_20 : decode cX7_plateFor 20 = .ok (.aload_n 0, 1) := by decide +kernel
theorem dX7_plateFor_21 : decode cX7_plateFor 21 = .ok (.getfield 7, 3) := by decide +kernel
theorem dX7_plateFor_24 : decode cX7_plateFor 24 = .ok (.iload_n 1, 1) := by decide +kernel
theorem dX7_plateFor_25 : decode cX7_plateFor 25 = .ok (.iload_n 2, 1) := by decide +kernel
theorem dX7_plateFor_26 : decode cX7_plateFor 26 = .ok (.invokestatic 99, 3) := by decide +kernel
theorem dX7_plateFor_29 : decode cX7_plateFor 29 = .ok (.goto 4, 3) := by decide +kernel
theorem dX7_plateFor_32 : decode cX7_plateFor 32 = .ok (.iconst (-1), 1) := by decide +kernel
theorem dX7_plateFor_33 : decode cX7_plateFor 33 = .ok (.ireturn, 1) := by decide +kernel
theorem dX7_orderOf_0 : decode cX7_orderOf 0 = .ok (.aload_n 0, 1) := by decide +kernel
theorem dX7_orderOf_1 : decode cX7_orderOf 1 = .ok (.iconst 0, 1) := by decide +kernel
theorem dX7_orderOf_2 : decode cX7_orderOf 2 = .ok (.putfield 31, 3) := by decide +kernel
theorem dX7_orderOf_5 : decode cX7_orderOf 5 = .ok (.aload_n 0, 1) := by decide +kernel
theorem dX7_orderOf_6 : decode cX7_orderOf 6 = .ok (.iload_n 1, 1) := by decide +kernel
theorem dX7_orderOf_7 : decode cX7_orderOf 7 = .ok (.invokevirtual 137, 3) := by decide +kernel
theorem dX7_orderOf_10 : decode cX7_orderOf 10 = .ok (.ifCond .eq 13, 3) := by decide +kernel
theorem dX7_orderOf_13 : decode cX7_orderOf 13 = .ok (.iload_n 2, 1) := by decide +kernel
theorem dX7_orderOf_14 : decode cX7_orderOf 14 = .ok (.iconst 0, 1) := by decide +kernel
theorem dX7_orderOf_15 : decode cX7_orderOf 15 = .ok (.bipush 7, 2) := by decide +kernel
theorem dX7_orderOf_17 : decode cX7_orderOf 17 = .ok (.invokestatic 38, 3) := by decide +kernel
theorem dX7_orderOf_20 : decode cX7_orderOf 20 = .ok (.ifCond .ne 5, 3) := by decide +kernel
theorem dX7_orderOf_23 : decode cX7_orderOf 23 = .ok (.iconst (-1), 1) := by decide +kernel
theorem dX7_orderOf_24 : decode cX7_orderOf 24 = .ok (.ireturn, 1) := by decide +kernel
theorem dX7_orderOf_25 : decode cX7_orderOf 25 = .ok (.iload_n 2, 1) := by decide +kernel
theorem dX7_orderOf_26 : decode cX7_orderOf 26 = .ok (.bipush 6, 2) := by decide +kernel
theorem dX7_orderOf_28 : decode cX7_orderOf 28 = .ok (.if_icmp .ge 15, 3) := by decide +kernel
theorem dX7_orderOf_31 : decode cX7_orderOf 31 = .ok (.aload_n 0, 1) := by decide +kernel
theorem dX7_orderOf_32 : decode cX7_orderOf 32 = .ok (.getfield 7, 3) := by decide +kernel
theorem dX7_orderOf_35 : decode cX7_orderOf 35 = .ok (.iload_n 1, 1) := by decide +kernel
theorem dX7_orderOf_36 : decode cX7_orderOf 36 = .ok (.iload_n 2, 1) := by decide +kernel
theorem dX7_orderOf_37 : decode cX7_orderOf 37 = .ok (.invokestatic 42, 3) := by decide +kernel
theorem dX7_orderOf_40 : decode cX7_orderOf 40 = .ok (.goto 28, 3) := by decide +kernel
theorem dX7_orderOf_43 : decode cX7_orderOf 43 = .ok (.iload_n 2, 1) := by decide +kernel
theorem dX7_orderOf_44 : decode cX7_orderOf 44 = .ok (.bipush 6, 2) := by decide +kernel
theorem dX7_orderOf_46 : decode cX7_orderOf 46 = .ok (.if_icmp .ne 14, 3) := by decide +kernel
theorem dX7_orderOf_49 : decode cX7_orderOf 49 = .ok (.aload_n 0, 1) := by decide +kernel
theorem dX7_orderOf_50 : decode cX7_orderOf 50 = .ok (.getfield 7, 3) := by decide +kernel
theorem dX7_orderOf_53 : decode cX7_orderOf 53 = .ok (.iload_n 1, 1) := by decide +kernel
theorem dX7_orderOf_54 : decode cX7_orderOf 54 = .ok (.invokestatic 147, 3) := by decide +kernel
theorem dX7_orderOf_57 : decode cX7_orderOf 57 = .ok (.goto 11, 3) := by decide +kernel
theorem dX7_orderOf_60 : decode cX7_orderOf 60 = .ok (.aload_n 0, 1) := by decide +kernel
theorem dX7_orderOf_61 : decode cX7_orderOf 61 = .ok (.getfield 7, 3) := by decide +kernel
theorem dX7_orderOf_64 : decode cX7_orderOf 64 = .ok (.iload_n 1, 1) := by decide +kernel
theorem dX7_orderOf_65 : decode cX7_orderOf 65 = .ok (.invokestatic 153, 3) := by decide +kernel
theorem dX7_orderOf_68 : decode cX7_orderOf 68 = .ok (.ireturn, 1) := by decide +kernel
theorem dX7_letter_0 : decode cX7_letter 0 = .ok (.aload_n 0, 1) := by decide +kernel
theorem dX7_letter_1 : decode cX7_letter 1 = .ok (.iconst 0, 1) := by decide +kernel
theorem dX7_letter_2 : decode cX7_letter 2 = .ok (.putfield 31, 3) := by decide +kernel
theorem dX7_letter_5 : decode cX7_letter 5 = .ok (.aload_n 0, 1) := by decide +kernel
theorem dX7_letter_6 : decode cX7_letter 6 = .ok (.iload_n 1, 1) := by decide +kernel
theorem dX7_letter_7 : decode cX7_letter 7 = .ok (.invokevirtual 137, 3) := by decide +kernel
theorem dX7_letter_10 : decode cX7_letter 10 = .ok (.ifCond .eq 7, 3) := by decide +kernel
theorem dX7_letter_13 : decode cX7_letter 13 = .ok (.iload_n 2, 1) := by decide +kernel
theorem dX7_letter_14 : decode cX7_letter 14 = .ok (.ifCond .ge 5, 3) := by decide +kernel
theorem dX7_letter_17 : decode cX7_letter 17 = .ok (.iconst (-1), 1) := by decide +kernel
theorem dX7_letter_18 : decode cX7_letter 18 = .ok (.ireturn, 1) := by decide +kernel
theorem dX7_letter_19 : decode cX7_letter 19 = .ok (.iload_n 2, 1) := by decide +kernel
theorem dX7_letter_20 : decode cX7_letter 20 = .ok (.aload_n 0, 1) := by decide +kernel
theorem dX7_letter_21 : decode cX7_letter 21 = .ok (.getfield 7, 3) := by decide +kernel
theorem dX7_letter_24 : decode cX7_letter 24 = .ok (.iload_n 1, 1) := by decide +kernel
theorem dX7_letter_25 : decode cX7_letter 25 = .ok (.iconst 5, 1) := by decide +kernel
theorem dX7_letter_26 : decode cX7_letter 26 = .ok (.invokestatic 42, 3) := by decide +kernel
theorem dX7_letter_29 : decode cX7_letter 29 = .ok (.if_icmp .ge 18, 3) := by decide +kernel
theorem dX7_letter_32 : decode cX7_letter 32 = .ok (.aload_n 0, 1) := by decide +kernel
theorem dX7_letter_33 : decode cX7_letter 33 = .ok (.getfield 7, 3) := by decide +kernel
theorem dX7_letter_36 : decode cX7_letter 36 = .ok (.iload_n 1, 1) := by decide +kernel
theorem dX7_letter_37 : decode cX7_letter 37 = .ok (.bipush 6, 2) := by decide +kernel
theorem dX7_letter_39 : decode cX7_letter 39 = .ok (.iload_n 2, 1) := by decide +kernel
theorem dX7_letter_40 : decode cX7_letter 40 = .ok (.iadd, 1) := by decide +kernel
theorem dX7_letter_41 : decode cX7_letter 41 = .ok (.invokestatic 42, 3) := by decide +kernel
theorem dX7_letter_44 : decode cX7_letter 44 = .ok (.goto 5, 3) := by decide +kernel
theorem dX7_letter_47 : decode cX7_letter 47 = .ok (.bipush (-9), 2) := by decide +kernel
theorem dX7_letter_49 : decode cX7_letter 49 = .ok (.ireturn, 1) := by decide +kernel
theorem dX7_lengthOf_0 : decode cX7_lengthOf 0 = .ok (.aload_n 0, 1) := by decide +kernel
theorem dX7_lengthOf_1 : decode cX7_lengthOf 1 = .ok (.iconst 0, 1) := by decide +kernel
theorem dX7_lengthOf_2 : decode cX7_lengthOf 2 = .ok (.putfield 31, 3) := by decide +kernel
theorem dX7_lengthOf_5 : decode cX7_lengthOf 5 = .ok (.iload_n 1, 1) := by decide +kernel
theorem dX7_lengthOf_6 : decode cX7_lengthOf 6 = .ok (.iconst 1, 1) := by decide +kernel
theorem dX7_lengthOf_7 : decode cX7_lengthOf 7 = .ok (.iconst 4, 1) := by decide +kernel
theorem dX7_lengthOf_8 : decode cX7_lengthOf 8 = .ok (.invokestatic 38, 3) := by decide +kernel
theorem dX7_lengthOf_11 : decode cX7_lengthOf 11 = .ok (.ifCond .eq 11, 3) := by decide +kernel
theorem dX7_lengthOf_14 : decode cX7_lengthOf 14 = .ok (.aload_n 0, 1) := by decide +kernel
theorem dX7_lengthOf_15 : decode cX7_lengthOf 15 = .ok (.iload_n 1, 1) := by decide +kernel
theorem dX7_lengthOf_16 : decode cX7_lengthOf 16 = .ok (.invokevirtual 166, 3) := by decide +kernel
theorem dX7_lengthOf_19 : decode cX7_lengthOf 19 = .ok (.goto 4, 3) := by decide +kernel
theorem dX7_lengthOf_22 : decode cX7_lengthOf 22 = .ok (.iconst (-1), 1) := by decide +kernel
theorem dX7_lengthOf_23 : decode cX7_lengthOf 23 = .ok (.ireturn, 1) := by decide +kernel
theorem dX7_plateFound_0 : decode cX7_plateFound 0 = .ok (.aload_n 0, 1) := by decide +kernel
theorem dX7_plateFound_1 : decode cX7_plateFound 1 = .ok (.iconst 0, 1) := by decide +kernel
theorem dX7_plateFound_2 : decode cX7_plateFound 2 = .ok (.putfield 31, 3) := by decide +kernel
theorem dX7_plateFound_5 : decode cX7_plateFound 5 = .ok (.iload_n 1, 1) := by decide +kernel
theorem dX7_plateFound_6 : decode cX7_plateFound 6 = .ok (.iconst 1, 1) := by decide +kernel
theorem dX7_plateFound_7 : decode cX7_plateFound 7 = .ok (.iconst 4, 1) := by decide +kernel
theorem dX7_plateFound_8 : decode cX7_plateFound 8 = .ok (.invokestatic 38, 3) := by decide +kernel
theorem dX7_plateFound_11 : decode cX7_plateFound 11 = .ok (.ifCond .eq 21, 3) := by decide +kernel
theorem dX7_plateFound_14 : decode cX7_plateFound 14 = .ok (.iload_n 2, 1) := by decide +kernel
theorem dX7_plateFound_15 : decode cX7_plateFound 15 = .ok (.iconst 1, 1) := by decide +kernel
theorem dX7_plateFound_16 : decode cX7_plateFound 16 = .ok (.iconst 5, 1) := by decide +kernel
theorem dX7_plateFound_17 : decode cX7_plateFound 17 = .ok (.invokestatic 38, 3) := by decide +kernel
theorem dX7_plateFound_20 : decode cX7_plateFound 20 = .ok (.ifCond .eq 12, 3) := by decide +kernel
theorem dX7_plateFound_23 : decode cX7_plateFound 23 = .ok (.iload_n 3, 1) := by decide +kernel
theorem dX7_plateFound_24 : decode cX7_plateFound 24 = .ok (.iconst 0, 1) := by decide +kernel
theorem dX7_plateFound_25 : decode cX7_plateFound 25 = .ok (.iconst 2, 1) := by decide +kernel
theorem dX7_plateFound_26 : decode cX7_plateFound 26 = .ok (.invokestatic 38, 3) := by decide +kernel
theorem dX7_plateFound_29 : decode cX7_plateFound 29 = .ok (.ifCond .ne 5, 3) := by decide +kernel
theorem dX7_plateFound_32 : decode cX7_plateFound 32 = .ok (.iconst (-1), 1) := by decide +kernel
theorem dX7_plateFound_33 : decode cX7_plateFound 33 = .ok (.ireturn, 1) := by decide +kernel
theorem dX7_plateFound_34 : decode cX7_plateFound 34 = .ok (.aload_n 0, 1) := by decide +kernel
theorem dX7_plateFound_35 : decode cX7_plateFound 35 = .ok (.getfield 50, 3) := by decide +kernel
theorem dX7_plateFound_38 : decode cX7_plateFound 38 = .ok (.ifCond .ne 6, 3) := by decide +kernel
theorem dX7_plateFound_41 : decode cX7_plateFound 41 = .ok (.bipush (-2), 2) := by decide +kernel
theorem dX7_plateFound_43 : decode cX7_plateFound 43 = .ok (.ireturn, 1) := by decide +kernel
theorem dX7_plateFound_44 : decode cX7_plateFound 44 = .ok (.aload_n 0, 1) := by decide +kernel
theorem dX7_plateFound_45 : decode cX7_plateFound 45 = .ok (.aload_n 0, 1) := by decide +kernel
theorem dX7_plateFound_46 : decode cX7_plateFound 46 = .ok (.getfield 7, 3) := by decide +kernel
theorem dX7_plateFound_49 : decode cX7_plateFound 49 = .ok (.aload_n 0, 1) := by decide +kernel
theorem dX7_plateFound_50 : decode cX7_plateFound 50 = .ok (.iload_n 1, 1) := by decide +kernel
theorem dX7_plateFound_51 : decode cX7_plateFound 51 = .ok (.invokevirtual 166, 3) := by decide +kernel
theorem dX7_plateFound_54 : decode cX7_plateFound 54 = .ok (.iload_n 2, 1) := by decide +kernel
theorem dX7_plateFound_55 : decode cX7_plateFound 55 = .ok (.invokevirtual 150, 3) := by decide +kernel
theorem dX7_plateFound_58 : decode cX7_plateFound 58 = .ok (.ifCond .ne 6, 3) := by decide +kernel
theorem dX7_plateFound_61 : decode cX7_plateFound 61 = .ok (.bipush (-9), 2) := by decide +kernel
theorem dX7_plateFound_63 : decode cX7_plateFound 63 = .ok (.ireturn, 1) := by decide +kernel
theorem dX7_plateFound_64 : decode cX7_plateFound 64 = .ok (.iload_n 3, 1) := by decide +kernel
theorem dX7_plateFound_65 : decode cX7_plateFound 65 = .ok (.ifCond .ne 10, 3) := by decide +kernel
theorem dX7_plateFound_68 : decode cX7_plateFound 68 = .ok (.aload_n 0, 1) := by decide +kernel
theorem dX7_plateFound_69 : decode cX7_plateFound 69 = .ok (.getfield 74, 3) := by decide +kernel
theorem dX7_plateFound_72 : decode cX7_plateFound 72 = .ok (.goto 27, 3) := by decide +kernel
theorem dX7_plateFound_75 : decode cX7_plateFound 75 = .ok (.iload_n 3, 1) := by decide +kernel
theorem dX7_plateFound_76 : decode cX7_plateFound 76 = .ok (.iconst 1, 1) := by decide +kernel
theorem dX7_plateFound_77 : decode cX7_plateFound 77 = .ok (.if_icmp .ne 10, 3) := by decide +kernel
theorem dX7_plateFound_80 : decode cX7_plateFound 80 = .ok (.aload_n 0, 1) := by decide +kernel
theorem dX7_plateFound_81 : decode cX7_plateFound 81 = .ok (.getfield 89, 3) := by decide +kernel
theorem dX7_plateFound_84 : decode cX7_plateFound 84 = .ok (.goto 15, 3) := by decide +kernel
theorem dX7_plateFound_87 : decode cX7_plateFound 87 = .ok (.aload_n 0, 1) := by decide +kernel
theorem dX7_plateFound_88 : decode cX7_plateFound 88 = .ok (.getfield 77, 3) := by decide +kernel
theorem dX7_plateFound_91 : decode cX7_plateFound 91 = .ok (.ifCond .eq 7, 3) := by decide +kernel
theorem dX7_plateFound_94 : decode cX7_plateFound 94 = .ok (.iconst 1, 1) := by decide +kernel
theorem dX7_plateFound_95 : decode cX7_plateFound 95 = .ok (.goto 4, 3) := by decide +kernel
theorem dX7_plateFound_98 : decode cX7_plateFound 98 = .ok (.iconst 0, 1) := by decide +kernel
theorem dX7_plateFound_99 : decode cX7_plateFound 99 = .ok (.ireturn, 1) := by decide +kernel
theorem dX7_tryNow_0 : decode cX7_tryNow 0 = .ok (.iconst 0, 1) := by decide +kernel
theorem dX7_tryNow_1 : decode cX7_tryNow 1 = .ok (.istore_n 1, 1) := by decide +kernel
theorem dX7_tryNow_2 : decode cX7_tryNow 2 = .ok (.iload_n 1, 1) := by decide +kernel
theorem dX7_tryNow_3 : decode cX7_tryNow 3 = .ok (.sipush 343, 3) := by decide +kernel
theorem dX7_tryNow_6 : decode cX7_tryNow 6 = .ok (.if_icmp .ge 21, 3) := by decide +kernel
theorem dX7_tryNow_9 : decode cX7_tryNow 9 = .ok (.aload_n 0, 1) := by decide +kernel
theorem dX7_tryNow_10 : decode cX7_tryNow 10 = .ok (.getfield 13, 3) := by decide +kernel
theorem dX7_tryNow_13 : decode cX7_tryNow 13 = .ok (.iload_n 1, 1) := by decide +kernel
theorem dX7_tryNow_14 : decode cX7_tryNow 14 = .ok (.aload_n 0, 1) := by decide +kernel
theorem dX7_tryNow_15 : decode cX7_tryNow 15 = .ok (.getfield 7, 3) := by decide +kernel
theorem dX7_tryNow_18 : decode cX7_tryNow 18 = .ok (.iload_n 1, 1) := by decide +kernel
theorem dX7_tryNow_19 : decode cX7_tryNow 19 = .ok (.iaload, 1) := by decide +kernel
theorem dX7_tryNow_20 : decode cX7_tryNow 20 = .ok (.iastore, 1) := by decide +kernel
theorem dX7_tryNow_21 : decode cX7_tryNow 21 = .ok (.iinc 1 1, 3) := by decide +kernel
theorem dX7_tryNow_24 : decode cX7_tryNow 24 = .ok (.goto (-22), 3) := by decide +kernel
theorem dX7_tryNow_27 : decode cX7_tryNow 27 = .ok (.iconst 0, 1) := by decide +kernel
theorem dX7_tryNow_28 : decode cX7_tryNow 28 = .ok (.istore_n 1, 1) := by decide +kernel
theorem dX7_tryNow_29 : decode cX7_tryNow 29 = .ok (.iload_n 1, 1) := by decide +kernel
theorem dX7_tryNow_30 : decode cX7_tryNow 30 = .ok (.aload_n 0, 1) := by decide +kernel
theorem dX7_tryNow_31 : decode cX7_tryNow 31 = .ok (.getfield 13, 3) := by decide +kernel
theorem dX7_tryNow_34 : decode cX7_tryNow 34 = .ok (.iconst 2, 1) := by decide +kernel
theorem dX7_tryNow_35 : decode cX7_tryNow 35 = .ok (.iaload, 1) := by decide +kernel
theorem dX7_tryNow_36 : decode cX7_tryNow 36 = .ok (.if_icmp .ge 26, 3) := by decide +kernel
theorem dX7_tryNow_39 : decode cX7_tryNow 39 = .ok (.aload_n 0, 1) := by decide +kernel
theorem dX7_tryNow_40 : decode cX7_tryNow 40 = .ok (.getfield 13, 3) := by decide +kernel
theorem dX7_tryNow_43 : decode cX7_tryNow 43 = .ok (.sipush 153, 3) := by decide +kernel
theorem dX7_tryNow_46 : decode cX7_tryNow 46 = .ok (.bipush 19, 2) := by decide +kernel
theorem dX7_tryNow_48 : decode cX7_tryNow 48 = .ok (.iload_n 1, 1) := by decide +kernel
theorem dX7_tryNow_49 : decode cX7_tryNow 49 = .ok (.imul, 1) := by decide +kernel
theorem dX7_tryNow_50 : decode cX7_tryNow 50 = .ok (.iadd, 1) := by decide +kernel
theorem dX7_tryNow_51 : decode cX7_tryNow 51 = .ok (.bipush 18, 2) := by decide +kernel
theorem dX7_tryNow_53 : decode cX7_tryNow 53 = .ok (.iadd, 1) := by decide +kernel
theorem dX7_tryNow_54 : decode cX7_tryNow 54 = .ok (.iload_n 1, 1) := by decide +kernel
theorem dX7_tryNow_55 : decode cX7_tryNow 55 = .ok (.iastore, 1) := by decide +kernel
theorem dX7_tryNow_56 : decode cX7_tryNow 56 = .ok (.iinc 1 1, 3) := by decide +kernel
theorem dX7_tryNow_59 : decode cX7_tryNow 59 = .ok (.goto (-30), 3) := by decide +kernel
theorem dX7_tryNow_62 : decode cX7_tryNow 62 = .ok (.return_, 1) := by decide +kernel
theorem dX7_workOn_0 : decode cX7_workOn 0 = .ok (.iconst 0, 1) := by decide +kernel
theorem dX7_workOn_1 : decode cX7_workOn 1 = .ok (.istore_n 2, 1) := by decide +kernel
theorem dX7_workOn_2 : decode cX7_workOn 2 = .ok (.iload_n 2, 1) := by decide +kernel
theorem dX7_workOn_3 : decode cX7_workOn 3 = .ok (.bipush 10, 2) := by decide +kernel
theorem dX7_workOn_5 : decode cX7_workOn 5 = .ok (.if_icmp .ge 14, 3) := by decide +kernel
theorem dX7_workOn_8 : decode cX7_workOn 8 = .ok (.aload_n 1, 1) := by decide +kernel
theorem dX7_workOn_9 : decode cX7_workOn 9 = .ok (.iload_n 2, 1) := by decide +kernel
theorem dX7_workOn_10 : decode cX7_workOn 10 = .ok (.bipush (-9), 2) := by decide +kernel
theorem dX7_workOn_12 : decode cX7_workOn 12 = .ok (.iastore, 1) := by decide +kernel
theorem dX7_workOn_13 : decode cX7_workOn 13 = .ok (.iinc 2 1, 3) := by decide +kernel
theorem dX7_workOn_16 : decode cX7_workOn 16 = .ok (.goto (-14), 3) := by decide +kernel
theorem dX7_workOn_19 : decode cX7_workOn 19 = .ok (.iconst 0, 1) := by decide +kernel
theorem dX7_workOn_20 : decode cX7_workOn 20 = .ok (.istore_n 2, 1) := by decide +kernel
theorem dX7_workOn_21 : decode cX7_workOn 21 = .ok (.aload_n 0, 1) := by decide +kernel
theorem dX7_workOn_22 : decode cX7_workOn 22 = .ok (.aload_n 0, 1) := by decide +kernel
theorem dX7_workOn_23 : decode cX7_workOn 23 = .ok (.getfield 13, 3) := by decide +kernel
theorem dX7_workOn_26 : decode cX7_workOn 26 = .ok (.invokevirtual 159, 3) := by decide +kernel
theorem dX7_workOn_29 : decode cX7_workOn 29 = .ok (.ifCond .eq 41, 3) := by decide +kernel
theorem dX7_workOn_32 : decode cX7_workOn 32 = .ok (.iload_n 2, 1) := by decide +kernel
theorem dX7_workOn_33 : decode cX7_workOn 33 = .ok (.aload_n 0, 1) := by decide +kernel
theorem dX7_workOn_34 : decode cX7_workOn 34 = .ok (.getfield 13, 3) := by decide +kernel
theorem dX7_workOn_37 : decode cX7_workOn 37 = .ok (.iconst 4, 1) := by decide +kernel
theorem dX7_workOn_38 : decode cX7_workOn 38 = .ok (.iaload, 1) := by decide +kernel
theorem dX7_workOn_39 : decode cX7_workOn 39 = .ok (.iadd, 1) := by decide +kernel
theorem dX7_workOn_40 : decode cX7_workOn 40 = .ok (.istore_n 2, 1) := by decide +kernel
theorem dX7_workOn_41 : decode cX7_workOn 41 = .ok (.aload_n 1, 1) := by decide +kernel
theorem dX7_workOn_42 : decode cX7_workOn 42 = .ok (.aload_n 0, 1) := by decide +kernel
theorem dX7_workOn_43 : decode cX7_workOn 43 = .ok (.getfield 13, 3) := by decide +kernel
theorem dX7_workOn_46 : decode cX7_workOn 46 = .ok (.aload_n 0, 1) := by decide +kernel
theorem dX7_workOn_47 : decode cX7_workOn 47 = .ok (.getfield 13, 3) := by decide +kernel
theorem dX7_workOn_50 : decode cX7_workOn 50 = .ok (.iconst 3, 1) := by decide +kernel
theorem dX7_workOn_51 : decode cX7_workOn 51 = .ok (.iaload, 1) := by decide +kernel
theorem dX7_workOn_52 : decode cX7_workOn 52 = .ok (.bipush 18, 2) := by decide +kernel
theorem dX7_workOn_54 : decode cX7_workOn 54 = .ok (.invokestatic 42, 3) := by decide +kernel
theorem dX7_workOn_57 : decode cX7_workOn 57 = .ok (.iload_n 2, 1) := by decide +kernel
theorem dX7_workOn_58 : decode cX7_workOn 58 = .ok (.iastore, 1) := by decide +kernel
theorem dX7_workOn_59 : decode cX7_workOn 59 = .ok (.aload_n 0, 1) := by decide +kernel
theorem dX7_workOn_60 : decode cX7_workOn 60 = .ok (.aload_n 0, 1) := by decide +kernel
theorem dX7_workOn_61 : decode cX7_workOn 61 = .ok (.getfield 13, 3) := by decide +kernel
theorem dX7_workOn_64 : decode cX7_workOn 64 = .ok (.invokevirtual 163, 3) := by decide +kernel
theorem dX7_workOn_67 : decode cX7_workOn 67 = .ok (.goto (-46), 3) := by decide +kernel
theorem dX7_workOn_70 : decode cX7_workOn 70 = .ok (.return_, 1) := by decide +kernel
theorem dX7_doneIn_0 : decode cX7_doneIn 0 = .ok (.aload_n 0, 1) := by decide +kernel
theorem dX7_doneIn_1 : decode cX7_doneIn 1 = .ok (.iconst 0, 1) := by decide +kernel
theorem dX7_doneIn_2 : decode cX7_doneIn 2 = .ok (.putfield 31, 3) := by decide +kernel
theorem dX7_doneIn_5 : decode cX7_doneIn 5 = .ok (.aload_n 0, 1) := by decide +kernel
theorem dX7_doneIn_6 : decode cX7_doneIn 6 = .ok (.iload_n 1, 1) := by decide +kernel
theorem dX7_doneIn_7 : decode cX7_doneIn 7 = .ok (.invokevirtual 137, 3) := by decide +kernel
theorem dX7_doneIn_10 : decode cX7_doneIn 10 = .ok (.ifCond .ne 5, 3) := by decide +kernel
theorem dX7_doneIn_13 : decode cX7_doneIn 13 = .ok (.iconst (-1), 1) := by decide +kernel
theorem dX7_doneIn_14 : decode cX7_doneIn 14 = .ok (.ireturn, 1) := by decide +kernel
theorem dX7_doneIn_15 : decode cX7_doneIn 15 = .ok (.aload_n 0, 1) := by decide +kernel
theorem dX7_doneIn_16 : decode cX7_doneIn 16 = .ok (.invokevirtual 169, 3) := by decide +kernel
theorem dX7_doneIn_19 : decode cX7_doneIn 19 = .ok (.aload_n 0, 1) := by decide +kernel
theorem dX7_doneIn_20 : decode cX7_doneIn 20 = .ok (.aload_n 0, 1) := by decide +kernel
theorem dX7_doneIn_21 : decode cX7_doneIn 21 = .ok (.getfield 22, 3) := by decide +kernel
theorem dX7_doneIn_24 : decode cX7_doneIn 24 = .ok (.invokevirtual 172, 3) := by decide +kernel
theorem dX7_doneIn_27 : decode cX7_doneIn 27 = .ok (.aload_n 0, 1) := by decide +kernel
theorem dX7_doneIn_28 : decode cX7_doneIn 28 = .ok (.getfield 22, 3) := by decide +kernel
theorem dX7_doneIn_31 : decode cX7_doneIn 31 = .ok (.iload_n 1, 1) := by decide +kernel
theorem dX7_doneIn_32 : decode cX7_doneIn 32 = .ok (.iaload, 1) := by decide +kernel
theorem dX7_doneIn_33 : decode cX7_doneIn 33 = .ok (.ireturn, 1) := by decide +kernel
theorem dX7_moved_0 : decode cX7_moved 0 = .ok (.aload_n 0, 1) := by decide +kernel
theorem dX7_moved_1 : decode cX7_moved 1 = .ok (.iconst 0, 1) := by decide +kernel
theorem dX7_moved_2 : decode cX7_moved 2 = .ok (.putfield 31, 3) := by decide +kernel
theorem dX7_moved_5 : decode cX7_moved 5 = .ok (.aload_n 0, 1) := by decide +kernel
theorem dX7_moved_6 : decode cX7_moved 6 = .ok (.iload_n 1, 1) := by decide +kernel
theorem dX7_moved_7 : decode cX7_moved 7 = .ok (.invokevirtual 137, 3) := by decide +kernel
theorem dX7_moved_10 : decode cX7_moved 10 = .ok (.ifCond .ne 5, 3) := by decide +kernel
theorem dX7_moved_13 : decode cX7_moved 13 = .ok (.iconst (-1), 1) := by decide +kernel
theorem dX7_moved_14 : decode cX7_moved 14 = .ok (.ireturn, 1) := by decide +kernel
theorem dX7_moved_15 : decode cX7_moved 15 = .ok (.aload_n 0, 1) := by decide +kernel
theorem dX7_moved_16 : decode cX7_moved 16 = .ok (.getfield 7, 3) := by decide +kernel
theorem dX7_moved_19 : decode cX7_moved 19 = .ok (.iload_n 1, 1) := by decide +kernel
theorem dX7_moved_20 : decode cX7_moved 20 = .ok (.iconst 4, 1) := by decide +kernel
theorem dX7_moved_21 : decode cX7_moved 21 = .ok (.invokestatic 42, 3) := by decide +kernel
theorem dX7_moved_24 : decode cX7_moved 24 = .ok (.iconst 1, 1) := by decide +kernel
theorem dX7_moved_25 : decode cX7_moved 25 = .ok (.if_icmp .ne 6, 3) := by decide +kernel
theorem dX7_moved_28 : decode cX7_moved 28 = .ok (.bipush (-2), 2) := by decide +kernel
theorem dX7_moved_30 : decode cX7_moved 30 = .ok (.ireturn, 1) := by decide +kernel
theorem dX7_moved_31 : decode cX7_moved 31 = .ok (.aload_n 0, 1) := by decide +kernel
theorem dX7_moved_32 : decode cX7_moved 32 = .ok (.invokevirtual 169, 3) := by decide +kernel
theorem dX7_moved_35 : decode cX7_moved 35 = .ok (.aload_n 0, 1) := by decide +kernel
theorem dX7_moved_36 : decode cX7_moved 36 = .ok (.aload_n 0, 1) := by decide +kernel
theorem dX7_moved_37 : decode cX7_moved 37 = .ok (.getfield 22, 3) := by decide +kernel
theorem dX7_moved_40 : decode cX7_moved 40 = .ok (.invokevirtual 172, 3) := by decide +kernel
theorem dX7_moved_43 : decode cX7_moved 43 = .ok (.aload_n 0, 1) := by decide +kernel
theorem dX7_moved_44 : decode cX7_moved 44 = .ok (.invokevirtual 169, 3) := by decide +kernel
theorem dX7_moved_47 : decode cX7_moved 47 = .ok (.aload_n 0, 1) := by decide +kernel
theorem dX7_moved_48 : decode cX7_moved 48 = .ok (.aload_n 0, 1) := by decide +kernel
theorem dX7_moved_49 : decode cX7_moved 49 = .ok (.getfield 13, 3) := by decide +kernel
theorem dX7_moved_52 : decode cX7_moved 52 = .ok (.iload_n 1, 1) := by decide +kernel
theorem dX7_moved_53 : decode cX7_moved 53 = .ok (.invokevirtual 140, 3) := by decide +kernel
theorem dX7_moved_56 : decode cX7_moved 56 = .ok (.istore_n 2, 1) := by decide +kernel
theorem dX7_moved_57 : decode cX7_moved 57 = .ok (.aload_n 0, 1) := by decide +kernel
theorem dX7_moved_58 : decode cX7_moved 58 = .ok (.aload_n 0, 1) := by decide +kernel
theorem dX7_moved_59 : decode cX7_moved 59 = .ok (.getfield 25, 3) := by decide +kernel
theorem dX7_moved_62 : decode cX7_moved 62 = .ok (.invokevirtual 172, 3) := by decide +kernel
theorem dX7_moved_65 : decode cX7_moved 65 = .ok (.iconst 0, 1) := by decide +kernel
theorem dX7_moved_66 : decode cX7_moved 66 = .ok (.istore_n 3, 1) := by decide +kernel
theorem dX7_moved_67 : decode cX7_moved 67 = .ok (.iload_n 2, 1) := by decide +kernel
theorem dX7_moved_68 : decode cX7_moved 68 = .ok (.ifCond .lt 7, 3) := by decide +kernel
theorem dX7_moved_71 : decode cX7_moved 71 = .ok (.iconst 1, 1) := by decide +kernel
theorem dX7_moved_72 : decode cX7_moved 72 = .ok (.goto 4, 3) := by decide +kernel
theorem dX7_moved_75 : decode cX7_moved 75 = .ok (.iconst 0, 1) := by decide +kernel
theorem dX7_moved_76 : decode cX7_moved 76 = .ok (.istore 4, 2) := by decide +kernel
theorem dX7_moved_78 : decode cX7_moved 78 = .ok (.iconst 0, 1) := by decide +kernel
theorem dX7_moved_79 : decode cX7_moved 79 = .ok (.istore 5, 2) := by decide +kernel
theorem dX7_moved_81 : decode cX7_moved 81 = .ok (.iload 5, 2) := by decide +kernel
theorem dX7_moved_83 : decode cX7_moved 83 = .ok (.aload_n 0, 1) := by decide +kernel
theorem dX7_moved_84 : decode cX7_moved 84 = .ok (.getfield 7, 3) := by decide +kernel
theorem dX7_moved_87 : decode cX7_moved 87 = .ok (.iconst 2, 1) := by decide +kernel
theorem dX7_moved_88 : decode cX7_moved 88 = .ok (.iaload, 1) := by decide +kernel
theorem dX7_moved_89 : decode cX7_moved 89 = .ok (.if_icmp .ge 73, 3) := by decide +kernel
theorem dX7_moved_92 : decode cX7_moved 92 = .ok (.iload 4, 2) := by decide +kernel
theorem dX7_moved_94 : decode cX7_moved 94 = .ok (.ifCond .eq 31, 3) := by decide +kernel
theorem dX7_moved_97 : decode cX7_moved 97 = .ok (.aload_n 0, 1) := by decide +kernel
theorem dX7_moved_98 : decode cX7_moved 98 = .ok (.getfield 22, 3) := by decide +kernel
theorem dX7_moved_101 : decode cX7_moved 101 = .ok (.iload 5, 2) := by decide +kernel
theorem dX7_moved_103 : decode cX7_moved 103 = .ok (.iaload, 1) := by decide +kernel
theorem dX7_moved_104 : decode cX7_moved 104 = .ok (.bipush (-9), 2) := by decide +kernel
theorem dX7_moved_106 : decode cX7_moved 106 = .ok (.if_icmp .eq 19, 3) := by decide +kernel
theorem dX7_moved_109 : decode cX7_moved 109 = .ok (.aload_n 0, 1) := by decide +kernel
theorem dX7_moved_110 : decode cX7_moved 110 = .ok (.getfield 25, 3) := by decide +kernel
theorem dX7_moved_113 : decode cX7_moved 113 = .ok (.iload 5, 2) := by decide +kernel
theorem dX7_moved_115 : decode cX7_moved 115 = .ok (.iaload, 1) := by decide +kernel
theorem dX7_moved_116 : decode cX7_moved 116 = .ok (.bipush (-9), 2) := by decide +kernel
theorem dX7_moved_118 : decode cX7_moved 118 = .ok (.if_icmp .eq 7, 3) := by decide +kernel
theorem dX7_moved_121 : decode cX7_moved 121 = .ok (.iconst 1, 1) := by decide +kernel
theorem dX7_moved_122 : decode cX7_moved 122 = .ok (.goto 4, 3) := by decide +kernel
theorem dX7_moved_125 : decode cX7_moved 125 = .ok (.iconst 0, 1) := by decide +kernel
theorem dX7_moved_126 : decode cX7_moved 126 = .ok (.istore 4, 2) := by decide +kernel
theorem dX7_moved_128 : decode cX7_moved 128 = .ok (.iload_n 3, 1) := by decide +kernel
theorem dX7_moved_129 : decode cX7_moved 129 = .ok (.iload 5, 2) := by decide +kernel
theorem dX7_moved_131 : decode cX7_moved 131 = .ok (.iload_n 1, 1) := by decide +kernel
theorem dX7_moved_132 : decode cX7_moved 132 = .ok (.if_icmp .ne 7, 3) := by decide +kernel
theorem dX7_moved_135 : decode cX7_moved 135 = .ok (.iconst 0, 1) := by decide +kernel
theorem dX7_moved_136 : decode cX7_moved 136 = .ok (.goto 18, 3) := by decide +kernel
theorem dX7_moved_139 : decode cX7_moved 139 = .ok (.aload_n 0, 1) := by decide +kernel
theorem dX7_moved_140 : decode cX7_moved 140 = .ok (.getfield 25, 3) := by decide +kernel
theorem dX7_moved_143 : decode cX7_moved 143 = .ok (.iload 5, 2) := by decide +kernel
theorem dX7_moved_145 : decode cX7_moved 145 = .ok (.iaload, 1) := by decide +kernel
theorem dX7_moved_146 : decode cX7_moved 146 = .ok (.aload_n 0, 1) := by decide +kernel
theorem dX7_moved_147 : decode cX7_moved 147 = .ok (.getfield 22, 3) := by decide +kernel
theorem dX7_moved_150 : decode cX7_moved 150 = .ok (.iload 5, 2) := by decide +kernel
theorem dX7_moved_152 : decode cX7_moved 152 = .ok (.iaload, 1) := by decide +kernel
theorem dX7_moved_153 : decode cX7_moved 153 = .ok (.isub, 1) := by decide +kernel
theorem dX7_moved_154 : decode cX7_moved 154 = .ok (.iadd, 1) := by decide +kernel
theorem dX7_moved_155 : decode cX7_moved 155 = .ok (.istore_n 3, 1) := by decide +kernel
theorem dX7_moved_156 : decode cX7_moved 156 = .ok (.iinc 5 1, 3) := by decide +kernel
theorem dX7_moved_159 : decode cX7_moved 159 = .ok (.goto (-78), 3) := by decide +kernel
theorem dX7_moved_162 : decode cX7_moved 162 = .ok (.iload 4, 2) := by decide +kernel
theorem dX7_moved_164 : decode cX7_moved 164 = .ok (.ifCond .eq 10, 3) := by decide +kernel
theorem dX7_moved_167 : decode cX7_moved 167 = .ok (.ldc 175, 2) := by decide +kernel
theorem dX7_moved_169 : decode cX7_moved 169 = .ok (.iload_n 3, 1) := by decide +kernel
theorem dX7_moved_170 : decode cX7_moved 170 = .ok (.iadd, 1) := by decide +kernel
theorem dX7_moved_171 : decode cX7_moved 171 = .ok (.goto 5, 3) := by decide +kernel
theorem dX7_moved_174 : decode cX7_moved 174 = .ok (.bipush (-9), 2) := by decide +kernel
theorem dX7_moved_176 : decode cX7_moved 176 = .ok (.ireturn, 1) := by decide +kernel
theorem dX7_largestSize_0 : decode cX7_largestSize 0 = .ok (.aload_n 0, 1) := by decide +kernel
theorem dX7_largestSize_1 : decode cX7_largestSize 1 = .ok (.iconst 0, 1) := by decide +kernel
theorem dX7_largestSize_2 : decode cX7_largestSize 2 = .ok (.putfield 31, 3) := by decide +kernel
theorem dX7_largestSize_5 : decode cX7_largestSize 5 = .ok (.aload_n 0, 1) := by decide +kernel
theorem dX7_largestSize_6 : decode cX7_largestSize 6 = .ok (.iload_n 1, 1) := by decide +kernel
theorem dX7_largestSize_7 : decode cX7_largestSize 7 = .ok (.invokevirtual 105, 3) := by decide +kernel
theorem dX7_largestSize_10 : decode cX7_largestSize 10 = .ok (.ifCond .ne 5, 3) := by decide +kernel
theorem dX7_largestSize_13 : decode cX7_largestSize 13 = .ok (.iconst (-1), 1) := by decide +kernel
theorem dX7_largestSize_14 : decode cX7_largestSize 14 = .ok (.ireturn, 1) := by decide +kernel
theorem dX7_largestSize_15 : decode cX7_largestSize 15 = .ok (.aload_n 0, 1) := by decide +kernel
theorem dX7_largestSize_16 : decode cX7_largestSize 16 = .ok (.getfield 50, 3) := by decide +kernel
theorem dX7_largestSize_19 : decode cX7_largestSize 19 = .ok (.ifCond .ne 6, 3) := by decide +kernel
theorem dX7_largestSize_22 : decode cX7_largestSize 22 = .ok (.bipush (-2), 2) := by decide +kernel
theorem dX7_largestSize_24 : decode cX7_largestSize 24 = .ok (.ireturn, 1) := by decide +kernel
theorem dX7_largestSize_25 : decode cX7_largestSize 25 = .ok (.iconst 4, 1) := by decide +kernel
theorem dX7_largestSize_26 : decode cX7_largestSize 26 = .ok (.istore_n 2, 1) := by decide +kernel
theorem dX7_largestSize_27 : decode cX7_largestSize 27 = .ok (.iload_n 2, 1) := by decide +kernel
theorem dX7_largestSize_28 : decode cX7_largestSize 28 = .ok (.ifCond .le 26, 3) := by decide +kernel
theorem dX7_largestSize_31 : decode cX7_largestSize 31 = .ok (.aload_n 0, 1) := by decide +kernel
theorem dX7_largestSize_32 : decode cX7_largestSize 32 = .ok (.iload_n 2, 1) := by decide +kernel
theorem dX7_largestSize_33 : decode cX7_largestSize 33 = .ok (.invokevirtual 166, 3) := by decide +kernel
theorem dX7_largestSize_36 : decode cX7_largestSize 36 = .ok (.aload_n 0, 1) := by decide +kernel
theorem dX7_largestSize_37 : decode cX7_largestSize 37 = .ok (.getfield 7, 3) := by decide +kernel
theorem dX7_largestSize_40 : decode cX7_largestSize 40 = .ok (.iload_n 1, 1) := by decide +kernel
theorem dX7_largestSize_41 : decode cX7_largestSize 41 = .ok (.iconst 0, 1) := by decide +kernel
theorem dX7_largestSize_42 : decode cX7_largestSize 42 = .ok (.invokestatic 53, 3) := by decide +kernel
theorem dX7_largestSize_45 : decode cX7_largestSize 45 = .ok (.if_icmp .le 9, 3) := by decide +kernel
theorem dX7_largestSize_48 : decode cX7_largestSize 48 = .ok (.iinc 2 (-1), 3) := by decide +kernel
theorem dX7_largestSize_51 : decode cX7_largestSize 51 = .ok (.goto (-24), 3) := by decide +kernel
theorem dX7_largestSize_54 : decode cX7_largestSize 54 = .ok (.iload_n 2, 1) := by decide +kernel
theorem dX7_largestSize_55 : decode cX7_largestSize 55 = .ok (.ifCond .ne 8, 3) := by decide +kernel
theorem dX7_largestSize_58 : decode cX7_largestSize 58 = .ok (.bipush (-9), 2) := by decide +kernel
theorem dX7_largestSize_60 : decode cX7_largestSize 60 = .ok (.goto 4, 3) := by decide +kernel
theorem dX7_largestSize_63 : decode cX7_largestSize 63 = .ok (.iload_n 2, 1) := by decide +kernel
theorem dX7_largestSize_64 : decode cX7_largestSize 64 = .ok (.ireturn, 1) := by decide +kernel
theorem dJ9_min_7cf53_0 : decode cJ9_min_7cf53 0 = .ok (.iload_n 0, 1) := by decide +kernel
theorem dJ9_min_7cf53_1 : decode cJ9_min_7cf53 1 = .ok (.iload_n 1, 1) := by decide +kernel
theorem dJ9_min_7cf53_2 : decode cJ9_min_7cf53 2 = .ok (.if_icmp .gt 7, 3) := by decide +kernel
theorem dJ9_min_7cf53_5 : decode cJ9_min_7cf53 5 = .ok (.iload_n 0, 1) := by decide +kernel
theorem dJ9_min_7cf53_6 : decode cJ9_min_7cf53 6 = .ok (.goto 4, 3) := by decide +kernel
theorem dJ9_min_7cf53_9 : decode cJ9_min_7cf53 9 = .ok (.iload_n 1, 1) := by decide +kernel
theorem dJ9_min_7cf53_10 : decode cJ9_min_7cf53 10 = .ok (.ireturn, 1) := by decide +kernel
theorem dL_law_0 : decode cL_law 0 = .ok (.new 7, 3) := by decide +kernel
theorem dL_law_3 : decode cL_law 3 = .ok (.dup, 1) := by decide +kernel
theorem dL_law_4 : decode cL_law 4 = .ok (.invokespecial 9, 3) := by decide +kernel
theorem dL_law_7 : decode cL_law 7 = .ok (.astore_n 1, 1) := by decide +kernel
theorem dL_law_8 : decode cL_law 8 = .ok (.new 10, 3) := by decide +kernel
theorem dL_law_11 : decode cL_law 11 = .ok (.dup, 1) := by decide +kernel
theorem dL_law_12 : decode cL_law 12 = .ok (.invokespecial 12, 3) := by decide +kernel
theorem dL_law_15 : decode cL_law 15 = .ok (.astore_n 2, 1) := by decide +kernel
theorem dL_law_16 : decode cL_law 16 = .ok (.iconst 0, 1) := by decide +kernel
theorem dL_law_17 : decode cL_law 17 = .ok (.istore_n 3, 1) := by decide +kernel
theorem dL_law_18 : decode cL_law 18 = .ok (.iload_n 3, 1) := by decide +kernel
theorem dL_law_19 : decode cL_law 19 = .ok (.aload_n 0, 1) := by decide +kernel
theorem dL_law_20 : decode cL_law 20 = .ok (.arraylength, 1) := by decide +kernel
theorem dL_law_21 : decode cL_law 21 = .ok (.bipush 6, 2) := by decide +kernel
theorem dL_law_23 : decode cL_law 23 = .ok (.isub, 1) := by decide +kernel
theorem dL_law_24 : decode cL_law 24 = .ok (.if_icmp .gt 788, 3) := by decide +kernel
theorem dL_law_27 : decode cL_law 27 = .ok (.aload_n 0, 1) := by decide +kernel
theorem dL_law_28 : decode cL_law 28 = .ok (.iload_n 3, 1) := by decide +kernel
theorem dL_law_29 : decode cL_law 29 = .ok (.iaload, 1) := by decide +kernel
theorem dL_law_30 : decode cL_law 30 = .ok (.bipush 31, 2) := by decide +kernel
theorem dL_law_32 : decode cL_law 32 = .ok (.iand, 1) := by decide +kernel
theorem dL_law_33 : decode cL_law 33 = .ok (.tableswitch 773 0 23 #[111, 144, 167, 200, 223, 256, 279, 292, 355, 378, 401, 424, 437, 450, 473, 506, 539, 572, 605, 638, 661, 704, 727, 750], 111) := by decide +kernel
theorem dL_law_144 : decode cL_law 144 = .ok (.aload_n 1, 1) := by decide +kernel
theorem dL_law_145 : decode cL_law 145 = .ok (.aload_n 0, 1) := by decide +kernel
theorem dL_law_146 : decode cL_law 146 = .ok (.iload_n 3, 1) := by decide +kernel
theorem dL_law_147 : decode cL_law 147 = .ok (.iconst 1, 1) := by decide +kernel
theorem dL_law_148 : decode cL_law 148 = .ok (.iadd, 1) := by decide +kernel
theorem dL_law_149 : decode cL_law 149 = .ok (.iaload, 1) := by decide +kernel
theorem dL_law_150 : decode cL_law 150 = .ok (.aload_n 0, 1) := by decide +kernel
theorem dL_law_151 : decode cL_law 151 = .ok (.iload_n 3, 1) := by decide +kernel
theorem dL_law_152 : decode cL_law 152 = .ok (.iconst 2, 1) := by decide +kernel
theorem dL_law_153 : decode cL_law 153 = .ok (.iadd, 1) := by decide +kernel
theorem dL_law_154 : decode cL_law 154 = .ok (.iaload, 1) := by decide +kernel
theorem dL_law_155 : decode cL_law 155 = .ok (.invokevirtual 13, 3) := by decide +kernel
theorem dL_law_158 : decode cL_law 158 = .ok (.aload_n 2, 1) := by decide +kernel
theorem dL_law_159 : decode cL_law 159 = .ok (.aload_n 0, 1) := by decide +kernel
theorem dL_law_160 : decode cL_law 160 = .ok (.iload_n 3, 1) := by decide +kernel
theorem dL_law_161 : decode cL_law 161 = .ok (.iconst 1, 1) := by decide +kernel
theorem dL_law_162 : decode cL_law 162 = .ok (.iadd, 1) := by decide +kernel
theorem dL_law_163 : decode cL_law 163 = .ok (.iaload, 1) := by decide +kernel
theorem dL_law_164 : decode cL_law 164 = .ok (.aload_n 0, 1) := by decide +kernel
theorem dL_law_165 : decode cL_law 165 = .ok (.iload_n 3, 1) := by decide +kernel
theorem dL_law_166 : decode cL_law 166 = .ok (.iconst 2, 1) := by decide +kernel
theorem dL_law_167 : decode cL_law 167 = .ok (.iadd, 1) := by decide +kernel
theorem dL_law_168 : decode cL_law 168 = .ok (.iaload, 1) := by decide +kernel
theorem dL_law_169 : decode cL_law 169 = .ok (.invokevirtual 17, 3) := by decide +kernel
theorem dL_law_172 : decode cL_law 172 = .ok (.if_icmp .eq 634, 3) := by decide +kernel
theorem dL_law_175 : decode cL_law 175 = .ok (.iconst 0, 1) := by decide +kernel
theorem dL_law_176 : decode cL_law 176 = .ok (.ireturn, 1) := by decide +kernel
theorem dL_law_177 : decode cL_law 177 = .ok (.aload_n 1, 1) := by decide +kernel
theorem dL_law_178 : decode cL_law 178 = .ok (.aload_n 0, 1) := by decide +kernel
theorem dL_law_179 : decode cL_law 179 = .ok (.iload_n 3, 1) := by decide +kernel
theorem dL_law_180 : decode cL_law 180 = .ok (.iconst 1, 1) := by decide +kernel
theorem dL_law_181 : decode cL_law 181 = .ok (.iadd, 1) := by decide +kernel
theorem dL_law_182 : decode cL_law 182 = .ok (.iaload, 1) := by decide +kernel
theorem dL_law_183 : decode cL_law 183 = .ok (.invokevirtual 18, 3) := by decide +kernel
theorem dL_law_186 : decode cL_law 186 = .ok (.aload_n 2, 1) := by decide +kernel
theorem dL_law_187 : decode cL_law 187 = .ok (.aload_n 0, 1) := by decide +kernel
theorem dL_law_188 : decode cL_law 188 = .ok (.iload_n 3, 1) := by decide +kernel
theorem dL_law_189 : decode cL_law 189 = .ok (.iconst 1, 1) := by decide +kernel
theorem dL_law_190 : decode cL_law 190 = .ok (.iadd, 1) := by decide +kernel
theorem dL_law_191 : decode cL_law 191 = .ok (.iaload, 1) := by decide +kernel
theorem dL_law_192 : decode cL_law 192 = .ok (.invokevirtual 22, 3) := by decide +kernel
theorem dL_law_195 : decode cL_law 195 = .ok (.if_icmp .eq 611, 3) := by decide +kernel
theorem dL_law_198 : decode cL_law 198 = .ok (.iconst 0, 1) := by decide +kernel
theorem dL_law_199 : decode cL_law 199 = .ok (.ireturn, 1) := by decide +kernel
theorem dL_law_200 : decode cL_law 200 = .ok (.aload_n 1, 1) := by decide +kernel
theorem dL_law_201 : decode cL_law 201 = .ok (.aload_n 0, 1) := by decide +kernel
theorem dL_law_202 : decode cL_law 202 = .ok (.iload_n 3, 1) := by decide +kernel
theorem dL_law_203 : decode cL_law 203 = .ok (.iconst 1, 1) := by decide +kernel
theorem dL_law_204 : decode cL_law 204 = .ok (.iadd, 1) := by decide +kernel
theorem dL_law_205 : decode cL_law 205 = .ok (.iaload, 1) := by decide +kernel
theorem dL_law_206 : decode cL_law 206 = .ok (.aload_n 0, 1) := by decide +kernel
theorem dL_law_207 : decode cL_law 207 = .ok (.iload_n 3, 1) := by decide +kernel
theorem dL_law_208 : decode cL_law 208 = .ok (.iconst 2, 1) := by decide +kernel
theorem dL_law_209 : decode cL_law 209 = .ok (.iadd, 1) := by decide +kernel
theorem dL_law_210 : decode cL_law 210 = .ok (.iaload, 1) := by decide +kernel
theorem dL_law_211 : decode cL_law 211 = .ok (.invokevirtual 23, 3) := by decide +kernel
theorem dL_law_214 : decode cL_law 214 = .ok (.aload_n 2, 1) := by decide +kernel
theorem dL_law_215 : decode cL_law 215 = .ok (.aload_n 0, 1) := by decide +kernel
theorem dL_law_216 : decode cL_law 216 = .ok (.iload_n 3, 1) := by decide +kernel
theorem dL_law_217 : decode cL_law 217 = .ok (.iconst 1, 1) := by decide +kernel
theorem dL_law_218 : decode cL_law 218 = .ok (.iadd, 1) := by decide +kernel
theorem dL_law_219 : decode cL_law 219 = .ok (.iaload, 1) := by decide +kernel
theorem dL_law_220 : decode cL_law 220 = .ok (.aload_n 0, 1) := by decide +kernel
theorem dL_law_221 : decode cL_law 221 = .ok (.iload_n 3, 1) := by decide +kernel
theorem dL_law_222 : decode cL_law 222 = .ok (.iconst 2, 1) := by decide +kernel
theorem dL_law_223 : decode cL_law 223 = .ok (.iadd, 1) := by decide +kernel
theorem dL_law_224 : decode cL_law 224 = .ok (.iaload, 1) := by decide +kernel
theorem dL_law_225 : decode cL_law 225 = .ok (.invokevirtual 26, 3) := by decide +kernel
theorem dL_law_228 : decode cL_law 228 = .ok (.if_icmp .eq 578, 3) := by decide +kernel
theorem dL_law_231 : decode cL_law 231 = .ok (.iconst 0, 1) := by decide +kernel
theorem dL_law_232 : decode cL_law 232 = .ok (.ireturn, 1) := by decide +kernel
theorem dL_law_233 : decode cL_law 233 = .ok (.aload_n 1, 1) := by decide +kernel
theorem dL_law_234 : decode cL_law 234 = .ok (.aload_n 0, 1) := by decide +kernel
theorem dL_law_235 : decode cL_law 235 = .ok (.iload_n 3, 1) := by decide +kernel
theorem dL_law_236 : decode cL_law 236 = .ok (.iconst 1, 1) := by decide +kernel
theorem dL_law_237 : decode cL_law 237 = .ok (.iadd, 1) := by decide +kernel
theorem dL_law_238 : decode cL_law 238 = .ok (.iaload, 1) := by decide +kernel
theorem dL_law_239 : decode cL_law 239 = .ok (.invokevirtual 27, 3) := by decide +kernel
theorem dL_law_242 : decode cL_law 242 = .ok (.aload_n 2, 1) := by decide +kernel
theorem dL_law_243 : decode cL_law 243 = .ok (.aload_n 0, 1) := by decide +kernel
theorem dL_law_244 : decode cL_law 244 = .ok (.iload_n 3, 1) := by decide +kernel
theorem dL_law_245 : decode cL_law 245 = .ok (.iconst 1, 1) := by decide +kernel
theorem dL_law_246 : decode cL_law 246 = .ok (.iadd, 1) := by decide +kernel
theorem dL_law_247 : decode cL_law 247 = .ok (.iaload, 1) := by decide +kernel
theorem dL_law_248 : decode cL_law 248 = .ok (.invokevirtual 30, 3) := by decide +kernel
theorem dL_law_251 : decode cL_law 251 = .ok (.if_icmp .eq 555, 3) := by decide +kernel
theorem dL_law_254 : decode cL_law 254 = .ok (.iconst 0, 1) := by decide +kernel
theorem dL_law_255 : decode cL_law 255 = .ok (.ireturn, 1) := by decide +kernel
theorem dL_law_256 : decode cL_law 256 = .ok (.aload_n 1, 1) := by decide +kernel
theorem dL_law_257 : decode cL_law 257 = .ok (.aload_n 0, 1) := by decide +kernel
theorem dL_law_258 : decode cL_law 258 = .ok (.iload_n 3, 1) := by decide +kernel
theorem dL_law_259 : decode cL_law 259 = .ok (.iconst 1, 1) := by decide +kernel
theorem dL_law_260 : decode cL_law 260 = .ok (.iadd, 1) := by decide +kernel
theorem dL_law_261 : decode cL_law 261 = .ok (.iaload, 1) := by decide +kernel
theorem dL_law_262 : decode cL_law 262 = .ok (.aload_n 0, 1) := by decide +kernel
theorem dL_law_263 : decode cL_law 263 = .ok (.iload_n 3, 1) := by decide +kernel
theorem dL_law_264 : decode cL_law 264 = .ok (.iconst 2, 1) := by decide +kernel
theorem dL_law_265 : decode cL_law 265 = .ok (.iadd, 1) := by decide +kernel
theorem dL_law_266 : decode cL_law 266 = .ok (.iaload, 1) := by decide +kernel
theorem dL_law_267 : decode cL_law 267 = .ok (.invokevirtual 31, 3) := by decide +kernel
theorem dL_law_270 : decode cL_law 270 = .ok (.aload_n 2, 1) := by decide +kernel
theorem dL_law_271 : decode cL_law 271 = .ok (.aload_n 0, 1) := by decide +kernel
theorem dL_law_272 : decode cL_law 272 = .ok (.iload_n 3, 1) := by decide +kernel
theorem dL_law_273 : decode cL_law 273 = .ok (.iconst 1, 1) := by decide +kernel
theorem dL_law_274 : decode cL_law 274 = .ok (.iadd, 1) := by decide +kernel
theorem dL_law_275 : decode cL_law 275 = .ok (.iaload, 1) := by decide +kernel
theorem dL_law_276 : decode cL_law 276 = .ok (.aload_n 0, 1) := by decide +kernel
theorem dL_law_277 : decode cL_law 277 = .ok (.iload_n 3, 1) := by decide +kernel
theorem dL_law_278 : decode cL_law 278 = .ok (.iconst 2, 1) := by decide +kernel
theorem dL_law_279 : decode cL_law 279 = .ok (.iadd, 1) := by decide +kernel
theorem dL_law_280 : decode cL_law 280 = .ok (.iaload, 1) := by decide +kernel
theorem dL_law_281 : decode cL_law 281 = .ok (.invokevirtual 34, 3) := by decide +kernel
theorem dL_law_284 : decode cL_law 284 = .ok (.if_icmp .eq 522, 3) := by decide +kernel
theorem dL_law_287 : decode cL_law 287 = .ok (.iconst 0, 1) := by decide +kernel
theorem dL_law_288 : decode cL_law 288 = .ok (.ireturn, 1) := by decide +kernel
theorem dL_law_289 : decode cL_law 289 = .ok (.aload_n 1, 1) := by decide +kernel
theorem dL_law_290 : decode cL_law 290 = .ok (.aload_n 0, 1) := by decide +kernel
theorem dL_law_291 : decode cL_law 291 = .ok (.iload_n 3, 1) := by decide +kernel
theorem dL_law_292 : decode cL_law 292 = .ok (.iconst 1, 1) := by decide +kernel
theorem dL_law_293 : decode cL_law 293 = .ok (.iadd, 1) := by decide +kernel
theorem dL_law_294 : decode cL_law 294 = .ok (.iaload, 1) := by decide +kernel
theorem dL_law_295 : decode cL_law 295 = .ok (.invokevirtual 35, 3) := by decide +kernel
theorem dL_law_298 : decode cL_law 298 = .ok (.aload_n 2, 1) := by decide +kernel
theorem dL_law_299 : decode cL_law 299 = .ok (.aload_n 0, 1) := by decide +kernel
theorem dL_law_300 : decode cL_law 300 = .ok (.iload_n 3, 1) := by decide +kernel
theorem dL_law_301 : decode cL_law 301 = .ok (.iconst 1, 1) := by decide +kernel
theorem dL_law_302 : decode cL_law 302 = .ok (.iadd, 1) := by decide +kernel
theorem dL_law_303 : decode cL_law 303 = .ok (.iaload, 1) := by decide +kernel
theorem dL_law_304 : decode cL_law 304 = .ok (.invokevirtual 38, 3) := by decide +kernel
theorem dL_law_307 : decode cL_law 307 = .ok (.if_icmp .eq 499, 3) := by decide +kernel
theorem dL_law_310 : decode cL_law 310 = .ok (.iconst 0, 1) := by decide +kernel
theorem dL_law_311 : decode cL_law 311 = .ok (.ireturn, 1) := by decide +kernel
theorem dL_law_312 : decode cL_law 312 = .ok (.aload_n 1, 1) := by decide +kernel
theorem dL_law_313 : decode cL_law 313 = .ok (.invokevirtual 39, 3) := by decide +kernel
theorem dL_law_316 : decode cL_law 316 = .ok (.aload_n 2, 1) := by decide +kernel
theorem dL_law_317 : decode cL_law 317 = .ok (.invokevirtual 43, 3) := by decide +kernel
theorem dL_law_320 : decode cL_law 320 = .ok (.if_icmp .eq 486, 3) := by decide +kernel
theorem dL_law_323 : decode cL_law 323 = .ok (.iconst 0, 1) := by decide +kernel
theorem dL_law_324 : decode cL_law 324 = .ok (.ireturn, 1) := by decide +kernel
theorem dL_law_325 : decode cL_law 325 = .ok (.aload_n 1, 1) := by decide +kernel
theorem dL_law_326 : decode cL_law 326 = .ok (.aload_n 0, 1) := by decide +kernel
theorem dL_law_327 : decode cL_law 327 = .ok (.iload_n 3, 1) := by decide +kernel
theorem dL_law_328 : decode cL_law 328 = .ok (.iconst 1, 1) := by decide +kernel
theorem dL_law_329 : decode cL_law 329 = .ok (.iadd, 1) := by decide +kernel
theorem dL_law_330 : decode cL_law 330 = .ok (.iaload, 1) := by decide +kernel
theorem dL_law_331 : decode cL_law 331 = .ok (.aload_n 0, 1) := by decide +kernel
theorem dL_law_332 : decode cL_law 332 = .ok (.iload_n 3, 1) := by decide +kernel
theorem dL_law_333 : decode cL_law 333 = .ok (.iconst 2, 1) := by decide +kernel
theorem dL_law_334 : decode cL_law 334 = .ok (.iadd, 1) := by decide +kernel
theorem dL_law_335 : decode cL_law 335 = .ok (.iaload, 1) := by decide +kernel
theorem dL_law_336 : decode cL_law 336 = .ok (.aload_n 0, 1) := by decide +kernel
theorem dL_law_337 : decode cL_law 337 = .ok (.iload_n 3, 1) := by decide +kernel
theorem dL_law_338 : decode cL_law 338 = .ok (.iconst 3, 1) := by decide +kernel
theorem dL_law_339 : decode cL_law 339 = .ok (.iadd, 1) := by decide +kernel
theorem dL_law_340 : decode cL_law 340 = .ok (.iaload, 1) := by decide +kernel
theorem dL_law_341 : decode cL_law 341 = .ok (.aload_n 0, 1) := by decide +kernel
theorem dL_law_342 : decode cL_law 342 = .ok (.iload_n 3, 1) := by decide +kernel
theorem dL_law_343 : decode cL_law 343 = .ok (.iconst 4, 1) := by decide +kernel
theorem dL_law_344 : decode cL_law 344 = .ok (.iadd, 1) := by decide +kernel
theorem dL_law_345 : decode cL_law 345 = .ok (.iaload, 1) := by decide +kernel
theorem dL_law_346 : decode cL_law 346 = .ok (.aload_n 0, 1) := by decide +kernel
theorem dL_law_347 : decode cL_law 347 = .ok (.iload_n 3, 1) := by decide +kernel
theorem dL_law_348 : decode cL_law 348 = .ok (.iconst 5, 1) := by decide +kernel
theorem dL_law_349 : decode cL_law 349 = .ok (.iadd, 1) := by decide +kernel
theorem dL_law_350 : decode cL_law 350 = .ok (.iaload, 1) := by decide +kernel
theorem dL_law_351 : decode cL_law 351 = .ok (.invokevirtual 44, 3) := by decide +kernel
theorem dL_law_354 : decode cL_law 354 = .ok (.aload_n 2, 1) := by decide +kernel
theorem dL_law_355 : decode cL_law 355 = .ok (.aload_n 0, 1) := by decide +kernel
theorem dL_law_356 : decode cL_law 356 = .ok (.iload_n 3, 1) := by decide +kernel
theorem dL_law_357 : decode cL_law 357 = .ok (.iconst 1, 1) := by decide +kernel
theorem dL_law_358 : decode cL_law 358 = .ok (.iadd, 1) := by decide +kernel
theorem dL_law_359 : decode cL_law 359 = .ok (.iaload, 1) := by decide +kernel
theorem dL_law_360 : decode cL_law 360 = .ok (.aload_n 0, 1) := by decide +kernel
theorem dL_law_361 : decode cL_law 361 = .ok (.iload_n 3, 1) := by decide +kernel
theorem dL_law_362 : decode cL_law 362 = .ok (.iconst 2, 1) := by decide +kernel
theorem dL_law_363 : decode cL_law 363 = .ok (.iadd, 1) := by decide +kernel
theorem dL_law_364 : decode cL_law 364 = .ok (.iaload, 1) := by decide +kernel
theorem dL_law_365 : decode cL_law 365 = .ok (.aload_n 0, 1) := by decide +kernel
theorem dL_law_366 : decode cL_law 366 = .ok (.iload_n 3, 1) := by decide +kernel
theorem dL_law_367 : decode cL_law 367 = .ok (.iconst 3, 1) := by decide +kernel
theorem dL_law_368 : decode cL_law 368 = .ok (.iadd, 1) := by decide +kernel
theorem dL_law_369 : decode cL_law 369 = .ok (.iaload, 1) := by decide +kernel
theorem dL_law_370 : decode cL_law 370 = .ok (.aload_n 0, 1) := by decide +kernel
theorem dL_law_371 : decode cL_law 371 = .ok (.iload_n 3, 1) := by decide +kernel
theorem dL_law_372 : decode cL_law 372 = .ok (.iconst 4, 1) := by decide +kernel
theorem dL_law_373 : decode cL_law 373 = .ok (.iadd, 1) := by decide +kernel
theorem dL_law_374 : decode cL_law 374 = .ok (.iaload, 1) := by decide +kernel
theorem dL_law_375 : decode cL_law 375 = .ok (.aload_n 0, 1) := by decide +kernel
theorem dL_law_376 : decode cL_law 376 = .ok (.iload_n 3, 1) := by decide +kernel
theorem dL_law_377 : decode cL_law 377 = .ok (.iconst 5, 1) := by decide +kernel
theorem dL_law_378 : decode cL_law 378 = .ok (.iadd, 1) := by decide +kernel
theorem dL_law_379 : decode cL_law 379 = .ok (.iaload, 1) := by decide +kernel
theorem dL_law_380 : decode cL_law 380 = .ok (.invokevirtual 48, 3) := by decide +kernel
theorem dL_law_383 : decode cL_law 383 = .ok (.if_icmp .eq 423, 3) := by decide +kernel
theorem dL_law_386 : decode cL_law 386 = .ok (.iconst 0, 1) := by decide +kernel
theorem dL_law_387 : decode cL_law 387 = .ok (.ireturn, 1) := by decide +kernel
theorem dL_law_388 : decode cL_law 388 = .ok (.aload_n 1, 1) := by decide +kernel
theorem dL_law_389 : decode cL_law 389 = .ok (.aload_n 0, 1) := by decide +kernel
theorem dL_law_390 : decode cL_law 390 = .ok (.iload_n 3, 1) := by decide +kernel
theorem dL_law_391 : decode cL_law 391 = .ok (.iconst 1, 1) := by decide +kernel
theorem dL_law_392 : decode cL_law 392 = .ok (.iadd, 1) := by decide +kernel
theorem dL_law_393 : decode cL_law 393 = .ok (.iaload, 1) := by decide +kernel
theorem dL_law_394 : decode cL_law 394 = .ok (.invokevirtual 49, 3) := by decide +kernel
theorem dL_law_397 : decode cL_law 397 = .ok (.aload_n 2, 1) := by decide +kernel
theorem dL_law_398 : decode cL_law 398 = .ok (.aload_n 0, 1) := by decide +kernel
theorem dL_law_399 : decode cL_law 399 = .ok (.iload_n 3, 1) := by decide +kernel
theorem dL_law_400 : decode cL_law 400 = .ok (.iconst 1, 1) := by decide +kernel
theorem dL_law_401 : decode cL_law 401 = .ok (.iadd, 1) := by decide +kernel
theorem dL_law_402 : decode cL_law 402 = .ok (.iaload, 1) := by decide +kernel
theorem dL_law_403 : decode cL_law 403 = .ok (.invokevirtual 52, 3) := by decide +kernel
theorem dL_law_406 : decode cL_law 406 = .ok (.if_icmp .eq 400, 3) := by decide +kernel
theorem dL_law_409 : decode cL_law 409 = .ok (.iconst 0, 1) := by decide +kernel
theorem dL_law_410 : decode cL_law 410 = .ok (.ireturn, 1) := by decide +kernel
theorem dL_law_411 : decode cL_law 411 = .ok (.aload_n 1, 1) := by decide +kernel
theorem dL_law_412 : decode cL_law 412 = .ok (.aload_n 0, 1) := by decide +kernel
theorem dL_law_413 : decode cL_law 413 = .ok (.iload_n 3, 1) := by decide +kernel
theorem dL_law_414 : decode cL_law 414 = .ok (.iconst 1, 1) := by decide +kernel
theorem dL_law_415 : decode cL_law 415 = .ok (.iadd, 1) := by decide +kernel
theorem dL_law_416 : decode cL_law 416 = .ok (.iaload, 1) := by decide +kernel
theorem dL_law_417 : decode cL_law 417 = .ok (.invokevirtual 53, 3) := by decide +kernel
theorem dL_law_420 : decode cL_law 420 = .ok (.aload_n 2, 1) := by decide +kernel
theorem dL_law_421 : decode cL_law 421 = .ok (.aload_n 0, 1) := by decide +kernel
theorem dL_law_422 : decode cL_law 422 = .ok (.iload_n 3, 1) := by decide +kernel
theorem dL_law_423 : decode cL_law 423 = .ok (.iconst 1, 1) := by decide +kernel
theorem dL_law_424 : decode cL_law 424 = .ok (.iadd, 1) := by decide +kernel
theorem dL_law_425 : decode cL_law 425 = .ok (.iaload, 1) := by decide +kernel
theorem dL_law_426 : decode cL_law 426 = .ok (.invokevirtual 56, 3) := by decide +kernel
theorem dL_law_429 : decode cL_law 429 = .ok (.if_icmp .eq 377, 3) := by decide +kernel
theorem dL_law_432 : decode cL_law 432 = .ok (.iconst 0, 1) := by decide +kernel
theorem dL_law_433 : decode cL_law 433 = .ok (.ireturn, 1) := by decide +kernel
theorem dL_law_434 : decode cL_law 434 = .ok (.aload_n 1, 1) := by decide +kernel
theorem dL_law_435 : decode cL_law 435 = .ok (.aload_n 0, 1) := by decide +kernel
theorem dL_law_436 : decode cL_law 436 = .ok (.iload_n 3, 1) := by decide +kernel
theorem dL_law_437 : decode cL_law 437 = .ok (.iconst 1, 1) := by decide +kernel
theorem dL_law_438 : decode cL_law 438 = .ok (.iadd, 1) := by decide +kernel
theorem dL_law_439 : decode cL_law 439 = .ok (.iaload, 1) := by decide +kernel
theorem dL_law_440 : decode cL_law 440 = .ok (.invokevirtual 57, 3) := by decide +kernel
theorem dL_law_443 : decode cL_law 443 = .ok (.aload_n 2, 1) := by decide +kernel
theorem dL_law_444 : decode cL_law 444 = .ok (.aload_n 0, 1) := by decide +kernel
theorem dL_law_445 : decode cL_law 445 = .ok (.iload_n 3, 1) := by decide +kernel
theorem dL_law_446 : decode cL_law 446 = .ok (.iconst 1, 1) := by decide +kernel
theorem dL_law_447 : decode cL_law 447 = .ok (.iadd, 1) := by decide +kernel
theorem dL_law_448 : decode cL_law 448 = .ok (.iaload, 1) := by decide +kernel
theorem dL_law_449 : decode cL_law 449 = .ok (.invokevirtual 60, 3) := by decide +kernel
theorem dL_law_452 : decode cL_law 452 = .ok (.if_icmp .eq 354, 3) := by decide +kernel
theorem dL_law_455 : decode cL_law 455 = .ok (.iconst 0, 1) := by decide +kernel
theorem dL_law_456 : decode cL_law 456 = .ok (.ireturn, 1) := by decide +kernel
theorem dL_law_457 : decode cL_law 457 = .ok (.aload_n 1, 1) := by decide +kernel
theorem dL_law_458 : decode cL_law 458 = .ok (.invokevirtual 61, 3) := by decide +kernel
theorem dL_law_461 : decode cL_law 461 = .ok (.aload_n 2, 1) := by decide +kernel
theorem dL_law_462 : decode cL_law 462 = .ok (.invokevirtual 64, 3) := by decide +kernel
theorem dL_law_465 : decode cL_law 465 = .ok (.if_icmp .eq 341, 3) := by decide +kernel
theorem dL_law_468 : decode cL_law 468 = .ok (.iconst 0, 1) := by decide +kernel
theorem dL_law_469 : decode cL_law 469 = .ok (.ireturn, 1) := by decide +kernel
theorem dL_law_470 : decode cL_law 470 = .ok (.aload_n 1, 1) := by decide +kernel
theorem dL_law_471 : decode cL_law 471 = .ok (.invokevirtual 65, 3) := by decide +kernel
theorem dL_law_474 : decode cL_law 474 = .ok (.aload_n 2, 1) := by decide +kernel
theorem dL_law_475 : decode cL_law 475 = .ok (.invokevirtual 68, 3) := by decide +kernel
theorem dL_law_478 : decode cL_law 478 = .ok (.if_icmp .eq 328, 3) := by decide +kernel
theorem dL_law_481 : decode cL_law 481 = .ok (.iconst 0, 1) := by decide +kernel
theorem dL_law_482 : decode cL_law 482 = .ok (.ireturn, 1) := by decide +kernel
theorem dL_law_483 : decode cL_law 483 = .ok (.aload_n 1, 1) := by decide +kernel
theorem dL_law_484 : decode cL_law 484 = .ok (.aload_n 0, 1) := by decide +kernel
theorem dL_law_485 : decode cL_law 485 = .ok (.iload_n 3, 1) := by decide +kernel
theorem dL_law_486 : decode cL_law 486 = .ok (.iconst 1, 1) := by decide +kernel
theorem dL_law_487 : decode cL_law 487 = .ok (.iadd, 1) := by decide +kernel
theorem dL_law_488 : decode cL_law 488 = .ok (.iaload, 1) := by decide +kernel
theorem dL_law_489 : decode cL_law 489 = .ok (.invokevirtual 69, 3) := by decide +kernel
theorem dL_law_492 : decode cL_law 492 = .ok (.aload_n 2, 1) := by decide +kernel
theorem dL_law_493 : decode cL_law 493 = .ok (.aload_n 0, 1) := by decide +kernel
theorem dL_law_494 : decode cL_law 494 = .ok (.iload_n 3, 1) := by decide +kernel
theorem dL_law_495 : decode cL_law 495 = .ok (.iconst 1, 1) := by decide +kernel
theorem dL_law_496 : decode cL_law 496 = .ok (.iadd, 1) := by decide +kernel
theorem dL_law_497 : decode cL_law 497 = .ok (.iaload, 1) := by decide +kernel
theorem dL_law_498 : decode cL_law 498 = .ok (.invokevirtual 72, 3) := by decide +kernel
theorem dL_law_501 : decode cL_law 501 = .ok (.if_icmp .eq 305, 3) := by decide +kernel
theorem dL_law_504 : decode cL_law 504 = .ok (.iconst 0, 1) := by decide +kernel
theorem dL_law_505 : decode cL_law 505 = .ok (.ireturn, 1) := by decide +kernel
theorem dL_law_506 : decode cL_law 506 = .ok (.aload_n 1, 1) := by decide +kernel
theorem dL_law_507 : decode cL_law 507 = .ok (.aload_n 0, 1) := by decide +kernel
theorem dL_law_508 : decode cL_law 508 = .ok (.iload_n 3, 1) := by decide +kernel
theorem dL_law_509 : decode cL_law 509 = .ok (.iconst 1, 1) := by decide +kernel
theorem dL_law_510 : decode cL_law 510 = .ok (.iadd, 1) := by decide +kernel
theorem dL_law_511 : decode cL_law 511 = .ok (.iaload, 1) := by decide +kernel
theorem dL_law_512 : decode cL_law 512 = .ok (.aload_n 0, 1) := by decide +kernel
theorem dL_law_513 : decode cL_law 513 = .ok (.iload_n 3, 1) := by decide +kernel
theorem dL_law_514 : decode cL_law 514 = .ok (.iconst 2, 1) := by decide +kernel
theorem dL_law_515 : decode cL_law 515 = .ok (.iadd, 1) := by decide +kernel
theorem dL_law_516 : decode cL_law 516 = .ok (.iaload, 1) := by decide +kernel
theorem dL_law_517 : decode cL_law 517 = .ok (.invokevirtual 73, 3) := by decide +kernel
theorem dL_law_520 : decode cL_law 520 = .ok (.aload_n 2, 1) := by decide +kernel
theorem dL_law_521 : decode cL_law 521 = .ok (.aload_n 0, 1) := by decide +kernel
theorem dL_law_522 : decode cL_law 522 = .ok (.iload_n 3, 1) := by decide +kernel
theorem dL_law_523 : decode cL_law 523 = .ok (.iconst 1, 1) := by decide +kernel
theorem dL_law_524 : decode cL_law 524 = .ok (.iadd, 1) := by decide +kernel
theorem dL_law_525 : decode cL_law 525 = .ok (.iaload, 1) := by decide +kernel
theorem dL_law_526 : decode cL_law 526 = .ok (.aload_n 0, 1) := by decide +kernel
theorem dL_law_527 : decode cL_law 527 = .ok (.iload_n 3, 1) := by decide +kernel
theorem dL_law_528 : decode cL_law 528 = .ok (.iconst 2, 1) := by decide +kernel
theorem dL_law_529 : decode cL_law 529 = .ok (.iadd, 1) := by decide +kernel
theorem dL_law_530 : decode cL_law 530 = .ok (.iaload, 1) := by decide +kernel
theorem dL_law_531 : decode cL_law 531 = .ok (.invokevirtual 76, 3) := by decide +kernel
theorem dL_law_534 : decode cL_law 534 = .ok (.if_icmp .eq 272, 3) := by decide +kernel
theorem dL_law_537 : decode cL_law 537 = .ok (.iconst 0, 1) := by decide +kernel
theorem dL_law_538 : decode cL_law 538 = .ok (.ireturn, 1) := by decide +kernel
theorem dL_law_539 : decode cL_law 539 = .ok (.aload_n 1, 1) := by decide +kernel
theorem dL_law_540 : decode cL_law 540 = .ok (.aload_n 0, 1) := by decide +kernel
theorem dL_law_541 : decode cL_law 541 = .ok (.iload_n 3, 1) := by decide +kernel
theorem dL_law_542 : decode cL_law 542 = .ok (.iconst 1, 1) := by decide +kernel
theorem dL_law_543 : decode cL_law 543 = .ok (.iadd, 1) := by decide +kernel
theorem dL_law_544 : decode cL_law 544 = .ok (.iaload, 1) := by decide +kernel
theorem dL_law_545 : decode cL_law 545 = .ok (.aload_n 0, 1) := by decide +kernel
theorem dL_law_546 : decode cL_law 546 = .ok (.iload_n 3, 1) := by decide +kernel
theorem dL_law_547 : decode cL_law 547 = .ok (.iconst 2, 1) := by decide +kernel
theorem dL_law_548 : decode cL_law 548 = .ok (.iadd, 1) := by decide +kernel
theorem dL_law_549 : decode cL_law 549 = .ok (.iaload, 1) := by decide +kernel
theorem dL_law_550 : decode cL_law 550 = .ok (.invokevirtual 77, 3) := by decide +kernel
theorem dL_law_553 : decode cL_law 553 = .ok (.aload_n 2, 1) := by decide +kernel
theorem dL_law_554 : decode cL_law 554 = .ok (.aload_n 0, 1) := by decide +kernel
theorem dL_law_555 : decode cL_law 555 = .ok (.iload_n 3, 1) := by decide +kernel
theorem dL_law_556 : decode cL_law 556 = .ok (.iconst 1, 1) := by decide +kernel
theorem dL_law_557 : decode cL_law 557 = .ok (.iadd, 1) := by decide +kernel
theorem dL_law_558 : decode cL_law 558 = .ok (.iaload, 1) := by decide +kernel
theorem dL_law_559 : decode cL_law 559 = .ok (.aload_n 0, 1) := by decide +kernel
theorem dL_law_560 : decode cL_law 560 = .ok (.iload_n 3, 1) := by decide +kernel
theorem dL_law_561 : decode cL_law 561 = .ok (.iconst 2, 1) := by decide +kernel
theorem dL_law_562 : decode cL_law 562 = .ok (.iadd, 1) := by decide +kernel
theorem dL_law_563 : decode cL_law 563 = .ok (.iaload, 1) := by decide +kernel
theorem dL_law_564 : decode cL_law 564 = .ok (.invokevirtual 80, 3) := by decide +kernel
theorem dL_law_567 : decode cL_law 567 = .ok (.if_icmp .eq 239, 3) := by decide +kernel
theorem dL_law_570 : decode cL_law 570 = .ok (.iconst 0, 1) := by decide +kernel
theorem dL_law_571 : decode cL_law 571 = .ok (.ireturn, 1) := by decide +kernel
theorem dL_law_572 : decode cL_law 572 = .ok (.aload_n 1, 1) := by decide +kernel
theorem dL_law_573 : decode cL_law 573 = .ok (.aload_n 0, 1) := by decide +kernel
theorem dL_law_574 : decode cL_law 574 = .ok (.iload_n 3, 1) := by decide +kernel
theorem dL_law_575 : decode cL_law 575 = .ok (.iconst 1, 1) := by decide +kernel
theorem dL_law_576 : decode cL_law 576 = .ok (.iadd, 1) := by decide +kernel
theorem dL_law_577 : decode cL_law 577 = .ok (.iaload, 1) := by decide +kernel
theorem dL_law_578 : decode cL_law 578 = .ok (.aload_n 0, 1) := by decide +kernel
theorem dL_law_579 : decode cL_law 579 = .ok (.iload_n 3, 1) := by decide +kernel
theorem dL_law_580 : decode cL_law 580 = .ok (.iconst 2, 1) := by decide +kernel
theorem dL_law_581 : decode cL_law 581 = .ok (.iadd, 1) := by decide +kernel
theorem dL_law_582 : decode cL_law 582 = .ok (.iaload, 1) := by decide +kernel
theorem dL_law_583 : decode cL_law 583 = .ok (.invokevirtual 81, 3) := by decide +kernel
theorem dL_law_586 : decode cL_law 586 = .ok (.aload_n 2, 1) := by decide +kernel
theorem dL_law_587 : decode cL_law 587 = .ok (.aload_n 0, 1) := by decide +kernel
theorem dL_law_588 : decode cL_law 588 = .ok (.iload_n 3, 1) := by decide +kernel
theorem dL_law_589 : decode cL_law 589 = .ok (.iconst 1, 1) := by decide +kernel
theorem dL_law_590 : decode cL_law 590 = .ok (.iadd, 1) := by decide +kernel
theorem dL_law_591 : decode cL_law 591 = .ok (.iaload, 1) := by decide +kernel
theorem dL_law_592 : decode cL_law 592 = .ok (.aload_n 0, 1) := by decide +kernel
theorem dL_law_593 : decode cL_law 593 = .ok (.iload_n 3, 1) := by decide +kernel
theorem dL_law_594 : decode cL_law 594 = .ok (.iconst 2, 1) := by decide +kernel
theorem dL_law_595 : decode cL_law 595 = .ok (.iadd, 1) := by decide +kernel
theorem dL_law_596 : decode cL_law 596 = .ok (.iaload, 1) := by decide +kernel
theorem dL_law_597 : decode cL_law 597 = .ok (.invokevirtual 84, 3) := by decide +kernel
theorem dL_law_600 : decode cL_law 600 = .ok (.if_icmp .eq 206, 3) := by decide +kernel
theorem dL_law_603 : decode cL_law 603 = .ok (.iconst 0, 1) := by decide +kernel
theorem dL_law_604 : decode cL_law 604 = .ok (.ireturn, 1) := by decide +kernel
theorem dL_law_605 : decode cL_law 605 = .ok (.aload_n 1, 1) := by decide +kernel
theorem dL_law_606 : decode cL_law 606 = .ok (.aload_n 0, 1) := by decide +kernel
theorem dL_law_607 : decode cL_law 607 = .ok (.iload_n 3, 1) := by decide +kernel
theorem dL_law_608 : decode cL_law 608 = .ok (.iconst 1, 1) := by decide +kernel
theorem dL_law_609 : decode cL_law 609 = .ok (.iadd, 1) := by decide +kernel
theorem dL_law_610 : decode cL_law 610 = .ok (.iaload, 1) := by decide +kernel
theorem dL_law_611 : decode cL_law 611 = .ok (.aload_n 0, 1) := by decide +kernel
theorem dL_law_612 : decode cL_law 612 = .ok (.iload_n 3, 1) := by decide +kernel
theorem dL_law_613 : decode cL_law 613 = .ok (.iconst 2, 1) := by decide +kernel
theorem dL_law_614 : decode cL_law 614 = .ok (.iadd, 1) := by decide +kernel
theorem dL_law_615 : decode cL_law 615 = .ok (.iaload, 1) := by decide +kernel
theorem dL_law_616 : decode cL_law 616 = .ok (.invokevirtual 85, 3) := by decide +kernel
theorem dL_law_619 : decode cL_law 619 = .ok (.aload_n 2, 1) := by decide +kernel
theorem dL_law_620 : decode cL_law 620 = .ok (.aload_n 0, 1) := by decide +kernel
theorem dL_law_621 : decode cL_law 621 = .ok (.iload_n 3, 1) := by decide +kernel
theorem dL_law_622 : decode cL_law 622 = .ok (.iconst 1, 1) := by decide +kernel
theorem dL_law_623 : decode cL_law 623 = .ok (.iadd, 1) := by decide +kernel
theorem dL_law_624 : decode cL_law 624 = .ok (.iaload, 1) := by decide +kernel
theorem dL_law_625 : decode cL_law 625 = .ok (.aload_n 0, 1) := by decide +kernel
theorem dL_law_626 : decode cL_law 626 = .ok (.iload_n 3, 1) := by decide +kernel
theorem dL_law_627 : decode cL_law 627 = .ok (.iconst 2, 1) := by decide +kernel
theorem dL_law_628 : decode cL_law 628 = .ok (.iadd, 1) := by decide +kernel
theorem dL_law_629 : decode cL_law 629 = .ok (.iaload, 1) := by decide +kernel
theorem dL_law_630 : decode cL_law 630 = .ok (.invokevirtual 88, 3) := by decide +kernel
theorem dL_law_633 : decode cL_law 633 = .ok (.if_icmp .eq 173, 3) := by decide +kernel
theorem dL_law_636 : decode cL_law 636 = .ok (.iconst 0, 1) := by decide +kernel
theorem dL_law_637 : decode cL_law 637 = .ok (.ireturn, 1) := by decide +kernel
theorem dL_law_638 : decode cL_law 638 = .ok (.aload_n 1, 1) := by decide +kernel
theorem dL_law_639 : decode cL_law 639 = .ok (.aload_n 0, 1) := by decide +kernel
theorem dL_law_640 : decode cL_law 640 = .ok (.iload_n 3, 1) := by decide +kernel
theorem dL_law_641 : decode cL_law 641 = .ok (.iconst 1, 1) := by decide +kernel
theorem dL_law_642 : decode cL_law 642 = .ok (.iadd, 1) := by decide +kernel
theorem dL_law_643 : decode cL_law 643 = .ok (.iaload, 1) := by decide +kernel
theorem dL_law_644 : decode cL_law 644 = .ok (.aload_n 0, 1) := by decide +kernel
theorem dL_law_645 : decode cL_law 645 = .ok (.iload_n 3, 1) := by decide +kernel
theorem dL_law_646 : decode cL_law 646 = .ok (.iconst 2, 1) := by decide +kernel
theorem dL_law_647 : decode cL_law 647 = .ok (.iadd, 1) := by decide +kernel
theorem dL_law_648 : decode cL_law 648 = .ok (.iaload, 1) := by decide +kernel
theorem dL_law_649 : decode cL_law 649 = .ok (.invokevirtual 89, 3) := by decide +kernel
theorem dL_law_652 : decode cL_law 652 = .ok (.aload_n 2, 1) := by decide +kernel
theorem dL_law_653 : decode cL_law 653 = .ok (.aload_n 0, 1) := by decide +kernel
theorem dL_law_654 : decode cL_law 654 = .ok (.iload_n 3, 1) := by decide +kernel
theorem dL_law_655 : decode cL_law 655 = .ok (.iconst 1, 1) := by decide +kernel
theorem dL_law_656 : decode cL_law 656 = .ok (.iadd, 1) := by decide +kernel
theorem dL_law_657 : decode cL_law 657 = .ok (.iaload, 1) := by decide +kernel
theorem dL_law_658 : decode cL_law 658 = .ok (.aload_n 0, 1) := by decide +kernel
theorem dL_law_659 : decode cL_law 659 = .ok (.iload_n 3, 1) := by decide +kernel
theorem dL_law_660 : decode cL_law 660 = .ok (.iconst 2, 1) := by decide +kernel
theorem dL_law_661 : decode cL_law 661 = .ok (.iadd, 1) := by decide +kernel
theorem dL_law_662 : decode cL_law 662 = .ok (.iaload, 1) := by decide +kernel
theorem dL_law_663 : decode cL_law 663 = .ok (.invokevirtual 92, 3) := by decide +kernel
theorem dL_law_666 : decode cL_law 666 = .ok (.if_icmp .eq 140, 3) := by decide +kernel
theorem dL_law_669 : decode cL_law 669 = .ok (.iconst 0, 1) := by decide +kernel
theorem dL_law_670 : decode cL_law 670 = .ok (.ireturn, 1) := by decide +kernel
theorem dL_law_671 : decode cL_law 671 = .ok (.aload_n 1, 1) := by decide +kernel
theorem dL_law_672 : decode cL_law 672 = .ok (.aload_n 0, 1) := by decide +kernel
theorem dL_law_673 : decode cL_law 673 = .ok (.iload_n 3, 1) := by decide +kernel
theorem dL_law_674 : decode cL_law 674 = .ok (.iconst 1, 1) := by decide +kernel
theorem dL_law_675 : decode cL_law 675 = .ok (.iadd, 1) := by decide +kernel
theorem dL_law_676 : decode cL_law 676 = .ok (.iaload, 1) := by decide +kernel
theorem dL_law_677 : decode cL_law 677 = .ok (.invokevirtual 93, 3) := by decide +kernel
theorem dL_law_680 : decode cL_law 680 = .ok (.aload_n 2, 1) := by decide +kernel
theorem dL_law_681 : decode cL_law 681 = .ok (.aload_n 0, 1) := by decide +kernel
theorem dL_law_682 : decode cL_law 682 = .ok (.iload_n 3, 1) := by decide +kernel
theorem dL_law_683 : decode cL_law 683 = .ok (.iconst 1, 1) := by decide +kernel
theorem dL_law_684 : decode cL_law 684 = .ok (.iadd, 1) := by decide +kernel
theorem dL_law_685 : decode cL_law 685 = .ok (.iaload, 1) := by decide +kernel
theorem dL_law_686 : decode cL_law 686 = .ok (.invokevirtual 96, 3) := by decide +kernel
theorem dL_law_689 : decode cL_law 689 = .ok (.if_icmp .eq 117, 3) := by decide +kernel
theorem dL_law_692 : decode cL_law 692 = .ok (.iconst 0, 1) := by decide +kernel
theorem dL_law_693 : decode cL_law 693 = .ok (.ireturn, 1) := by decide +kernel
theorem dL_law_694 : decode cL_law 694 = .ok (.aload_n 1, 1) := by decide +kernel
theorem dL_law_695 : decode cL_law 695 = .ok (.aload_n 0, 1) := by decide +kernel
theorem dL_law_696 : decode cL_law 696 = .ok (.iload_n 3, 1) := by decide +kernel
theorem dL_law_697 : decode cL_law 697 = .ok (.iconst 1, 1) := by decide +kernel
theorem dL_law_698 : decode cL_law 698 = .ok (.iadd, 1) := by decide +kernel
theorem dL_law_699 : decode cL_law 699 = .ok (.iaload, 1) := by decide +kernel
theorem dL_law_700 : decode cL_law 700 = .ok (.aload_n 0, 1) := by decide +kernel
theorem dL_law_701 : decode cL_law 701 = .ok (.iload_n 3, 1) := by decide +kernel
theorem dL_law_702 : decode cL_law 702 = .ok (.iconst 2, 1) := by decide +kernel
theorem dL_law_703 : decode cL_law 703 = .ok (.iadd, 1) := by decide +kernel
theorem dL_law_704 : decode cL_law 704 = .ok (.iaload, 1) := by decide +kernel
theorem dL_law_705 : decode cL_law 705 = .ok (.aload_n 0, 1) := by decide +kernel
theorem dL_law_706 : decode cL_law 706 = .ok (.iload_n 3, 1) := by decide +kernel
theorem dL_law_707 : decode cL_law 707 = .ok (.iconst 3, 1) := by decide +kernel
theorem dL_law_708 : decode cL_law 708 = .ok (.iadd, 1) := by decide +kernel
theorem dL_law_709 : decode cL_law 709 = .ok (.iaload, 1) := by decide +kernel
theorem dL_law_710 : decode cL_law 710 = .ok (.invokevirtual 97, 3) := by decide +kernel
theorem dL_law_713 : decode cL_law 713 = .ok (.aload_n 2, 1) := by decide +kernel
theorem dL_law_714 : decode cL_law 714 = .ok (.aload_n 0, 1) := by decide +kernel
theorem dL_law_715 : decode cL_law 715 = .ok (.iload_n 3, 1) := by decide +kernel
theorem dL_law_716 : decode cL_law 716 = .ok (.iconst 1, 1) := by decide +kernel
theorem dL_law_717 : decode cL_law 717 = .ok (.iadd, 1) := by decide +kernel
theorem dL_law_718 : decode cL_law 718 = .ok (.iaload, 1) := by decide +kernel
theorem dL_law_719 : decode cL_law 719 = .ok (.aload_n 0, 1) := by decide +kernel
theorem dL_law_720 : decode cL_law 720 = .ok (.iload_n 3, 1) := by decide +kernel
theorem dL_law_721 : decode cL_law 721 = .ok (.iconst 2, 1) := by decide +kernel
theorem dL_law_722 : decode cL_law 722 = .ok (.iadd, 1) := by decide +kernel
theorem dL_law_723 : decode cL_law 723 = .ok (.iaload, 1) := by decide +kernel
theorem dL_law_724 : decode cL_law 724 = .ok (.aload_n 0, 1) := by decide +kernel
theorem dL_law_725 : decode cL_law 725 = .ok (.iload_n 3, 1) := by decide +kernel
theorem dL_law_726 : decode cL_law 726 = .ok (.iconst 3, 1) := by decide +kernel
theorem dL_law_727 : decode cL_law 727 = .ok (.iadd, 1) := by decide +kernel
theorem dL_law_728 : decode cL_law 728 = .ok (.iaload, 1) := by decide +kernel
theorem dL_law_729 : decode cL_law 729 = .ok (.invokevirtual 101, 3) := by decide +kernel
theorem dL_law_732 : decode cL_law 732 = .ok (.if_icmp .eq 74, 3) := by decide +kernel
theorem dL_law_735 : decode cL_law 735 = .ok (.iconst 0, 1) := by decide +kernel
theorem dL_law_736 : decode cL_law 736 = .ok (.ireturn, 1) := by decide +kernel
theorem dL_law_737 : decode cL_law 737 = .ok (.aload_n 1, 1) := by decide +kernel
theorem dL_law_738 : decode cL_law 738 = .ok (.aload_n 0, 1) := by decide +kernel
theorem dL_law_739 : decode cL_law 739 = .ok (.iload_n 3, 1) := by decide +kernel
theorem dL_law_740 : decode cL_law 740 = .ok (.iconst 1, 1) := by decide +kernel
theorem dL_law_741 : decode cL_law 741 = .ok (.iadd, 1) := by decide +kernel
theorem dL_law_742 : decode cL_law 742 = .ok (.iaload, 1) := by decide +kernel
theorem dL_law_743 : decode cL_law 743 = .ok (.invokevirtual 102, 3) := by decide +kernel
theorem dL_law_746 : decode cL_law 746 = .ok (.aload_n 2, 1) := by decide +kernel
theorem dL_law_747 : decode cL_law 747 = .ok (.aload_n 0, 1) := by decide +kernel
theorem dL_law_748 : decode cL_law 748 = .ok (.iload_n 3, 1) := by decide +kernel
theorem dL_law_749 : decode cL_law 749 = .ok (.iconst 1, 1) := by decide +kernel
theorem dL_law_750 : decode cL_law 750 = .ok (.iadd, 1) := by decide +kernel
theorem dL_law_751 : decode cL_law 751 = .ok (.iaload, 1) := by decide +kernel
theorem dL_law_752 : decode cL_law 752 = .ok (.invokevirtual 105, 3) := by decide +kernel
theorem dL_law_755 : decode cL_law 755 = .ok (.if_icmp .eq 51, 3) := by decide +kernel
theorem dL_law_758 : decode cL_law 758 = .ok (.iconst 0, 1) := by decide +kernel
theorem dL_law_759 : decode cL_law 759 = .ok (.ireturn, 1) := by decide +kernel
theorem dL_law_760 : decode cL_law 760 = .ok (.aload_n 1, 1) := by decide +kernel
theorem dL_law_761 : decode cL_law 761 = .ok (.aload_n 0, 1) := by decide +kernel
theorem dL_law_762 : decode cL_law 762 = .ok (.iload_n 3, 1) := by decide +kernel
theorem dL_law_763 : decode cL_law 763 = .ok (.iconst 1, 1) := by decide +kernel
theorem dL_law_764 : decode cL_law 764 = .ok (.iadd, 1) := by decide +kernel
theorem dL_law_765 : decode cL_law 765 = .ok (.iaload, 1) := by decide +kernel
theorem dL_law_766 : decode cL_law 766 = .ok (.invokevirtual 106, 3) := by decide +kernel
theorem dL_law_769 : decode cL_law 769 = .ok (.aload_n 2, 1) := by decide +kernel
theorem dL_law_770 : decode cL_law 770 = .ok (.aload_n 0, 1) := by decide +kernel
theorem dL_law_771 : decode cL_law 771 = .ok (.iload_n 3, 1) := by decide +kernel
theorem dL_law_772 : decode cL_law 772 = .ok (.iconst 1, 1) := by decide +kernel
theorem dL_law_773 : decode cL_law 773 = .ok (.iadd, 1) := by decide +kernel
theorem dL_law_774 : decode cL_law 774 = .ok (.iaload, 1) := by decide +kernel
theorem dL_law_775 : decode cL_law 775 = .ok (.invokevirtual 109, 3) := by decide +kernel
theorem dL_law_778 : decode cL_law 778 = .ok (.if_icmp .eq 28, 3) := by decide +kernel
theorem dL_law_781 : decode cL_law 781 = .ok (.iconst 0, 1) := by decide +kernel
theorem dL_law_782 : decode cL_law 782 = .ok (.ireturn, 1) := by decide +kernel
theorem dL_law_783 : decode cL_law 783 = .ok (.aload_n 1, 1) := by decide +kernel
theorem dL_law_784 : decode cL_law 784 = .ok (.aload_n 0, 1) := by decide +kernel
theorem dL_law_785 : decode cL_law 785 = .ok (.iload_n 3, 1) := by decide +kernel
theorem dL_law_786 : decode cL_law 786 = .ok (.iconst 1, 1) := by decide +kernel
theorem dL_law_787 : decode cL_law 787 = .ok (.iadd, 1) := by decide +kernel
theorem dL_law_788 : decode cL_law 788 = .ok (.iaload, 1) := by decide +kernel
theorem dL_law_789 : decode cL_law 789 = .ok (.invokevirtual 110, 3) := by decide +kernel
theorem dL_law_792 : decode cL_law 792 = .ok (.aload_n 2, 1) := by decide +kernel
theorem dL_law_793 : decode cL_law 793 = .ok (.aload_n 0, 1) := by decide +kernel
theorem dL_law_794 : decode cL_law 794 = .ok (.iload_n 3, 1) := by decide +kernel
theorem dL_law_795 : decode cL_law 795 = .ok (.iconst 1, 1) := by decide +kernel
theorem dL_law_796 : decode cL_law 796 = .ok (.iadd, 1) := by decide +kernel
theorem dL_law_797 : decode cL_law 797 = .ok (.iaload, 1) := by decide +kernel
theorem dL_law_798 : decode cL_law 798 = .ok (.invokevirtual 113, 3) := by decide +kernel
theorem dL_law_801 : decode cL_law 801 = .ok (.if_icmp .eq 5, 3) := by decide +kernel
theorem dL_law_804 : decode cL_law 804 = .ok (.iconst 0, 1) := by decide +kernel
theorem dL_law_805 : decode cL_law 805 = .ok (.ireturn, 1) := by decide +kernel
theorem dL_law_806 : decode cL_law 806 = .ok (.iinc 3 6, 3) := by decide +kernel
theorem dL_law_809 : decode cL_law 809 = .ok (.goto (-791), 3) := by decide +kernel
theorem dL_law_812 : decode cL_law 812 = .ok (.iconst 1, 1) := by decide +kernel
theorem dL_law_813 : decode cL_law 813 = .ok (.ireturn, 1) := by decide +kernel
