theorem dX0_init_0 : decode cX0_init 0 = .ok (.aload_n 0, 1) := by decide +kernel
theorem dX0_init_1 : decode cX0_init 1 = .ok (.invokespecial 3, 3) := by decide +kernel
theorem dX0_init_4 : decode cX0_init 4 = .ok (.aload_n 0, 1) := by decide +kernel
theorem dX0_init_5 : decode cX0_init 5 = .ok (.bipush 20, 2) := by decide +kernel
theorem dX0_init_7 : decode cX0_init 7 = .ok (.newarray .int, 2) := by decide +kernel
theorem dX0_init_9 : decode cX0_init 9 = .ok (.putfield 9, 3) := by decide +kernel
theorem dX0_init_12 : decode cX0_init 12 = .ok (.aload_n 0, 1) := by decide +kernel
theorem dX0_init_13 : decode cX0_init 13 = .ok (.bipush 20, 2) := by decide +kernel
theorem dX0_init_15 : decode cX0_init 15 = .ok (.newarray .int, 2) := by decide +kernel
theorem dX0_init_17 : decode cX0_init 17 = .ok (.putfield 15, 3) := by decide +kernel
theorem dX0_init_20 : decode cX0_init 20 = .ok (.aload_n 0, 1) := by decide +kernel
theorem dX0_init_21 : decode cX0_init 21 = .ok (.bipush 20, 2) := by decide +kernel
theorem dX0_init_23 : decode cX0_init 23 = .ok (.newarray .int, 2) := by decide +kernel
theorem dX0_init_25 : decode cX0_init 25 = .ok (.putfield 18, 3) := by decide +kernel
theorem dX0_init_28 : decode cX0_init 28 = .ok (.aload_n 0, 1) := by decide +kernel
theorem dX0_init_29 : decode cX0_init 29 = .ok (.iconst 0, 1) := by decide +kernel
theorem dX0_init_30 : decode cX0_init 30 = .ok (.putfield 21, 3) := by decide +kernel
theorem dX0_init_33 : decode cX0_init 33 = .ok (.aload_n 0, 1) := by decide +kernel
theorem dX0_init_34 : decode cX0_init 34 = .ok (.iconst 0, 1) := by decide +kernel
theorem dX0_init_35 : decode cX0_init 35 = .ok (.putfield 25, 3) := by decide +kernel
theorem dX0_init_38 : decode cX0_init 38 = .ok (.aload_n 0, 1) := by decide +kernel
theorem dX0_init_39 : decode cX0_init 39 = .ok (.iconst 0, 1) := by decide +kernel
theorem dX0_init_40 : decode cX0_init 40 = .ok (.putfield 28, 3) := by decide +kernel
theorem dX0_init_43 : decode cX0_init 43 = .ok (.aload_n 0, 1) := by decide +kernel
theorem dX0_init_44 : decode cX0_init 44 = .ok (.iconst 0, 1) := by decide +kernel
theorem dX0_init_45 : decode cX0_init 45 = .ok (.putfield 31, 3) := by decide +kernel
theorem dX0_init_48 : decode cX0_init 48 = .ok (.aload_n 0, 1) := by decide +kernel
theorem dX0_init_49 : decode cX0_init 49 = .ok (.iconst 0, 1) := by decide +kernel
theorem dX0_init_50 : decode cX0_init 50 = .ok (.putfield 34, 3) := by decide +kernel
theorem dX0_init_53 : decode cX0_init 53 = .ok (.return_, 1) := by decide +kernel
theorem dX0_add_0 : decode cX0_add 0 = .ok (.aload_n 0, 1) := by decide +kernel
theorem dX0_add_1 : decode cX0_add 1 = .ok (.getfield 9, 3) := by decide +kernel
theorem dX0_add_4 : decode cX0_add 4 = .ok (.aload_n 0, 1) := by decide +kernel
theorem dX0_add_5 : decode cX0_add 5 = .ok (.getfield 21, 3) := by decide +kernel
theorem dX0_add_8 : decode cX0_add 8 = .ok (.iload_n 1, 1) := by decide +kernel
theorem dX0_add_9 : decode cX0_add 9 = .ok (.iastore, 1) := by decide +kernel
theorem dX0_add_10 : decode cX0_add 10 = .ok (.aload_n 0, 1) := by decide +kernel
theorem dX0_add_11 : decode cX0_add 11 = .ok (.getfield 15, 3) := by decide +kernel
theorem dX0_add_14 : decode cX0_add 14 = .ok (.aload_n 0, 1) := by decide +kernel
theorem dX0_add_15 : decode cX0_add 15 = .ok (.getfield 21, 3) := by decide +kernel
theorem dX0_add_18 : decode cX0_add 18 = .ok (.iload_n 2, 1) := by decide +kernel
theorem dX0_add_19 : decode cX0_add 19 = .ok (.iastore, 1) := by decide +kernel
theorem dX0_add_20 : decode cX0_add 20 = .ok (.aload_n 0, 1) := by decide +kernel
theorem dX0_add_21 : decode cX0_add 21 = .ok (.getfield 18, 3) := by decide +kernel
theorem dX0_add_24 : decode cX0_add 24 = .ok (.aload_n 0, 1) := by decide +kernel
theorem dX0_add_25 : decode cX0_add 25 = .ok (.getfield 21, 3) := by decide +kernel
theorem dX0_add_28 : decode cX0_add 28 = .ok (.iload_n 3, 1) := by decide +kernel
theorem dX0_add_29 : decode cX0_add 29 = .ok (.iastore, 1) := by decide +kernel
theorem dX0_add_30 : decode cX0_add 30 = .ok (.aload_n 0, 1) := by decide +kernel
theorem dX0_add_31 : decode cX0_add 31 = .ok (.aload_n 0, 1) := by decide +kernel
theorem dX0_add_32 : decode cX0_add 32 = .ok (.getfield 21, 3) := by decide +kernel
theorem dX0_add_35 : decode cX0_add 35 = .ok (.iconst 1, 1) := by decide +kernel
theorem dX0_add_36 : decode cX0_add 36 = .ok (.iadd, 1) := by decide +kernel
theorem dX0_add_37 : decode cX0_add 37 = .ok (.bipush 20, 2) := by decide +kernel
theorem dX0_add_39 : decode cX0_add 39 = .ok (.irem, 1) := by decide +kernel
theorem dX0_add_40 : decode cX0_add 40 = .ok (.putfield 21, 3) := by decide +kernel
theorem dX0_add_43 : decode cX0_add 43 = .ok (.aload_n 0, 1) := by decide +kernel
theorem dX0_add_44 : decode cX0_add 44 = .ok (.aload_n 0, 1) := by decide +kernel
theorem dX0_add_45 : decode cX0_add 45 = .ok (.getfield 25, 3) := by decide +kernel
theorem dX0_add_48 : decode cX0_add 48 = .ok (.iconst 1, 1) := by decide +kernel
theorem dX0_add_49 : decode cX0_add 49 = .ok (.iadd, 1) := by decide +kernel
theorem dX0_add_50 : decode cX0_add 50 = .ok (.bipush 20, 2) := by decide +kernel
theorem dX0_add_52 : decode cX0_add 52 = .ok (.invokestatic 37, 3) := by decide +kernel
theorem dX0_add_55 : decode cX0_add 55 = .ok (.putfield 25, 3) := by decide +kernel
theorem dX0_add_58 : decode cX0_add 58 = .ok (.return_, 1) := by decide +kernel
theorem dX0_takeLatest_0 : decode cX0_takeLatest 0 = .ok (.aload_n 0, 1) := by decide +kernel
theorem dX0_takeLatest_1 : decode cX0_takeLatest 1 = .ok (.getfield 25, 3) := by decide +kernel
theorem dX0_takeLatest_4 : decode cX0_takeLatest 4 = .ok (.ifCond .ne 5, 3) := by decide +kernel
theorem dX0_takeLatest_7 : decode cX0_takeLatest 7 = .ok (.iconst 0, 1) := by decide +kernel
theorem dX0_takeLatest_8 : decode cX0_takeLatest 8 = .ok (.ireturn, 1) := by decide +kernel
theorem dX0_takeLatest_9 : decode cX0_takeLatest 9 = .ok (.aload_n 0, 1) := by decide +kernel
theorem dX0_takeLatest_10 : decode cX0_takeLatest 10 = .ok (.aload_n 0, 1) := by decide +kernel
theorem dX0_takeLatest_11 : decode cX0_takeLatest 11 = .ok (.getfield 21, 3) := by decide +kernel
theorem dX0_takeLatest_14 : decode cX0_takeLatest 14 = .ok (.bipush 20, 2) := by decide +kernel
theorem dX0_takeLatest_16 : decode cX0_takeLatest 16 = .ok (.iadd, 1) := by decide +kernel
theorem dX0_takeLatest_17 : decode cX0_takeLatest 17 = .ok (.iconst 1, 1) := by decide +kernel
theorem dX0_takeLatest_18 : decode cX0_takeLatest 18 = .ok (.isub, 1) := by decide +kernel
theorem dX0_takeLatest_19 : decode cX0_takeLatest 19 = .ok (.bipush 20, 2) := by decide +kernel
theorem dX0_takeLatest_21 : decode cX0_takeLatest 21 = .ok (.irem, 1) := by decide +kernel
theorem dX0_takeLatest_22 : decode cX0_takeLatest 22 = .ok (.putfield 21, 3) := by decide +kernel
theorem dX0_takeLatest_25 : decode cX0_takeLatest 25 = .ok (.aload_n 0, 1) := by decide +kernel
theorem dX0_takeLatest_26 : decode cX0_takeLatest 26 = .ok (.dup, 1) := by decide +kernel
theorem dX0_takeLatest_27 : decode cX0_takeLatest 27 = .ok (.getfield 25, 3) := by decide +kernel
theorem dX0_takeLatest_30 : decode cX0_takeLatest 30 = .ok (.iconst 1, 1) := by decide +kernel
theorem dX0_takeLatest_31 : decode cX0_takeLatest 31 = .ok (.isub, 1) := by decide +kernel
theorem dX0_takeLatest_32 : decode cX0_takeLatest 32 = .ok (.putfield 25, 3) := by decide +kernel
theorem dX0_takeLatest_35 : decode cX0_takeLatest 35 = .ok (.aload_n 0, 1) := by decide +kernel
theorem dX0_takeLatest_36 : decode cX0_takeLatest 36 = .ok (.aload_n 0, 1) := by decide +kernel
theorem dX0_takeLatest_37 : decode cX0_takeLatest 37 = .ok (.getfield 9, 3) := by decide +kernel
theorem dX0_takeLatest_40 : decode cX0_takeLatest 40 = .ok (.aload_n 0, 1) := by decide +kernel
theorem dX0_takeLatest_41 : decode cX0_takeLatest 41 = .ok (.getfield 21, 3) := by decide +kernel
theorem dX0_takeLatest_44 : decode cX0_takeLatest 44 = .ok (.iaload, 1) := by decide +kernel
theorem dX0_takeLatest_45 : decode cX0_takeLatest 45 = .ok (.putfield 28, 3) := by decide +kernel
theorem dX0_takeLatest_48 : decode cX0_takeLatest 48 = .ok (.aload_n 0, 1) := by decide +kernel
theorem dX0_takeLatest_49 : decode cX0_takeLatest 49 = .ok (.aload_n 0, 1) := by decide +kernel
theorem dX0_takeLatest_50 : decode cX0_takeLatest 50 = .ok (.getfield 15, 3) := by decide +kernel
theorem dX0_takeLatest_53 : decode cX0_takeLatest 53 = .ok (.aload_n 0, 1) := by decide +kernel
theorem dX0_takeLatest_54 : decode cX0_takeLatest 54 = .ok (.getfield 21, 3) := by decide +kernel
theorem dX0_takeLatest_57 : decode cX0_takeLatest 57 = .ok (.iaload, 1) := by decide +kernel
theorem dX0_takeLatest_58 : decode cX0_takeLatest 58 = .ok (.putfield 31, 3) := by decide +kernel
theorem dX0_takeLatest_61 : decode cX0_takeLatest 61 = .ok (.aload_n 0, 1) := by decide +kernel
theorem dX0_takeLatest_62 : decode cX0_takeLatest 62 = .ok (.aload_n 0, 1) := by decide +kernel
theorem dX0_takeLatest_63 : decode cX0_takeLatest 63 = .ok (.getfield 18, 3) := by decide +kernel
theorem dX0_takeLatest_66 : decode cX0_takeLatest 66 = .ok (.aload_n 0, 1) := by decide +kernel
theorem dX0_takeLatest_67 : decode cX0_takeLatest 67 = .ok (.getfield 21, 3) := by decide +kernel
theorem dX0_takeLatest_70 : decode cX0_takeLatest 70 = .ok (.iaload, 1) := by decide +kernel
theorem dX0_takeLatest_71 : decode cX0_takeLatest 71 = .ok (.putfield 34, 3) := by decide +kernel
theorem dX0_takeLatest_74 : decode cX0_takeLatest 74 = .ok (.iconst 1, 1) := by decide +kernel
theorem dX0_takeLatest_75 : decode cX0_takeLatest 75 = .ok (.ireturn, 1) := by decide +kernel
theorem dX0_forgetAll_0 : decode cX0_forgetAll 0 = .ok (.aload_n 0, 1) := by decide +kernel
theorem dX0_forgetAll_1 : decode cX0_forgetAll 1 = .ok (.iconst 0, 1) := by decide +kernel
theorem dX0_forgetAll_2 : decode cX0_forgetAll 2 = .ok (.putfield 25, 3) := by decide +kernel
theorem dX0_forgetAll_5 : decode cX0_forgetAll 5 = .ok (.return_, 1) := by decide +kernel
theorem dX1_init_0 : decode cX1_init 0 = .ok (.aload_n 0, 1) := by decide +kernel
theorem dX1_init_1 : decode cX1_init 1 = .ok (.invokespecial 3, 3) := by decide +kernel
theorem dX1_init_4 : decode cX1_init 4 = .ok (.aload_n 0, 1) := by decide +kernel
theorem dX1_init_5 : decode cX1_init 5 = .ok (.sipush 256, 3) := by decide +kernel
theorem dX1_init_8 : decode cX1_init 8 = .ok (.newarray .int, 2) := by decide +kernel
theorem dX1_init_10 : decode cX1_init 10 = .ok (.putfield 9, 3) := by decide +kernel
theorem dX1_init_13 : decode cX1_init 13 = .ok (.aload_n 0, 1) := by decide +kernel
theorem dX1_init_14 : decode cX1_init 14 = .ok (.sipush 256, 3) := by decide +kernel
theorem dX1_init_17 : decode cX1_init 17 = .ok (.newarray .int, 2) := by decide +kernel
theorem dX1_init_19 : decode cX1_init 19 = .ok (.putfield 15, 3) := by decide +kernel
theorem dX1_init_22 : decode cX1_init 22 = .ok (.aload_n 0, 1) := by decide +kernel
theorem dX1_init_23 : decode cX1_init 23 = .ok (.iconst 0, 1) := by decide +kernel
theorem dX1_init_24 : decode cX1_init 24 = .ok (.putfield 18, 3) := by decide +kernel
theorem dX1_init_27 : decode cX1_init 27 = .ok (.aload_n 0, 1) := by decide +kernel
theorem dX1_init_28 : decode cX1_init 28 = .ok (.sipush 256, 3) := by decide +kernel
theorem dX1_init_31 : decode cX1_init 31 = .ok (.newarray .int, 2) := by decide +kernel
theorem dX1_init_33 : decode cX1_init 33 = .ok (.putfield 22, 3) := by decide +kernel
theorem dX1_init_36 : decode cX1_init 36 = .ok (.aload_n 0, 1) := by decide +kernel
theorem dX1_init_37 : decode cX1_init 37 = .ok (.iconst 0, 1) := by decide +kernel
theorem dX1_init_38 : decode cX1_init 38 = .ok (.putfield 25, 3) := by decide +kernel
theorem dX1_init_41 : decode cX1_init 41 = .ok (.aload_n 0, 1) := by decide +kernel
theorem dX1_init_42 : decode cX1_init 42 = .ok (.sipush (-30000), 3) := by decide +kernel
theorem dX1_init_45 : decode cX1_init 45 = .ok (.putfield 28, 3) := by decide +kernel
theorem dX1_init_48 : decode cX1_init 48 = .ok (.aload_n 0, 1) := by decide +kernel
theorem dX1_init_49 : decode cX1_init 49 = .ok (.aload_n 1, 1) := by decide +kernel
theorem dX1_init_50 : decode cX1_init 50 = .ok (.putfield 31, 3) := by decide +kernel
theorem dX1_init_53 : decode cX1_init 53 = .ok (.return_, 1) := by decide +kernel
theorem dX1_find_0 : decode cX1_find 0 = .ok (.aload_n 0, 1) := by decide +kernel
theorem dX1_find_1 : decode cX1_find 1 = .ok (.iload_n 1, 1) := by decide +kernel
theorem dX1_find_2 : decode cX1_find 2 = .ok (.iload_n 2, 1) := by decide +kernel
theorem dX1_find_3 : decode cX1_find 3 = .ok (.sipush (-30000), 3) := by decide +kernel
theorem dX1_find_6 : decode cX1_find 6 = .ok (.invokevirtual 35, 3) := by decide +kernel
theorem dX1_find_9 : decode cX1_find 9 = .ok (.ifCond .ne 5, 3) := by decide +kernel
theorem dX1_find_12 : decode cX1_find 12 = .ok (.iconst 0, 1) := by decide +kernel
theorem dX1_find_13 : decode cX1_find 13 = .ok (.ireturn, 1) := by decide +kernel
theorem dX1_find_14 : decode cX1_find 14 = .ok (.aload_n 0, 1) := by decide +kernel
theorem dX1_find_15 : decode cX1_find 15 = .ok (.aload_n 0, 1) := by decide +kernel
theorem dX1_find_16 : decode cX1_find 16 = .ok (.iload_n 1, 1) := by decide +kernel
theorem dX1_find_17 : decode cX1_find 17 = .ok (.iload_n 2, 1) := by decide +kernel
theorem dX1_find_18 : decode cX1_find 18 = .ok (.invokevirtual 39, 3) := by decide +kernel
theorem dX1_find_21 : decode cX1_find 21 = .ok (.putfield 28, 3) := by decide +kernel
theorem dX1_find_24 : decode cX1_find 24 = .ok (.aload_n 0, 1) := by decide +kernel
theorem dX1_find_25 : decode cX1_find 25 = .ok (.iload_n 2, 1) := by decide +kernel
theorem dX1_find_26 : decode cX1_find 26 = .ok (.aload_n 0, 1) := by decide +kernel
theorem dX1_find_27 : decode cX1_find 27 = .ok (.getfield 28, 3) := by decide +kernel
theorem dX1_find_30 : decode cX1_find 30 = .ok (.invokevirtual 43, 3) := by decide +kernel
theorem dX1_find_33 : decode cX1_find 33 = .ok (.aload_n 0, 1) := by decide +kernel
theorem dX1_find_34 : decode cX1_find 34 = .ok (.iload_n 1, 1) := by decide +kernel
theorem dX1_find_35 : decode cX1_find 35 = .ok (.invokevirtual 47, 3) := by decide +kernel
theorem dX1_find_38 : decode cX1_find 38 = .ok (.iconst 1, 1) := by decide +kernel
theorem dX1_find_39 : decode cX1_find 39 = .ok (.ireturn, 1) := by decide +kernel
theorem dX1_joins_0 : decode cX1_joins 0 = .ok (.aload_n 0, 1) := by decide +kernel
theorem dX1_joins_1 : decode cX1_joins 1 = .ok (.iload_n 2, 1) := by decide +kernel
theorem dX1_joins_2 : decode cX1_joins 2 = .ok (.iload_n 3, 1) := by decide +kernel
theorem dX1_joins_3 : decode cX1_joins 3 = .ok (.invokevirtual 43, 3) := by decide +kernel
theorem dX1_joins_6 : decode cX1_joins 6 = .ok (.aload_n 0, 1) := by decide +kernel
theorem dX1_joins_7 : decode cX1_joins 7 = .ok (.getfield 9, 3) := by decide +kernel
theorem dX1_joins_10 : decode cX1_joins 10 = .ok (.iload_n 1, 1) := by decide +kernel
theorem dX1_joins_11 : decode cX1_joins 11 = .ok (.iaload, 1) := by decide +kernel
theorem dX1_joins_12 : decode cX1_joins 12 = .ok (.iconst (-1), 1) := by decide +kernel
theorem dX1_joins_13 : decode cX1_joins 13 = .ok (.if_icmp .eq 7, 3) := by decide +kernel
theorem dX1_joins_16 : decode cX1_joins 16 = .ok (.iconst 1, 1) := by decide +kernel
theorem dX1_joins_17 : decode cX1_joins 17 = .ok (.goto 4, 3) := by decide +kernel
theorem dX1_joins_20 : decode cX1_joins 20 = .ok (.iconst 0, 1) := by decide +kernel
theorem dX1_joins_21 : decode cX1_joins 21 = .ok (.ireturn, 1) := by decide +kernel
theorem dX1_firstAtFloor_0 : decode cX1_firstAtFloor 0 = .ok (.iconst 0, 1) := by decide +kernel
theorem dX1_firstAtFloor_1 : decode cX1_firstAtFloor 1 = .ok (.istore_n 1, 1) := by decide +kernel
theorem dX1_firstAtFloor_2 : decode cX1_firstAtFloor 2 = .ok (.iload_n 1, 1) := by decide +kernel
theorem dX1_firstAtFloor_3 : decode cX1_firstAtFloor 3 = .ok (.aload_n 0, 1) := by decide +kernel
theorem dX1_firstAtFloor_4 : decode cX1_firstAtFloor 4 = .ok (.getfield 25, 3) := by decide +kernel
theorem dX1_firstAtFloor_7 : decode cX1_firstAtFloor 7 = .ok (.if_icmp .ge 37, 3) := by decide +kernel
theorem dX1_firstAtFloor_10 : decode cX1_firstAtFloor 10 = .ok (.aload_n 0, 1) := by decide +kernel
theorem dX1_firstAtFloor_11 : decode cX1_firstAtFloor 11 = .ok (.getfield 31, 3) := by decide +kernel
theorem dX1_firstAtFloor_14 : decode cX1_firstAtFloor 14 = .ok (.getfield 51, 3) := by decide +kernel
theorem dX1_firstAtFloor_17 : decode cX1_firstAtFloor 17 = .ok (.aload_n 0, 1) := by decide +kernel
theorem dX1_firstAtFloor_18 : decode cX1_firstAtFloor 18 = .ok (.getfield 22, 3) := by decide +kernel
theorem dX1_firstAtFloor_21 : decode cX1_firstAtFloor 21 = .ok (.iload_n 1, 1) := by decide +kernel
theorem dX1_firstAtFloor_22 : decode cX1_firstAtFloor 22 = .ok (.iaload, 1) := by decide +kernel
theorem dX1_firstAtFloor_23 : decode cX1_firstAtFloor 23 = .ok (.iaload, 1) := by decide +kernel
theorem dX1_firstAtFloor_24 : decode cX1_firstAtFloor 24 = .ok (.aload_n 0, 1) := by decide +kernel
theorem dX1_firstAtFloor_25 : decode cX1_firstAtFloor 25 = .ok (.getfield 28, 3) := by decide +kernel
theorem dX1_firstAtFloor_28 : decode cX1_firstAtFloor 28 = .ok (.if_icmp .ne 10, 3) := by decide +kernel
theorem dX1_firstAtFloor_31 : decode cX1_firstAtFloor 31 = .ok (.aload_n 0, 1) := by decide +kernel
theorem dX1_firstAtFloor_32 : decode cX1_firstAtFloor 32 = .ok (.getfield 22, 3) := by decide +kernel
theorem dX1_firstAtFloor_35 : decode cX1_firstAtFloor 35 = .ok (.iload_n 1, 1) := by decide +kernel
theorem dX1_firstAtFloor_36 : decode cX1_firstAtFloor 36 = .ok (.iaload, 1) := by decide +kernel
theorem dX1_firstAtFloor_37 : decode cX1_firstAtFloor 37 = .ok (.ireturn, 1) := by decide +kernel
theorem dX1_firstAtFloor_38 : decode cX1_firstAtFloor 38 = .ok (.iinc 1 1, 3) := by decide +kernel
theorem dX1_firstAtFloor_41 : decode cX1_firstAtFloor 41 = .ok (.goto (-39), 3) := by decide +kernel
theorem dX1_firstAtFloor_44 : decode cX1_firstAtFloor 44 = .ok (.iconst (-1), 1) := by decide +kernel
theorem dX1_firstAtFloor_45 : decode cX1_firstAtFloor 45 = .ok (.ireturn, 1) := by decide +kernel
theorem dX1_greatestFloor_0 : decode cX1_greatestFloor 0 = .ok (.aload_n 0, 1) := by decide +kernel
theorem dX1_greatestFloor_1 : decode cX1_greatestFloor 1 = .ok (.getfield 31, 3) := by decide +kernel
theorem dX1_greatestFloor_4 : decode cX1_greatestFloor 4 = .ok (.invokevirtual 56, 3) := by decide +kernel
theorem dX1_greatestFloor_7 : decode cX1_greatestFloor 7 = .ok (.istore_n 3, 1) := by decide +kernel
theorem dX1_greatestFloor_8 : decode cX1_greatestFloor 8 = .ok (.aload_n 0, 1) := by decide +kernel
theorem dX1_greatestFloor_9 : decode cX1_greatestFloor 9 = .ok (.getfield 31, 3) := by decide +kernel
theorem dX1_greatestFloor_12 : decode cX1_greatestFloor 12 = .ok (.getfield 51, 3) := by decide +kernel
theorem dX1_greatestFloor_15 : decode cX1_greatestFloor 15 = .ok (.iload_n 1, 1) := by decide +kernel
theorem dX1_greatestFloor_16 : decode cX1_greatestFloor 16 = .ok (.iaload, 1) := by decide +kernel
theorem dX1_greatestFloor_17 : decode cX1_greatestFloor 17 = .ok (.aload_n 0, 1) := by decide +kernel
theorem dX1_greatestFloor_18 : decode cX1_greatestFloor 18 = .ok (.getfield 31, 3) := by decide +kernel
theorem dX1_greatestFloor_21 : decode cX1_greatestFloor 21 = .ok (.getfield 51, 3) := by decide +kernel
theorem dX1_greatestFloor_24 : decode cX1_greatestFloor 24 = .ok (.iload_n 2, 1) := by decide +kernel
theorem dX1_greatestFloor_25 : decode cX1_greatestFloor 25 = .ok (.iaload, 1) := by decide +kernel
theorem dX1_greatestFloor_26 : decode cX1_greatestFloor 26 = .ok (.invokestatic 60, 3) := by decide +kernel
theorem dX1_greatestFloor_29 : decode cX1_greatestFloor 29 = .ok (.istore 4, 2) := by decide +kernel
theorem dX1_greatestFloor_31 : decode cX1_greatestFloor 31 = .ok (.iconst 0, 1) := by decide +kernel
theorem dX1_greatestFloor_32 : decode cX1_greatestFloor 32 = .ok (.istore 5, 2) := by decide +kernel
theorem dX1_greatestFloor_34 : decode cX1_greatestFloor 34 = .ok (.iload 5, 2) := by decide +kernel
theorem dX1_greatestFloor_36 : decode cX1_greatestFloor 36 = .ok (.bipush 40, 2) := by decide +kernel
theorem dX1_greatestFloor_38 : decode cX1_greatestFloor 38 = .ok (.if_icmp .ge 50, 3) := by decide +kernel
theorem dX1_greatestFloor_41 : decode cX1_greatestFloor 41 = .ok (.iload_n 3, 1) := by decide +kernel
theorem dX1_greatestFloor_42 : decode cX1_greatestFloor 42 = .ok (.iload 4, 2) := by decide +kernel
theorem dX1_greatestFloor_44 : decode cX1_greatestFloor 44 = .ok (.if_icmp .ge 44, 3) := by decide +kernel
theorem dX1_greatestFloor_47 : decode cX1_greatestFloor 47 = .ok (.iload_n 3, 1) := by decide +kernel
theorem dX1_greatestFloor_48 : decode cX1_greatestFloor 48 = .ok (.iload 4, 2) := by decide +kernel
theorem dX1_greatestFloor_50 : decode cX1_greatestFloor 50 = .ok (.iload_n 3, 1) := by decide +kernel
theorem dX1_greatestFloor_51 : decode cX1_greatestFloor 51 = .ok (.isub, 1) := by decide +kernel
theorem dX1_greatestFloor_52 : decode cX1_greatestFloor 52 = .ok (.iconst 1, 1) := by decide +kernel
theorem dX1_greatestFloor_53 : decode cX1_greatestFloor 53 = .ok (.iadd, 1) := by decide +kernel
theorem dX1_greatestFloor_54 : decode cX1_greatestFloor 54 = .ok (.iconst 2, 1) := by decide +kernel
theorem dX1_greatestFloor_55 : decode cX1_greatestFloor 55 = .ok (.idiv, 1) := by decide +kernel
theorem dX1_greatestFloor_56 : decode cX1_greatestFloor 56 = .ok (.iadd, 1) := by decide +kernel
theorem dX1_greatestFloor_57 : decode cX1_greatestFloor 57 = .ok (.istore 6, 2) := by decide +kernel
theorem dX1_greatestFloor_59 : decode cX1_greatestFloor 59 = .ok (.aload_n 0, 1) := by decide +kernel
theorem dX1_greatestFloor_60 : decode cX1_greatestFloor 60 = .ok (.iload_n 1, 1) := by decide +kernel
theorem dX1_greatestFloor_61 : decode cX1_greatestFloor 61 = .ok (.iload_n 2, 1) := by decide +kernel
theorem dX1_greatestFloor_62 : decode cX1_greatestFloor 62 = .ok (.iload 6, 2) := by decide +kernel
theorem dX1_greatestFloor_64 : decode cX1_greatestFloor 64 = .ok (.invokevirtual 35, 3) := by decide +kernel
theorem dX1_greatestFloor_67 : decode cX1_greatestFloor 67 = .ok (.ifCond .eq 9, 3) := by decide +kernel
theorem dX1_greatestFloor_70 : decode cX1_greatestFloor 70 = .ok (.iload 6, 2) := by decide +kernel
theorem dX1_greatestFloor_72 : decode cX1_greatestFloor 72 = .ok (.istore_n 3, 1) := by decide +kernel
theorem dX1_greatestFloor_73 : decode cX1_greatestFloor 73 = .ok (.goto 9, 3) := by decide +kernel
theorem dX1_greatestFloor_76 : decode cX1_greatestFloor 76 = .ok (.iload 6, 2) := by decide +kernel
theorem dX1_greatestFloor_78 : decode cX1_greatestFloor 78 = .ok (.iconst 1, 1) := by decide +kernel
theorem dX1_greatestFloor_79 : decode cX1_greatestFloor 79 = .ok (.isub, 1) := by decide +kernel
theorem dX1_greatestFloor_80 : decode cX1_greatestFloor 80 = .ok (.istore 4, 2) := by decide +kernel
theorem dX1_greatestFloor_82 : decode cX1_greatestFloor 82 = .ok (.iinc 5 1, 3) := by decide +kernel
theorem dX1_greatestFloor_85 : decode cX1_greatestFloor 85 = .ok (.goto (-51), 3) := by decide +kernel
theorem dX1_greatestFloor_88 : decode cX1_greatestFloor 88 = .ok (.iload_n 3, 1) := by decide +kernel
theorem dX1_greatestFloor_89 : decode cX1_greatestFloor 89 = .ok (.ireturn, 1) := by decide +kernel
theorem dX1_flood_0 : decode cX1_flood 0 = .ok (.aload_n 0, 1) := by decide +kernel
theorem dX1_flood_1 : decode cX1_flood 1 = .ok (.getfield 9, 3) := by decide +kernel
theorem dX1_flood_4 : decode cX1_flood 4 = .ok (.iconst (-1), 1) := by decide +kernel
theorem dX1_flood_5 : decode cX1_flood 5 = .ok (.invokestatic 65, 3) := by decide +kernel
theorem dX1_flood_8 : decode cX1_flood 8 = .ok (.aload_n 0, 1) := by decide +kernel
theorem dX1_flood_9 : decode cX1_flood 9 = .ok (.iconst 0, 1) := by decide +kernel
theorem dX1_flood_10 : decode cX1_flood 10 = .ok (.putfield 18, 3) := by decide +kernel
theorem dX1_flood_13 : decode cX1_flood 13 = .ok (.aload_n 0, 1) := by decide +kernel
theorem dX1_flood_14 : decode cX1_flood 14 = .ok (.iload_n 1, 1) := by decide +kernel
theorem dX1_flood_15 : decode cX1_flood 15 = .ok (.iload_n 2, 1) := by decide +kernel
theorem dX1_flood_16 : decode cX1_flood 16 = .ok (.iconst 0, 1) := by decide +kernel
theorem dX1_flood_17 : decode cX1_flood 17 = .ok (.invokevirtual 71, 3) := by decide +kernel
theorem dX1_flood_20 : decode cX1_flood 20 = .ok (.iconst 0, 1) := by decide +kernel
theorem dX1_flood_21 : decode cX1_flood 21 = .ok (.istore_n 3, 1) := by decide +kernel
theorem dX1_flood_22 : decode cX1_flood 22 = .ok (.iload_n 3, 1) := by decide +kernel
theorem dX1_flood_23 : decode cX1_flood 23 = .ok (.sipush 256, 3) := by decide +kernel
theorem dX1_flood_26 : decode cX1_flood 26 = .ok (.if_icmp .ge 71, 3) := by decide +kernel
theorem dX1_flood_29 : decode cX1_flood 29 = .ok (.iload_n 3, 1) := by decide +kernel
theorem dX1_flood_30 : decode cX1_flood 30 = .ok (.aload_n 0, 1) := by decide +kernel
theorem dX1_flood_31 : decode cX1_flood 31 = .ok (.getfield 18, 3) := by decide +kernel
theorem dX1_flood_34 : decode cX1_flood 34 = .ok (.if_icmp .ge 63, 3) := by decide +kernel
theorem dX1_flood_37 : decode cX1_flood 37 = .ok (.aload_n 0, 1) := by decide +kernel
theorem dX1_flood_38 : decode cX1_flood 38 = .ok (.getfield 15, 3) := by decide +kernel
theorem dX1_flood_41 : decode cX1_flood 41 = .ok (.iload_n 3, 1) := by decide +kernel
theorem dX1_flood_42 : decode cX1_flood 42 = .ok (.iaload, 1) := by decide +kernel
theorem dX1_flood_43 : decode cX1_flood 43 = .ok (.istore 4, 2) := by decide +kernel
theorem dX1_flood_45 : decode cX1_flood 45 = .ok (.iconst 0, 1) := by decide +kernel
theorem dX1_flood_46 : decode cX1_flood 46 = .ok (.istore 5, 2) := by decide +kernel
theorem dX1_flood_48 : decode cX1_flood 48 = .ok (.iload 5, 2) := by decide +kernel
theorem dX1_flood_50 : decode cX1_flood 50 = .ok (.iconst 4, 1) := by decide +kernel
theorem dX1_flood_51 : decode cX1_flood 51 = .ok (.if_icmp .ge 40, 3) := by decide +kernel
theorem dX1_flood_54 : decode cX1_flood 54 = .ok (.iload 4, 2) := by decide +kernel
theorem dX1_flood_56 : decode cX1_flood 56 = .ok (.iload 5, 2) := by decide +kernel
theorem dX1_flood_58 : decode cX1_flood 58 = .ok (.invokestatic 75, 3) := by decide +kernel
theorem dX1_flood_61 : decode cX1_flood 61 = .ok (.istore 6, 2) := by decide +kernel
theorem dX1_flood_63 : decode cX1_flood 63 = .ok (.iload 6, 2) := by decide +kernel
theorem dX1_flood_65 : decode cX1_flood 65 = .ok (.iconst (-1), 1) := by decide +kernel
theorem dX1_flood_66 : decode cX1_flood 66 = .ok (.if_icmp .eq 19, 3) := by decide +kernel
theorem dX1_flood_69 : decode cX1_flood 69 = .ok (.aload_n 0, 1) := by decide +kernel
theorem dX1_flood_70 : decode cX1_flood 70 = .ok (.iload 6, 2) := by decide +kernel
theorem dX1_flood_72 : decode cX1_flood 72 = .ok (.iload_n 2, 1) := by decide +kernel
theorem dX1_flood_73 : decode cX1_flood 73 = .ok (.aload_n 0, 1) := by decide +kernel
theorem dX1_flood_74 : decode cX1_flood 74 = .ok (.getfield 9, 3) := by decide +kernel
theorem dX1_flood_77 : decode cX1_flood 77 = .ok (.iload 4, 2) := by decide +kernel
theorem dX1_flood_79 : decode cX1_flood 79 = .ok (.iaload, 1) := by decide +kernel
theorem dX1_flood_80 : decode cX1_flood 80 = .ok (.iconst 1, 1) := by decide +kernel
theorem dX1_flood_81 : decode cX1_flood 81 = .ok (.iadd, 1) := by decide +kernel
theorem dX1_flood_82 : decode cX1_flood 82 = .ok (.invokevirtual 71, 3) := by decide +kernel
theorem dX1_flood_85 : decode cX1_flood 85 = .ok (.iinc 5 1, 3) := by decide +kernel
theorem dX1_flood_88 : decode cX1_flood 88 = .ok (.goto (-40), 3) := by decide +kernel
theorem dX1_flood_91 : decode cX1_flood 91 = .ok (.iinc 3 1, 3) := by decide +kernel
theorem dX1_flood_94 : decode cX1_flood 94 = .ok (.goto (-72), 3) := by decide +kernel
theorem dX1_flood_97 : decode cX1_flood 97 = .ok (.return_, 1) := by decide +kernel
theorem dX1_reach_0 : decode cX1_reach 0 = .ok (.aload_n 0, 1) := by decide +kernel
theorem dX1_reach_1 : decode cX1_reach 1 = .ok (.getfield 31, 3) := by decide +kernel
theorem dX1_reach_4 : decode cX1_reach 4 = .ok (.getfield 51, 3) := by decide +kernel
theorem dX1_reach_7 : decode cX1_reach 7 = .ok (.iload_n 1, 1) := by decide +kernel
theorem dX1_reach_8 : decode cX1_reach 8 = .ok (.iaload, 1) := by decide +kernel
theorem dX1_reach_9 : decode cX1_reach 9 = .ok (.istore 4, 2) := by decide +kernel
theorem dX1_reach_11 : decode cX1_reach 11 = .ok (.aload_n 0, 1) := by decide +kernel
theorem dX1_reach_12 : decode cX1_reach 12 = .ok (.getfield 9, 3) := by decide +kernel
theorem dX1_reach_15 : decode cX1_reach 15 = .ok (.iload_n 1, 1) := by decide +kernel
theorem dX1_reach_16 : decode cX1_reach 16 = .ok (.iaload, 1) := by decide +kernel
theorem dX1_reach_17 : decode cX1_reach 17 = .ok (.iconst (-1), 1) := by decide +kernel
theorem dX1_reach_18 : decode cX1_reach 18 = .ok (.if_icmp .ne 27, 3) := by decide +kernel
theorem dX1_reach_21 : decode cX1_reach 21 = .ok (.iload 4, 2) := by decide +kernel
theorem dX1_reach_23 : decode cX1_reach 23 = .ok (.sipush (-30000), 3) := by decide +kernel
theorem dX1_reach_26 : decode cX1_reach 26 = .ok (.if_icmp .eq 19, 3) := by decide +kernel
theorem dX1_reach_29 : decode cX1_reach 29 = .ok (.iload 4, 2) := by decide +kernel
theorem dX1_reach_31 : decode cX1_reach 31 = .ok (.iload_n 2, 1) := by decide +kernel
theorem dX1_reach_32 : decode cX1_reach 32 = .ok (.if_icmp .lt 13, 3) := by decide +kernel
theorem dX1_reach_35 : decode cX1_reach 35 = .ok (.aload_n 0, 1) := by decide +kernel
theorem dX1_reach_36 : decode cX1_reach 36 = .ok (.getfield 18, 3) := by decide +kernel
theorem dX1_reach_39 : decode cX1_reach 39 = .ok (.sipush 256, 3) := by decide +kernel
theorem dX1_reach_42 : decode cX1_reach 42 = .ok (.if_icmp .lt 4, 3) := by decide +kernel
theorem dX1_reach_45 : decode cX1_reach 45 = .ok (.return_, 1) := by decide +kernel
theorem dX1_reach_46 : decode cX1_reach 46 = .ok (.aload_n 0, 1) := by decide +kernel
theorem dX1_reach_47 : decode cX1_reach 47 = .ok (.getfield 9, 3) := by decide +kernel
theorem dX1_reach_50 : decode cX1_reach 50 = .ok (.iload_n 1, 1) := by decide +kernel
theorem dX1_reach_51 : decode cX1_reach 51 = .ok (.iload_n 3, 1) := by decide +kernel
theorem dX1_reach_52 : decode cX1_reach 52 = .ok (.iastore, 1) := by decide +kernel
theorem dX1_reach_53 : decode cX1_reach 53 = .ok (.aload_n 0, 1) := by decide +kernel
theorem dX1_reach_54 : decode cX1_reach 54 = .ok (.getfield 15, 3) := by decide +kernel
theorem dX1_reach_57 : decode cX1_reach 57 = .ok (.aload_n 0, 1) := by decide +kernel
theorem dX1_reach_58 : decode cX1_reach 58 = .ok (.getfield 18, 3) := by decide +kernel
theorem dX1_reach_61 : decode cX1_reach 61 = .ok (.iload_n 1, 1) := by decide +kernel
theorem dX1_reach_62 : decode cX1_reach 62 = .ok (.iastore, 1) := by decide +kernel
theorem dX1_reach_63 : decode cX1_reach 63 = .ok (.aload_n 0, 1) := by decide +kernel
theorem dX1_reach_64 : decode cX1_reach 64 = .ok (.dup, 1) := by decide +kernel
theorem dX1_reach_65 : decode cX1_reach 65 = .ok (.getfield 18, 3) := by decide +kernel
theorem dX1_reach_68 : decode cX1_reach 68 = .ok (.iconst 1, 1) := by decide +kernel
theorem dX1_reach_69 : decode cX1_reach 69 = .ok (.iadd, 1) := by decide +kernel
theorem dX1_reach_70 : decode cX1_reach 70 = .ok (.putfield 18, 3) := by decide +kernel
theorem dX1_reach_73 : decode cX1_reach 73 = .ok (.return_, 1) := by decide +kernel
theorem dX1_walk_0 : decode cX1_walk 0 = .ok (.aload_n 0, 1) := by decide +kernel
theorem dX1_walk_1 : decode cX1_walk 1 = .ok (.iconst 0, 1) := by decide +kernel
theorem dX1_walk_2 : decode cX1_walk 2 = .ok (.putfield 25, 3) := by decide +kernel
theorem dX1_walk_5 : decode cX1_walk 5 = .ok (.iload_n 1, 1) := by decide +kernel
theorem dX1_walk_6 : decode cX1_walk 6 = .ok (.istore_n 2, 1) := by decide +kernel
theorem dX1_walk_7 : decode cX1_walk 7 = .ok (.iconst 0, 1) := by decide +kernel
theorem dX1_walk_8 : decode cX1_walk 8 = .ok (.istore_n 3, 1) := by decide +kernel
theorem dX1_walk_9 : decode cX1_walk 9 = .ok (.iload_n 3, 1) := by decide +kernel
theorem dX1_walk_10 : decode cX1_walk 10 = .ok (.sipush 256, 3) := by decide +kernel
theorem dX1_walk_13 : decode cX1_walk 13 = .ok (.if_icmp .ge 56, 3) := by decide +kernel
theorem dX1_walk_16 : decode cX1_walk 16 = .ok (.aload_n 0, 1) := by decide +kernel
theorem dX1_walk_17 : decode cX1_walk 17 = .ok (.getfield 9, 3) := by decide +kernel
theorem dX1_walk_20 : decode cX1_walk 20 = .ok (.iload_n 1, 1) := by decide +kernel
theorem dX1_walk_21 : decode cX1_walk 21 = .ok (.iaload, 1) := by decide +kernel
theorem dX1_walk_22 : decode cX1_walk 22 = .ok (.iload_n 3, 1) := by decide +kernel
theorem dX1_walk_23 : decode cX1_walk 23 = .ok (.isub, 1) := by decide +kernel
theorem dX1_walk_24 : decode cX1_walk 24 = .ok (.ifCond .lt 45, 3) := by decide +kernel
theorem dX1_walk_27 : decode cX1_walk 27 = .ok (.aload_n 0, 1) := by decide +kernel
theorem dX1_walk_28 : decode cX1_walk 28 = .ok (.getfield 22, 3) := by decide +kernel
theorem dX1_walk_31 : decode cX1_walk 31 = .ok (.aload_n 0, 1) := by decide +kernel
theorem dX1_walk_32 : decode cX1_walk 32 = .ok (.getfield 25, 3) := by decide +kernel
theorem dX1_walk_35 : decode cX1_walk 35 = .ok (.iload_n 2, 1) := by decide +kernel
theorem dX1_walk_36 : decode cX1_walk 36 = .ok (.iastore, 1) := by decide +kernel
theorem dX1_walk_37 : decode cX1_walk 37 = .ok (.aload_n 0, 1) := by decide +kernel
theorem dX1_walk_38 : decode cX1_walk 38 = .ok (.dup, 1) := by decide +kernel
theorem dX1_walk_39 : decode cX1_walk 39 = .ok (.getfield 25, 3) := by decide +kernel
theorem dX1_walk_42 : decode cX1_walk 42 = .ok (.iconst 1, 1) := by decide +kernel
theorem dX1_walk_43 : decode cX1_walk 43 = .ok (.iadd, 1) := by decide +kernel
theorem dX1_walk_44 : decode cX1_walk 44 = .ok (.putfield 25, 3) := by decide +kernel
theorem dX1_walk_47 : decode cX1_walk 47 = .ok (.aload_n 0, 1) := by decide +kernel
theorem dX1_walk_48 : decode cX1_walk 48 = .ok (.iload_n 2, 1) := by decide +kernel
theorem dX1_walk_49 : decode cX1_walk 49 = .ok (.aload_n 0, 1) := by decide +kernel
theorem dX1_walk_50 : decode cX1_walk 50 = .ok (.getfield 9, 3) := by decide +kernel
theorem dX1_walk_53 : decode cX1_walk 53 = .ok (.iload_n 1, 1) := by decide +kernel
theorem dX1_walk_54 : decode cX1_walk 54 = .ok (.iaload, 1) := by decide +kernel
theorem dX1_walk_55 : decode cX1_walk 55 = .ok (.iload_n 3, 1) := by decide +kernel
theorem dX1_walk_56 : decode cX1_walk 56 = .ok (.isub, 1) := by decide +kernel
theorem dX1_walk_57 : decode cX1_walk 57 = .ok (.iconst 1, 1) := by decide +kernel
theorem dX1_walk_58 : decode cX1_walk 58 = .ok (.isub, 1) := by decide +kernel
theorem dX1_walk_59 : decode cX1_walk 59 = .ok (.invokevirtual 78, 3) := by decide +kernel
theorem dX1_walk_62 : decode cX1_walk 62 = .ok (.istore_n 2, 1) := by decide +kernel
theorem dX1_walk_63 : decode cX1_walk 63 = .ok (.iinc 3 1, 3) := by decide +kernel
theorem dX1_walk_66 : decode cX1_walk 66 = .ok (.goto (-57), 3) := by decide +kernel
theorem dX1_walk_69 : decode cX1_walk 69 = .ok (.return_, 1) := by decide +kernel
theorem dX1_leastBeside_0 : decode cX1_leastBeside 0 = .ok (.iconst 0, 1) := by decide +kernel
theorem dX1_leastBeside_1 : decode cX1_leastBeside 1 = .ok (.istore_n 3, 1) := by decide +kernel
theorem dX1_leastBeside_2 : decode cX1_leastBeside 2 = .ok (.iload_n 3, 1) := by decide +kernel
theorem dX1_leastBeside_3 : decode cX1_leastBeside 3 = .ok (.iconst 4, 1) := by decide +kernel
theorem dX1_leastBeside_4 : decode cX1_leastBeside 4 = .ok (.if_icmp .ge 40, 3) := by decide +kernel
theorem dX1_leastBeside_7 : decode cX1_leastBeside 7 = .ok (.iload_n 1, 1) := by decide +kernel
theorem dX1_leastBeside_8 : decode cX1_leastBeside 8 = .ok (.iload_n 3, 1) := by decide +kernel
theorem dX1_leastBeside_9 : decode cX1_leastBeside 9 = .ok (.invokestatic 75, 3) := by decide +kernel
theorem dX1_leastBeside_12 : decode cX1_leastBeside 12 = .ok (.istore 4, 2) := by decide +kernel
theorem dX1_leastBeside_14 : decode cX1_leastBeside 14 = .ok (.iload 4, 2) := by decide +kernel
theorem dX1_leastBeside_16 : decode cX1_leastBeside 16 = .ok (.iconst (-1), 1) := by decide +kernel
theorem dX1_leastBeside_17 : decode cX1_leastBeside 17 = .ok (.if_icmp .eq 21, 3) := by decide +kernel
theorem dX1_leastBeside_20 : decode cX1_leastBeside 20 = .ok (.iload_n 2, 1) := by decide +kernel
theorem dX1_leastBeside_21 : decode cX1_leastBeside 21 = .ok (.ifCond .lt 17, 3) := by decide +kernel
theorem dX1_leastBeside_24 : decode cX1_leastBeside 24 = .ok (.aload_n 0, 1) := by decide +kernel
theorem dX1_leastBeside_25 : decode cX1_leastBeside 25 = .ok (.getfield 9, 3) := by decide +kernel
theorem dX1_leastBeside_28 : decode cX1_leastBeside 28 = .ok (.iload 4, 2) := by decide +kernel
theorem dX1_leastBeside_30 : decode cX1_leastBeside 30 = .ok (.iaload, 1) := by decide +kernel
theorem dX1_leastBeside_31 : decode cX1_leastBeside 31 = .ok (.iload_n 2, 1) := by decide +kernel
theorem dX1_leastBeside_32 : decode cX1_leastBeside 32 = .ok (.if_icmp .ne 6, 3) := by decide +kernel
theorem dX1_leastBeside_35 : decode cX1_leastBeside 35 = .ok (.iload 4, 2) := by decide +kernel
theorem dX1_leastBeside_37 : decode cX1_leastBeside 37 = .ok (.ireturn, 1) := by decide +kernel
theorem dX1_leastBeside_38 : decode cX1_leastBeside 38 = .ok (.iinc 3 1, 3) := by decide +kernel
theorem dX1_leastBeside_41 : decode cX1_leastBeside 41 = .ok (.goto (-39), 3) := by decide +kernel
theorem dX1_leastBeside_44 : decode cX1_leastBeside 44 = .ok (.iload_n 1, 1) := by decide +kernel
theorem dX1_leastBeside_45 : decode cX1_leastBeside 45 = .ok (.ireturn, 1) := by decide +kernel
theorem dX1_beside_0 : decode cX1_beside 0 = .ok (.iload_n 0, 1) := by decide +kernel
theorem dX1_beside_1 : decode cX1_beside 1 = .ok (.bipush 16, 2) := by decide +kernel
theorem dX1_beside_3 : decode cX1_beside 3 = .ok (.irem, 1) := by decide +kernel
theorem dX1_beside_4 : decode cX1_beside 4 = .ok (.istore_n 2, 1) := by decide +kernel
theorem dX1_beside_5 : decode cX1_beside 5 = .ok (.iload_n 1, 1) := by decide +kernel
theorem dX1_beside_6 : decode cX1_beside 6 = .ok (.tableswitch 67 0 2 #[26, 41, 53], 26) := by decide +kernel
theorem dX1_beside_32 : decode cX1_beside 32 = .ok (.iload_n 0, 1) := by decide +kernel
theorem dX1_beside_33 : decode cX1_beside 33 = .ok (.bipush 16, 2) := by decide +kernel
theorem dX1_beside_35 : decode cX1_beside 35 = .ok (.if_icmp .lt 10, 3) := by decide +kernel
theorem dX1_beside_38 : decode cX1_beside 38 = .ok (.iload_n 0, 1) := by decide +kernel
theorem dX1_beside_39 : decode cX1_beside 39 = .ok (.bipush 16, 2) := by decide +kernel
theorem dX1_beside_41 : decode cX1_beside 41 = .ok (.isub, 1) := by decide +kernel
theorem dX1_beside_42 : decode cX1_beside 42 = .ok (.goto 4, 3) := by decide +kernel
theorem dX1_beside_45 : decode cX1_beside 45 = .ok (.iconst (-1), 1) := by decide +kernel
theorem dX1_beside_46 : decode cX1_beside 46 = .ok (.ireturn, 1) := by decide +kernel
theorem dX1_beside_47 : decode cX1_beside 47 = .ok (.iload_n 2, 1) := by decide +kernel
theorem dX1_beside_48 : decode cX1_beside 48 = .ok (.ifCond .le 9, 3) := by decide +kernel
theorem dX1_beside_51 : decode cX1_beside 51 = .ok (.iload_n 0, 1) := by decide +kernel
theorem dX1_beside_52 : decode cX1_beside 52 = .ok (.iconst 1, 1) := by decide +kernel
theorem dX1_beside_53 : decode cX1_beside 53 = .ok (.isub, 1) := by decide +kernel
theorem dX1_beside_54 : decode cX1_beside 54 = .ok (.goto 4, 3) := by decide +kernel
theorem dX1_beside_57 : decode cX1_beside 57 = .ok (.iconst (-1), 1) := by decide +kernel
theorem dX1_beside_58 : decode cX1_beside 58 = .ok (.ireturn, 1) := by decide +kernel
theorem dX1_beside_59 : decode cX1_beside 59 = .ok (.iload_n 2, 1) := by decide +kernel
theorem dX1_beside_60 : decode cX1_beside 60 = .ok (.bipush 15, 2) := by decide +kernel
theorem dX1_beside_62 : decode cX1_beside 62 = .ok (.if_icmp .ge 9, 3) := by decide +kernel
theorem dX1_beside_65 : decode cX1_beside 65 = .ok (.iload_n 0, 1) := by decide +kernel
theorem dX1_beside_66 : decode cX1_beside 66 = .ok (.iconst 1, 1) := by decide +kernel
theorem dX1_beside_67 : decode cX1_beside 67 = .ok (.iadd, 1) := by decide +kernel
theorem dX1_beside_68 : decode cX1_beside 68 = .ok (.goto 4, 3) := by decide +kernel
theorem dX1_beside_71 : decode cX1_beside 71 = .ok (.iconst (-1), 1) := by decide +kernel
theorem dX1_beside_72 : decode cX1_beside 72 = .ok (.ireturn, 1) := by decide +kernel
theorem dX1_beside_73 : decode cX1_beside 73 = .ok (.iload_n 0, 1) := by decide +kernel
theorem dX1_beside_74 : decode cX1_beside 74 = .ok (.bipush 16, 2) := by decide +kernel
theorem dX1_beside_76 : decode cX1_beside 76 = .ok (.iadd, 1) := by decide +kernel
theorem dX1_beside_77 : decode cX1_beside 77 = .ok (.sipush 256, 3) := by decide +kernel
theorem dX1_beside_80 : decode cX1_beside 80 = .ok (.if_icmp .ge 10, 3) := by decide +kernel
theorem dX1_beside_83 : decode cX1_beside 83 = .ok (.iload_n 0, 1) := by decide +kernel
theorem dX1_beside_84 : decode cX1_beside 84 = .ok (.bipush 16, 2) := by decide +kernel
theorem dX1_beside_86 : decode cX1_beside 86 = .ok (.iadd, 1) := by decide +kernel
theorem dX1_beside_87 : decode cX1_beside 87 = .ok (.goto 4, 3) := by decide +kernel
theorem dX1_beside_90 : decode cX1_beside 90 = .ok (.iconst (-1), 1) := by decide +kernel
theorem dX1_beside_91 : decode cX1_beside 91 = .ok (.ireturn, 1) := by decide +kernel
theorem dX2_init_0 : decode cX2_init 0 = .ok (.aload_n 0, 1) := by decide +kernel
theorem dX2_init_1 : decode cX2_init 1 = .ok (.invokespecial 3, 3) := by decide +kernel
theorem dX2_init_4 : decode cX2_init 4 = .ok (.aload_n 0, 1) := by decide +kernel
theorem dX2_init_5 : decode cX2_init 5 = .ok (.sipush 256, 3) := by decide +kernel
theorem dX2_init_8 : decode cX2_init 8 = .ok (.newarray .int, 2) := by decide +kernel
theorem dX2_init_10 : decode cX2_init 10 = .ok (.putfield 9, 3) := by decide +kernel
theorem dX2_init_13 : decode cX2_init 13 = .ok (.aload_n 0, 1) := by decide +kernel
theorem dX2_init_14 : decode cX2_init 14 = .ok (.sipush 256, 3) := by decide +kernel
theorem dX2_init_17 : decode cX2_init 17 = .ok (.newarray .int, 2) := by decide +kernel
theorem dX2_init_19 : decode cX2_init 19 = .ok (.putfield 15, 3) := by decide +kernel
theorem dX2_init_22 : decode cX2_init 22 = .ok (.aload_n 0, 1) := by decide +kernel
theorem dX2_init_23 : decode cX2_init 23 = .ok (.aload_n 1, 1) := by decide +kernel
theorem dX2_init_24 : decode cX2_init 24 = .ok (.putfield 18, 3) := by decide +kernel
theorem dX2_init_27 : decode cX2_init 27 = .ok (.return_, 1) := by decide +kernel
theorem dX2_draw_0 : decode cX2_draw 0 = .ok (.aload_n 0, 1) := by decide +kernel
theorem dX2_draw_1 : decode cX2_draw 1 = .ok (.getfield 18, 3) := by decide +kernel
theorem dX2_draw_4 : decode cX2_draw 4 = .ok (.invokevirtual 22, 3) := by decide +kernel
theorem dX2_draw_7 : decode cX2_draw 7 = .ok (.aload_n 0, 1) := by decide +kernel
theorem dX2_draw_8 : decode cX2_draw 8 = .ok (.getfield 15, 3) := by decide +kernel
theorem dX2_draw_11 : decode cX2_draw 11 = .ok (.sipush (-30000), 3) := by decide +kernel
theorem dX2_draw_14 : decode cX2_draw 14 = .ok (.invokestatic 27, 3) := by decide +kernel
theorem dX2_draw_17 : decode cX2_draw 17 = .ok (.aload_n 0, 1) := by decide +kernel
theorem dX2_draw_18 : decode cX2_draw 18 = .ok (.getfield 9, 3) := by decide +kernel
theorem dX2_draw_21 : decode cX2_draw 21 = .ok (.sipush (-30000), 3) := by decide +kernel
theorem dX2_draw_24 : decode cX2_draw 24 = .ok (.invokestatic 27, 3) := by decide +kernel
theorem dX2_draw_27 : decode cX2_draw 27 = .ok (.iconst 0, 1) := by decide +kernel
theorem dX2_draw_28 : decode cX2_draw 28 = .ok (.istore_n 2, 1) := by decide +kernel
theorem dX2_draw_29 : decode cX2_draw 29 = .ok (.iload_n 2, 1) := by decide +kernel
theorem dX2_draw_30 : decode cX2_draw 30 = .ok (.aload_n 0, 1) := by decide +kernel
theorem dX2_draw_31 : decode cX2_draw 31 = .ok (.getfield 18, 3) := by decide +kernel
theorem dX2_draw_34 : decode cX2_draw 34 = .ok (.getfield 33, 3) := by decide +kernel
theorem dX2_draw_37 : decode cX2_draw 37 = .ok (.getfield 37, 3) := by decide +kernel
theorem dX2_draw_40 : decode cX2_draw 40 = .ok (.if_icmp .ge 26, 3) := by decide +kernel
theorem dX2_draw_43 : decode cX2_draw 43 = .ok (.aload_n 0, 1) := by decide +kernel
theorem dX2_draw_44 : decode cX2_draw 44 = .ok (.getfield 18, 3) := by decide +kernel
theorem dX2_draw_47 : decode cX2_draw 47 = .ok (.iload_n 2, 1) := by decide +kernel
theorem dX2_draw_48 : decode cX2_draw 48 = .ok (.iload_n 1, 1) := by decide +kernel
theorem dX2_draw_49 : decode cX2_draw 49 = .ok (.invokevirtual 43, 3) := by decide +kernel
theorem dX2_draw_52 : decode cX2_draw 52 = .ok (.ifCond .eq 8, 3) := by decide +kernel
theorem dX2_draw_55 : decode cX2_draw 55 = .ok (.aload_n 0, 1) := by decide +kernel
theorem dX2_draw_56 : decode cX2_draw 56 = .ok (.iload_n 2, 1) := by decide +kernel
theorem dX2_draw_57 : decode cX2_draw 57 = .ok (.invokevirtual 47, 3) := by decide +kernel
theorem dX2_draw_60 : decode cX2_draw 60 = .ok (.iinc 2 1, 3) := by decide +kernel
theorem dX2_draw_63 : decode cX2_draw 63 = .ok (.goto (-34), 3) := by decide +kernel
theorem dX2_draw_66 : decode cX2_draw 66 = .ok (.iconst 0, 1) := by decide +kernel
theorem dX2_draw_67 : decode cX2_draw 67 = .ok (.istore_n 2, 1) := by decide +kernel
theorem dX2_draw_68 : decode cX2_draw 68 = .ok (.iload_n 2, 1) := by decide +kernel
theorem dX2_draw_69 : decode cX2_draw 69 = .ok (.sipush 256, 3) := by decide +kernel
theorem dX2_draw_72 : decode cX2_draw 72 = .ok (.if_icmp .ge 33, 3) := by decide +kernel
theorem dX2_draw_75 : decode cX2_draw 75 = .ok (.aload_n 0, 1) := by decide +kernel
theorem dX2_draw_76 : decode cX2_draw 76 = .ok (.getfield 15, 3) := by decide +kernel
theorem dX2_draw_79 : decode cX2_draw 79 = .ok (.iload_n 2, 1) := by decide +kernel
theorem dX2_draw_80 : decode cX2_draw 80 = .ok (.iaload, 1) := by decide +kernel
theorem dX2_draw_81 : decode cX2_draw 81 = .ok (.sipush (-30000), 3) := by decide +kernel
theorem dX2_draw_84 : decode cX2_draw 84 = .ok (.if_icmp .ne 15, 3) := by decide +kernel
theorem dX2_draw_87 : decode cX2_draw 87 = .ok (.aload_n 0, 1) := by decide +kernel
theorem dX2_draw_88 : decode cX2_draw 88 = .ok (.getfield 15, 3) := by decide +kernel
theorem dX2_draw_91 : decode cX2_draw 91 = .ok (.iload_n 2, 1) := by decide +kernel
theorem dX2_draw_92 : decode cX2_draw 92 = .ok (.aload_n 0, 1) := by decide +kernel
theorem dX2_draw_93 : decode cX2_draw 93 = .ok (.getfield 9, 3) := by decide +kernel
theorem dX2_draw_96 : decode cX2_draw 96 = .ok (.iload_n 2, 1) := by decide +kernel
theorem dX2_draw_97 : decode cX2_draw 97 = .ok (.iaload, 1) := by decide +kernel
theorem dX2_draw_98 : decode cX2_draw 98 = .ok (.iastore, 1) := by decide +kernel
theorem dX2_draw_99 : decode cX2_draw 99 = .ok (.iinc 2 1, 3) := by decide +kernel
theorem dX2_draw_102 : decode cX2_draw 102 = .ok (.goto (-34), 3) := by decide +kernel
theorem dX2_draw_105 : decode cX2_draw 105 = .ok (.return_, 1) := by decide +kernel
theorem dX2_leastDepth_0 : decode cX2_leastDepth 0 = .ok (.sipush (-30000), 3) := by decide +kernel
theorem dX2_leastDepth_3 : decode cX2_leastDepth 3 = .ok (.istore_n 1, 1) := by decide +kernel
theorem dX2_leastDepth_4 : decode cX2_leastDepth 4 = .ok (.iconst 0, 1) := by decide +kernel
theorem dX2_leastDepth_5 : decode cX2_leastDepth 5 = .ok (.istore_n 2, 1) := by decide +kernel
theorem dX2_leastDepth_6 : decode cX2_leastDepth 6 = .ok (.iload_n 2, 1) := by decide +kernel
theorem dX2_leastDepth_7 : decode cX2_leastDepth 7 = .ok (.sipush 256, 3) := by decide +kernel
theorem dX2_leastDepth_10 : decode cX2_leastDepth 10 = .ok (.if_icmp .ge 37, 3) := by decide +kernel
theorem dX2_leastDepth_13 : decode cX2_leastDepth 13 = .ok (.aload_n 0, 1) := by decide +kernel
theorem dX2_leastDepth_14 : decode cX2_leastDepth 14 = .ok (.getfield 15, 3) := by decide +kernel
theorem dX2_leastDepth_17 : decode cX2_leastDepth 17 = .ok (.iload_n 2, 1) := by decide +kernel
theorem dX2_leastDepth_18 : decode cX2_leastDepth 18 = .ok (.iaload, 1) := by decide +kernel
theorem dX2_leastDepth_19 : decode cX2_leastDepth 19 = .ok (.istore_n 3, 1) := by decide +kernel
theorem dX2_leastDepth_20 : decode cX2_leastDepth 20 = .ok (.iload_n 3, 1) := by decide +kernel
theorem dX2_leastDepth_21 : decode cX2_leastDepth 21 = .ok (.sipush (-30000), 3) := by decide +kernel
theorem dX2_leastDepth_24 : decode cX2_leastDepth 24 = .ok (.if_icmp .eq 17, 3) := by decide +kernel
theorem dX2_leastDepth_27 : decode cX2_leastDepth 27 = .ok (.iload_n 1, 1) := by decide +kernel
theorem dX2_leastDepth_28 : decode cX2_leastDepth 28 = .ok (.sipush (-30000), 3) := by decide +kernel
theorem dX2_leastDepth_31 : decode cX2_leastDepth 31 = .ok (.if_icmp .eq 8, 3) := by decide +kernel
theorem dX2_leastDepth_34 : decode cX2_leastDepth 34 = .ok (.iload_n 3, 1) := by decide +kernel
theorem dX2_leastDepth_35 : decode cX2_leastDepth 35 = .ok (.iload_n 1, 1) := by decide +kernel
theorem dX2_leastDepth_36 : decode cX2_leastDepth 36 = .ok (.if_icmp .ge 5, 3) := by decide +kernel
theorem dX2_leastDepth_39 : decode cX2_leastDepth 39 = .ok (.iload_n 3, 1) := by decide +kernel
theorem dX2_leastDepth_40 : decode cX2_leastDepth 40 = .ok (.istore_n 1, 1) := by decide +kernel
theorem dX2_leastDepth_41 : decode cX2_leastDepth 41 = .ok (.iinc 2 1, 3) := by decide +kernel
theorem dX2_leastDepth_44 : decode cX2_leastDepth 44 = .ok (.goto (-38), 3) := by decide +kernel
theorem dX2_leastDepth_47 : decode cX2_leastDepth 47 = .ok (.iload_n 1, 1) := by decide +kernel
theorem dX2_leastDepth_48 : decode cX2_leastDepth 48 = .ok (.ireturn, 1) := by decide +kernel
theorem dX2_enter_0 : decode cX2_enter 0 = .ok (.aload_n 0, 1) := by decide +kernel
theorem dX2_enter_1 : decode cX2_enter 1 = .ok (.getfield 18, 3) := by decide +kernel
theorem dX2_enter_4 : decode cX2_enter 4 = .ok (.getfield 33, 3) := by decide +kernel
theorem dX2_enter_7 : decode cX2_enter 7 = .ok (.getfield 51, 3) := by decide +kernel
theorem dX2_enter_10 : decode cX2_enter 10 = .ok (.iload_n 1, 1) := by decide +kernel
theorem dX2_enter_11 : decode cX2_enter 11 = .ok (.iaload, 1) := by decide +kernel
theorem dX2_enter_12 : decode cX2_enter 12 = .ok (.iconst 2, 1) := by decide +kernel
theorem dX2_enter_13 : decode cX2_enter 13 = .ok (.if_icmp .ne 9, 3) := by decide +kernel
theorem dX2_enter_16 : decode cX2_enter 16 = .ok (.aload_n 0, 1) := by decide +kernel
theorem dX2_enter_17 : decode cX2_enter 17 = .ok (.iload_n 1, 1) := by decide +kernel
theorem dX2_enter_18 : decode cX2_enter 18 = .ok (.invokevirtual 54, 3) := by decide +kernel
theorem dX2_enter_21 : decode cX2_enter 21 = .ok (.return_, 1) := by decide +kernel
theorem dX2_enter_22 : decode cX2_enter 22 = .ok (.aload_n 0, 1) := by decide +kernel
theorem dX2_enter_23 : decode cX2_enter 23 = .ok (.getfield 18, 3) := by decide +kernel
theorem dX2_enter_26 : decode cX2_enter 26 = .ok (.getfield 33, 3) := by decide +kernel
theorem dX2_enter_29 : decode cX2_enter 29 = .ok (.iload_n 1, 1) := by decide +kernel
theorem dX2_enter_30 : decode cX2_enter 30 = .ok (.invokevirtual 57, 3) := by decide +kernel
theorem dX2_enter_33 : decode cX2_enter 33 = .ok (.istore_n 2, 1) := by decide +kernel
theorem dX2_enter_34 : decode cX2_enter 34 = .ok (.aload_n 0, 1) := by decide +kernel
theorem dX2_enter_35 : decode cX2_enter 35 = .ok (.getfield 15, 3) := by decide +kernel
theorem dX2_enter_38 : decode cX2_enter 38 = .ok (.iload_n 2, 1) := by decide +kernel
theorem dX2_enter_39 : decode cX2_enter 39 = .ok (.iaload, 1) := by decide +kernel
theorem dX2_enter_40 : decode cX2_enter 40 = .ok (.sipush (-30000), 3) := by decide +kernel
theorem dX2_enter_43 : decode cX2_enter 43 = .ok (.if_icmp .eq 21, 3) := by decide +kernel
theorem dX2_enter_46 : decode cX2_enter 46 = .ok (.aload_n 0, 1) := by decide +kernel
theorem dX2_enter_47 : decode cX2_enter 47 = .ok (.getfield 18, 3) := by decide +kernel
theorem dX2_enter_50 : decode cX2_enter 50 = .ok (.getfield 61, 3) := by decide +kernel
theorem dX2_enter_53 : decode cX2_enter 53 = .ok (.iload_n 1, 1) := by decide +kernel
theorem dX2_enter_54 : decode cX2_enter 54 = .ok (.iaload, 1) := by decide +kernel
theorem dX2_enter_55 : decode cX2_enter 55 = .ok (.aload_n 0, 1) := by decide +kernel
theorem dX2_enter_56 : decode cX2_enter 56 = .ok (.getfield 15, 3) := by decide +kernel
theorem dX2_enter_59 : decode cX2_enter 59 = .ok (.iload_n 2, 1) := by decide +kernel
theorem dX2_enter_60 : decode cX2_enter 60 = .ok (.iaload, 1) := by decide +kernel
theorem dX2_enter_61 : decode cX2_enter 61 = .ok (.if_icmp .ge 18, 3) := by decide +kernel
theorem dX2_enter_64 : decode cX2_enter 64 = .ok (.aload_n 0, 1) := by decide +kernel
theorem dX2_enter_65 : decode cX2_enter 65 = .ok (.getfield 15, 3) := by decide +kernel
theorem dX2_enter_68 : decode cX2_enter 68 = .ok (.iload_n 2, 1) := by decide +kernel
theorem dX2_enter_69 : decode cX2_enter 69 = .ok (.aload_n 0, 1) := by decide +kernel
theorem dX2_enter_70 : decode cX2_enter 70 = .ok (.getfield 18, 3) := by decide +kernel
theorem dX2_enter_73 : decode cX2_enter 73 = .ok (.getfield 61, 3) := by decide +kernel
theorem dX2_enter_76 : decode cX2_enter 76 = .ok (.iload_n 1, 1) := by decide +kernel
theorem dX2_enter_77 : decode cX2_enter 77 = .ok (.iaload, 1) := by decide +kernel
theorem dX2_enter_78 : decode cX2_enter 78 = .ok (.iastore, 1) := by decide +kernel
theorem dX2_enter_79 : decode cX2_enter 79 = .ok (.return_, 1) := by decide +kernel
theorem dX2_enterSpan_0 : decode cX2_enterSpan 0 = .ok (.aload_n 0, 1) := by decide +kernel
theorem dX2_enterSpan_1 : decode cX2_enterSpan 1 = .ok (.getfield 18, 3) := by decide +kernel
theorem dX2_enterSpan_4 : decode cX2_enterSpan 4 = .ok (.getfield 33, 3) := by decide +kernel
theorem dX2_enterSpan_7 : decode cX2_enterSpan 7 = .ok (.astore_n 2, 1) := by decide +kernel
theorem dX2_enterSpan_8 : decode cX2_enterSpan 8 = .ok (.aload_n 2, 1) := by decide +kernel
theorem dX2_enterSpan_9 : decode cX2_enterSpan 9 = .ok (.getfield 62, 3) := by decide +kernel
theorem dX2_enterSpan_12 : decode cX2_enterSpan 12 = .ok (.iload_n 1, 1) := by decide +kernel
theorem dX2_enterSpan_13 : decode cX2_enterSpan 13 = .ok (.iaload, 1) := by decide +kernel
theorem dX2_enterSpan_14 : decode cX2_enterSpan 14 = .ok (.bipush 16, 2) := by decide +kernel
theorem dX2_enterSpan_16 : decode cX2_enterSpan 16 = .ok (.iadd, 1) := by decide +kernel
theorem dX2_enterSpan_17 : decode cX2_enterSpan 17 = .ok (.iconst 1, 1) := by decide +kernel
theorem dX2_enterSpan_18 : decode cX2_enterSpan 18 = .ok (.isub, 1) := by decide +kernel
theorem dX2_enterSpan_19 : decode cX2_enterSpan 19 = .ok (.bipush 16, 2) := by decide +kernel
theorem dX2_enterSpan_21 : decode cX2_enterSpan 21 = .ok (.idiv, 1) := by decide +kernel
theorem dX2_enterSpan_22 : decode cX2_enterSpan 22 = .ok (.istore_n 3, 1) := by decide +kernel
theorem dX2_enterSpan_23 : decode cX2_enterSpan 23 = .ok (.aload_n 2, 1) := by decide +kernel
theorem dX2_enterSpan_24 : decode cX2_enterSpan 24 = .ok (.getfield 62, 3) := by decide +kernel
theorem dX2_enterSpan_27 : decode cX2_enterSpan 27 = .ok (.iload_n 1, 1) := by decide +kernel
theorem dX2_enterSpan_28 : decode cX2_enterSpan 28 = .ok (.iaload, 1) := by decide +kernel
theorem dX2_enterSpan_29 : decode cX2_enterSpan 29 = .ok (.aload_n 2, 1) := by decide +kernel
theorem dX2_enterSpan_30 : decode cX2_enterSpan 30 = .ok (.getfield 65, 3) := by decide +kernel
theorem dX2_enterSpan_33 : decode cX2_enterSpan 33 = .ok (.iload_n 1, 1) := by decide +kernel
theorem dX2_enterSpan_34 : decode cX2_enterSpan 34 = .ok (.iaload, 1) := by decide +kernel
theorem dX2_enterSpan_35 : decode cX2_enterSpan 35 = .ok (.iadd, 1) := by decide +kernel
theorem dX2_enterSpan_36 : decode cX2_enterSpan 36 = .ok (.bipush 16, 2) := by decide +kernel
theorem dX2_enterSpan_38 : decode cX2_enterSpan 38 = .ok (.idiv, 1) := by decide +kernel
theorem dX2_enterSpan_39 : decode cX2_enterSpan 39 = .ok (.istore 4, 2) := by decide +kernel
theorem dX2_enterSpan_41 : decode cX2_enterSpan 41 = .ok (.aload_n 2, 1) := by decide +kernel
theorem dX2_enterSpan_42 : decode cX2_enterSpan 42 = .ok (.getfield 68, 3) := by decide +kernel
theorem dX2_enterSpan_45 : decode cX2_enterSpan 45 = .ok (.iload_n 1, 1) := by decide +kernel
theorem dX2_enterSpan_46 : decode cX2_enterSpan 46 = .ok (.iaload, 1) := by decide +kernel
theorem dX2_enterSpan_47 : decode cX2_enterSpan 47 = .ok (.bipush 16, 2) := by decide +kernel
theorem dX2_enterSpan_49 : decode cX2_enterSpan 49 = .ok (.iadd, 1) := by decide +kernel
theorem dX2_enterSpan_50 : decode cX2_enterSpan 50 = .ok (.iconst 1, 1) := by decide +kernel
theorem dX2_enterSpan_51 : decode cX2_enterSpan 51 = .ok (.isub, 1) := by decide +kernel
theorem dX2_enterSpan_52 : decode cX2_enterSpan 52 = .ok (.bipush 16, 2) := by decide +kernel
theorem dX2_enterSpan_54 : decode cX2_enterSpan 54 = .ok (.idiv, 1) := by decide +kernel
theorem dX2_enterSpan_55 : decode cX2_enterSpan 55 = .ok (.istore 5, 2) := by decide +kernel
theorem dX2_enterSpan_57 : decode cX2_enterSpan 57 = .ok (.aload_n 2, 1) := by decide +kernel
theorem dX2_enterSpan_58 : decode cX2_enterSpan 58 = .ok (.getfield 68, 3) := by decide +kernel
theorem dX2_enterSpan_61 : decode cX2_enterSpan 61 = .ok (.iload_n 1, 1) := by decide +kernel
theorem dX2_enterSpan_62 : decode cX2_enterSpan 62 = .ok (.iaload, 1) := by decide +kernel
theorem dX2_enterSpan_63 : decode cX2_enterSpan 63 = .ok (.aload_n 2, 1) := by decide +kernel
theorem dX2_enterSpan_64 : decode cX2_enterSpan 64 = .ok (.getfield 71, 3) := by decide +kernel
theorem dX2_enterSpan_67 : decode cX2_enterSpan 67 = .ok (.iload_n 1, 1) := by decide +kernel
theorem dX2_enterSpan_68 : decode cX2_enterSpan 68 = .ok (.iaload, 1) := by decide +kernel
theorem dX2_enterSpan_69 : decode cX2_enterSpan 69 = .ok (.iadd, 1) := by decide +kernel
theorem dX2_enterSpan_70 : decode cX2_enterSpan 70 = .ok (.bipush 16, 2) := by decide +kernel
theorem dX2_enterSpan_72 : decode cX2_enterSpan 72 = .ok (.idiv, 1) := by decide +kernel
theorem dX2_enterSpan_73 : decode cX2_enterSpan 73 = .ok (.istore 6, 2) := by decide +kernel
theorem dX2_enterSpan_75 : decode cX2_enterSpan 75 = .ok (.iload 5, 2) := by decide +kernel
theorem dX2_enterSpan_77 : decode cX2_enterSpan 77 = .ok (.istore 7, 2) := by decide +kernel
theorem dX2_enterSpan_79 : decode cX2_enterSpan 79 = .ok (.iload 7, 2) := by decide +kernel
theorem dX2_enterSpan_81 : decode cX2_enterSpan 81 = .ok (.iload 6, 2) := by decide +kernel
theorem dX2_enterSpan_83 : decode cX2_enterSpan 83 = .ok (.if_icmp .ge 61, 3) := by decide +kernel
theorem dX2_enterSpan_86 : decode cX2_enterSpan 86 = .ok (.iload_n 3, 1) := by decide +kernel
theorem dX2_enterSpan_87 : decode cX2_enterSpan 87 = .ok (.istore 8, 2) := by decide +kernel
theorem dX2_enterSpan_89 : decode cX2_enterSpan 89 = .ok (.iload 8, 2) := by decide +kernel
theorem dX2_enterSpan_91 : decode cX2_enterSpan 91 = .ok (.iload 4, 2) := by decide +kernel
theorem dX2_enterSpan_93 : decode cX2_enterSpan 93 = .ok (.if_icmp .ge 45, 3) := by decide +kernel
theorem dX2_enterSpan_96 : decode cX2_enterSpan 96 = .ok (.bipush 16, 2) := by decide +kernel
theorem dX2_enterSpan_98 : decode cX2_enterSpan 98 = .ok (.iload 7, 2) := by decide +kernel
theorem dX2_enterSpan_100 : decode cX2_enterSpan 100 = .ok (.imul, 1) := by decide +kernel
theorem dX2_enterSpan_101 : decode cX2_enterSpan 101 = .ok (.iload 8, 2) := by decide +kernel
theorem dX2_enterSpan_103 : decode cX2_enterSpan 103 = .ok (.iadd, 1) := by decide +kernel
theorem dX2_enterSpan_104 : decode cX2_enterSpan 104 = .ok (.istore 9, 2) := by decide +kernel
theorem dX2_enterSpan_106 : decode cX2_enterSpan 106 = .ok (.aload_n 0, 1) := by decide +kernel
theorem dX2_enterSpan_107 : decode cX2_enterSpan 107 = .ok (.getfield 9, 3) := by decide +kernel
theorem dX2_enterSpan_110 : decode cX2_enterSpan 110 = .ok (.iload 9, 2) := by decide +kernel
theorem dX2_enterSpan_112 : decode cX2_enterSpan 112 = .ok (.aload_n 0, 1) := by decide +kernel
theorem dX2_enterSpan_113 : decode cX2_enterSpan 113 = .ok (.getfield 9, 3) := by decide +kernel
theorem dX2_enterSpan_116 : decode cX2_enterSpan 116 = .ok (.iload 9, 2) := by decide +kernel
theorem dX2_enterSpan_118 : decode cX2_enterSpan 118 = .ok (.iaload, 1) := by decide +kernel
theorem dX2_enterSpan_119 : decode cX2_enterSpan 119 = .ok (.aload_n 0, 1) := by decide +kernel
theorem dX2_enterSpan_120 : decode cX2_enterSpan 120 = .ok (.getfield 18, 3) := by decide +kernel
theorem dX2_enterSpan_123 : decode cX2_enterSpan 123 = .ok (.getfield 61, 3) := by decide +kernel
theorem dX2_enterSpan_126 : decode cX2_enterSpan 126 = .ok (.iload_n 1, 1) := by decide +kernel
theorem dX2_enterSpan_127 : decode cX2_enterSpan 127 = .ok (.iaload, 1) := by decide +kernel
theorem dX2_enterSpan_128 : decode cX2_enterSpan 128 = .ok (.invokestatic 74, 3) := by decide +kernel
theorem dX2_enterSpan_131 : decode cX2_enterSpan 131 = .ok (.iastore, 1) := by decide +kernel
theorem dX2_enterSpan_132 : decode cX2_enterSpan 132 = .ok (.iinc 8 1, 3) := by decide +kernel
theorem dX2_enterSpan_135 : decode cX2_enterSpan 135 = .ok (.goto (-46), 3) := by decide +kernel
theorem dX2_enterSpan_138 : decode cX2_enterSpan 138 = .ok (.iinc 7 1, 3) := by decide +kernel
theorem dX2_enterSpan_141 : decode cX2_enterSpan 141 = .ok (.goto (-62), 3) := by decide +kernel
theorem dX2_enterSpan_144 : decode cX2_enterSpan 144 = .ok (.return_, 1) := by decide +kernel
theorem dX3_init_0 : decode cX3_init 0 = .ok (.aload_n 0, 1) := by decide +kernel
theorem dX3_init_1 : decode cX3_init 1 = .ok (.invokespecial 3, 3) := by decide +kernel
theorem dX3_init_4 : decode cX3_init 4 = .ok (.aload_n 0, 1) := by decide +kernel
theorem dX3_init_5 : decode cX3_init 5 = .ok (.sipush 200, 3) := by decide +kernel
theorem dX3_init_8 : decode cX3_init 8 = .ok (.newarray .int, 2) := by decide +kernel
theorem dX3_init_10 : decode cX3_init 10 = .ok (.putfield 9, 3) := by decide +kernel
theorem dX3_init_13 : decode cX3_init 13 = .ok (.aload_n 0, 1) := by decide +kernel
theorem dX3_init_14 : decode cX3_init 14 = .ok (.bipush 21, 2) := by decide +kernel
theorem dX3_init_16 : decode cX3_init 16 = .ok (.newarray .int, 2) := by decide +kernel
theorem dX3_init_18 : decode cX3_init 18 = .ok (.putfield 15, 3) := by decide +kernel
theorem dX3_init_21 : decode cX3_init 21 = .ok (.aload_n 0, 1) := by decide +kernel
theorem dX3_init_22 : decode cX3_init 22 = .ok (.bipush 20, 2) := by decide +kernel
theorem dX3_init_24 : decode cX3_init 24 = .ok (.newarray .int, 2) := by decide +kernel
theorem dX3_init_26 : decode cX3_init 26 = .ok (.putfield 18, 3) := by decide +kernel
theorem dX3_init_29 : decode cX3_init 29 = .ok (.aload_n 0, 1) := by decide +kernel
theorem dX3_init_30 : decode cX3_init 30 = .ok (.iconst (-1), 1) := by decide +kernel
theorem dX3_init_31 : decode cX3_init 31 = .ok (.putfield 21, 3) := by decide +kernel
theorem dX3_init_34 : decode cX3_init 34 = .ok (.aload_n 0, 1) := by decide +kernel
theorem dX3_init_35 : decode cX3_init 35 = .ok (.iconst (-1), 1) := by decide +kernel
theorem dX3_init_36 : decode cX3_init 36 = .ok (.putfield 25, 3) := by decide +kernel
theorem dX3_init_39 : decode cX3_init 39 = .ok (.aload_n 0, 1) := by decide +kernel
theorem dX3_init_40 : decode cX3_init 40 = .ok (.iconst 0, 1) := by decide +kernel
theorem dX3_init_41 : decode cX3_init 41 = .ok (.putfield 28, 3) := by decide +kernel
theorem dX3_init_44 : decode cX3_init 44 = .ok (.aload_n 0, 1) := by decide +kernel
theorem dX3_init_45 : decode cX3_init 45 = .ok (.aload_n 1, 1) := by decide +kernel
theorem dX3_init_46 : decode cX3_init 46 = .ok (.putfield 31, 3) := by decide +kernel
theorem dX3_init_49 : decode cX3_init 49 = .ok (.return_, 1) := by decide +kernel
theorem dX3_gather_0 : decode cX3_gather 0 = .ok (.aload_n 0, 1) := by decide +kernel
theorem dX3_gather_1 : decode cX3_gather 1 = .ok (.getfield 31, 3) := by decide +kernel
theorem dX3_gather_4 : decode cX3_gather 4 = .ok (.invokevirtual 35, 3) := by decide +kernel
theorem dX3_gather_7 : decode cX3_gather 7 = .ok (.iconst 0, 1) := by decide +kernel
theorem dX3_gather_8 : decode cX3_gather 8 = .ok (.istore_n 1, 1) := by decide +kernel
theorem dX3_gather_9 : decode cX3_gather 9 = .ok (.iconst 0, 1) := by decide +kernel
theorem dX3_gather_10 : decode cX3_gather 10 = .ok (.istore_n 2, 1) := by decide +kernel
theorem dX3_gather_11 : decode cX3_gather 11 = .ok (.iload_n 2, 1) := by decide +kernel
theorem dX3_gather_12 : decode cX3_gather 12 = .ok (.bipush 20, 2) := by decide +kernel
theorem dX3_gather_14 : decode cX3_gather 14 = .ok (.if_icmp .ge 72, 3) := by decide +kernel
theorem dX3_gather_17 : decode cX3_gather 17 = .ok (.aload_n 0, 1) := by decide +kernel
theorem dX3_gather_18 : decode cX3_gather 18 = .ok (.getfield 15, 3) := by decide +kernel
theorem dX3_gather_21 : decode cX3_gather 21 = .ok (.iload_n 2, 1) := by decide +kernel
theorem dX3_gather_22 : decode cX3_gather 22 = .ok (.iload_n 1, 1) := by decide +kernel
theorem dX3_gather_23 : decode cX3_gather 23 = .ok (.iastore, 1) := by decide +kernel
theorem dX3_gather_24 : decode cX3_gather 24 = .ok (.iconst 0, 1) := by decide +kernel
theorem dX3_gather_25 : decode cX3_gather 25 = .ok (.istore_n 3, 1) := by decide +kernel
theorem dX3_gather_26 : decode cX3_gather 26 = .ok (.iload_n 3, 1) := by decide +kernel
theorem dX3_gather_27 : decode cX3_gather 27 = .ok (.aload_n 0, 1) := by decide +kernel
theorem dX3_gather_28 : decode cX3_gather 28 = .ok (.getfield 31, 3) := by decide +kernel
theorem dX3_gather_31 : decode cX3_gather 31 = .ok (.getfield 40, 3) := by decide +kernel
theorem dX3_gather_34 : decode cX3_gather 34 = .ok (.getfield 44, 3) := by decide +kernel
theorem dX3_gather_37 : decode cX3_gather 37 = .ok (.if_icmp .ge 43, 3) := by decide +kernel
theorem dX3_gather_40 : decode cX3_gather 40 = .ok (.aload_n 0, 1) := by decide +kernel
theorem dX3_gather_41 : decode cX3_gather 41 = .ok (.getfield 31, 3) := by decide +kernel
theorem dX3_gather_44 : decode cX3_gather 44 = .ok (.getfield 40, 3) := by decide +kernel
theorem dX3_gather_47 : decode cX3_gather 47 = .ok (.getfield 49, 3) := by decide +kernel
theorem dX3_gather_50 : decode cX3_gather 50 = .ok (.iload_n 3, 1) := by decide +kernel
theorem dX3_gather_51 : decode cX3_gather 51 = .ok (.iaload, 1) := by decide +kernel
theorem dX3_gather_52 : decode cX3_gather 52 = .ok (.iload_n 2, 1) := by decide +kernel
theorem dX3_gather_53 : decode cX3_gather 53 = .ok (.if_icmp .ne 21, 3) := by decide +kernel
theorem dX3_gather_56 : decode cX3_gather 56 = .ok (.aload_n 0, 1) := by decide +kernel
theorem dX3_gather_57 : decode cX3_gather 57 = .ok (.iload_n 3, 1) := by decide +kernel
theorem dX3_gather_58 : decode cX3_gather 58 = .ok (.invokevirtual 52, 3) := by decide +kernel
theorem dX3_gather_61 : decode cX3_gather 61 = .ok (.ifCond .eq 13, 3) := by decide +kernel
theorem dX3_gather_64 : decode cX3_gather 64 = .ok (.aload_n 0, 1) := by decide +kernel
theorem dX3_gather_65 : decode cX3_gather 65 = .ok (.getfield 9, 3) := by decide +kernel
theorem dX3_gather_68 : decode cX3_gather 68 = .ok (.iload_n 1, 1) := by decide +kernel
theorem dX3_gather_69 : decode cX3_gather 69 = .ok (.iload_n 3, 1) := by decide +kernel
theorem dX3_gather_70 : decode cX3_gather 70 = .ok (.iastore, 1) := by decide +kernel
theorem dX3_gather_71 : decode cX3_gather 71 = .ok (.iinc 1 1, 3) := by decide +kernel
theorem dX3_gather_74 : decode cX3_gather 74 = .ok (.iinc 3 1, 3) := by decide +kernel
theorem dX3_gather_77 : decode cX3_gather 77 = .ok (.goto (-51), 3) := by decide +kernel
theorem dX3_gather_80 : decode cX3_gather 80 = .ok (.iinc 2 1, 3) := by decide +kernel
theorem dX3_gather_83 : decode cX3_gather 83 = .ok (.goto (-72), 3) := by decide +kernel
theorem dX3_gather_86 : decode cX3_gather 86 = .ok (.aload_n 0, 1) := by decide +kernel
theorem dX3_gather_87 : decode cX3_gather 87 = .ok (.getfield 15, 3) := by decide +kernel
theorem dX3_gather_90 : decode cX3_gather 90 = .ok (.bipush 20, 2) := by decide +kernel
theorem dX3_gather_92 : decode cX3_gather 92 = .ok (.iload_n 1, 1) := by decide +kernel
theorem dX3_gather_93 : decode cX3_gather 93 = .ok (.iastore, 1) := by decide +kernel
theorem dX3_gather_94 : decode cX3_gather 94 = .ok (.return_, 1) := by decide +kernel
theorem dX3_canCross_0 : decode cX3_canCross 0 = .ok (.aload_n 0, 1) := by decide +kernel
theorem dX3_canCross_1 : decode cX3_canCross 1 = .ok (.getfield 31, 3) := by decide +kernel
theorem dX3_canCross_4 : decode cX3_canCross 4 = .ok (.getfield 40, 3) := by decide +kernel
theorem dX3_canCross_7 : decode cX3_canCross 7 = .ok (.getfield 56, 3) := by decide +kernel
theorem dX3_canCross_10 : decode cX3_canCross 10 = .ok (.iload_n 1, 1) := by decide +kernel
theorem dX3_canCross_11 : decode cX3_canCross 11 = .ok (.iaload, 1) := by decide +kernel
theorem dX3_canCross_12 : decode cX3_canCross 12 = .ok (.iconst 2, 1) := by decide +kernel
theorem dX3_canCross_13 : decode cX3_canCross 13 = .ok (.if_icmp .eq 22, 3) := by decide +kernel
theorem dX3_canCross_16 : decode cX3_canCross 16 = .ok (.aload_n 0, 1) := by decide +kernel
theorem dX3_canCross_17 : decode cX3_canCross 17 = .ok (.getfield 31, 3) := by decide +kernel
theorem dX3_canCross_20 : decode cX3_canCross 20 = .ok (.getfield 59, 3) := by decide +kernel
theorem dX3_canCross_23 : decode cX3_canCross 23 = .ok (.iload_n 1, 1) := by decide +kernel
theorem dX3_canCross_24 : decode cX3_canCross 24 = .ok (.iaload, 1) := by decide +kernel
theorem dX3_canCross_25 : decode cX3_canCross 25 = .ok (.sipush (-30000), 3) := by decide +kernel
theorem dX3_canCross_28 : decode cX3_canCross 28 = .ok (.if_icmp .eq 7, 3) := by decide +kernel
theorem dX3_canCross_31 : decode cX3_canCross 31 = .ok (.iconst 1, 1) := by decide +kernel
theorem dX3_canCross_32 : decode cX3_canCross 32 = .ok (.goto 4, 3) := by decide +kernel
theorem dX3_canCross_35 : decode cX3_canCross 35 = .ok (.iconst 0, 1) := by decide +kernel
theorem dX3_canCross_36 : decode cX3_canCross 36 = .ok (.ireturn, 1) := by decide +kernel
theorem dX3_find_0 : decode cX3_find 0 = .ok (.aload_n 0, 1) := by decide +kernel
theorem dX3_find_1 : decode cX3_find 1 = .ok (.iconst (-1), 1) := by decide +kernel
theorem dX3_find_2 : decode cX3_find 2 = .ok (.putfield 21, 3) := by decide +kernel
theorem dX3_find_5 : decode cX3_find 5 = .ok (.aload_n 0, 1) := by decide +kernel
theorem dX3_find_6 : decode cX3_find 6 = .ok (.iconst (-1), 1) := by decide +kernel
theorem dX3_find_7 : decode cX3_find 7 = .ok (.putfield 25, 3) := by decide +kernel
theorem dX3_find_10 : decode cX3_find 10 = .ok (.aload_n 0, 1) := by decide +kernel
theorem dX3_find_11 : decode cX3_find 11 = .ok (.iload_n 3, 1) := by decide +kernel
theorem dX3_find_12 : decode cX3_find 12 = .ok (.iload_n 3, 1) := by decide +kernel
theorem dX3_find_13 : decode cX3_find 13 = .ok (.imul, 1) := by decide +kernel
theorem dX3_find_14 : decode cX3_find 14 = .ok (.iconst 1, 1) := by decide +kernel
theorem dX3_find_15 : decode cX3_find 15 = .ok (.iadd, 1) := by decide +kernel
theorem dX3_find_16 : decode cX3_find 16 = .ok (.putfield 28, 3) := by decide +kernel
theorem dX3_find_19 : decode cX3_find 19 = .ok (.aload_n 0, 1) := by decide +kernel
theorem dX3_find_20 : decode cX3_find 20 = .ok (.getfield 15, 3) := by decide +kernel
theorem dX3_find_23 : decode cX3_find 23 = .ok (.iload_n 1, 1) := by decide +kernel
theorem dX3_find_24 : decode cX3_find 24 = .ok (.iaload, 1) := by decide +kernel
theorem dX3_find_25 : decode cX3_find 25 = .ok (.istore 4, 2) := by decide +kernel
theorem dX3_find_27 : decode cX3_find 27 = .ok (.iload 4, 2) := by decide +kernel
theorem dX3_find_29 : decode cX3_find 29 = .ok (.aload_n 0, 1) := by decide +kernel
theorem dX3_find_30 : decode cX3_find 30 = .ok (.getfield 15, 3) := by decide +kernel
theorem dX3_find_33 : decode cX3_find 33 = .ok (.iload_n 1, 1) := by decide +kernel
theorem dX3_find_34 : decode cX3_find 34 = .ok (.iconst 1, 1) := by decide +kernel
theorem dX3_find_35 : decode cX3_find 35 = .ok (.iadd, 1) := by decide +kernel
theorem dX3_find_36 : decode cX3_find 36 = .ok (.iaload, 1) := by decide +kernel
theorem dX3_find_37 : decode cX3_find 37 = .ok (.if_icmp .ge 99, 3) := by decide +kernel
theorem dX3_find_40 : decode cX3_find 40 = .ok (.aload_n 0, 1) := by decide +kernel
theorem dX3_find_41 : decode cX3_find 41 = .ok (.getfield 15, 3) := by decide +kernel
theorem dX3_find_44 : decode cX3_find 44 = .ok (.iload_n 2, 1) := by decide +kernel
theorem dX3_find_45 : decode cX3_find 45 = .ok (.iaload, 1) := by decide +kernel
theorem dX3_find_46 : decode cX3_find 46 = .ok (.istore 5, 2) := by decide +kernel
theorem dX3_find_48 : decode cX3_find 48 = .ok (.iload 5, 2) := by decide +kernel
theorem dX3_find_50 : decode cX3_find 50 = .ok (.aload_n 0, 1) := by decide +kernel
theorem dX3_find_51 : decode cX3_find 51 = .ok (.getfield 15, 3) := by decide +kernel
theorem dX3_find_54 : decode cX3_find 54 = .ok (.iload_n 2, 1) := by decide +kernel
theorem dX3_find_55 : decode cX3_find 55 = .ok (.iconst 1, 1) := by decide +kernel
theorem dX3_find_56 : decode cX3_find 56 = .ok (.iadd, 1) := by decide +kernel
theorem dX3_find_57 : decode cX3_find 57 = .ok (.iaload, 1) := by decide +kernel
theorem dX3_find_58 : decode cX3_find 58 = .ok (.if_icmp .ge 72, 3) := by decide +kernel
theorem dX3_find_61 : decode cX3_find 61 = .ok (.aload_n 0, 1) := by decide +kernel
theorem dX3_find_62 : decode cX3_find 62 = .ok (.getfield 31, 3) := by decide +kernel
theorem dX3_find_65 : decode cX3_find 65 = .ok (.getfield 40, 3) := by decide +kernel
theorem dX3_find_68 : decode cX3_find 68 = .ok (.aload_n 0, 1) := by decide +kernel
theorem dX3_find_69 : decode cX3_find 69 = .ok (.getfield 9, 3) := by decide +kernel
theorem dX3_find_72 : decode cX3_find 72 = .ok (.iload 4, 2) := by decide +kernel
theorem dX3_find_74 : decode cX3_find 74 = .ok (.iaload, 1) := by decide +kernel
theorem dX3_find_75 : decode cX3_find 75 = .ok (.aload_n 0, 1) := by decide +kernel
theorem dX3_find_76 : decode cX3_find 76 = .ok (.getfield 9, 3) := by decide +kernel
theorem dX3_find_79 : decode cX3_find 79 = .ok (.iload 5, 2) := by decide +kernel
theorem dX3_find_81 : decode cX3_find 81 = .ok (.iaload, 1) := by decide +kernel
theorem dX3_find_82 : decode cX3_find 82 = .ok (.invokevirtual 62, 3) := by decide +kernel
theorem dX3_find_85 : decode cX3_find 85 = .ok (.istore 6, 2) := by decide +kernel
theorem dX3_find_87 : decode cX3_find 87 = .ok (.iload 6, 2) := by decide +kernel
theorem dX3_find_89 : decode cX3_find 89 = .ok (.aload_n 0, 1) := by decide +kernel
theorem dX3_find_90 : decode cX3_find 90 = .ok (.getfield 28, 3) := by decide +kernel
theorem dX3_find_93 : decode cX3_find 93 = .ok (.if_icmp .ge 31, 3) := by decide +kernel
theorem dX3_find_96 : decode cX3_find 96 = .ok (.aload_n 0, 1) := by decide +kernel
theorem dX3_find_97 : decode cX3_find 97 = .ok (.iload 6, 2) := by decide +kernel
theorem dX3_find_99 : decode cX3_find 99 = .ok (.putfield 28, 3) := by decide +kernel
theorem dX3_find_102 : decode cX3_find 102 = .ok (.aload_n 0, 1) := by decide +kernel
theorem dX3_find_103 : decode cX3_find 103 = .ok (.aload_n 0, 1) := by decide +kernel
theorem dX3_find_104 : decode cX3_find 104 = .ok (.getfield 9, 3) := by decide +kernel
theorem dX3_find_107 : decode cX3_find 107 = .ok (.iload 4, 2) := by decide +kernel
theorem dX3_find_109 : decode cX3_find 109 = .ok (.iaload, 1) := by decide +kernel
theorem dX3_find_110 : decode cX3_find 110 = .ok (.putfield 21, 3) := by decide +kernel
theorem dX3_find_113 : decode cX3_find 113 = .ok (.aload_n 0, 1) := by decide +kernel
theorem dX3_find_114 : decode cX3_find 114 = .ok (.aload_n 0, 1) := by decide +kernel
theorem dX3_find_115 : decode cX3_find 115 = .ok (.getfield 9, 3) := by decide +kernel
theorem dX3_find_118 : decode cX3_find 118 = .ok (.iload 5, 2) := by decide +kernel
theorem dX3_find_120 : decode cX3_find 120 = .ok (.iaload, 1) := by decide +kernel
theorem dX3_find_121 : decode cX3_find 121 = .ok (.putfield 25, 3) := by decide +kernel
theorem dX3_find_124 : decode cX3_find 124 = .ok (.iinc 5 1, 3) := by decide +kernel
theorem dX3_find_127 : decode cX3_find 127 = .ok (.goto (-79), 3) := by decide +kernel
theorem dX3_find_130 : decode cX3_find 130 = .ok (.iinc 4 1, 3) := by decide +kernel
theorem dX3_find_133 : decode cX3_find 133 = .ok (.goto (-106), 3) := by decide +kernel
theorem dX3_find_136 : decode cX3_find 136 = .ok (.aload_n 0, 1) := by decide +kernel
theorem dX3_find_137 : decode cX3_find 137 = .ok (.getfield 21, 3) := by decide +kernel
theorem dX3_find_140 : decode cX3_find 140 = .ok (.iconst (-1), 1) := by decide +kernel
theorem dX3_find_141 : decode cX3_find 141 = .ok (.if_icmp .eq 7, 3) := by decide +kernel
theorem dX3_find_144 : decode cX3_find 144 = .ok (.iconst 1, 1) := by decide +kernel
theorem dX3_find_145 : decode cX3_find 145 = .ok (.goto 4, 3) := by decide +kernel
theorem dX3_find_148 : decode cX3_find 148 = .ok (.iconst 0, 1) := by decide +kernel
theorem dX3_find_149 : decode cX3_find 149 = .ok (.ireturn, 1) := by decide +kernel
theorem dX3_miss_0 : decode cX3_miss 0 = .ok (.aload_n 0, 1) := by decide +kernel
theorem dX3_miss_1 : decode cX3_miss 1 = .ok (.getfield 21, 3) := by decide +kernel
theorem dX3_miss_4 : decode cX3_miss 4 = .ok (.iconst (-1), 1) := by decide +kernel
theorem dX3_miss_5 : decode cX3_miss 5 = .ok (.if_icmp .eq 11, 3) := by decide +kernel
theorem dX3_miss_8 : decode cX3_miss 8 = .ok (.aload_n 0, 1) := by decide +kernel
theorem dX3_miss_9 : decode cX3_miss 9 = .ok (.getfield 25, 3) := by decide +kernel
theorem dX3_miss_12 : decode cX3_miss 12 = .ok (.iconst (-1), 1) := by decide +kernel
theorem dX3_miss_13 : decode cX3_miss 13 = .ok (.if_icmp .ne 7, 3) := by decide +kernel
theorem dX3_miss_16 : decode cX3_miss 16 = .ok (.iconst 0, 1) := by decide +kernel
theorem dX3_miss_17 : decode cX3_miss 17 = .ok (.goto 28, 3) := by decide +kernel
theorem dX3_miss_20 : decode cX3_miss 20 = .ok (.aload_n 0, 1) := by decide +kernel
theorem dX3_miss_21 : decode cX3_miss 21 = .ok (.getfield 31, 3) := by decide +kernel
theorem dX3_miss_24 : decode cX3_miss 24 = .ok (.getfield 59, 3) := by decide +kernel
theorem dX3_miss_27 : decode cX3_miss 27 = .ok (.aload_n 0, 1) := by decide +kernel
theorem dX3_miss_28 : decode cX3_miss 28 = .ok (.getfield 21, 3) := by decide +kernel
theorem dX3_miss_31 : decode cX3_miss 31 = .ok (.iaload, 1) := by decide +kernel
theorem dX3_miss_32 : decode cX3_miss 32 = .ok (.aload_n 0, 1) := by decide +kernel
theorem dX3_miss_33 : decode cX3_miss 33 = .ok (.getfield 31, 3) := by decide +kernel
theorem dX3_miss_36 : decode cX3_miss 36 = .ok (.getfield 59, 3) := by decide +kernel
theorem dX3_miss_39 : decode cX3_miss 39 = .ok (.aload_n 0, 1) := by decide +kernel
theorem dX3_miss_40 : decode cX3_miss 40 = .ok (.getfield 25, 3) := by decide +kernel
theorem dX3_miss_43 : decode cX3_miss 43 = .ok (.iaload, 1) := by decide +kernel
theorem dX3_miss_44 : decode cX3_miss 44 = .ok (.isub, 1) := by decide +kernel
theorem dX3_miss_45 : decode cX3_miss 45 = .ok (.ireturn, 1) := by decide +kernel
theorem dX3_addMisses_0 : decode cX3_addMisses 0 = .ok (.aload_n 0, 1) := by decide +kernel
theorem dX3_addMisses_1 : decode cX3_addMisses 1 = .ok (.getfield 18, 3) := by decide +kernel
theorem dX3_addMisses_4 : decode cX3_addMisses 4 = .ok (.iconst (-1), 1) := by decide +kernel
theorem dX3_addMisses_5 : decode cX3_addMisses 5 = .ok (.invokestatic 65, 3) := by decide +kernel
theorem dX3_addMisses_8 : decode cX3_addMisses 8 = .ok (.iconst 0, 1) := by decide +kernel
theorem dX3_addMisses_9 : decode cX3_addMisses 9 = .ok (.istore_n 2, 1) := by decide +kernel
theorem dX3_addMisses_10 : decode cX3_addMisses 10 = .ok (.iload_n 2, 1) := by decide +kernel
theorem dX3_addMisses_11 : decode cX3_addMisses 11 = .ok (.aload_n 0, 1) := by decide +kernel
theorem dX3_addMisses_12 : decode cX3_addMisses 12 = .ok (.getfield 31, 3) := by decide +kernel
theorem dX3_addMisses_15 : decode cX3_addMisses 15 = .ok (.getfield 71, 3) := by decide +kernel
theorem dX3_addMisses_18 : decode cX3_addMisses 18 = .ok (.getfield 74, 3) := by decide +kernel
theorem dX3_addMisses_21 : decode cX3_addMisses 21 = .ok (.if_icmp .ge 53, 3) := by decide +kernel
theorem dX3_addMisses_24 : decode cX3_addMisses 24 = .ok (.iload_n 2, 1) := by decide +kernel
theorem dX3_addMisses_25 : decode cX3_addMisses 25 = .ok (.iconst 1, 1) := by decide +kernel
theorem dX3_addMisses_26 : decode cX3_addMisses 26 = .ok (.iadd, 1) := by decide +kernel
theorem dX3_addMisses_27 : decode cX3_addMisses 27 = .ok (.istore_n 3, 1) := by decide +kernel
theorem dX3_addMisses_28 : decode cX3_addMisses 28 = .ok (.iload_n 3, 1) := by decide +kernel
theorem dX3_addMisses_29 : decode cX3_addMisses 29 = .ok (.aload_n 0, 1) := by decide +kernel
theorem dX3_addMisses_30 : decode cX3_addMisses 30 = .ok (.getfield 31, 3) := by decide +kernel
theorem dX3_addMisses_33 : decode cX3_addMisses 33 = .ok (.getfield 71, 3) := by decide +kernel
theorem dX3_addMisses_36 : decode cX3_addMisses 36 = .ok (.getfield 74, 3) := by decide +kernel
theorem dX3_addMisses_39 : decode cX3_addMisses 39 = .ok (.if_icmp .ge 29, 3) := by decide +kernel
theorem dX3_addMisses_42 : decode cX3_addMisses 42 = .ok (.aload_n 0, 1) := by decide +kernel
theorem dX3_addMisses_43 : decode cX3_addMisses 43 = .ok (.iload_n 2, 1) := by decide +kernel
theorem dX3_addMisses_44 : decode cX3_addMisses 44 = .ok (.iload_n 3, 1) := by decide +kernel
theorem dX3_addMisses_45 : decode cX3_addMisses 45 = .ok (.iload_n 1, 1) := by decide +kernel
theorem dX3_addMisses_46 : decode cX3_addMisses 46 = .ok (.invokevirtual 77, 3) := by decide +kernel
theorem dX3_addMisses_49 : decode cX3_addMisses 49 = .ok (.ifCond .eq 13, 3) := by decide +kernel
theorem dX3_addMisses_52 : decode cX3_addMisses 52 = .ok (.aload_n 0, 1) := by decide +kernel
theorem dX3_addMisses_53 : decode cX3_addMisses 53 = .ok (.iload_n 2, 1) := by decide +kernel
theorem dX3_addMisses_54 : decode cX3_addMisses 54 = .ok (.invokevirtual 81, 3) := by decide +kernel
theorem dX3_addMisses_57 : decode cX3_addMisses 57 = .ok (.aload_n 0, 1) := by decide +kernel
theorem dX3_addMisses_58 : decode cX3_addMisses 58 = .ok (.iload_n 3, 1) := by decide +kernel
theorem dX3_addMisses_59 : decode cX3_addMisses 59 = .ok (.invokevirtual 81, 3) := by decide +kernel
theorem dX3_addMisses_62 : decode cX3_addMisses 62 = .ok (.iinc 3 1, 3) := by decide +kernel
theorem dX3_addMisses_65 : decode cX3_addMisses 65 = .ok (.goto (-37), 3) := by decide +kernel
theorem dX3_addMisses_68 : decode cX3_addMisses 68 = .ok (.iinc 2 1, 3) := by decide +kernel
theorem dX3_addMisses_71 : decode cX3_addMisses 71 = .ok (.goto (-61), 3) := by decide +kernel
theorem dX3_addMisses_74 : decode cX3_addMisses 74 = .ok (.return_, 1) := by decide +kernel
theorem dX3_addMiss_0 : decode cX3_addMiss 0 = .ok (.aload_n 0, 1) := by decide +kernel
theorem dX3_addMiss_1 : decode cX3_addMiss 1 = .ok (.getfield 18, 3) := by decide +kernel
theorem dX3_addMiss_4 : decode cX3_addMiss 4 = .ok (.iload_n 1, 1) := by decide +kernel
theorem dX3_addMiss_5 : decode cX3_addMiss 5 = .ok (.iconst 0, 1) := by decide +kernel
theorem dX3_addMiss_6 : decode cX3_addMiss 6 = .ok (.aload_n 0, 1) := by decide +kernel
theorem dX3_addMiss_7 : decode cX3_addMiss 7 = .ok (.getfield 18, 3) := by decide +kernel
theorem dX3_addMiss_10 : decode cX3_addMiss 10 = .ok (.iload_n 1, 1) := by decide +kernel
theorem dX3_addMiss_11 : decode cX3_addMiss 11 = .ok (.iaload, 1) := by decide +kernel
theorem dX3_addMiss_12 : decode cX3_addMiss 12 = .ok (.invokestatic 85, 3) := by decide +kernel
theorem dX3_addMiss_15 : decode cX3_addMiss 15 = .ok (.aload_n 0, 1) := by decide +kernel
theorem dX3_addMiss_16 : decode cX3_addMiss 16 = .ok (.invokevirtual 90, 3) := by decide +kernel
theorem dX3_addMiss_19 : decode cX3_addMiss 19 = .ok (.invokestatic 94, 3) := by decide +kernel
theorem dX3_addMiss_22 : decode cX3_addMiss 22 = .ok (.iadd, 1) := by decide +kernel
theorem dX3_addMiss_23 : decode cX3_addMiss 23 = .ok (.iastore, 1) := by decide +kernel
theorem dX3_addMiss_24 : decode cX3_addMiss 24 = .ok (.return_, 1) := by decide +kernel
theorem dX3_lineThatMissesMost_0 : decode cX3_lineThatMissesMost 0 = .ok (.iconst (-1), 1) := by decide +kernel
theorem dX3_lineThatMissesMost_1 : decode cX3_lineThatMissesMost 1 = .ok (.istore_n 1, 1) := by decide +kernel
theorem dX3_lineThatMissesMost_2 : decode cX3_lineThatMissesMost 2 = .ok (.iconst (-1), 1) := by decide +kernel
theorem dX3_lineThatMissesMost_3 : decode cX3_lineThatMissesMost 3 = .ok (.istore_n 2, 1) := by decide +kernel
theorem dX3_lineThatMissesMost_4 : decode cX3_lineThatMissesMost 4 = .ok (.iconst 0, 1) := by decide +kernel
theorem dX3_lineThatMissesMost_5 : decode cX3_lineThatMissesMost 5 = .ok (.istore_n 3, 1) := by decide +kernel
theorem dX3_lineThatMissesMost_6 : decode cX3_lineThatMissesMost 6 = .ok (.iload_n 3, 1) := by decide +kernel
theorem dX3_lineThatMissesMost_7 : decode cX3_lineThatMissesMost 7 = .ok (.aload_n 0, 1) := by decide +kernel
theorem dX3_lineThatMissesMost_8 : decode cX3_lineThatMissesMost 8 = .ok (.getfield 31, 3) := by decide +kernel
theorem dX3_lineThatMissesMost_11 : decode cX3_lineThatMissesMost 11 = .ok (.getfield 71, 3) := by decide +kernel
theorem dX3_lineThatMissesMost_14 : decode cX3_lineThatMissesMost 14 = .ok (.getfield 74, 3) := by decide +kernel
theorem dX3_lineThatMissesMost_17 : decode cX3_lineThatMissesMost 17 = .ok (.if_icmp .ge 28, 3) := by decide +kernel
theorem dX3_lineThatMissesMost_20 : decode cX3_lineThatMissesMost 20 = .ok (.aload_n 0, 1) := by decide +kernel
theorem dX3_lineThatMissesMost_21 : decode cX3_lineThatMissesMost 21 = .ok (.getfield 18, 3) := by decide +kernel
theorem dX3_lineThatMissesMost_24 : decode cX3_lineThatMissesMost 24 = .ok (.iload_n 3, 1) := by decide +kernel
theorem dX3_lineThatMissesMost_25 : decode cX3_lineThatMissesMost 25 = .ok (.iaload, 1) := by decide +kernel
theorem dX3_lineThatMissesMost_26 : decode cX3_lineThatMissesMost 26 = .ok (.iload_n 1, 1) := by decide +kernel
theorem dX3_lineThatMissesMost_27 : decode cX3_lineThatMissesMost 27 = .ok (.if_icmp .le 12, 3) := by decide +kernel
theorem dX3_lineThatMissesMost_30 : decode cX3_lineThatMissesMost 30 = .ok (.aload_n 0, 1) := by decide +kernel
theorem dX3_lineThatMissesMost_31 : decode cX3_lineThatMissesMost 31 = .ok (.getfield 18, 3) := by decide +kernel
theorem dX3_lineThatMissesMost_34 : decode cX3_lineThatMissesMost 34 = .ok (.iload_n 3, 1) := by decide +kernel
theorem dX3_lineThatMissesMost_35 : decode cX3_lineThatMissesMost 35 = .ok (.iaload, 1) := by decide +kernel
theorem dX3_lineThatMissesMost_36 : decode cX3_lineThatMissesMost 36 = .ok (.istore_n 1, 1) := by decide +kernel
theorem dX3_lineThatMissesMost_37 : decode cX3_lineThatMissesMost 37 = .ok (.iload_n 3, 1) := by decide +kernel
theorem dX3_lineThatMissesMost_38 : decode cX3_lineThatMissesMost 38 = .ok (.istore_n 2, 1) := by decide +kernel
theorem dX3_lineThatMissesMost_39 : decode cX3_lineThatMissesMost 39 = .ok (.iinc 3 1, 3) := by decide +kernel
theorem dX3_lineThatMissesMost_42 : decode cX3_lineThatMissesMost 42 = .ok (.goto (-36), 3) := by decide +kernel
theorem dX3_lineThatMissesMost_45 : decode cX3_lineThatMissesMost 45 = .ok (.iload_n 2, 1) := by decide +kernel
theorem dX3_lineThatMissesMost_46 : decode cX3_lineThatMissesMost 46 = .ok (.ireturn, 1) := by decide +kernel
theorem dX4_init_0 : decode cX4_init 0 = .ok (.aload_n 0, 1) := by decide +kernel
theorem dX4_init_1 : decode cX4_init 1 = .ok (.invokespecial 3, 3) := by decide +kernel
theorem dX4_init_4 : decode cX4_init 4 = .ok (.aload_n 0, 1) := by decide +kernel
theorem dX4_init_5 : decode cX4_init 5 = .ok (.bipush 20, 2) := by decide +kernel
theorem dX4_init_7 : decode cX4_init 7 = .ok (.newarray .int, 2) := by decide +kernel
theorem dX4_init_9 : decode cX4_init 9 = .ok (.putfield 9, 3) := by decide +kernel
theorem dX4_init_12 : decode cX4_init 12 = .ok (.aload_n 0, 1) := by decide +kernel
theorem dX4_init_13 : decode cX4_init 13 = .ok (.bipush 20, 2) := by decide +kernel
theorem dX4_init_15 : decode cX4_init 15 = .ok (.newarray .int, 2) := by decide +kernel
theorem dX4_init_17 : decode cX4_init 17 = .ok (.putfield 15, 3) := by decide +kernel
theorem dX4_init_20 : decode cX4_init 20 = .ok (.aload_n 0, 1) := by decide +kernel
theorem dX4_init_21 : decode cX4_init 21 = .ok (.bipush 20, 2) := by decide +kernel
theorem dX4_init_23 : decode cX4_init 23 = .ok (.newarray .int, 2) := by decide +kernel
theorem dX4_init_25 : decode cX4_init 25 = .ok (.putfield 18, 3) := by decide +kernel
theorem dX4_init_28 : decode cX4_init 28 = .ok (.aload_n 0, 1) := by decide +kernel
theorem dX4_init_29 : decode cX4_init 29 = .ok (.iconst 0, 1) := by decide +kernel
theorem dX4_init_30 : decode cX4_init 30 = .ok (.putfield 21, 3) := by decide +kernel
theorem dX4_init_33 : decode cX4_init 33 = .ok (.return_, 1) := by decide +kernel
theorem dX4_has_0 : decode cX4_has 0 = .ok (.iload_n 1, 1) := by decide +kernel
theorem dX4_has_1 : decode cX4_has 1 = .ok (.ifCond .lt 15, 3) := by decide +kernel
theorem dX4_has_4 : decode cX4_has 4 = .ok (.iload_n 1, 1) := by decide +kernel
theorem dX4_has_5 : decode cX4_has 5 = .ok (.aload_n 0, 1) := by decide +kernel
theorem dX4_has_6 : decode cX4_has 6 = .ok (.getfield 21, 3) := by decide +kernel
theorem dX4_has_9 : decode cX4_has 9 = .ok (.if_icmp .ge 7, 3) := by decide +kernel
theorem dX4_has_12 : decode cX4_has 12 = .ok (.iconst 1, 1) := by decide +kernel
theorem dX4_has_13 : decode cX4_has 13 = .ok (.goto 4, 3) := by decide +kernel
theorem dX4_has_16 : decode cX4_has 16 = .ok (.iconst 0, 1) := by decide +kernel
theorem dX4_has_17 : decode cX4_has 17 = .ok (.ireturn, 1) := by decide +kernel
theorem dX4_add_0 : decode cX4_add 0 = .ok (.aload_n 0, 1) := by decide +kernel
theorem dX4_add_1 : decode cX4_add 1 = .ok (.getfield 21, 3) := by decide +kernel
theorem dX4_add_4 : decode cX4_add 4 = .ok (.bipush 20, 2) := by decide +kernel
theorem dX4_add_6 : decode cX4_add 6 = .ok (.if_icmp .lt 5, 3) := by decide +kernel
theorem dX4_add_9 : decode cX4_add 9 = .ok (.iconst (-1), 1) := by decide +kernel
theorem dX4_add_10 : decode cX4_add 10 = .ok (.ireturn, 1) := by decide +kernel
theorem dX4_add_11 : decode cX4_add 11 = .ok (.aload_n 0, 1) := by decide +kernel
theorem dX4_add_12 : decode cX4_add 12 = .ok (.getfield 9, 3) := by decide +kernel
theorem dX4_add_15 : decode cX4_add 15 = .ok (.aload_n 0, 1) := by decide +kernel
theorem dX4_add_16 : decode cX4_add 16 = .ok (.getfield 21, 3) := by decide +kernel
theorem dX4_add_19 : decode cX4_add 19 = .ok (.iload_n 1, 1) := by decide +kernel
theorem dX4_add_20 : decode cX4_add 20 = .ok (.iastore, 1) := by decide +kernel
theorem dX4_add_21 : decode cX4_add 21 = .ok (.aload_n 0, 1) := by decide +kernel
theorem dX4_add_22 : decode cX4_add 22 = .ok (.getfield 15, 3) := by decide +kernel
theorem dX4_add_25 : decode cX4_add 25 = .ok (.aload_n 0, 1) := by decide +kernel
theorem dX4_add_26 : decode cX4_add 26 = .ok (.getfield 21, 3) := by decide +kernel
theorem dX4_add_29 : decode cX4_add 29 = .ok (.iload_n 2, 1) := by decide +kernel
theorem dX4_add_30 : decode cX4_add 30 = .ok (.iastore, 1) := by decide +kernel
theorem dX4_add_31 : decode cX4_add 31 = .ok (.aload_n 0, 1) := by decide +kernel
theorem dX4_add_32 : decode cX4_add 32 = .ok (.getfield 18, 3) := by decide +kernel
theorem dX4_add_35 : decode cX4_add 35 = .ok (.aload_n 0, 1) := by decide +kernel
theorem dX4_add_36 : decode cX4_add 36 = .ok (.getfield 21, 3) := by decide +kernel
theorem dX4_add_39 : decode cX4_add 39 = .ok (.iconst 0, 1) := by decide +kernel
theorem dX4_add_40 : decode cX4_add 40 = .ok (.iastore, 1) := by decide +kernel
theorem dX4_add_41 : decode cX4_add 41 = .ok (.aload_n 0, 1) := by decide +kernel
theorem dX4_add_42 : decode cX4_add 42 = .ok (.dup, 1) := by decide +kernel
theorem dX4_add_43 : decode cX4_add 43 = .ok (.getfield 21, 3) := by decide +kernel
theorem dX4_add_46 : decode cX4_add 46 = .ok (.iconst 1, 1) := by decide +kernel
theorem dX4_add_47 : decode cX4_add 47 = .ok (.iadd, 1) := by decide +kernel
theorem dX4_add_48 : decode cX4_add 48 = .ok (.putfield 21, 3) := by decide +kernel
theorem dX4_add_51 : decode cX4_add 51 = .ok (.aload_n 0, 1) := by decide +kernel
theorem dX4_add_52 : decode cX4_add 52 = .ok (.getfield 21, 3) := by decide +kernel
theorem dX4_add_55 : decode cX4_add 55 = .ok (.iconst 1, 1) := by decide +kernel
theorem dX4_add_56 : decode cX4_add 56 = .ok (.isub, 1) := by decide +kernel
theorem dX4_add_57 : decode cX4_add 57 = .ok (.ireturn, 1) := by decide +kernel
theorem dX4_removeLast_0 : decode cX4_removeLast 0 = .ok (.aload_n 0, 1) := by decide +kernel
theorem dX4_removeLast_1 : decode cX4_removeLast 1 = .ok (.iconst 0, 1) := by decide +kernel
theorem dX4_removeLast_2 : decode cX4_removeLast 2 = .ok (.aload_n 0, 1) := by decide +kernel
theorem dX4_removeLast_3 : decode cX4_removeLast 3 = .ok (.getfield 21, 3) := by decide +kernel
theorem dX4_removeLast_6 : decode cX4_removeLast 6 = .ok (.iconst 1, 1) := by decide +kernel
theorem dX4_removeLast_7 : decode cX4_removeLast 7 = .ok (.isub, 1) := by decide +kernel
theorem dX4_removeLast_8 : decode cX4_removeLast 8 = .ok (.invokestatic 25, 3) := by decide +kernel
theorem dX4_removeLast_11 : decode cX4_removeLast 11 = .ok (.putfield 21, 3) := by decide +kernel
theorem dX4_removeLast_14 : decode cX4_removeLast 14 = .ok (.return_, 1) := by decide +kernel
theorem dX4_copyFrom_0 : decode cX4_copyFrom 0 = .ok (.aload_n 0, 1) := by decide +kernel
theorem dX4_copyFrom_1 : decode cX4_copyFrom 1 = .ok (.aload_n 1, 1) := by decide +kernel
theorem dX4_copyFrom_2 : decode cX4_copyFrom 2 = .ok (.getfield 21, 3) := by decide +kernel
theorem dX4_copyFrom_5 : decode cX4_copyFrom 5 = .ok (.putfield 21, 3) := by decide +kernel
theorem dX4_copyFrom_8 : decode cX4_copyFrom 8 = .ok (.aload_n 1, 1) := by decide +kernel
theorem dX4_copyFrom_9 : decode cX4_copyFrom 9 = .ok (.getfield 9, 3) := by decide +kernel
theorem dX4_copyFrom_12 : decode cX4_copyFrom 12 = .ok (.iconst 0, 1) := by decide +kernel
theorem dX4_copyFrom_13 : decode cX4_copyFrom 13 = .ok (.aload_n 0, 1) := by decide +kernel
theorem dX4_copyFrom_14 : decode cX4_copyFrom 14 = .ok (.getfield 9, 3) := by decide +kernel
theorem dX4_copyFrom_17 : decode cX4_copyFrom 17 = .ok (.iconst 0, 1) := by decide +kernel
theorem dX4_copyFrom_18 : decode cX4_copyFrom 18 = .ok (.bipush 20, 2) := by decide +kernel
theorem dX4_copyFrom_20 : decode cX4_copyFrom 20 = .ok (.invokestatic 31, 3) := by decide +kernel
theorem dX4_copyFrom_23 : decode cX4_copyFrom 23 = .ok (.aload_n 1, 1) := by decide +kernel
theorem dX4_copyFrom_24 : decode cX4_copyFrom 24 = .ok (.getfield 15, 3) := by decide +kernel
theorem dX4_copyFrom_27 : decode cX4_copyFrom 27 = .ok (.iconst 0, 1) := by decide +kernel
theorem dX4_copyFrom_28 : decode cX4_copyFrom 28 = .ok (.aload_n 0, 1) := by decide +kernel
theorem dX4_copyFrom_29 : decode cX4_copyFrom 29 = .ok (.getfield 15, 3) := by decide +kernel
theorem dX4_copyFrom_32 : decode cX4_copyFrom 32 = .ok (.iconst 0, 1) := by decide +kernel
theorem dX4_copyFrom_33 : decode cX4_copyFrom 33 = .ok (.bipush 20, 2) := by decide +kernel
theorem dX4_copyFrom_35 : decode cX4_copyFrom 35 = .ok (.invokestatic 31, 3) := by decide +kernel
theorem dX4_copyFrom_38 : decode cX4_copyFrom 38 = .ok (.aload_n 1, 1) := by decide +kernel
theorem dX4_copyFrom_39 : decode cX4_copyFrom 39 = .ok (.getfield 18, 3) := by decide +kernel
theorem dX4_copyFrom_42 : decode cX4_copyFrom 42 = .ok (.iconst 0, 1) := by decide +kernel
theorem dX4_copyFrom_43 : decode cX4_copyFrom 43 = .ok (.aload_n 0, 1) := by decide +kernel
theorem dX4_copyFrom_44 : decode cX4_copyFrom 44 = .ok (.getfield 18, 3) := by decide +kernel
theorem dX4_copyFrom_47 : decode cX4_copyFrom 47 = .ok (.iconst 0, 1) := by decide +kernel
theorem dX4_copyFrom_48 : decode cX4_copyFrom 48 = .ok (.bipush 20, 2) := by decide +kernel
theorem dX4_copyFrom_50 : decode cX4_copyFrom 50 = .ok (.invokestatic 31, 3) := by decide +kernel
theorem dX4_copyFrom_53 : decode cX4_copyFrom 53 = .ok (.return_, 1) := by decide +kernel
theorem dX5_init_0 : decode cX5_init 0 = .ok (.aload_n 0, 1) := by decide +kernel
theorem dX5_init_1 : decode cX5_init 1 = .ok (.invokespecial 3, 3) := by decide +kernel
theorem dX5_init_4 : decode cX5_init 4 = .ok (.aload_n 0, 1) := by decide +kernel
theorem dX5_init_5 : decode cX5_init 5 = .ok (.sipush 200, 3) := by decide +kernel
theorem dX5_init_8 : decode cX5_init 8 = .ok (.newarray .int, 2) := by decide +kernel
theorem dX5_init_10 : decode cX5_init 10 = .ok (.putfield 9, 3) := by decide +kernel
theorem dX5_init_13 : decode cX5_init 13 = .ok (.aload_n 0, 1) := by decide +kernel
theorem dX5_init_14 : decode cX5_init 14 = .ok (.iconst 0, 1) := by decide +kernel
theorem dX5_init_15 : decode cX5_init 15 = .ok (.putfield 15, 3) := by decide +kernel
theorem dX5_init_18 : decode cX5_init 18 = .ok (.aload_n 0, 1) := by decide +kernel
theorem dX5_init_19 : decode cX5_init 19 = .ok (.sipush 200, 3) := by decide +kernel
theorem dX5_init_22 : decode cX5_init 22 = .ok (.newarray .int, 2) := by decide +kernel
theorem dX5_init_24 : decode cX5_init 24 = .ok (.putfield 19, 3) := by decide +kernel
theorem dX5_init_27 : decode cX5_init 27 = .ok (.aload_n 0, 1) := by decide +kernel
theorem dX5_init_28 : decode cX5_init 28 = .ok (.iconst 0, 1) := by decide +kernel
theorem dX5_init_29 : decode cX5_init 29 = .ok (.putfield 22, 3) := by decide +kernel
theorem dX5_init_32 : decode cX5_init 32 = .ok (.aload_n 0, 1) := by decide +kernel
theorem dX5_init_33 : decode cX5_init 33 = .ok (.sipush 200, 3) := by decide +kernel
theorem dX5_init_36 : decode cX5_init 36 = .ok (.newarray .int, 2) := by decide +kernel
theorem dX5_init_38 : decode cX5_init 38 = .ok (.putfield 25, 3) := by decide +kernel
theorem dX5_init_41 : decode cX5_init 41 = .ok (.aload_n 0, 1) := by decide +kernel
theorem dX5_init_42 : decode cX5_init 42 = .ok (.aload_n 1, 1) := by decide +kernel
theorem dX5_init_43 : decode cX5_init 43 = .ok (.putfield 28, 3) := by decide +kernel
theorem dX5_init_46 : decode cX5_init 46 = .ok (.return_, 1) := by decide +kernel
theorem dX5_draw_0 : decode cX5_draw 0 = .ok (.aload_n 0, 1) := by decide +kernel
theorem dX5_draw_1 : decode cX5_draw 1 = .ok (.getfield 28, 3) := by decide +kernel
theorem dX5_draw_4 : decode cX5_draw 4 = .ok (.invokevirtual 32, 3) := by decide +kernel
theorem dX5_draw_7 : decode cX5_draw 7 = .ok (.aload_n 0, 1) := by decide +kernel
theorem dX5_draw_8 : decode cX5_draw 8 = .ok (.iload_n 1, 1) := by decide +kernel
theorem dX5_draw_9 : decode cX5_draw 9 = .ok (.iload_n 3, 1) := by decide +kernel
theorem dX5_draw_10 : decode cX5_draw 10 = .ok (.invokevirtual 37, 3) := by decide +kernel
theorem dX5_draw_13 : decode cX5_draw 13 = .ok (.aload_n 0, 1) := by decide +kernel
theorem dX5_draw_14 : decode cX5_draw 14 = .ok (.iconst 0, 1) := by decide +kernel
theorem dX5_draw_15 : decode cX5_draw 15 = .ok (.putfield 22, 3) := by decide +kernel
theorem dX5_draw_18 : decode cX5_draw 18 = .ok (.aload_n 0, 1) := by decide +kernel
theorem dX5_draw_19 : decode cX5_draw 19 = .ok (.iload_n 1, 1) := by decide +kernel
theorem dX5_draw_20 : decode cX5_draw 20 = .ok (.invokevirtual 41, 3) := by decide +kernel
theorem dX5_draw_23 : decode cX5_draw 23 = .ok (.aload_n 0, 1) := by decide +kernel
theorem dX5_draw_24 : decode cX5_draw 24 = .ok (.invokevirtual 45, 3) := by decide +kernel
theorem dX5_draw_27 : decode cX5_draw 27 = .ok (.iconst 0, 1) := by decide +kernel
theorem dX5_draw_28 : decode cX5_draw 28 = .ok (.istore 4, 2) := by decide +kernel
theorem dX5_draw_30 : decode cX5_draw 30 = .ok (.iload 4, 2) := by decide +kernel
theorem dX5_draw_32 : decode cX5_draw 32 = .ok (.iload_n 2, 1) := by decide +kernel
theorem dX5_draw_33 : decode cX5_draw 33 = .ok (.if_icmp .ge 21, 3) := by decide +kernel
theorem dX5_draw_36 : decode cX5_draw 36 = .ok (.aload_n 0, 1) := by decide +kernel
theorem dX5_draw_37 : decode cX5_draw 37 = .ok (.getfield 22, 3) := by decide +kernel
theorem dX5_draw_40 : decode cX5_draw 40 = .ok (.iload_n 2, 1) := by decide +kernel
theorem dX5_draw_41 : decode cX5_draw 41 = .ok (.if_icmp .ge 7, 3) := by decide +kernel
theorem dX5_draw_44 : decode cX5_draw 44 = .ok (.aload_n 0, 1) := by decide +kernel
theorem dX5_draw_45 : decode cX5_draw 45 = .ok (.invokevirtual 48, 3) := by decide +kernel
theorem dX5_draw_48 : decode cX5_draw 48 = .ok (.iinc 4 1, 3) := by decide +kernel
theorem dX5_draw_51 : decode cX5_draw 51 = .ok (.goto (-21), 3) := by decide +kernel
theorem dX5_draw_54 : decode cX5_draw 54 = .ok (.return_, 1) := by decide +kernel
theorem dX5_findAll_0 : decode cX5_findAll 0 = .ok (.aload_n 0, 1) := by decide +kernel
theorem dX5_findAll_1 : decode cX5_findAll 1 = .ok (.getfield 28, 3) := by decide +kernel
theorem dX5_findAll_4 : decode cX5_findAll 4 = .ok (.getfield 51, 3) := by decide +kernel
theorem dX5_findAll_7 : decode cX5_findAll 7 = .ok (.astore_n 3, 1) := by decide +kernel
theorem dX5_findAll_8 : decode cX5_findAll 8 = .ok (.aload_n 0, 1) := by decide +kernel
theorem dX5_findAll_9 : decode cX5_findAll 9 = .ok (.iconst 0, 1) := by decide +kernel
theorem dX5_findAll_10 : decode cX5_findAll 10 = .ok (.putfield 15, 3) := by decide +kernel
theorem dX5_findAll_13 : decode cX5_findAll 13 = .ok (.iconst 0, 1) := by decide +kernel
theorem dX5_findAll_14 : decode cX5_findAll 14 = .ok (.istore 4, 2) := by decide +kernel
theorem dX5_findAll_16 : decode cX5_findAll 16 = .ok (.iload 4, 2) := by decide +kernel
theorem dX5_findAll_18 : decode cX5_findAll 18 = .ok (.aload_n 3, 1) := by decide +kernel
theorem dX5_findAll_19 : decode cX5_findAll 19 = .ok (.getfield 55, 3) := by decide +kernel
theorem dX5_findAll_22 : decode cX5_findAll 22 = .ok (.if_icmp .ge 85, 3) := by decide +kernel
theorem dX5_findAll_25 : decode cX5_findAll 25 = .ok (.aload_n 3, 1) := by decide +kernel
theorem dX5_findAll_26 : decode cX5_findAll 26 = .ok (.getfield 60, 3) := by decide +kernel
theorem dX5_findAll_29 : decode cX5_findAll 29 = .ok (.iload 4, 2) := by decide +kernel
theorem dX5_findAll_31 : decode cX5_findAll 31 = .ok (.iaload, 1) := by decide +kernel
theorem dX5_findAll_32 : decode cX5_findAll 32 = .ok (.iconst 2, 1) := by decide +kernel
theorem dX5_findAll_33 : decode cX5_findAll 33 = .ok (.if_icmp .eq 17, 3) := by decide +kernel
theorem dX5_findAll_36 : decode cX5_findAll 36 = .ok (.aload_n 3, 1) := by decide +kernel
theorem dX5_findAll_37 : decode cX5_findAll 37 = .ok (.iload 4, 2) := by decide +kernel
theorem dX5_findAll_39 : decode cX5_findAll 39 = .ok (.invokevirtual 63, 3) := by decide +kernel
theorem dX5_findAll_42 : decode cX5_findAll 42 = .ok (.iload_n 2, 1) := by decide +kernel
theorem dX5_findAll_43 : decode cX5_findAll 43 = .ok (.if_icmp .ne 7, 3) := by decide +kernel
theorem dX5_findAll_46 : decode cX5_findAll 46 = .ok (.iconst 1, 1) := by decide +kernel
