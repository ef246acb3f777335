theorem dX10_load_0 : decode cX10_load 0 = .ok (.aload_n 0, 1) := by decide +kernel
theorem dX10_load_1 : decode cX10_load 1 = .ok (.getfield 42, 3) := by decide +kernel
theorem dX10_load_4 : decode cX10_load 4 = .ok (.ifCond .ne 5, 3) := by decide +kernel
theorem dX10_load_7 : decode cX10_load 7 = .ok (.iconst 0, 1) := by decide +kernel
theorem dX10_load_8 : decode cX10_load 8 = .ok (.ireturn, 1) := by decide +kernel
theorem dX10_load_9 : decode cX10_load 9 = .ok (.iconst 0, 1) := by decide +kernel
theorem dX10_load_10 : decode cX10_load 10 = .ok (.istore_n 1, 1) := by decide +kernel
theorem dX10_load_11 : decode cX10_load 11 = .ok (.iload_n 1, 1) := by decide +kernel
theorem dX10_load_12 : decode cX10_load 12 = .ok (.sipush 4564, 3) := by decide +kernel
theorem dX10_load_15 : decode cX10_load 15 = .ok (.if_icmp .ge 21, 3) := by decide +kernel
theorem dX10_load_18 : decode cX10_load 18 = .ok (.aload_n 0, 1) := by decide +kernel
theorem dX10_load_19 : decode cX10_load 19 = .ok (.getfield 7, 3) := by decide +kernel
theorem dX10_load_22 : decode cX10_load 22 = .ok (.iload_n 1, 1) := by decide +kernel
theorem dX10_load_23 : decode cX10_load 23 = .ok (.aload_n 0, 1) := by decide +kernel
theorem dX10_load_24 : decode cX10_load 24 = .ok (.getfield 17, 3) := by decide +kernel
theorem dX10_load_27 : decode cX10_load 27 = .ok (.iload_n 1, 1) := by decide +kernel
theorem dX10_load_28 : decode cX10_load 28 = .ok (.iaload, 1) := by decide +kernel
theorem dX10_load_29 : decode cX10_load 29 = .ok (.iastore, 1) := by decide +kernel
theorem dX10_load_30 : decode cX10_load 30 = .ok (.iinc 1 1, 3) := by decide +kernel
theorem dX10_load_33 : decode cX10_load 33 = .ok (.goto (-22), 3) := by decide +kernel
theorem dX10_load_36 : decode cX10_load 36 = .ok (.aload_n 0, 1) := by decide +kernel
theorem dX10_load_37 : decode cX10_load 37 = .ok (.iconst 0, 1) := by decide +kernel
theorem dX10_load_38 : decode cX10_load 38 = .ok (.putfield 39, 3) := by decide +kernel
theorem dX10_load_41 : decode cX10_load 41 = .ok (.iconst 1, 1) := by decide +kernel
theorem dX10_load_42 : decode cX10_load 42 = .ok (.ireturn, 1) := by decide +kernel
theorem dX10_isLine_0 : decode cX10_isLine 0 = .ok (.iload_n 1, 1) := by decide +kernel
theorem dX10_isLine_1 : decode cX10_isLine 1 = .ok (.iconst 0, 1) := by decide +kernel
theorem dX10_isLine_2 : decode cX10_isLine 2 = .ok (.aload_n 0, 1) := by decide +kernel
theorem dX10_isLine_3 : decode cX10_isLine 3 = .ok (.getfield 7, 3) := by decide +kernel
theorem dX10_isLine_6 : decode cX10_isLine 6 = .ok (.iconst 0, 1) := by decide +kernel
theorem dX10_isLine_7 : decode cX10_isLine 7 = .ok (.iaload, 1) := by decide +kernel
theorem dX10_isLine_8 : decode cX10_isLine 8 = .ok (.iconst 1, 1) := by decide +kernel
theorem dX10_isLine_9 : decode cX10_isLine 9 = .ok (.isub, 1) := by decide +kernel
theorem dX10_isLine_10 : decode cX10_isLine 10 = .ok (.invokestatic 46, 3) := by decide +kernel
theorem dX10_isLine_13 : decode cX10_isLine 13 = .ok (.ireturn, 1) := by decide +kernel
theorem dX10_lineOf_0 : decode cX10_lineOf 0 = .ok (.aload_n 0, 1) := by decide +kernel
theorem dX10_lineOf_1 : decode cX10_lineOf 1 = .ok (.getfield 7, 3) := by decide +kernel
theorem dX10_lineOf_4 : decode cX10_lineOf 4 = .ok (.iconst 4, 1) := by decide +kernel
theorem dX10_lineOf_5 : decode cX10_lineOf 5 = .ok (.iconst 3, 1) := by decide +kernel
theorem dX10_lineOf_6 : decode cX10_lineOf 6 = .ok (.iload_n 1, 1) := by decide +kernel
theorem dX10_lineOf_7 : decode cX10_lineOf 7 = .ok (.imul, 1) := by decide +kernel
theorem dX10_lineOf_8 : decode cX10_lineOf 8 = .ok (.iadd, 1) := by decide +kernel
theorem dX10_lineOf_9 : decode cX10_lineOf 9 = .ok (.iload_n 2, 1) := by decide +kernel
theorem dX10_lineOf_10 : decode cX10_lineOf 10 = .ok (.iadd, 1) := by decide +kernel
theorem dX10_lineOf_11 : decode cX10_lineOf 11 = .ok (.iaload, 1) := by decide +kernel
theorem dX10_lineOf_12 : decode cX10_lineOf 12 = .ok (.ireturn, 1) := by decide +kernel
theorem dX10_line_0 : decode cX10_line 0 = .ok (.iload_n 1, 1) := by decide +kernel
theorem dX10_line_1 : decode cX10_line 1 = .ok (.iconst 0, 1) := by decide +kernel
theorem dX10_line_2 : decode cX10_line 2 = .ok (.bipush 99, 2) := by decide +kernel
theorem dX10_line_4 : decode cX10_line 4 = .ok (.invokestatic 46, 3) := by decide +kernel
theorem dX10_line_7 : decode cX10_line 7 = .ok (.ifCond .eq 27, 3) := by decide +kernel
theorem dX10_line_10 : decode cX10_line 10 = .ok (.iload_n 2, 1) := by decide +kernel
theorem dX10_line_11 : decode cX10_line 11 = .ok (.sipush 1400, 3) := by decide +kernel
theorem dX10_line_14 : decode cX10_line 14 = .ok (.sipush 1600, 3) := by decide +kernel
theorem dX10_line_17 : decode cX10_line 17 = .ok (.invokestatic 46, 3) := by decide +kernel
theorem dX10_line_20 : decode cX10_line 20 = .ok (.ifCond .eq 14, 3) := by decide +kernel
theorem dX10_line_23 : decode cX10_line 23 = .ok (.aload_n 0, 1) := by decide +kernel
theorem dX10_line_24 : decode cX10_line 24 = .ok (.getfield 7, 3) := by decide +kernel
theorem dX10_line_27 : decode cX10_line 27 = .ok (.iconst 0, 1) := by decide +kernel
theorem dX10_line_28 : decode cX10_line 28 = .ok (.iaload, 1) := by decide +kernel
theorem dX10_line_29 : decode cX10_line 29 = .ok (.bipush 20, 2) := by decide +kernel
theorem dX10_line_31 : decode cX10_line 31 = .ok (.if_icmp .ne 5, 3) := by decide +kernel
theorem dX10_line_34 : decode cX10_line 34 = .ok (.iconst (-1), 1) := by decide +kernel
theorem dX10_line_35 : decode cX10_line 35 = .ok (.ireturn, 1) := by decide +kernel
theorem dX10_line_36 : decode cX10_line 36 = .ok (.aload_n 0, 1) := by decide +kernel
theorem dX10_line_37 : decode cX10_line 37 = .ok (.invokevirtual 50, 3) := by decide +kernel
theorem dX10_line_40 : decode cX10_line 40 = .ok (.aload_n 0, 1) := by decide +kernel
theorem dX10_line_41 : decode cX10_line 41 = .ok (.getfield 7, 3) := by decide +kernel
theorem dX10_line_44 : decode cX10_line 44 = .ok (.iconst 0, 1) := by decide +kernel
theorem dX10_line_45 : decode cX10_line 45 = .ok (.iaload, 1) := by decide +kernel
theorem dX10_line_46 : decode cX10_line 46 = .ok (.istore_n 3, 1) := by decide +kernel
theorem dX10_line_47 : decode cX10_line 47 = .ok (.aload_n 0, 1) := by decide +kernel
theorem dX10_line_48 : decode cX10_line 48 = .ok (.getfield 7, 3) := by decide +kernel
theorem dX10_line_51 : decode cX10_line 51 = .ok (.iconst 4, 1) := by decide +kernel
theorem dX10_line_52 : decode cX10_line 52 = .ok (.iconst 3, 1) := by decide +kernel
theorem dX10_line_53 : decode cX10_line 53 = .ok (.iload_n 3, 1) := by decide +kernel
theorem dX10_line_54 : decode cX10_line 54 = .ok (.imul, 1) := by decide +kernel
theorem dX10_line_55 : decode cX10_line 55 = .ok (.iadd, 1) := by decide +kernel
theorem dX10_line_56 : decode cX10_line 56 = .ok (.iload_n 1, 1) := by decide +kernel
theorem dX10_line_57 : decode cX10_line 57 = .ok (.iastore, 1) := by decide +kernel
theorem dX10_line_58 : decode cX10_line 58 = .ok (.aload_n 0, 1) := by decide +kernel
theorem dX10_line_59 : decode cX10_line 59 = .ok (.getfield 7, 3) := by decide +kernel
theorem dX10_line_62 : decode cX10_line 62 = .ok (.iconst 4, 1) := by decide +kernel
theorem dX10_line_63 : decode cX10_line 63 = .ok (.iconst 3, 1) := by decide +kernel
theorem dX10_line_64 : decode cX10_line 64 = .ok (.iload_n 3, 1) := by decide +kernel
theorem dX10_line_65 : decode cX10_line 65 = .ok (.imul, 1) := by decide +kernel
theorem dX10_line_66 : decode cX10_line 66 = .ok (.iadd, 1) := by decide +kernel
theorem dX10_line_67 : decode cX10_line 67 = .ok (.iconst 1, 1) := by decide +kernel
theorem dX10_line_68 : decode cX10_line 68 = .ok (.iadd, 1) := by decide +kernel
theorem dX10_line_69 : decode cX10_line 69 = .ok (.iload_n 2, 1) := by decide +kernel
theorem dX10_line_70 : decode cX10_line 70 = .ok (.iastore, 1) := by decide +kernel
theorem dX10_line_71 : decode cX10_line 71 = .ok (.aload_n 0, 1) := by decide +kernel
theorem dX10_line_72 : decode cX10_line 72 = .ok (.getfield 7, 3) := by decide +kernel
theorem dX10_line_75 : decode cX10_line 75 = .ok (.iconst 4, 1) := by decide +kernel
theorem dX10_line_76 : decode cX10_line 76 = .ok (.iconst 3, 1) := by decide +kernel
theorem dX10_line_77 : decode cX10_line 77 = .ok (.iload_n 3, 1) := by decide +kernel
theorem dX10_line_78 : decode cX10_line 78 = .ok (.imul, 1) := by decide +kernel
theorem dX10_line_79 : decode cX10_line 79 = .ok (.iadd, 1) := by decide +kernel
theorem dX10_line_80 : decode cX10_line 80 = .ok (.iconst 2, 1) := by decide +kernel
theorem dX10_line_81 : decode cX10_line 81 = .ok (.iadd, 1) := by decide +kernel
theorem dX10_line_82 : decode cX10_line 82 = .ok (.iconst 0, 1) := by decide +kernel
theorem dX10_line_83 : decode cX10_line 83 = .ok (.iastore, 1) := by decide +kernel
theorem dX10_line_84 : decode cX10_line 84 = .ok (.aload_n 0, 1) := by decide +kernel
theorem dX10_line_85 : decode cX10_line 85 = .ok (.getfield 7, 3) := by decide +kernel
theorem dX10_line_88 : decode cX10_line 88 = .ok (.iconst 0, 1) := by decide +kernel
theorem dX10_line_89 : decode cX10_line 89 = .ok (.dup2, 1) := by decide +kernel
theorem dX10_line_90 : decode cX10_line 90 = .ok (.iaload, 1) := by decide +kernel
theorem dX10_line_91 : decode cX10_line 91 = .ok (.iconst 1, 1) := by decide +kernel
theorem dX10_line_92 : decode cX10_line 92 = .ok (.iadd, 1) := by decide +kernel
theorem dX10_line_93 : decode cX10_line 93 = .ok (.iastore, 1) := by decide +kernel
theorem dX10_line_94 : decode cX10_line 94 = .ok (.iload_n 3, 1) := by decide +kernel
theorem dX10_line_95 : decode cX10_line 95 = .ok (.ireturn, 1) := by decide +kernel
theorem dX10_speed_0 : decode cX10_speed 0 = .ok (.aload_n 0, 1) := by decide +kernel
theorem dX10_speed_1 : decode cX10_speed 1 = .ok (.iload_n 1, 1) := by decide +kernel
theorem dX10_speed_2 : decode cX10_speed 2 = .ok (.invokevirtual 53, 3) := by decide +kernel
theorem dX10_speed_5 : decode cX10_speed 5 = .ok (.ifCond .eq 16, 3) := by decide +kernel
theorem dX10_speed_8 : decode cX10_speed 8 = .ok (.iload_n 2, 1) := by decide +kernel
theorem dX10_speed_9 : decode cX10_speed 9 = .ok (.sipush 1400, 3) := by decide +kernel
theorem dX10_speed_12 : decode cX10_speed 12 = .ok (.sipush 1600, 3) := by decide +kernel
theorem dX10_speed_15 : decode cX10_speed 15 = .ok (.invokestatic 46, 3) := by decide +kernel
theorem dX10_speed_18 : decode cX10_speed 18 = .ok (.ifCond .ne 5, 3) := by decide +kernel
theorem dX10_speed_21 : decode cX10_speed 21 = .ok (.iconst 0, 1) := by decide +kernel
theorem dX10_speed_22 : decode cX10_speed 22 = .ok (.ireturn, 1) := by decide +kernel
theorem dX10_speed_23 : decode cX10_speed 23 = .ok (.aload_n 0, 1) := by decide +kernel
theorem dX10_speed_24 : decode cX10_speed 24 = .ok (.invokevirtual 50, 3) := by decide +kernel
theorem dX10_speed_27 : decode cX10_speed 27 = .ok (.aload_n 0, 1) := by decide +kernel
theorem dX10_speed_28 : decode cX10_speed 28 = .ok (.getfield 7, 3) := by decide +kernel
theorem dX10_speed_31 : decode cX10_speed 31 = .ok (.iconst 4, 1) := by decide +kernel
theorem dX10_speed_32 : decode cX10_speed 32 = .ok (.iconst 3, 1) := by decide +kernel
theorem dX10_speed_33 : decode cX10_speed 33 = .ok (.iload_n 1, 1) := by decide +kernel
theorem dX10_speed_34 : decode cX10_speed 34 = .ok (.imul, 1) := by decide +kernel
theorem dX10_speed_35 : decode cX10_speed 35 = .ok (.iadd, 1) := by decide +kernel
theorem dX10_speed_36 : decode cX10_speed 36 = .ok (.iconst 1, 1) := by decide +kernel
theorem dX10_speed_37 : decode cX10_speed 37 = .ok (.iadd, 1) := by decide +kernel
theorem dX10_speed_38 : decode cX10_speed 38 = .ok (.iload_n 2, 1) := by decide +kernel
theorem dX10_speed_39 : decode cX10_speed 39 = .ok (.iastore, 1) := by decide +kernel
theorem dX10_speed_40 : decode cX10_speed 40 = .ok (.iconst 1, 1) := by decide +kernel
theorem dX10_speed_41 : decode cX10_speed 41 = .ok (.ireturn, 1) := by decide +kernel
theorem dX10_shift_0 : decode cX10_shift 0 = .ok (.aload_n 0, 1) := by decide +kernel
theorem dX10_shift_1 : decode cX10_shift 1 = .ok (.iload_n 1, 1) := by decide +kernel
theorem dX10_shift_2 : decode cX10_shift 2 = .ok (.invokevirtual 53, 3) := by decide +kernel
theorem dX10_shift_5 : decode cX10_shift 5 = .ok (.ifCond .eq 14, 3) := by decide +kernel
theorem dX10_shift_8 : decode cX10_shift 8 = .ok (.iload_n 2, 1) := by decide +kernel
theorem dX10_shift_9 : decode cX10_shift 9 = .ok (.bipush (-50), 2) := by decide +kernel
theorem dX10_shift_11 : decode cX10_shift 11 = .ok (.bipush 50, 2) := by decide +kernel
theorem dX10_shift_13 : decode cX10_shift 13 = .ok (.invokestatic 46, 3) := by decide +kernel
theorem dX10_shift_16 : decode cX10_shift 16 = .ok (.ifCond .ne 5, 3) := by decide +kernel
theorem dX10_shift_19 : decode cX10_shift 19 = .ok (.iconst 0, 1) := by decide +kernel
theorem dX10_shift_20 : decode cX10_shift 20 = .ok (.ireturn, 1) := by decide +kernel
theorem dX10_shift_21 : decode cX10_shift 21 = .ok (.aload_n 0, 1) := by decide +kernel
theorem dX10_shift_22 : decode cX10_shift 22 = .ok (.invokevirtual 50, 3) := by decide +kernel
theorem dX10_shift_25 : decode cX10_shift 25 = .ok (.aload_n 0, 1) := by decide +kernel
theorem dX10_shift_26 : decode cX10_shift 26 = .ok (.getfield 7, 3) := by decide +kernel
theorem dX10_shift_29 : decode cX10_shift 29 = .ok (.iconst 4, 1) := by decide +kernel
theorem dX10_shift_30 : decode cX10_shift 30 = .ok (.iconst 3, 1) := by decide +kernel
theorem dX10_shift_31 : decode cX10_shift 31 = .ok (.iload_n 1, 1) := by decide +kernel
theorem dX10_shift_32 : decode cX10_shift 32 = .ok (.imul, 1) := by decide +kernel
theorem dX10_shift_33 : decode cX10_shift 33 = .ok (.iadd, 1) := by decide +kernel
theorem dX10_shift_34 : decode cX10_shift 34 = .ok (.iconst 2, 1) := by decide +kernel
theorem dX10_shift_35 : decode cX10_shift 35 = .ok (.iadd, 1) := by decide +kernel
theorem dX10_shift_36 : decode cX10_shift 36 = .ok (.iload_n 2, 1) := by decide +kernel
theorem dX10_shift_37 : decode cX10_shift 37 = .ok (.iastore, 1) := by decide +kernel
theorem dX10_shift_38 : decode cX10_shift 38 = .ok (.iconst 1, 1) := by decide +kernel
theorem dX10_shift_39 : decode cX10_shift 39 = .ok (.ireturn, 1) := by decide +kernel
theorem dX10_tide_0 : decode cX10_tide 0 = .ok (.iload_n 1, 1) := by decide +kernel
theorem dX10_tide_1 : decode cX10_tide 1 = .ok (.iconst 0, 1) := by decide +kernel
theorem dX10_tide_2 : decode cX10_tide 2 = .ok (.bipush 99, 2) := by decide +kernel
theorem dX10_tide_4 : decode cX10_tide 4 = .ok (.invokestatic 46, 3) := by decide +kernel
theorem dX10_tide_7 : decode cX10_tide 7 = .ok (.ifCond .eq 26, 3) := by decide +kernel
theorem dX10_tide_10 : decode cX10_tide 10 = .ok (.iload_n 2, 1) := by decide +kernel
theorem dX10_tide_11 : decode cX10_tide 11 = .ok (.iconst 0, 1) := by decide +kernel
theorem dX10_tide_12 : decode cX10_tide 12 = .ok (.sipush 1439, 3) := by decide +kernel
theorem dX10_tide_15 : decode cX10_tide 15 = .ok (.invokestatic 46, 3) := by decide +kernel
theorem dX10_tide_18 : decode cX10_tide 18 = .ok (.ifCond .eq 15, 3) := by decide +kernel
theorem dX10_tide_21 : decode cX10_tide 21 = .ok (.iload_n 3, 1) := by decide +kernel
theorem dX10_tide_22 : decode cX10_tide 22 = .ok (.bipush (-100), 2) := by decide +kernel
theorem dX10_tide_24 : decode cX10_tide 24 = .ok (.sipush 200, 3) := by decide +kernel
theorem dX10_tide_27 : decode cX10_tide 27 = .ok (.invokestatic 46, 3) := by decide +kernel
theorem dX10_tide_30 : decode cX10_tide 30 = .ok (.ifCond .ne 5, 3) := by decide +kernel
theorem dX10_tide_33 : decode cX10_tide 33 = .ok (.iconst (-1), 1) := by decide +kernel
theorem dX10_tide_34 : decode cX10_tide 34 = .ok (.ireturn, 1) := by decide +kernel
theorem dX10_tide_35 : decode cX10_tide 35 = .ok (.bipush 64, 2) := by decide +kernel
theorem dX10_tide_37 : decode cX10_tide 37 = .ok (.bipush 25, 2) := by decide +kernel
theorem dX10_tide_39 : decode cX10_tide 39 = .ok (.iload_n 1, 1) := by decide +kernel
theorem dX10_tide_40 : decode cX10_tide 40 = .ok (.imul, 1) := by decide +kernel
theorem dX10_tide_41 : decode cX10_tide 41 = .ok (.iadd, 1) := by decide +kernel
theorem dX10_tide_42 : decode cX10_tide 42 = .ok (.istore 4, 2) := by decide +kernel
theorem dX10_tide_44 : decode cX10_tide 44 = .ok (.iconst 0, 1) := by decide +kernel
theorem dX10_tide_45 : decode cX10_tide 45 = .ok (.istore 5, 2) := by decide +kernel
theorem dX10_tide_47 : decode cX10_tide 47 = .ok (.iload 5, 2) := by decide +kernel
theorem dX10_tide_49 : decode cX10_tide 49 = .ok (.aload_n 0, 1) := by decide +kernel
theorem dX10_tide_50 : decode cX10_tide 50 = .ok (.getfield 7, 3) := by decide +kernel
theorem dX10_tide_53 : decode cX10_tide 53 = .ok (.iload 4, 2) := by decide +kernel
theorem dX10_tide_55 : decode cX10_tide 55 = .ok (.iaload, 1) := by decide +kernel
theorem dX10_tide_56 : decode cX10_tide 56 = .ok (.if_icmp .ge 27, 3) := by decide +kernel
theorem dX10_tide_59 : decode cX10_tide 59 = .ok (.aload_n 0, 1) := by decide +kernel
theorem dX10_tide_60 : decode cX10_tide 60 = .ok (.getfield 7, 3) := by decide +kernel
theorem dX10_tide_63 : decode cX10_tide 63 = .ok (.iload 4, 2) := by decide +kernel
theorem dX10_tide_65 : decode cX10_tide 65 = .ok (.iconst 1, 1) := by decide +kernel
theorem dX10_tide_66 : decode cX10_tide 66 = .ok (.iadd, 1) := by decide +kernel
theorem dX10_tide_67 : decode cX10_tide 67 = .ok (.iconst 2, 1) := by decide +kernel
theorem dX10_tide_68 : decode cX10_tide 68 = .ok (.iload 5, 2) := by decide +kernel
theorem dX10_tide_70 : decode cX10_tide 70 = .ok (.imul, 1) := by decide +kernel
theorem dX10_tide_71 : decode cX10_tide 71 = .ok (.iadd, 1) := by decide +kernel
theorem dX10_tide_72 : decode cX10_tide 72 = .ok (.iaload, 1) := by decide +kernel
theorem dX10_tide_73 : decode cX10_tide 73 = .ok (.iload_n 2, 1) := by decide +kernel
theorem dX10_tide_74 : decode cX10_tide 74 = .ok (.if_icmp .eq 9, 3) := by decide +kernel
theorem dX10_tide_77 : decode cX10_tide 77 = .ok (.iinc 5 1, 3) := by decide +kernel
theorem dX10_tide_80 : decode cX10_tide 80 = .ok (.goto (-33), 3) := by decide +kernel
theorem dX10_tide_83 : decode cX10_tide 83 = .ok (.iload 5, 2) := by decide +kernel
theorem dX10_tide_85 : decode cX10_tide 85 = .ok (.bipush 12, 2) := by decide +kernel
theorem dX10_tide_87 : decode cX10_tide 87 = .ok (.if_icmp .ne 5, 3) := by decide +kernel
theorem dX10_tide_90 : decode cX10_tide 90 = .ok (.iconst (-1), 1) := by decide +kernel
theorem dX10_tide_91 : decode cX10_tide 91 = .ok (.ireturn, 1) := by decide +kernel
theorem dX10_tide_92 : decode cX10_tide 92 = .ok (.aload_n 0, 1) := by decide +kernel
theorem dX10_tide_93 : decode cX10_tide 93 = .ok (.invokevirtual 50, 3) := by decide +kernel
theorem dX10_tide_96 : decode cX10_tide 96 = .ok (.aload_n 0, 1) := by decide +kernel
theorem dX10_tide_97 : decode cX10_tide 97 = .ok (.getfield 7, 3) := by decide +kernel
theorem dX10_tide_100 : decode cX10_tide 100 = .ok (.iload 4, 2) := by decide +kernel
theorem dX10_tide_102 : decode cX10_tide 102 = .ok (.iconst 1, 1) := by decide +kernel
theorem dX10_tide_103 : decode cX10_tide 103 = .ok (.iadd, 1) := by decide +kernel
theorem dX10_tide_104 : decode cX10_tide 104 = .ok (.iconst 2, 1) := by decide +kernel
theorem dX10_tide_105 : decode cX10_tide 105 = .ok (.iload 5, 2) := by decide +kernel
theorem dX10_tide_107 : decode cX10_tide 107 = .ok (.imul, 1) := by decide +kernel
theorem dX10_tide_108 : decode cX10_tide 108 = .ok (.iadd, 1) := by decide +kernel
theorem dX10_tide_109 : decode cX10_tide 109 = .ok (.iload_n 2, 1) := by decide +kernel
theorem dX10_tide_110 : decode cX10_tide 110 = .ok (.iastore, 1) := by decide +kernel
theorem dX10_tide_111 : decode cX10_tide 111 = .ok (.aload_n 0, 1) := by decide +kernel
theorem dX10_tide_112 : decode cX10_tide 112 = .ok (.getfield 7, 3) := by decide +kernel
theorem dX10_tide_115 : decode cX10_tide 115 = .ok (.iload 4, 2) := by decide +kernel
theorem dX10_tide_117 : decode cX10_tide 117 = .ok (.iconst 2, 1) := by decide +kernel
theorem dX10_tide_118 : decode cX10_tide 118 = .ok (.iadd, 1) := by decide +kernel
theorem dX10_tide_119 : decode cX10_tide 119 = .ok (.iconst 2, 1) := by decide +kernel
theorem dX10_tide_120 : decode cX10_tide 120 = .ok (.iload 5, 2) := by decide +kernel
theorem dX10_tide_122 : decode cX10_tide 122 = .ok (.imul, 1) := by decide +kernel
theorem dX10_tide_123 : decode cX10_tide 123 = .ok (.iadd, 1) := by decide +kernel
theorem dX10_tide_124 : decode cX10_tide 124 = .ok (.iload_n 3, 1) := by decide +kernel
theorem dX10_tide_125 : decode cX10_tide 125 = .ok (.iastore, 1) := by decide +kernel
theorem dX10_tide_126 : decode cX10_tide 126 = .ok (.iload 5, 2) := by decide +kernel
theorem dX10_tide_128 : decode cX10_tide 128 = .ok (.aload_n 0, 1) := by decide +kernel
theorem dX10_tide_129 : decode cX10_tide 129 = .ok (.getfield 7, 3) := by decide +kernel
theorem dX10_tide_132 : decode cX10_tide 132 = .ok (.iload 4, 2) := by decide +kernel
theorem dX10_tide_134 : decode cX10_tide 134 = .ok (.iaload, 1) := by decide +kernel
theorem dX10_tide_135 : decode cX10_tide 135 = .ok (.if_icmp .ne 14, 3) := by decide +kernel
theorem dX10_tide_138 : decode cX10_tide 138 = .ok (.aload_n 0, 1) := by decide +kernel
theorem dX10_tide_139 : decode cX10_tide 139 = .ok (.getfield 7, 3) := by decide +kernel
theorem dX10_tide_142 : decode cX10_tide 142 = .ok (.iload 4, 2) := by decide +kernel
theorem dX10_tide_144 : decode cX10_tide 144 = .ok (.dup2, 1) := by decide +kernel
theorem dX10_tide_145 : decode cX10_tide 145 = .ok (.iaload, 1) := by decide +kernel
theorem dX10_tide_146 : decode cX10_tide 146 = .ok (.iconst 1, 1) := by decide +kernel
theorem dX10_tide_147 : decode cX10_tide 147 = .ok (.iadd, 1) := by decide +kernel
theorem dX10_tide_148 : decode cX10_tide 148 = .ok (.iastore, 1) := by decide +kernel
theorem dX10_tide_149 : decode cX10_tide 149 = .ok (.aload_n 0, 1) := by decide +kernel
theorem dX10_tide_150 : decode cX10_tide 150 = .ok (.getfield 7, 3) := by decide +kernel
theorem dX10_tide_153 : decode cX10_tide 153 = .ok (.iload 4, 2) := by decide +kernel
theorem dX10_tide_155 : decode cX10_tide 155 = .ok (.iaload, 1) := by decide +kernel
theorem dX10_tide_156 : decode cX10_tide 156 = .ok (.ireturn, 1) := by decide +kernel
theorem dX10_tideAt_0 : decode cX10_tideAt 0 = .ok (.bipush 64, 2) := by decide +kernel
theorem dX10_tideAt_2 : decode cX10_tideAt 2 = .ok (.bipush 25, 2) := by decide +kernel
theorem dX10_tideAt_4 : decode cX10_tideAt 4 = .ok (.iload_n 1, 1) := by decide +kernel
theorem dX10_tideAt_5 : decode cX10_tideAt 5 = .ok (.imul, 1) := by decide +kernel
theorem dX10_tideAt_6 : decode cX10_tideAt 6 = .ok (.iadd, 1) := by decide +kernel
theorem dX10_tideAt_7 : decode cX10_tideAt 7 = .ok (.istore_n 3, 1) := by decide +kernel
theorem dX10_tideAt_8 : decode cX10_tideAt 8 = .ok (.iconst (-1), 1) := by decide +kernel
theorem dX10_tideAt_9 : decode cX10_tideAt 9 = .ok (.istore 4, 2) := by decide +kernel
theorem dX10_tideAt_11 : decode cX10_tideAt 11 = .ok (.iconst (-1), 1) := by decide +kernel
theorem dX10_tideAt_12 : decode cX10_tideAt 12 = .ok (.istore 5, 2) := by decide +kernel
theorem dX10_tideAt_14 : decode cX10_tideAt 14 = .ok (.iconst 0, 1) := by decide +kernel
theorem dX10_tideAt_15 : decode cX10_tideAt 15 = .ok (.istore 6, 2) := by decide +kernel
theorem dX10_tideAt_17 : decode cX10_tideAt 17 = .ok (.iload 6, 2) := by decide +kernel
theorem dX10_tideAt_19 : decode cX10_tideAt 19 = .ok (.aload_n 0, 1) := by decide +kernel
theorem dX10_tideAt_20 : decode cX10_tideAt 20 = .ok (.getfield 7, 3) := by decide +kernel
theorem dX10_tideAt_23 : decode cX10_tideAt 23 = .ok (.iload_n 3, 1) := by decide +kernel
theorem dX10_tideAt_24 : decode cX10_tideAt 24 = .ok (.iaload, 1) := by decide +kernel
theorem dX10_tideAt_25 : decode cX10_tideAt 25 = .ok (.if_icmp .ge 90, 3) := by decide +kernel
theorem dX10_tideAt_28 : decode cX10_tideAt 28 = .ok (.aload_n 0, 1) := by decide +kernel
theorem dX10_tideAt_29 : decode cX10_tideAt 29 = .ok (.getfield 7, 3) := by decide +kernel
theorem dX10_tideAt_32 : decode cX10_tideAt 32 = .ok (.iload_n 3, 1) := by decide +kernel
theorem dX10_tideAt_33 : decode cX10_tideAt 33 = .ok (.iconst 1, 1) := by decide +kernel
theorem dX10_tideAt_34 : decode cX10_tideAt 34 = .ok (.iadd, 1) := by decide +kernel
theorem dX10_tideAt_35 : decode cX10_tideAt 35 = .ok (.iconst 2, 1) := by decide +kernel
theorem dX10_tideAt_36 : decode cX10_tideAt 36 = .ok (.iload 6, 2) := by decide +kernel
theorem dX10_tideAt_38 : decode cX10_tideAt 38 = .ok (.imul, 1) := by decide +kernel
theorem dX10_tideAt_39 : decode cX10_tideAt 39 = .ok (.iadd, 1) := by decide +kernel
theorem dX10_tideAt_40 : decode cX10_tideAt 40 = .ok (.iaload, 1) := by decide +kernel
theorem dX10_tideAt_41 : decode cX10_tideAt 41 = .ok (.istore 7, 2) := by decide +kernel
theorem dX10_tideAt_43 : decode cX10_tideAt 43 = .ok (.iload 7, 2) := by decide +kernel
theorem dX10_tideAt_45 : decode cX10_tideAt 45 = .ok (.iload_n 2, 1) := by decide +kernel
theorem dX10_tideAt_46 : decode cX10_tideAt 46 = .ok (.if_icmp .gt 30, 3) := by decide +kernel
theorem dX10_tideAt_49 : decode cX10_tideAt 49 = .ok (.iload 4, 2) := by decide +kernel
theorem dX10_tideAt_51 : decode cX10_tideAt 51 = .ok (.ifCond .lt 21, 3) := by decide +kernel
theorem dX10_tideAt_54 : decode cX10_tideAt 54 = .ok (.iload 7, 2) := by decide +kernel
theorem dX10_tideAt_56 : decode cX10_tideAt 56 = .ok (.aload_n 0, 1) := by decide +kernel
theorem dX10_tideAt_57 : decode cX10_tideAt 57 = .ok (.getfield 7, 3) := by decide +kernel
theorem dX10_tideAt_60 : decode cX10_tideAt 60 = .ok (.iload_n 3, 1) := by decide +kernel
theorem dX10_tideAt_61 : decode cX10_tideAt 61 = .ok (.iconst 1, 1) := by decide +kernel
theorem dX10_tideAt_62 : decode cX10_tideAt 62 = .ok (.iadd, 1) := by decide +kernel
theorem dX10_tideAt_63 : decode cX10_tideAt 63 = .ok (.iconst 2, 1) := by decide +kernel
theorem dX10_tideAt_64 : decode cX10_tideAt 64 = .ok (.iload 4, 2) := by decide +kernel
theorem dX10_tideAt_66 : decode cX10_tideAt 66 = .ok (.imul, 1) := by decide +kernel
theorem dX10_tideAt_67 : decode cX10_tideAt 67 = .ok (.iadd, 1) := by decide +kernel
theorem dX10_tideAt_68 : decode cX10_tideAt 68 = .ok (.iaload, 1) := by decide +kernel
theorem dX10_tideAt_69 : decode cX10_tideAt 69 = .ok (.if_icmp .le 7, 3) := by decide +kernel
theorem dX10_tideAt_72 : decode cX10_tideAt 72 = .ok (.iload 6, 2) := by decide +kernel
theorem dX10_tideAt_74 : decode cX10_tideAt 74 = .ok (.istore 4, 2) := by decide +kernel
theorem dX10_tideAt_76 : decode cX10_tideAt 76 = .ok (.iload 7, 2) := by decide +kernel
theorem dX10_tideAt_78 : decode cX10_tideAt 78 = .ok (.iload_n 2, 1) := by decide +kernel
theorem dX10_tideAt_79 : decode cX10_tideAt 79 = .ok (.if_icmp .lt 30, 3) := by decide +kernel
theorem dX10_tideAt_82 : decode cX10_tideAt 82 = .ok (.iload 5, 2) := by decide +kernel
theorem dX10_tideAt_84 : decode cX10_tideAt 84 = .ok (.ifCond .lt 21, 3) := by decide +kernel
theorem dX10_tideAt_87 : decode cX10_tideAt 87 = .ok (.iload 7, 2) := by decide +kernel
theorem dX10_tideAt_89 : decode cX10_tideAt 89 = .ok (.aload_n 0, 1) := by decide +kernel
theorem dX10_tideAt_90 : decode cX10_tideAt 90 = .ok (.getfield 7, 3) := by decide +kernel
theorem dX10_tideAt_93 : decode cX10_tideAt 93 = .ok (.iload_n 3, 1) := by decide +kernel
theorem dX10_tideAt_94 : decode cX10_tideAt 94 = .ok (.iconst 1, 1) := by decide +kernel
theorem dX10_tideAt_95 : decode cX10_tideAt 95 = .ok (.iadd, 1) := by decide +kernel
theorem dX10_tideAt_96 : decode cX10_tideAt 96 = .ok (.iconst 2, 1) := by decide +kernel
theorem dX10_tideAt_97 : decode cX10_tideAt 97 = .ok (.iload 5, 2) := by decide +kernel
theorem dX10_tideAt_99 : decode cX10_tideAt 99 = .ok (.imul, 1) := by decide +kernel
theorem dX10_tideAt_100 : decode cX10_tideAt 100 = .ok (.iadd, 1) := by decide +kernel
theorem dX10_tideAt_101 : decode cX10_tideAt 101 = .ok (.iaload, 1) := by decide +kernel
theorem dX10_tideAt_102 : decode cX10_tideAt 102 = .ok (.if_icmp .ge 7, 3) := by decide +kernel
theorem dX10_tideAt_105 : decode cX10_tideAt 105 = .ok (.iload 6, 2) := by decide +kernel
theorem dX10_tideAt_107 : decode cX10_tideAt 107 = .ok (.istore 5, 2) := by decide +kernel
theorem dX10_tideAt_109 : decode cX10_tideAt 109 = .ok (.iinc 6 1, 3) := by decide +kernel
theorem dX10_tideAt_112 : decode cX10_tideAt 112 = .ok (.goto (-95), 3) := by decide +kernel
theorem dX10_tideAt_115 : decode cX10_tideAt 115 = .ok (.iload 4, 2) := by decide +kernel
theorem dX10_tideAt_117 : decode cX10_tideAt 117 = .ok (.ifCond .lt 8, 3) := by decide +kernel
theorem dX10_tideAt_120 : decode cX10_tideAt 120 = .ok (.iload 5, 2) := by decide +kernel
theorem dX10_tideAt_122 : decode cX10_tideAt 122 = .ok (.ifCond .ge 5, 3) := by decide +kernel
theorem dX10_tideAt_125 : decode cX10_tideAt 125 = .ok (.iconst 0, 1) := by decide +kernel
theorem dX10_tideAt_126 : decode cX10_tideAt 126 = .ok (.ireturn, 1) := by decide +kernel
theorem dX10_tideAt_127 : decode cX10_tideAt 127 = .ok (.aload_n 0, 1) := by decide +kernel
theorem dX10_tideAt_128 : decode cX10_tideAt 128 = .ok (.getfield 7, 3) := by decide +kernel
theorem dX10_tideAt_131 : decode cX10_tideAt 131 = .ok (.iload_n 3, 1) := by decide +kernel
theorem dX10_tideAt_132 : decode cX10_tideAt 132 = .ok (.iconst 2, 1) := by decide +kernel
theorem dX10_tideAt_133 : decode cX10_tideAt 133 = .ok (.iadd, 1) := by decide +kernel
theorem dX10_tideAt_134 : decode cX10_tideAt 134 = .ok (.iconst 2, 1) := by decide +kernel
theorem dX10_tideAt_135 : decode cX10_tideAt 135 = .ok (.iload 4, 2) := by decide +kernel
theorem dX10_tideAt_137 : decode cX10_tideAt 137 = .ok (.imul, 1) := by decide +kernel
theorem dX10_tideAt_138 : decode cX10_tideAt 138 = .ok (.iadd, 1) := by decide +kernel
theorem dX10_tideAt_139 : decode cX10_tideAt 139 = .ok (.iaload, 1) := by decide +kernel
theorem dX10_tideAt_140 : decode cX10_tideAt 140 = .ok (.i2l, 1) := by decide +kernel
theorem dX10_tideAt_141 : decode cX10_tideAt 141 = .ok (.lstore 6, 2) := by decide +kernel
theorem dX10_tideAt_143 : decode cX10_tideAt 143 = .ok (.aload_n 0, 1) := by decide +kernel
theorem dX10_tideAt_144 : decode cX10_tideAt 144 = .ok (.getfield 7, 3) := by decide +kernel
theorem dX10_tideAt_147 : decode cX10_tideAt 147 = .ok (.iload_n 3, 1) := by decide +kernel
theorem dX10_tideAt_148 : decode cX10_tideAt 148 = .ok (.iconst 2, 1) := by decide +kernel
theorem dX10_tideAt_149 : decode cX10_tideAt 149 = .ok (.iadd, 1) := by decide +kernel
theorem dX10_tideAt_150 : decode cX10_tideAt 150 = .ok (.iconst 2, 1) := by decide +kernel
theorem dX10_tideAt_151 : decode cX10_tideAt 151 = .ok (.iload 5, 2) := by decide +kernel
theorem dX10_tideAt_153 : decode cX10_tideAt 153 = .ok (.imul, 1) := by decide +kernel
theorem dX10_tideAt_154 : decode cX10_tideAt 154 = .ok (.iadd, 1) := by decide +kernel
theorem dX10_tideAt_155 : decode cX10_tideAt 155 = .ok (.iaload, 1) := by decide +kernel
theorem dX10_tideAt_156 : decode cX10_tideAt 156 = .ok (.i2l, 1) := by decide +kernel
theorem dX10_tideAt_157 : decode cX10_tideAt 157 = .ok (.lstore 8, 2) := by decide +kernel
theorem dX10_tideAt_159 : decode cX10_tideAt 159 = .ok (.aload_n 0, 1) := by decide +kernel
theorem dX10_tideAt_160 : decode cX10_tideAt 160 = .ok (.getfield 7, 3) := by decide +kernel
theorem dX10_tideAt_163 : decode cX10_tideAt 163 = .ok (.iload_n 3, 1) := by decide +kernel
theorem dX10_tideAt_164 : decode cX10_tideAt 164 = .ok (.iconst 1, 1) := by decide +kernel
theorem dX10_tideAt_165 : decode cX10_tideAt 165 = .ok (.iadd, 1) := by decide +kernel
theorem dX10_tideAt_166 : decode cX10_tideAt 166 = .ok (.iconst 2, 1) := by decide +kernel
theorem dX10_tideAt_167 : decode cX10_tideAt 167 = .ok (.iload 4, 2) := by decide +kernel
theorem dX10_tideAt_169 : decode cX10_tideAt 169 = .ok (.imul, 1) := by decide +kernel
theorem dX10_tideAt_170 : decode cX10_tideAt 170 = .ok (.iadd, 1) := by decide +kernel
theorem dX10_tideAt_171 : decode cX10_tideAt 171 = .ok (.iaload, 1) := by decide +kernel
theorem dX10_tideAt_172 : decode cX10_tideAt 172 = .ok (.i2l, 1) := by decide +kernel
theorem dX10_tideAt_173 : decode cX10_tideAt 173 = .ok (.lstore 10, 2) := by decide +kernel
theorem dX10_tideAt_175 : decode cX10_tideAt 175 = .ok (.aload_n 0, 1) := by decide +kernel
theorem dX10_tideAt_176 : decode cX10_tideAt 176 = .ok (.getfield 7, 3) := by decide +kernel
theorem dX10_tideAt_179 : decode cX10_tideAt 179 = .ok (.iload_n 3, 1) := by decide +kernel
theorem dX10_tideAt_180 : decode cX10_tideAt 180 = .ok (.iconst 1, 1) := by decide +kernel
theorem dX10_tideAt_181 : decode cX10_tideAt 181 = .ok (.iadd, 1) := by decide +kernel
theorem dX10_tideAt_182 : decode cX10_tideAt 182 = .ok (.iconst 2, 1) := by decide +kernel
theorem dX10_tideAt_183 : decode cX10_tideAt 183 = .ok (.iload 5, 2) := by decide +kernel
theorem dX10_tideAt_185 : decode cX10_tideAt 185 = .ok (.imul, 1) := by decide +kernel
theorem dX10_tideAt_186 : decode cX10_tideAt 186 = .ok (.iadd, 1) := by decide +kernel
theorem dX10_tideAt_187 : decode cX10_tideAt 187 = .ok (.iaload, 1) := by decide +kernel
theorem dX10_tideAt_188 : decode cX10_tideAt 188 = .ok (.i2l, 1) := by decide +kernel
theorem dX10_tideAt_189 : decode cX10_tideAt 189 = .ok (.lstore 12, 2) := by decide +kernel
theorem dX10_tideAt_191 : decode cX10_tideAt 191 = .ok (.aload_n 0, 1) := by decide +kernel
theorem dX10_tideAt_192 : decode cX10_tideAt 192 = .ok (.lload 10, 2) := by decide +kernel
theorem dX10_tideAt_194 : decode cX10_tideAt 194 = .ok (.lload 12, 2) := by decide +kernel
theorem dX10_tideAt_196 : decode cX10_tideAt 196 = .ok (.lcmp, 1) := by decide +kernel
theorem dX10_tideAt_197 : decode cX10_tideAt 197 = .ok (.ifCond .ne 7, 3) := by decide +kernel
theorem dX10_tideAt_200 : decode cX10_tideAt 200 = .ok (.lconst 1, 1) := by decide +kernel
theorem dX10_tideAt_201 : decode cX10_tideAt 201 = .ok (.goto 8, 3) := by decide +kernel
theorem dX10_tideAt_204 : decode cX10_tideAt 204 = .ok (.lload 12, 2) := by decide +kernel
theorem dX10_tideAt_206 : decode cX10_tideAt 206 = .ok (.lload 10, 2) := by decide +kernel
theorem dX10_tideAt_208 : decode cX10_tideAt 208 = .ok (.lsub, 1) := by decide +kernel
theorem dX10_tideAt_209 : decode cX10_tideAt 209 = .ok (.putfield 57, 3) := by decide +kernel
theorem dX10_tideAt_212 : decode cX10_tideAt 212 = .ok (.aload_n 0, 1) := by decide +kernel
theorem dX10_tideAt_213 : decode cX10_tideAt 213 = .ok (.lload 6, 2) := by decide +kernel
theorem dX10_tideAt_215 : decode cX10_tideAt 215 = .ok (.aload_n 0, 1) := by decide +kernel
theorem dX10_tideAt_216 : decode cX10_tideAt 216 = .ok (.getfield 57, 3) := by decide +kernel
theorem dX10_tideAt_219 : decode cX10_tideAt 219 = .ok (.lmul, 1) := by decide +kernel
theorem dX10_tideAt_220 : decode cX10_tideAt 220 = .ok (.lload 8, 2) := by decide +kernel
theorem dX10_tideAt_222 : decode cX10_tideAt 222 = .ok (.lload 6, 2) := by decide +kernel
theorem dX10_tideAt_224 : decode cX10_tideAt 224 = .ok (.lsub, 1) := by decide +kernel
theorem dX10_tideAt_225 : decode cX10_tideAt 225 = .ok (.iload_n 2, 1) := by decide +kernel
theorem dX10_tideAt_226 : decode cX10_tideAt 226 = .ok (.i2l, 1) := by decide +kernel
theorem dX10_tideAt_227 : decode cX10_tideAt 227 = .ok (.lload 10, 2) := by decide +kernel
theorem dX10_tideAt_229 : decode cX10_tideAt 229 = .ok (.lsub, 1) := by decide +kernel
theorem dX10_tideAt_230 : decode cX10_tideAt 230 = .ok (.lmul, 1) := by decide +kernel
theorem dX10_tideAt_231 : decode cX10_tideAt 231 = .ok (.ladd, 1) := by decide +kernel
theorem dX10_tideAt_232 : decode cX10_tideAt 232 = .ok (.putfield 61, 3) := by decide +kernel
theorem dX10_tideAt_235 : decode cX10_tideAt 235 = .ok (.iconst 1, 1) := by decide +kernel
theorem dX10_tideAt_236 : decode cX10_tideAt 236 = .ok (.ireturn, 1) := by decide +kernel
theorem dX10_below_0 : decode cX10_below 0 = .ok (.lload_n 0, 1) := by decide +kernel
theorem dX10_below_1 : decode cX10_below 1 = .ok (.lload_n 2, 1) := by decide +kernel
theorem dX10_below_2 : decode cX10_below 2 = .ok (.ldiv, 1) := by decide +kernel
theorem dX10_below_3 : decode cX10_below 3 = .ok (.lstore 4, 2) := by decide +kernel
theorem dX10_below_5 : decode cX10_below 5 = .ok (.lload_n 0, 1) := by decide +kernel
theorem dX10_below_6 : decode cX10_below 6 = .ok (.lload_n 2, 1) := by decide +kernel
theorem dX10_below_7 : decode cX10_below 7 = .ok (.lrem, 1) := by decide +kernel
theorem dX10_below_8 : decode cX10_below 8 = .ok (.lconst 0, 1) := by decide +kernel
theorem dX10_below_9 : decode cX10_below 9 = .ok (.lcmp, 1) := by decide +kernel
theorem dX10_below_10 : decode cX10_below 10 = .ok (.ifCond .ge 10, 3) := by decide +kernel
theorem dX10_below_13 : decode cX10_below 13 = .ok (.lload 4, 2) := by decide +kernel
theorem dX10_below_15 : decode cX10_below 15 = .ok (.lconst 1, 1) := by decide +kernel
theorem dX10_below_16 : decode cX10_below 16 = .ok (.lsub, 1) := by decide +kernel
theorem dX10_below_17 : decode cX10_below 17 = .ok (.goto 5, 3) := by decide +kernel
theorem dX10_below_20 : decode cX10_below 20 = .ok (.lload 4, 2) := by decide +kernel
theorem dX10_below_22 : decode cX10_below 22 = .ok (.lreturn, 1) := by decide +kernel
theorem dX10_water_0 : decode cX10_water 0 = .ok (.iload_n 1, 1) := by decide +kernel
theorem dX10_water_1 : decode cX10_water 1 = .ok (.iconst 0, 1) := by decide +kernel
theorem dX10_water_2 : decode cX10_water 2 = .ok (.bipush 99, 2) := by decide +kernel
theorem dX10_water_4 : decode cX10_water 4 = .ok (.invokestatic 46, 3) := by decide +kernel
theorem dX10_water_7 : decode cX10_water 7 = .ok (.ifCond .eq 34, 3) := by decide +kernel
theorem dX10_water_10 : decode cX10_water 10 = .ok (.iload_n 2, 1) := by decide +kernel
theorem dX10_water_11 : decode cX10_water 11 = .ok (.iconst 0, 1) := by decide +kernel
theorem dX10_water_12 : decode cX10_water 12 = .ok (.sipush 1439, 3) := by decide +kernel
theorem dX10_water_15 : decode cX10_water 15 = .ok (.invokestatic 46, 3) := by decide +kernel
theorem dX10_water_18 : decode cX10_water 18 = .ok (.ifCond .eq 23, 3) := by decide +kernel
theorem dX10_water_21 : decode cX10_water 21 = .ok (.iload_n 3, 1) := by decide +kernel
theorem dX10_water_22 : decode cX10_water 22 = .ok (.iconst 1, 1) := by decide +kernel
theorem dX10_water_23 : decode cX10_water 23 = .ok (.sipush 1439, 3) := by decide +kernel
theorem dX10_water_26 : decode cX10_water 26 = .ok (.invokestatic 46, 3) := by decide +kernel
theorem dX10_water_29 : decode cX10_water 29 = .ok (.ifCond .eq 12, 3) := by decide +kernel
theorem dX10_water_32 : decode cX10_water 32 = .ok (.aload_n 0, 1) := by decide +kernel
theorem dX10_water_33 : decode cX10_water 33 = .ok (.iload_n 1, 1) := by decide +kernel
theorem dX10_water_34 : decode cX10_water 34 = .ok (.iload_n 2, 1) := by decide +kernel
theorem dX10_water_35 : decode cX10_water 35 = .ok (.invokevirtual 64, 3) := by decide +kernel
theorem dX10_water_38 : decode cX10_water 38 = .ok (.ifCond .ne 7, 3) := by decide +kernel
theorem dX10_water_41 : decode cX10_water 41 = .ok (.sipush (-30000), 3) := by decide +kernel
theorem dX10_water_44 : decode cX10_water 44 = .ok (.ireturn, 1) := by decide +kernel
theorem dX10_water_45 : decode cX10_water 45 = .ok (.aload_n 0, 1) := by decide +kernel
theorem dX10_water_46 : decode cX10_water 46 = .ok (.getfield 61, 3) := by decide +kernel
theorem dX10_water_49 : decode cX10_water 49 = .ok (.iload_n 3, 1) := by decide +kernel
theorem dX10_water_50 : decode cX10_water 50 = .ok (.i2l, 1) := by decide +kernel
theorem dX10_water_51 : decode cX10_water 51 = .ok (.lmul, 1) := by decide +kernel
theorem dX10_water_52 : decode cX10_water 52 = .ok (.aload_n 0, 1) := by decide +kernel
theorem dX10_water_53 : decode cX10_water 53 = .ok (.getfield 57, 3) := by decide +kernel
theorem dX10_water_56 : decode cX10_water 56 = .ok (.invokestatic 68, 3) := by decide +kernel
theorem dX10_water_59 : decode cX10_water 59 = .ok (.l2i, 1) := by decide +kernel
theorem dX10_water_60 : decode cX10_water 60 = .ok (.ireturn, 1) := by decide +kernel
theorem dX10_isSounding_0 : decode cX10_isSounding 0 = .ok (.iload_n 1, 1) := by decide +kernel
theorem dX10_isSounding_1 : decode cX10_isSounding 1 = .ok (.iconst 0, 1) := by decide +kernel
theorem dX10_isSounding_2 : decode cX10_isSounding 2 = .ok (.aload_n 0, 1) := by decide +kernel
theorem dX10_isSounding_3 : decode cX10_isSounding 3 = .ok (.getfield 7, 3) := by decide +kernel
theorem dX10_isSounding_6 : decode cX10_isSounding 6 = .ok (.iconst 1, 1) := by decide +kernel
theorem dX10_isSounding_7 : decode cX10_isSounding 7 = .ok (.iaload, 1) := by decide +kernel
theorem dX10_isSounding_8 : decode cX10_isSounding 8 = .ok (.iconst 1, 1) := by decide +kernel
theorem dX10_isSounding_9 : decode cX10_isSounding 9 = .ok (.isub, 1) := by decide +kernel
theorem dX10_isSounding_10 : decode cX10_isSounding 10 = .ok (.invokestatic 46, 3) := by decide +kernel
theorem dX10_isSounding_13 : decode cX10_isSounding 13 = .ok (.ireturn, 1) := by decide +kernel
theorem dX10_of_0 : decode cX10_of 0 = .ok (.aload_n 0, 1) := by decide +kernel
theorem dX10_of_1 : decode cX10_of 1 = .ok (.getfield 7, 3) := by decide +kernel
theorem dX10_of_4 : decode cX10_of 4 = .ok (.sipush 2564, 3) := by decide +kernel
theorem dX10_of_7 : decode cX10_of 7 = .ok (.bipush 10, 2) := by decide +kernel
theorem dX10_of_9 : decode cX10_of 9 = .ok (.iload_n 1, 1) := by decide +kernel
theorem dX10_of_10 : decode cX10_of 10 = .ok (.imul, 1) := by decide +kernel
theorem dX10_of_11 : decode cX10_of 11 = .ok (.iadd, 1) := by decide +kernel
theorem dX10_of_12 : decode cX10_of 12 = .ok (.iload_n 2, 1) := by decide +kernel
theorem dX10_of_13 : decode cX10_of 13 = .ok (.iadd, 1) := by decide +kernel
theorem dX10_of_14 : decode cX10_of 14 = .ok (.iaload, 1) := by decide +kernel
theorem dX10_of_15 : decode cX10_of 15 = .ok (.ireturn, 1) := by decide +kernel
theorem dX10_add_0 : decode cX10_add 0 = .ok (.aload_n 0, 1) := by decide +kernel
theorem dX10_add_1 : decode cX10_add 1 = .ok (.invokevirtual 50, 3) := by decide +kernel
theorem dX10_add_4 : decode cX10_add 4 = .ok (.aload_n 0, 1) := by decide +kernel
theorem dX10_add_5 : decode cX10_add 5 = .ok (.getfield 7, 3) := by decide +kernel
theorem dX10_add_8 : decode cX10_add 8 = .ok (.iconst 1, 1) := by decide +kernel
theorem dX10_add_9 : decode cX10_add 9 = .ok (.iaload, 1) := by decide +kernel
theorem dX10_add_10 : decode cX10_add 10 = .ok (.istore 10, 2) := by decide +kernel
theorem dX10_add_12 : decode cX10_add 12 = .ok (.sipush 2564, 3) := by decide +kernel
theorem dX10_add_15 : decode cX10_add 15 = .ok (.bipush 10, 2) := by decide +kernel
theorem dX10_add_17 : decode cX10_add 17 = .ok (.iload 10, 2) := by decide +kernel
theorem dX10_add_19 : decode cX10_add 19 = .ok (.imul, 1) := by decide +kernel
theorem dX10_add_20 : decode cX10_add 20 = .ok (.iadd, 1) := by decide +kernel
theorem dX10_add_21 : decode cX10_add 21 = .ok (.istore 11, 2) := by decide +kernel
theorem dX10_add_23 : decode cX10_add 23 = .ok (.aload_n 0, 1) := by decide +kernel
theorem dX10_add_24 : decode cX10_add 24 = .ok (.getfield 7, 3) := by decide +kernel
theorem dX10_add_27 : decode cX10_add 27 = .ok (.iload 11, 2) := by decide +kernel
theorem dX10_add_29 : decode cX10_add 29 = .ok (.iload_n 1, 1) := by decide +kernel
theorem dX10_add_30 : decode cX10_add 30 = .ok (.iastore, 1) := by decide +kernel
theorem dX10_add_31 : decode cX10_add 31 = .ok (.aload_n 0, 1) := by decide +kernel
theorem dX10_add_32 : decode cX10_add 32 = .ok (.getfield 7, 3) := by decide +kernel
theorem dX10_add_35 : decode cX10_add 35 = .ok (.iload 11, 2) := by decide +kernel
theorem dX10_add_37 : decode cX10_add 37 = .ok (.iconst 1, 1) := by decide +kernel
theorem dX10_add_38 : decode cX10_add 38 = .ok (.iadd, 1) := by decide +kernel
theorem dX10_add_39 : decode cX10_add 39 = .ok (.iload_n 2, 1) := by decide +kernel
theorem dX10_add_40 : decode cX10_add 40 = .ok (.iastore, 1) := by decide +kernel
theorem dX10_add_41 : decode cX10_add 41 = .ok (.aload_n 0, 1) := by decide +kernel
theorem dX10_add_42 : decode cX10_add 42 = .ok (.getfield 7, 3) := by decide +kernel
theorem dX10_add_45 : decode cX10_add 45 = .ok (.iload 11, 2) := by decide +kernel
theorem dX10_add_47 : decode cX10_add 47 = .ok (.iconst 2, 1) := by decide +kernel
theorem dX10_add_48 : decode cX10_add 48 = .ok (.iadd, 1) := by decide +kernel
theorem dX10_add_49 : decode cX10_add 49 = .ok (.iload_n 3, 1) := by decide +kernel
theorem dX10_add_50 : decode cX10_add 50 = .ok (.iastore, 1) := by decide +kernel
theorem dX10_add_51 : decode cX10_add 51 = .ok (.aload_n 0, 1) := by decide +kernel
theorem dX10_add_52 : decode cX10_add 52 = .ok (.getfield 7, 3) := by decide +kernel
theorem dX10_add_55 : decode cX10_add 55 = .ok (.iload 11, 2) := by decide +kernel
theorem dX10_add_57 : decode cX10_add 57 = .ok (.iconst 3, 1) := by decide +kernel
theorem dX10_add_58 : decode cX10_add 58 = .ok (.iadd, 1) := by decide +kernel
theorem dX10_add_59 : decode cX10_add 59 = .ok (.iload 4, 2) := by decide +kernel
theorem dX10_add_61 : decode cX10_add 61 = .ok (.iastore, 1) := by decide +kernel
theorem dX10_add_62 : decode cX10_add 62 = .ok (.aload_n 0, 1) := by decide +kernel
theorem dX10_add_63 : decode cX10_add 63 = .ok (.getfield 7, 3) := by decide +kernel
theorem dX10_add_66 : decode cX10_add 66 = .ok (.iload 11, 2) := by decide +kernel
theorem dX10_add_68 : decode cX10_add 68 = .ok (.iconst 4, 1) := by decide +kernel
theorem dX10_add_69 : decode cX10_add 69 = .ok (.iadd, 1) := by decide +kernel
theorem dX10_add_70 : decode cX10_add 70 = .ok (.iload 5, 2) := by decide +kernel
theorem dX10_add_72 : decode cX10_add 72 = .ok (.iastore, 1) := by decide +kernel
theorem dX10_add_73 : decode cX10_add 73 = .ok (.aload_n 0, 1) := by decide +kernel
theorem dX10_add_74 : decode cX10_add 74 = .ok (.getfield 7, 3) := by decide +kernel
theorem dX10_add_77 : decode cX10_add 77 = .ok (.iload 11, 2) := by decide +kernel
theorem dX10_add_79 : decode cX10_add 79 = .ok (.iconst 5, 1) := by decide +kernel
theorem dX10_add_80 : decode cX10_add 80 = .ok (.iadd, 1) := by decide +kernel
theorem dX10_add_81 : decode cX10_add 81 = .ok (.iload 6, 2) := by decide +kernel
theorem dX10_add_83 : decode cX10_add 83 = .ok (.iastore, 1) := by decide +kernel
theorem dX10_add_84 : decode cX10_add 84 = .ok (.aload_n 0, 1) := by decide +kernel
theorem dX10_add_85 : decode cX10_add 85 = .ok (.getfield 7, 3) := by decide +kernel
theorem dX10_add_88 : decode cX10_add 88 = .ok (.iload 11, 2) := by decide +kernel
theorem dX10_add_90 : decode cX10_add 90 = .ok (.bipush 6, 2) := by decide +kernel
theorem dX10_add_92 : decode cX10_add 92 = .ok (.iadd, 1) := by decide +kernel
theorem dX10_add_93 : decode cX10_add 93 = .ok (.iload 7, 2) := by decide +kernel
theorem dX10_add_95 : decode cX10_add 95 = .ok (.iastore, 1) := by decide +kernel
theorem dX10_add_96 : decode cX10_add 96 = .ok (.aload_n 0, 1) := by decide +kernel
theorem dX10_add_97 : decode cX10_add 97 = .ok (.getfield 7, 3) := by decide +kernel
theorem dX10_add_100 : decode cX10_add 100 = .ok (.iload 11, 2) := by decide +kernel
theorem dX10_add_102 : decode cX10_add 102 = .ok (.bipush 7, 2) := by decide +kernel
theorem dX10_add_104 : decode cX10_add 104 = .ok (.iadd, 1) := by decide +kernel
theorem dX10_add_105 : decode cX10_add 105 = .ok (.bipush 100, 2) := by decide +kernel
theorem dX10_add_107 : decode cX10_add 107 = .ok (.iastore, 1) := by decide +kernel
theorem dX10_add_108 : decode cX10_add 108 = .ok (.aload_n 0, 1) := by decide +kernel
theorem dX10_add_109 : decode cX10_add 109 = .ok (.getfield 7, 3) := by decide +kernel
theorem dX10_add_112 : decode cX10_add 112 = .ok (.iload 11, 2) := by decide +kernel
theorem dX10_add_114 : decode cX10_add 114 = .ok (.bipush 8, 2) := by decide +kernel
theorem dX10_add_116 : decode cX10_add 116 = .ok (.iadd, 1) := by decide +kernel
theorem dX10_add_117 : decode cX10_add 117 = .ok (.iload 8, 2) := by decide +kernel
theorem dX10_add_119 : decode cX10_add 119 = .ok (.iastore, 1) := by decide +kernel
theorem dX10_add_120 : decode cX10_add 120 = .ok (.aload_n 0, 1) := by decide +kernel
theorem dX10_add_121 : decode cX10_add 121 = .ok (.getfield 7, 3) := by decide +kernel
theorem dX10_add_124 : decode cX10_add 124 = .ok (.iload 11, 2) := by decide +kernel
theorem dX10_add_126 : decode cX10_add 126 = .ok (.bipush 9, 2) := by decide +kernel
theorem dX10_add_128 : decode cX10_add 128 = .ok (.iadd, 1) := by decide +kernel
theorem dX10_add_129 : decode cX10_add 129 = .ok (.iload 9, 2) := by decide +kernel
theorem dX10_add_131 : decode cX10_add 131 = .ok (.iastore, 1) := by decide +kernel
theorem dX10_add_132 : decode cX10_add 132 = .ok (.aload_n 0, 1) := by decide +kernel
theorem dX10_add_133 : decode cX10_add 133 = .ok (.getfield 7, 3) := by decide +kernel
theorem dX10_add_136 : decode cX10_add 136 = .ok (.iconst 1, 1) := by decide +kernel
theorem dX10_add_137 : decode cX10_add 137 = .ok (.dup2, 1) := by decide +kernel
theorem dX10_add_138 : decode cX10_add 138 = .ok (.iaload, 1) := by decide +kernel
theorem dX10_add_139 : decode cX10_add 139 = .ok (.iconst 1, 1) := by decide +kernel
theorem dX10_add_140 : decode cX10_add 140 = .ok (.iadd, 1) := by decide +kernel
theorem dX10_add_141 : decode cX10_add 141 = .ok (.iastore, 1) := by decide +kernel
theorem dX10_add_142 : decode cX10_add 142 = .ok (.iload 10, 2) := by decide +kernel
theorem dX10_add_144 : decode cX10_add 144 = .ok (.ireturn, 1) := by decide +kernel
theorem dX10_isPlace_0 : decode cX10_isPlace 0 = .ok (.iload_n 1, 1) := by decide +kernel
theorem dX10_isPlace_1 : decode cX10_isPlace 1 = .ok (.iconst 0, 1) := by decide +kernel
theorem dX10_isPlace_2 : decode cX10_isPlace 2 = .ok (.sipush 255, 3) := by decide +kernel
theorem dX10_isPlace_5 : decode cX10_isPlace 5 = .ok (.invokestatic 46, 3) := by decide +kernel
theorem dX10_isPlace_8 : decode cX10_isPlace 8 = .ok (.ifCond .eq 18, 3) := by decide +kernel
theorem dX10_isPlace_11 : decode cX10_isPlace 11 = .ok (.iload_n 2, 1) := by decide +kernel
theorem dX10_isPlace_12 : decode cX10_isPlace 12 = .ok (.iconst 0, 1) := by decide +kernel
theorem dX10_isPlace_13 : decode cX10_isPlace 13 = .ok (.sipush 255, 3) := by decide +kernel
theorem dX10_isPlace_16 : decode cX10_isPlace 16 = .ok (.invokestatic 46, 3) := by decide +kernel
theorem dX10_isPlace_19 : decode cX10_isPlace 19 = .ok (.ifCond .eq 7, 3) := by decide +kernel
theorem dX10_isPlace_22 : decode cX10_isPlace 22 = .ok (.iconst 1, 1) := by decide +kernel
theorem dX10_isPlace_23 : decode cX10_isPlace 23 = .ok (.goto 4, 3) := by decide +kernel
theorem dX10_isPlace_26 : decode cX10_isPlace 26 = .ok (.iconst 0, 1) := by decide +kernel
theorem dX10_isPlace_27 : decode cX10_isPlace 27 = .ok (.ireturn, 1) := by decide +kernel
theorem dX10_mayBe_0 : decode cX10_mayBe 0 = .ok (.aload_n 0, 1) := by decide +kernel
theorem dX10_mayBe_1 : decode cX10_mayBe 1 = .ok (.iload_n 1, 1) := by decide +kernel
theorem dX10_mayBe_2 : decode cX10_mayBe 2 = .ok (.invokevirtual 53, 3) := by decide +kernel
theorem dX10_mayBe_5 : decode cX10_mayBe 5 = .ok (.ifCond .eq 40, 3) := by decide +kernel
theorem dX10_mayBe_8 : decode cX10_mayBe 8 = .ok (.iload_n 2, 1) := by decide +kernel
theorem dX10_mayBe_9 : decode cX10_mayBe 9 = .ok (.iconst 0, 1) := by decide +kernel
theorem dX10_mayBe_10 : decode cX10_mayBe 10 = .ok (.sipush 1439, 3) := by decide +kernel
theorem dX10_mayBe_13 : decode cX10_mayBe 13 = .ok (.invokestatic 46, 3) := by decide +kernel
theorem dX10_mayBe_16 : decode cX10_mayBe 16 = .ok (.ifCond .eq 29, 3) := by decide +kernel
theorem dX10_mayBe_19 : decode cX10_mayBe 19 = .ok (.aload_n 0, 1) := by decide +kernel
theorem dX10_mayBe_20 : decode cX10_mayBe 20 = .ok (.iload_n 3, 1) := by decide +kernel
theorem dX10_mayBe_21 : decode cX10_mayBe 21 = .ok (.iload 4, 2) := by decide +kernel
theorem dX10_mayBe_23 : decode cX10_mayBe 23 = .ok (.invokevirtual 72, 3) := by decide +kernel
theorem dX10_mayBe_26 : decode cX10_mayBe 26 = .ok (.ifCond .eq 19, 3) := by decide +kernel
theorem dX10_mayBe_29 : decode cX10_mayBe 29 = .ok (.aload_n 0, 1) := by decide +kernel
theorem dX10_mayBe_30 : decode cX10_mayBe 30 = .ok (.getfield 7, 3) := by decide +kernel
theorem dX10_mayBe_33 : decode cX10_mayBe 33 = .ok (.iconst 1, 1) := by decide +kernel
theorem dX10_mayBe_34 : decode cX10_mayBe 34 = .ok (.iaload, 1) := by decide +kernel
theorem dX10_mayBe_35 : decode cX10_mayBe 35 = .ok (.sipush 200, 3) := by decide +kernel
theorem dX10_mayBe_38 : decode cX10_mayBe 38 = .ok (.if_icmp .ge 7, 3) := by decide +kernel
theorem dX10_mayBe_41 : decode cX10_mayBe 41 = .ok (.iconst 1, 1) := by decide +kernel
theorem dX10_mayBe_42 : decode cX10_mayBe 42 = .ok (.goto 4, 3) := by decide +kernel
theorem dX10_mayBe_45 : decode cX10_mayBe 45 = .ok (.iconst 0, 1) := by decide +kernel
theorem dX10_mayBe_46 : decode cX10_mayBe 46 = .ok (.ireturn, 1) := by decide +kernel
theorem dX10_lead_0 : decode cX10_lead 0 = .ok (.aload_n 0, 1) := by decide +kernel
theorem dX10_lead_1 : decode cX10_lead 1 = .ok (.iload_n 1, 1) := by decide +kernel
theorem dX10_lead_2 : decode cX10_lead 2 = .ok (.iload_n 2, 1) := by decide +kernel
theorem dX10_lead_3 : decode cX10_lead 3 = .ok (.iload_n 3, 1) := by decide +kernel
theorem dX10_lead_4 : decode cX10_lead 4 = .ok (.iload 4, 2) := by decide +kernel
theorem dX10_lead_6 : decode cX10_lead 6 = .ok (.invokevirtual 75, 3) := by decide +kernel
theorem dX10_lead_9 : decode cX10_lead 9 = .ok (.ifCond .eq 15, 3) := by decide +kernel
theorem dX10_lead_12 : decode cX10_lead 12 = .ok (.iload 5, 2) := by decide +kernel
theorem dX10_lead_14 : decode cX10_lead 14 = .ok (.iconst 0, 1) := by decide +kernel
theorem dX10_lead_15 : decode cX10_lead 15 = .ok (.sipush 9999, 3) := by decide +kernel
theorem dX10_lead_18 : decode cX10_lead 18 = .ok (.invokestatic 46, 3) := by decide +kernel
theorem dX10_lead_21 : decode cX10_lead 21 = .ok (.ifCond .ne 5, 3) := by decide +kernel
theorem dX10_lead_24 : decode cX10_lead 24 = .ok (.iconst (-1), 1) := by decide +kernel
theorem dX10_lead_25 : decode cX10_lead 25 = .ok (.ireturn, 1) := by decide +kernel
theorem dX10_lead_26 : decode cX10_lead 26 = .ok (.aload_n 0, 1) := by decide +kernel
theorem dX10_lead_27 : decode cX10_lead 27 = .ok (.iconst 0, 1) := by decide +kernel
theorem dX10_lead_28 : decode cX10_lead 28 = .ok (.iload_n 3, 1) := by decide +kernel
theorem dX10_lead_29 : decode cX10_lead 29 = .ok (.iload 4, 2) := by decide +kernel
theorem dX10_lead_31 : decode cX10_lead 31 = .ok (.iload 5, 2) := by decide +kernel
theorem dX10_lead_33 : decode cX10_lead 33 = .ok (.aload_n 0, 1) := by decide +kernel
theorem dX10_lead_34 : decode cX10_lead 34 = .ok (.iload_n 1, 1) := by decide +kernel
theorem dX10_lead_35 : decode cX10_lead 35 = .ok (.iconst 0, 1) := by decide +kernel
theorem dX10_lead_36 : decode cX10_lead 36 = .ok (.invokevirtual 79, 3) := by decide +kernel
theorem dX10_lead_39 : decode cX10_lead 39 = .ok (.iload_n 1, 1) := by decide +kernel
theorem dX10_lead_40 : decode cX10_lead 40 = .ok (.iload_n 2, 1) := by decide +kernel
theorem dX10_lead_41 : decode cX10_lead 41 = .ok (.iconst 1, 1) := by decide +kernel
theorem dX10_lead_42 : decode cX10_lead 42 = .ok (.iconst 1, 1) := by decide +kernel
theorem dX10_lead_43 : decode cX10_lead 43 = .ok (.invokevirtual 83, 3) := by decide +kernel
theorem dX10_lead_46 : decode cX10_lead 46 = .ok (.ireturn, 1) := by decide +kernel
theorem dX10_cut_0 : decode cX10_cut 0 = .ok (.iload_n 0, 1) := by decide +kernel
theorem dX10_cut_1 : decode cX10_cut 1 = .ok (.bipush 23, 2) := by decide +kernel
theorem dX10_cut_3 : decode cX10_cut 3 = .ok (.iushr, 1) := by decide +kernel
theorem dX10_cut_4 : decode cX10_cut 4 = .ok (.sipush 255, 3) := by decide +kernel
theorem dX10_cut_7 : decode cX10_cut 7 = .ok (.iand, 1) := by decide +kernel
theorem dX10_cut_8 : decode cX10_cut 8 = .ok (.istore_n 1, 1) := by decide +kernel
theorem dX10_cut_9 : decode cX10_cut 9 = .ok (.iload_n 1, 1) := by decide +kernel
theorem dX10_cut_10 : decode cX10_cut 10 = .ok (.bipush 127, 2) := by decide +kernel
theorem dX10_cut_12 : decode cX10_cut 12 = .ok (.if_icmp .ge 5, 3) := by decide +kernel
theorem dX10_cut_15 : decode cX10_cut 15 = .ok (.iconst 0, 1) := by decide +kernel
theorem dX10_cut_16 : decode cX10_cut 16 = .ok (.ireturn, 1) := by decide +kernel
theorem dX10_cut_17 : decode cX10_cut 17 = .ok (.iload_n 0, 1) := by decide +kernel
theorem dX10_cut_18 : decode cX10_cut 18 = .ok (.ifCond .lt 10, 3) := by decide +kernel
theorem dX10_cut_21 : decode cX10_cut 21 = .ok (.iload_n 1, 1) := by decide +kernel
theorem dX10_cut_22 : decode cX10_cut 22 = .ok (.sipush 150, 3) := by decide +kernel
theorem dX10_cut_25 : decode cX10_cut 25 = .ok (.if_icmp .le 5, 3) := by decide +kernel
theorem dX10_cut_28 : decode cX10_cut 28 = .ok (.iconst (-1), 1) := by decide +kernel
theorem dX10_cut_29 : decode cX10_cut 29 = .ok (.ireturn, 1) := by decide +kernel
theorem dX10_cut_30 : decode cX10_cut 30 = .ok (.iload_n 0, 1) := by decide +kernel
theorem dX10_cut_31 : decode cX10_cut 31 = .ok (.ldc 87, 2) := by decide +kernel
theorem dX10_cut_33 : decode cX10_cut 33 = .ok (.iand, 1) := by decide +kernel
theorem dX10_cut_34 : decode cX10_cut 34 = .ok (.ldc 88, 2) := by decide +kernel
theorem dX10_cut_36 : decode cX10_cut 36 = .ok (.ior, 1) := by decide +kernel
theorem dX10_cut_37 : decode cX10_cut 37 = .ok (.sipush 150, 3) := by decide +kernel
theorem dX10_cut_40 : decode cX10_cut 40 = .ok (.iload_n 1, 1) := by decide +kernel
theorem dX10_cut_41 : decode cX10_cut 41 = .ok (.isub, 1) := by decide +kernel
theorem dX10_cut_42 : decode cX10_cut 42 = .ok (.ishr, 1) := by decide +kernel
theorem dX10_cut_43 : decode cX10_cut 43 = .ok (.ireturn, 1) := by decide +kernel
theorem dX10_echo_0 : decode cX10_echo 0 = .ok (.iload 5, 2) := by decide +kernel
theorem dX10_echo_2 : decode cX10_echo 2 = .ok (.invokestatic 89, 3) := by decide +kernel
theorem dX10_echo_5 : decode cX10_echo 5 = .ok (.istore 6, 2) := by decide +kernel
theorem dX10_echo_7 : decode cX10_echo 7 = .ok (.aload_n 0, 1) := by decide +kernel
theorem dX10_echo_8 : decode cX10_echo 8 = .ok (.iload_n 1, 1) := by decide +kernel
theorem dX10_echo_9 : decode cX10_echo 9 = .ok (.iload_n 2, 1) := by decide +kernel
theorem dX10_echo_10 : decode cX10_echo 10 = .ok (.iload_n 3, 1) := by decide +kernel
theorem dX10_echo_11 : decode cX10_echo 11 = .ok (.iload 4, 2) := by decide +kernel
theorem dX10_echo_13 : decode cX10_echo 13 = .ok (.invokevirtual 75, 3) := by decide +kernel
theorem dX10_echo_16 : decode cX10_echo 16 = .ok (.ifCond .eq 15, 3) := by decide +kernel
theorem dX10_echo_19 : decode cX10_echo 19 = .ok (.iload 6, 2) := by decide +kernel
theorem dX10_echo_21 : decode cX10_echo 21 = .ok (.iconst 0, 1) := by decide +kernel
theorem dX10_echo_22 : decode cX10_echo 22 = .ok (.sipush 19999, 3) := by decide +kernel
theorem dX10_echo_25 : decode cX10_echo 25 = .ok (.invokestatic 46, 3) := by decide +kernel
theorem dX10_echo_28 : decode cX10_echo 28 = .ok (.ifCond .ne 5, 3) := by decide +kernel
theorem dX10_echo_31 : decode cX10_echo 31 = .ok (.iconst (-1), 1) := by decide +kernel
theorem dX10_echo_32 : decode cX10_echo 32 = .ok (.ireturn, 1) := by decide +kernel
theorem dX10_echo_33 : decode cX10_echo 33 = .ok (.aload_n 0, 1) := by decide +kernel
theorem dX10_echo_34 : decode cX10_echo 34 = .ok (.iconst 1, 1) := by decide +kernel
theorem dX10_echo_35 : decode cX10_echo 35 = .ok (.iload_n 3, 1) := by decide +kernel
theorem dX10_echo_36 : decode cX10_echo 36 = .ok (.iload 4, 2) := by decide +kernel
theorem dX10_echo_38 : decode cX10_echo 38 = .ok (.iload 6, 2) := by decide +kernel
theorem dX10_echo_40 : decode cX10_echo 40 = .ok (.aload_n 0, 1) := by decide +kernel
theorem dX10_echo_41 : decode cX10_echo 41 = .ok (.iload_n 1, 1) := by decide +kernel
theorem dX10_echo_42 : decode cX10_echo 42 = .ok (.iconst 0, 1) := by decide +kernel
theorem dX10_echo_43 : decode cX10_echo 43 = .ok (.invokevirtual 79, 3) := by decide +kernel
theorem dX10_echo_46 : decode cX10_echo 46 = .ok (.iload_n 1, 1) := by decide +kernel
theorem dX10_echo_47 : decode cX10_echo 47 = .ok (.iload_n 2, 1) := by decide +kernel
theorem dX10_echo_48 : decode cX10_echo 48 = .ok (.iconst 1, 1) := by decide +kernel
theorem dX10_echo_49 : decode cX10_echo 49 = .ok (.iconst 1, 1) := by decide +kernel
theorem dX10_echo_50 : decode cX10_echo 50 = .ok (.invokevirtual 83, 3) := by decide +kernel
theorem dX10_echo_53 : decode cX10_echo 53 = .ok (.ireturn, 1) := by decide +kernel
theorem dX10_sweep_0 : decode cX10_sweep 0 = .ok (.aload_n 0, 1) := by decide +kernel
theorem dX10_sweep_1 : decode cX10_sweep 1 = .ok (.iload_n 1, 1) := by decide +kernel
theorem dX10_sweep_2 : decode cX10_sweep 2 = .ok (.iload_n 2, 1) := by decide +kernel
theorem dX10_sweep_3 : decode cX10_sweep 3 = .ok (.iload_n 3, 1) := by decide +kernel
theorem dX10_sweep_4 : decode cX10_sweep 4 = .ok (.iload 4, 2) := by decide +kernel
theorem dX10_sweep_6 : decode cX10_sweep 6 = .ok (.invokevirtual 75, 3) := by decide +kernel
theorem dX10_sweep_9 : decode cX10_sweep 9 = .ok (.ifCond .eq 44, 3) := by decide +kernel
theorem dX10_sweep_12 : decode cX10_sweep 12 = .ok (.iload 5, 2) := by decide +kernel
theorem dX10_sweep_14 : decode cX10_sweep 14 = .ok (.iconst 1, 1) := by decide +kernel
theorem dX10_sweep_15 : decode cX10_sweep 15 = .ok (.sipush 256, 3) := by decide +kernel
theorem dX10_sweep_18 : decode cX10_sweep 18 = .ok (.iload_n 3, 1) := by decide +kernel
theorem dX10_sweep_19 : decode cX10_sweep 19 = .ok (.isub, 1) := by decide +kernel
theorem dX10_sweep_20 : decode cX10_sweep 20 = .ok (.invokestatic 46, 3) := by decide +kernel
theorem dX10_sweep_23 : decode cX10_sweep 23 = .ok (.ifCond .eq 30, 3) := by decide +kernel
theorem dX10_sweep_26 : decode cX10_sweep 26 = .ok (.iload 6, 2) := by decide +kernel
theorem dX10_sweep_28 : decode cX10_sweep 28 = .ok (.iconst 1, 1) := by decide +kernel
theorem dX10_sweep_29 : decode cX10_sweep 29 = .ok (.sipush 256, 3) := by decide +kernel
theorem dX10_sweep_32 : decode cX10_sweep 32 = .ok (.iload 4, 2) := by decide +kernel
theorem dX10_sweep_34 : decode cX10_sweep 34 = .ok (.isub, 1) := by decide +kernel
theorem dX10_sweep_35 : decode cX10_sweep 35 = .ok (.invokestatic 46, 3) := by decide +kernel
theorem dX10_sweep_38 : decode cX10_sweep 38 = .ok (.ifCond .eq 15, 3) := by decide +kernel
theorem dX10_sweep_41 : decode cX10_sweep 41 = .ok (.iload 7, 2) := by decide +kernel
theorem dX10_sweep_43 : decode cX10_sweep 43 = .ok (.iconst 0, 1) := by decide +kernel
theorem dX10_sweep_44 : decode cX10_sweep 44 = .ok (.sipush 9999, 3) := by decide +kernel
theorem dX10_sweep_47 : decode cX10_sweep 47 = .ok (.invokestatic 46, 3) := by decide +kernel
theorem dX10_sweep_50 : decode cX10_sweep 50 = .ok (.ifCond .ne 5, 3) := by decide +kernel
theorem dX10_sweep_53 : decode cX10_sweep 53 = .ok (.iconst (-1), 1) := by decide +kernel
theorem dX10_sweep_54 : decode cX10_sweep 54 = .ok (.ireturn, 1) := by decide +kernel
theorem dX10_sweep_55 : decode cX10_sweep 55 = .ok (.aload_n 0, 1) := by decide +kernel
theorem dX10_sweep_56 : decode cX10_sweep 56 = .ok (.iconst 2, 1) := by decide +kernel
theorem dX10_sweep_57 : decode cX10_sweep 57 = .ok (.iload_n 3, 1) := by decide +kernel
theorem dX10_sweep_58 : decode cX10_sweep 58 = .ok (.iload 4, 2) := by decide +kernel
theorem dX10_sweep_60 : decode cX10_sweep 60 = .ok (.iload 7, 2) := by decide +kernel
theorem dX10_sweep_62 : decode cX10_sweep 62 = .ok (.aload_n 0, 1) := by decide +kernel
theorem dX10_sweep_63 : decode cX10_sweep 63 = .ok (.iload_n 1, 1) := by decide +kernel
theorem dX10_sweep_64 : decode cX10_sweep 64 = .ok (.iconst 0, 1) := by decide +kernel
theorem dX10_sweep_65 : decode cX10_sweep 65 = .ok (.invokevirtual 79, 3) := by decide +kernel
theorem dX10_sweep_68 : decode cX10_sweep 68 = .ok (.iload_n 1, 1) := by decide +kernel
theorem dX10_sweep_69 : decode cX10_sweep 69 = .ok (.iload_n 2, 1) := by decide +kernel
theorem dX10_sweep_70 : decode cX10_sweep 70 = .ok (.iload 5, 2) := by decide +kernel
theorem dX10_sweep_72 : decode cX10_sweep 72 = .ok (.iload 6, 2) := by decide +kernel
theorem dX10_sweep_74 : decode cX10_sweep 74 = .ok (.invokevirtual 83, 3) := by decide +kernel
theorem dX10_sweep_77 : decode cX10_sweep 77 = .ok (.ireturn, 1) := by decide +kernel
theorem dX10_notice_0 : decode cX10_notice 0 = .ok (.iload_n 1, 1) := by decide +kernel
theorem dX10_notice_1 : decode cX10_notice 1 = .ok (.iconst 3, 1) := by decide +kernel
theorem dX10_notice_2 : decode cX10_notice 2 = .ok (.iconst 5, 1) := by decide +kernel
theorem dX10_notice_3 : decode cX10_notice 3 = .ok (.invokestatic 46, 3) := by decide +kernel
theorem dX10_notice_6 : decode cX10_notice 6 = .ok (.ifCond .eq 35, 3) := by decide +kernel
theorem dX10_notice_9 : decode cX10_notice 9 = .ok (.iload_n 2, 1) := by decide +kernel
theorem dX10_notice_10 : decode cX10_notice 10 = .ok (.iconst 0, 1) := by decide +kernel
theorem dX10_notice_11 : decode cX10_notice 11 = .ok (.bipush 99, 2) := by decide +kernel
theorem dX10_notice_13 : decode cX10_notice 13 = .ok (.invokestatic 46, 3) := by decide +kernel
theorem dX10_notice_16 : decode cX10_notice 16 = .ok (.ifCond .eq 25, 3) := by decide +kernel
theorem dX10_notice_19 : decode cX10_notice 19 = .ok (.aload_n 0, 1) := by decide +kernel
theorem dX10_notice_20 : decode cX10_notice 20 = .ok (.iload_n 3, 1) := by decide +kernel
theorem dX10_notice_21 : decode cX10_notice 21 = .ok (.iload 4, 2) := by decide +kernel
theorem dX10_notice_23 : decode cX10_notice 23 = .ok (.invokevirtual 72, 3) := by decide +kernel
theorem dX10_notice_26 : decode cX10_notice 26 = .ok (.ifCond .eq 15, 3) := by decide +kernel
theorem dX10_notice_29 : decode cX10_notice 29 = .ok (.aload_n 0, 1) := by decide +kernel
theorem dX10_notice_30 : decode cX10_notice 30 = .ok (.getfield 7, 3) := by decide +kernel
theorem dX10_notice_33 : decode cX10_notice 33 = .ok (.iconst 1, 1) := by decide +kernel
theorem dX10_notice_34 : decode cX10_notice 34 = .ok (.iaload, 1) := by decide +kernel
theorem dX10_notice_35 : decode cX10_notice 35 = .ok (.sipush 200, 3) := by decide +kernel
theorem dX10_notice_38 : decode cX10_notice 38 = .ok (.if_icmp .ne 5, 3) := by decide +kernel
theorem dX10_notice_41 : decode cX10_notice 41 = .ok (.iconst (-1), 1) := by decide +kernel
theorem dX10_notice_42 : decode cX10_notice 42 = .ok (.ireturn, 1) := by decide +kernel
theorem dX10_notice_43 : decode cX10_notice 43 = .ok (.iload_n 1, 1) := by decide +kernel
theorem dX10_notice_44 : decode cX10_notice 44 = .ok (.iconst 4, 1) := by decide +kernel
theorem dX10_notice_45 : decode cX10_notice 45 = .ok (.if_icmp .ne 18, 3) := by decide +kernel
theorem dX10_notice_48 : decode cX10_notice 48 = .ok (.iload 5, 2) := by decide +kernel
theorem dX10_notice_50 : decode cX10_notice 50 = .ok (.sipush (-200), 3) := by decide +kernel
theorem dX10_notice_53 : decode cX10_notice 53 = .ok (.iconst (-1), 1) := by decide +kernel
theorem dX10_notice_54 : decode cX10_notice 54 = .ok (.invokestatic 46, 3) := by decide +kernel
theorem dX10_notice_57 : decode cX10_notice 57 = .ok (.ifCond .ne 20, 3) := by decide +kernel
theorem dX10_notice_60 : decode cX10_notice 60 = .ok (.goto 15, 3) := by decide +kernel
theorem dX10_notice_63 : decode cX10_notice 63 = .ok (.iload 5, 2) := by decide +kernel
theorem dX10_notice_65 : decode cX10_notice 65 = .ok (.iconst 0, 1) := by decide +kernel
theorem dX10_notice_66 : decode cX10_notice 66 = .ok (.sipush 9999, 3) := by decide +kernel
theorem dX10_notice_69 : decode cX10_notice 69 = .ok (.invokestatic 46, 3) := by decide +kernel
theorem dX10_notice_72 : decode cX10_notice 72 = .ok (.ifCond .ne 5, 3) := by decide +kernel
theorem dX10_notice_75 : decode cX10_notice 75 = .ok (.iconst (-1), 1) := by decide +kernel
theorem dX10_notice_76 : decode cX10_notice 76 = .ok (.ireturn, 1) := by decide +kernel
theorem dX10_notice_77 : decode cX10_notice 77 = .ok (.aload_n 0, 1) := by decide +kernel
theorem dX10_notice_78 : decode cX10_notice 78 = .ok (.iload_n 1, 1) := by decide +kernel
theorem dX10_notice_79 : decode cX10_notice 79 = .ok (.iload_n 3, 1) := by decide +kernel
theorem dX10_notice_80 : decode cX10_notice 80 = .ok (.iload 4, 2) := by decide +kernel
theorem dX10_notice_82 : decode cX10_notice 82 = .ok (.iload 5, 2) := by decide +kernel
theorem dX10_notice_84 : decode cX10_notice 84 = .ok (.iload_n 2, 1) := by decide +kernel
theorem dX10_notice_85 : decode cX10_notice 85 = .ok (.iconst (-1), 1) := by decide +kernel
theorem dX10_notice_86 : decode cX10_notice 86 = .ok (.iconst (-1), 1) := by decide +kernel
theorem dX10_notice_87 : decode cX10_notice 87 = .ok (.iconst 1, 1) := by decide +kernel
theorem dX10_notice_88 : decode cX10_notice 88 = .ok (.iconst 1, 1) := by decide +kernel
theorem dX10_notice_89 : decode cX10_notice 89 = .ok (.invokevirtual 83, 3) := by decide +kernel
theorem dX10_notice_92 : decode cX10_notice 92 = .ok (.ireturn, 1) := by decide +kernel
theorem dX10_gone_0 : decode cX10_gone 0 = .ok (.aload_n 0, 1) := by decide +kernel
theorem dX10_gone_1 : decode cX10_gone 1 = .ok (.iload_n 1, 1) := by decide +kernel
theorem dX10_gone_2 : decode cX10_gone 2 = .ok (.invokevirtual 93, 3) := by decide +kernel
theorem dX10_gone_5 : decode cX10_gone 5 = .ok (.ifCond .eq 24, 3) := by decide +kernel
theorem dX10_gone_8 : decode cX10_gone 8 = .ok (.iload_n 2, 1) := by decide +kernel
theorem dX10_gone_9 : decode cX10_gone 9 = .ok (.iconst 0, 1) := by decide +kernel
theorem dX10_gone_10 : decode cX10_gone 10 = .ok (.bipush 100, 2) := by decide +kernel
theorem dX10_gone_12 : decode cX10_gone 12 = .ok (.invokestatic 46, 3) := by decide +kernel
theorem dX10_gone_15 : decode cX10_gone 15 = .ok (.ifCond .eq 14, 3) := by decide +kernel
theorem dX10_gone_18 : decode cX10_gone 18 = .ok (.aload_n 0, 1) := by decide +kernel
theorem dX10_gone_19 : decode cX10_gone 19 = .ok (.iload_n 1, 1) := by decide +kernel
theorem dX10_gone_20 : decode cX10_gone 20 = .ok (.bipush 7, 2) := by decide +kernel
theorem dX10_gone_22 : decode cX10_gone 22 = .ok (.invokevirtual 96, 3) := by decide +kernel
theorem dX10_gone_25 : decode cX10_gone 25 = .ok (.iload_n 2, 1) := by decide +kernel
theorem dX10_gone_26 : decode cX10_gone 26 = .ok (.if_icmp .ne 5, 3) := by decide +kernel
theorem dX10_gone_29 : decode cX10_gone 29 = .ok (.iconst 0, 1) := by decide +kernel
theorem dX10_gone_30 : decode cX10_gone 30 = .ok (.ireturn, 1) := by decide +kernel
theorem dX10_gone_31 : decode cX10_gone 31 = .ok (.aload_n 0, 1) := by decide +kernel
theorem dX10_gone_32 : decode cX10_gone 32 = .ok (.invokevirtual 50, 3) := by decide +kernel
theorem dX10_gone_35 : decode cX10_gone 35 = .ok (.aload_n 0, 1) := by decide +kernel
theorem dX10_gone_36 : decode cX10_gone 36 = .ok (.getfield 7, 3) := by decide +kernel
theorem dX10_gone_39 : decode cX10_gone 39 = .ok (.sipush 2564, 3) := by decide +kernel
theorem dX10_gone_42 : decode cX10_gone 42 = .ok (.bipush 10, 2) := by decide +kernel
theorem dX10_gone_44 : decode cX10_gone 44 = .ok (.iload_n 1, 1) := by decide +kernel
theorem dX10_gone_45 : decode cX10_gone 45 = .ok (.imul, 1) := by decide +kernel
theorem dX10_gone_46 : decode cX10_gone 46 = .ok (.iadd, 1) := by decide +kernel
theorem dX10_gone_47 : decode cX10_gone 47 = .ok (.bipush 7, 2) := by decide +kernel
theorem dX10_gone_49 : decode cX10_gone 49 = .ok (.iadd, 1) := by decide +kernel
theorem dX10_gone_50 : decode cX10_gone 50 = .ok (.iload_n 2, 1) := by decide +kernel
theorem dX10_gone_51 : decode cX10_gone 51 = .ok (.iastore, 1) := by decide +kernel
theorem dX10_gone_52 : decode cX10_gone 52 = .ok (.iconst 1, 1) := by decide +kernel
theorem dX10_gone_53 : decode cX10_gone 53 = .ok (.ireturn, 1) := by decide +kernel
theorem dX10_waits_0 : decode cX10_waits 0 = .ok (.aload_n 0, 1) := by decide +kernel
theorem dX10_waits_1 : decode cX10_waits 1 = .ok (.iload_n 1, 1) := by decide +kernel
theorem dX10_waits_2 : decode cX10_waits 2 = .ok (.iconst 0, 1) := by decide +kernel
theorem dX10_waits_3 : decode cX10_waits 3 = .ok (.invokevirtual 96, 3) := by decide +kernel
theorem dX10_waits_6 : decode cX10_waits 6 = .ok (.iconst 3, 1) := by decide +kernel
theorem dX10_waits_7 : decode cX10_waits 7 = .ok (.if_icmp .ge 27, 3) := by decide +kernel
theorem dX10_waits_10 : decode cX10_waits 10 = .ok (.aload_n 0, 1) := by decide +kernel
theorem dX10_waits_11 : decode cX10_waits 11 = .ok (.aload_n 0, 1) := by decide +kernel
theorem dX10_waits_12 : decode cX10_waits 12 = .ok (.iload_n 1, 1) := by decide +kernel
theorem dX10_waits_13 : decode cX10_waits 13 = .ok (.iconst 4, 1) := by decide +kernel
theorem dX10_waits_14 : decode cX10_waits 14 = .ok (.invokevirtual 96, 3) := by decide +kernel
theorem dX10_waits_17 : decode cX10_waits 17 = .ok (.aload_n 0, 1) := by decide +kernel
theorem dX10_waits_18 : decode cX10_waits 18 = .ok (.iload_n 1, 1) := by decide +kernel
theorem dX10_waits_19 : decode cX10_waits 19 = .ok (.bipush 6, 2) := by decide +kernel
theorem dX10_waits_21 : decode cX10_waits 21 = .ok (.invokevirtual 96, 3) := by decide +kernel
theorem dX10_waits_24 : decode cX10_waits 24 = .ok (.invokevirtual 64, 3) := by decide +kernel
theorem dX10_waits_27 : decode cX10_waits 27 = .ok (.ifCond .ne 7, 3) := by decide +kernel
theorem dX10_waits_30 : decode cX10_waits 30 = .ok (.iconst 1, 1) := by decide +kernel
theorem dX10_waits_31 : decode cX10_waits 31 = .ok (.goto 4, 3) := by decide +kernel
theorem dX10_waits_34 : decode cX10_waits 34 = .ok (.iconst 0, 1) := by decide +kernel
theorem dX10_waits_35 : decode cX10_waits 35 = .ok (.ireturn, 1) := by decide +kernel
theorem dX10_corrected_0 : decode cX10_corrected 0 = .ok (.aload_n 0, 1) := by decide +kernel
theorem dX10_corrected_1 : decode cX10_corrected 1 = .ok (.iload_n 1, 1) := by decide +kernel
theorem dX10_corrected_2 : decode cX10_corrected 2 = .ok (.iconst 0, 1) := by decide +kernel
theorem dX10_corrected_3 : decode cX10_corrected 3 = .ok (.invokevirtual 96, 3) := by decide +kernel
theorem dX10_corrected_6 : decode cX10_corrected 6 = .ok (.iconst 3, 1) := by decide +kernel
theorem dX10_corrected_7 : decode cX10_corrected 7 = .ok (.if_icmp .lt 10, 3) := by decide +kernel
theorem dX10_corrected_10 : decode cX10_corrected 10 = .ok (.aload_n 0, 1) := by decide +kernel
theorem dX10_corrected_11 : decode cX10_corrected 11 = .ok (.iload_n 1, 1) := by decide +kernel
theorem dX10_corrected_12 : decode cX10_corrected 12 = .ok (.iconst 3, 1) := by decide +kernel
theorem dX10_corrected_13 : decode cX10_corrected 13 = .ok (.invokevirtual 96, 3) := by decide +kernel
theorem dX10_corrected_16 : decode cX10_corrected 16 = .ok (.ireturn, 1) := by decide +kernel
theorem dX10_corrected_17 : decode cX10_corrected 17 = .ok (.aload_n 0, 1) := by decide +kernel
theorem dX10_corrected_18 : decode cX10_corrected 18 = .ok (.aload_n 0, 1) := by decide +kernel
theorem dX10_corrected_19 : decode cX10_corrected 19 = .ok (.iload_n 1, 1) := by decide +kernel
theorem dX10_corrected_20 : decode cX10_corrected 20 = .ok (.iconst 4, 1) := by decide +kernel
theorem dX10_corrected_21 : decode cX10_corrected 21 = .ok (.invokevirtual 96, 3) := by decide +kernel
theorem dX10_corrected_24 : decode cX10_corrected 24 = .ok (.aload_n 0, 1) := by decide +kernel
theorem dX10_corrected_25 : decode cX10_corrected 25 = .ok (.iload_n 1, 1) := by decide +kernel
theorem dX10_corrected_26 : decode cX10_corrected 26 = .ok (.bipush 6, 2) := by decide +kernel
theorem dX10_corrected_28 : decode cX10_corrected 28 = .ok (.invokevirtual 96, 3) := by decide +kernel
theorem dX10_corrected_31 : decode cX10_corrected 31 = .ok (.invokevirtual 64, 3) := by decide +kernel
theorem dX10_corrected_34 : decode cX10_corrected 34 = .ok (.ifCond .ne 7, 3) := by decide +kernel
theorem dX10_corrected_37 : decode cX10_corrected 37 = .ok (.sipush (-30000), 3) := by decide +kernel
theorem dX10_corrected_40 : decode cX10_corrected 40 = .ok (.ireturn, 1) := by decide +kernel
theorem dX10_corrected_41 : decode cX10_corrected 41 = .ok (.aload_n 0, 1) := by decide +kernel
theorem dX10_corrected_42 : decode cX10_corrected 42 = .ok (.iload_n 1, 1) := by decide +kernel
theorem dX10_corrected_43 : decode cX10_corrected 43 = .ok (.iconst 5, 1) := by decide +kernel
theorem dX10_corrected_44 : decode cX10_corrected 44 = .ok (.invokevirtual 96, 3) := by decide +kernel
theorem dX10_corrected_47 : decode cX10_corrected 47 = .ok (.istore_n 2, 1) := by decide +kernel
theorem dX10_corrected_48 : decode cX10_corrected 48 = .ok (.aload_n 0, 1) := by decide +kernel
theorem dX10_corrected_49 : decode cX10_corrected 49 = .ok (.iload_n 1, 1) := by decide +kernel
theorem dX10_corrected_50 : decode cX10_corrected 50 = .ok (.iconst 0, 1) := by decide +kernel
theorem dX10_corrected_51 : decode cX10_corrected 51 = .ok (.invokevirtual 96, 3) := by decide +kernel
theorem dX10_corrected_54 : decode cX10_corrected 54 = .ok (.iconst 1, 1) := by decide +kernel
theorem dX10_corrected_55 : decode cX10_corrected 55 = .ok (.if_icmp .ne 13, 3) := by decide +kernel
theorem dX10_corrected_58 : decode cX10_corrected 58 = .ok (.aload_n 0, 1) := by decide +kernel
theorem dX10_corrected_59 : decode cX10_corrected 59 = .ok (.iload_n 2, 1) := by decide +kernel
theorem dX10_corrected_60 : decode cX10_corrected 60 = .ok (.iconst 1, 1) := by decide +kernel
theorem dX10_corrected_61 : decode cX10_corrected 61 = .ok (.invokevirtual 79, 3) := by decide +kernel
theorem dX10_corrected_64 : decode cX10_corrected 64 = .ok (.i2l, 1) := by decide +kernel
theorem dX10_corrected_65 : decode cX10_corrected 65 = .ok (.goto 6, 3) := by decide +kernel
theorem dX10_corrected_68 : decode cX10_corrected 68 = .ok (.ldc2_w 99, 3) := by decide +kernel
theorem dX10_corrected_71 : decode cX10_corrected 71 = .ok (.lstore_n 3, 1) := by decide +kernel
theorem dX10_corrected_72 : decode cX10_corrected 72 = .ok (.aload_n 0, 1) := by decide +kernel
theorem dX10_corrected_73 : decode cX10_corrected 73 = .ok (.iload_n 1, 1) := by decide +kernel
theorem dX10_corrected_74 : decode cX10_corrected 74 = .ok (.iconst 3, 1) := by decide +kernel
theorem dX10_corrected_75 : decode cX10_corrected 75 = .ok (.invokevirtual 96, 3) := by decide +kernel
theorem dX10_corrected_78 : decode cX10_corrected 78 = .ok (.i2l, 1) := by decide +kernel
theorem dX10_corrected_79 : decode cX10_corrected 79 = .ok (.lload_n 3, 1) := by decide +kernel
theorem dX10_corrected_80 : decode cX10_corrected 80 = .ok (.lmul, 1) := by decide +kernel
theorem dX10_corrected_81 : decode cX10_corrected 81 = .ok (.aload_n 0, 1) := by decide +kernel
theorem dX10_corrected_82 : decode cX10_corrected 82 = .ok (.getfield 57, 3) := by decide +kernel
theorem dX10_corrected_85 : decode cX10_corrected 85 = .ok (.lmul, 1) := by decide +kernel
theorem dX10_corrected_86 : decode cX10_corrected 86 = .ok (.ldc2_w 99, 3) := by decide +kernel
theorem dX10_corrected_89 : decode cX10_corrected 89 = .ok (.aload_n 0, 1) := by decide +kernel
theorem dX10_corrected_90 : decode cX10_corrected 90 = .ok (.iload_n 2, 1) := by decide +kernel
theorem dX10_corrected_91 : decode cX10_corrected 91 = .ok (.iconst 2, 1) := by decide +kernel
theorem dX10_corrected_92 : decode cX10_corrected 92 = .ok (.invokevirtual 79, 3) := by decide +kernel
theorem dX10_corrected_95 : decode cX10_corrected 95 = .ok (.i2l, 1) := by decide +kernel
theorem dX10_corrected_96 : decode cX10_corrected 96 = .ok (.lmul, 1) := by decide +kernel
theorem dX10_corrected_97 : decode cX10_corrected 97 = .ok (.aload_n 0, 1) := by decide +kernel
theorem dX10_corrected_98 : decode cX10_corrected 98 = .ok (.getfield 57, 3) := by decide +kernel
theorem dX10_corrected_101 : decode cX10_corrected 101 = .ok (.lmul, 1) := by decide +kernel
theorem dX10_corrected_102 : decode cX10_corrected 102 = .ok (.ladd, 1) := by decide +kernel
theorem dX10_corrected_103 : decode cX10_corrected 103 = .ok (.ldc2_w 99, 3) := by decide +kernel
theorem dX10_corrected_106 : decode cX10_corrected 106 = .ok (.aload_n 0, 1) := by decide +kernel
theorem dX10_corrected_107 : decode cX10_corrected 107 = .ok (.getfield 61, 3) := by decide +kernel
theorem dX10_corrected_110 : decode cX10_corrected 110 = .ok (.lmul, 1) := by decide +kernel
theorem dX10_corrected_111 : decode cX10_corrected 111 = .ok (.lsub, 1) := by decide +kernel
theorem dX10_corrected_112 : decode cX10_corrected 112 = .ok (.lstore 5, 2) := by decide +kernel
theorem dX10_corrected_114 : decode cX10_corrected 114 = .ok (.lload 5, 2) := by decide +kernel
theorem dX10_corrected_116 : decode cX10_corrected 116 = .ok (.ldc2_w 99, 3) := by decide +kernel
theorem dX10_corrected_119 : decode cX10_corrected 119 = .ok (.aload_n 0, 1) := by decide +kernel
theorem dX10_corrected_120 : decode cX10_corrected 120 = .ok (.getfield 57, 3) := by decide +kernel
theorem dX10_corrected_123 : decode cX10_corrected 123 = .ok (.lmul, 1) := by decide +kernel
theorem dX10_corrected_124 : decode cX10_corrected 124 = .ok (.invokestatic 68, 3) := by decide +kernel
theorem dX10_corrected_127 : decode cX10_corrected 127 = .ok (.l2i, 1) := by decide +kernel
theorem dX10_corrected_128 : decode cX10_corrected 128 = .ok (.ireturn, 1) := by decide +kernel
theorem dX10_isThere_0 : decode cX10_isThere 0 = .ok (.aload_n 0, 1) := by decide +kernel
theorem dX10_isThere_1 : decode cX10_isThere 1 = .ok (.iload_n 1, 1) := by decide +kernel
theorem dX10_isThere_2 : decode cX10_isThere 2 = .ok (.iconst 4, 1) := by decide +kernel
theorem dX10_isThere_3 : decode cX10_isThere 3 = .ok (.invokevirtual 96, 3) := by decide +kernel
theorem dX10_isThere_6 : decode cX10_isThere 6 = .ok (.iload_n 2, 1) := by decide +kernel
theorem dX10_isThere_7 : decode cX10_isThere 7 = .ok (.if_icmp .gt 18, 3) := by decide +kernel
theorem dX10_isThere_10 : decode cX10_isThere 10 = .ok (.aload_n 0, 1) := by decide +kernel
theorem dX10_isThere_11 : decode cX10_isThere 11 = .ok (.iload_n 1, 1) := by decide +kernel
theorem dX10_isThere_12 : decode cX10_isThere 12 = .ok (.bipush 7, 2) := by decide +kernel
theorem dX10_isThere_14 : decode cX10_isThere 14 = .ok (.invokevirtual 96, 3) := by decide +kernel
theorem dX10_isThere_17 : decode cX10_isThere 17 = .ok (.iload_n 2, 1) := by decide +kernel
theorem dX10_isThere_18 : decode cX10_isThere 18 = .ok (.if_icmp .le 7, 3) := by decide +kernel
theorem dX10_isThere_21 : decode cX10_isThere 21 = .ok (.iconst 1, 1) := by decide +kernel
theorem dX10_isThere_22 : decode cX10_isThere 22 = .ok (.goto 4, 3) := by decide +kernel
theorem dX10_isThere_25 : decode cX10_isThere 25 = .ok (.iconst 0, 1) := by decide +kernel
theorem dX10_isThere_26 : decode cX10_isThere 26 = .ok (.ireturn, 1) := by decide +kernel
theorem dX10_count_0 : decode cX10_count 0 = .ok (.iload_n 1, 1) := by decide +kernel
theorem dX10_count_1 : decode cX10_count 1 = .ok (.ifCond .ne 10, 3) := by decide +kernel
theorem dX10_count_4 : decode cX10_count 4 = .ok (.aload_n 0, 1) := by decide +kernel
theorem dX10_count_5 : decode cX10_count 5 = .ok (.getfield 7, 3) := by decide +kernel
theorem dX10_count_8 : decode cX10_count 8 = .ok (.iconst 0, 1) := by decide +kernel
theorem dX10_count_9 : decode cX10_count 9 = .ok (.iaload, 1) := by decide +kernel
theorem dX10_count_10 : decode cX10_count 10 = .ok (.ireturn, 1) := by decide +kernel
theorem dX10_count_11 : decode cX10_count 11 = .ok (.iload_n 1, 1) := by decide +kernel
theorem dX10_count_12 : decode cX10_count 12 = .ok (.iconst 1, 1) := by decide +kernel
theorem dX10_count_13 : decode cX10_count 13 = .ok (.if_icmp .ne 10, 3) := by decide +kernel
theorem dX10_count_16 : decode cX10_count 16 = .ok (.aload_n 0, 1) := by decide +kernel
theorem dX10_count_17 : decode cX10_count 17 = .ok (.getfield 7, 3) := by decide +kernel
theorem dX10_count_20 : decode cX10_count 20 = .ok (.iconst 1, 1) := by decide +kernel
theorem dX10_count_21 : decode cX10_count 21 = .ok (.iaload, 1) := by decide +kernel
theorem dX10_count_22 : decode cX10_count 22 = .ok (.ireturn, 1) := by decide +kernel
theorem dX10_count_23 : decode cX10_count 23 = .ok (.iload_n 1, 1) := by decide +kernel
theorem dX10_count_24 : decode cX10_count 24 = .ok (.iconst 3, 1) := by decide +kernel
theorem dX10_count_25 : decode cX10_count 25 = .ok (.if_icmp .ne 8, 3) := by decide +kernel
theorem dX10_count_28 : decode cX10_count 28 = .ok (.aload_n 0, 1) := by decide +kernel
theorem dX10_count_29 : decode cX10_count 29 = .ok (.getfield 39, 3) := by decide +kernel
theorem dX10_count_32 : decode cX10_count 32 = .ok (.ireturn, 1) := by decide +kernel
theorem dX10_count_33 : decode cX10_count 33 = .ok (.iload_n 1, 1) := by decide +kernel
theorem dX10_count_34 : decode cX10_count 34 = .ok (.iconst 2, 1) := by decide +kernel
theorem dX10_count_35 : decode cX10_count 35 = .ok (.if_icmp .eq 5, 3) := by decide +kernel
theorem dX10_count_38 : decode cX10_count 38 = .ok (.iconst (-1), 1) := by decide +kernel
theorem dX10_count_39 : decode cX10_count 39 = .ok (.ireturn, 1) := by decide +kernel
theorem dX10_count_40 : decode cX10_count 40 = .ok (.iconst 0, 1) := by decide +kernel
theorem dX10_count_41 : decode cX10_count 41 = .ok (.istore_n 2, 1) := by decide +kernel
theorem dX10_count_42 : decode cX10_count 42 = .ok (.iconst 0, 1) := by decide +kernel
theorem dX10_count_43 : decode cX10_count 43 = .ok (.istore_n 3, 1) := by decide +kernel
theorem dX10_count_44 : decode cX10_count 44 = .ok (.iload_n 3, 1) := by decide +kernel
theorem dX10_count_45 : decode cX10_count 45 = .ok (.aload_n 0, 1) := by decide +kernel
theorem dX10_count_46 : decode cX10_count 46 = .ok (.getfield 7, 3) := by decide +kernel
theorem dX10_count_49 : decode cX10_count 49 = .ok (.iconst 1, 1) := by decide +kernel
theorem dX10_count_50 : decode cX10_count 50 = .ok (.iaload, 1) := by decide +kernel
theorem dX10_count_51 : decode cX10_count 51 = .ok (.if_icmp .ge 25, 3) := by decide +kernel
theorem dX10_count_54 : decode cX10_count 54 = .ok (.iload_n 2, 1) := by decide +kernel
theorem dX10_count_55 : decode cX10_count 55 = .ok (.aload_n 0, 1) := by decide +kernel
theorem dX10_count_56 : decode cX10_count 56 = .ok (.iload_n 3, 1) := by decide +kernel
theorem dX10_count_57 : decode cX10_count 57 = .ok (.invokevirtual 101, 3) := by decide +kernel
theorem dX10_count_60 : decode cX10_count 60 = .ok (.ifCond .eq 7, 3) := by decide +kernel
theorem dX10_count_63 : decode cX10_count 63 = .ok (.iconst 1, 1) := by decide +kernel
theorem dX10_count_64 : decode cX10_count 64 = .ok (.goto 4, 3) := by decide +kernel
theorem dX10_count_67 : decode cX10_count 67 = .ok (.iconst 0, 1) := by decide +kernel
theorem dX10_count_68 : decode cX10_count 68 = .ok (.iadd, 1) := by decide +kernel
theorem dX10_count_69 : decode cX10_count 69 = .ok (.istore_n 2, 1) := by decide +kernel
theorem dX10_count_70 : decode cX10_count 70 = .ok (.iinc 3 1, 3) := by decide +kernel
theorem dX10_count_73 : decode cX10_count 73 = .ok (.goto (-29), 3) := by decide +kernel
theorem dX10_count_76 : decode cX10_count 76 = .ok (.iload_n 2, 1) := by decide +kernel
theorem dX10_count_77 : decode cX10_count 77 = .ok (.ireturn, 1) := by decide +kernel
theorem dX10_sounding_0 : decode cX10_sounding 0 = .ok (.aload_n 0, 1) := by decide +kernel
theorem dX10_sounding_1 : decode cX10_sounding 1 = .ok (.iload_n 1, 1) := by decide +kernel
theorem dX10_sounding_2 : decode cX10_sounding 2 = .ok (.invokevirtual 93, 3) := by decide +kernel
theorem dX10_sounding_5 : decode cX10_sounding 5 = .ok (.ifCond .eq 13, 3) := by decide +kernel
theorem dX10_sounding_8 : decode cX10_sounding 8 = .ok (.iload_n 2, 1) := by decide +kernel
theorem dX10_sounding_9 : decode cX10_sounding 9 = .ok (.iconst 0, 1) := by decide +kernel
theorem dX10_sounding_10 : decode cX10_sounding 10 = .ok (.bipush 10, 2) := by decide +kernel
theorem dX10_sounding_12 : decode cX10_sounding 12 = .ok (.invokestatic 46, 3) := by decide +kernel
theorem dX10_sounding_15 : decode cX10_sounding 15 = .ok (.ifCond .ne 5, 3) := by decide +kernel
theorem dX10_sounding_18 : decode cX10_sounding 18 = .ok (.iconst (-1), 1) := by decide +kernel
theorem dX10_sounding_19 : decode cX10_sounding 19 = .ok (.ireturn, 1) := by decide +kernel
theorem dX10_sounding_20 : decode cX10_sounding 20 = .ok (.iload_n 2, 1) := by decide +kernel
theorem dX10_sounding_21 : decode cX10_sounding 21 = .ok (.bipush 10, 2) := by decide +kernel
theorem dX10_sounding_23 : decode cX10_sounding 23 = .ok (.if_icmp .ne 19, 3) := by decide +kernel
theorem dX10_sounding_26 : decode cX10_sounding 26 = .ok (.aload_n 0, 1) := by decide +kernel
theorem dX10_sounding_27 : decode cX10_sounding 27 = .ok (.iload_n 1, 1) := by decide +kernel
theorem dX10_sounding_28 : decode cX10_sounding 28 = .ok (.invokevirtual 101, 3) := by decide +kernel
theorem dX10_sounding_31 : decode cX10_sounding 31 = .ok (.ifCond .eq 7, 3) := by decide +kernel
theorem dX10_sounding_34 : decode cX10_sounding 34 = .ok (.iconst 1, 1) := by decide +kernel
theorem dX10_sounding_35 : decode cX10_sounding 35 = .ok (.goto 13, 3) := by decide +kernel
theorem dX10_sounding_38 : decode cX10_sounding 38 = .ok (.iconst 0, 1) := by decide +kernel
theorem dX10_sounding_39 : decode cX10_sounding 39 = .ok (.goto 9, 3) := by decide +kernel
theorem dX10_sounding_42 : decode cX10_sounding 42 = .ok (.aload_n 0, 1) := by decide +kernel
theorem dX10_sounding_43 : decode cX10_sounding 43 = .ok (.iload_n 1, 1) := by decide +kernel
theorem dX10_sounding_44 : decode cX10_sounding 44 = .ok (.iload_n 2, 1) := by decide +kernel
theorem dX10_sounding_45 : decode cX10_sounding 45 = .ok (.invokevirtual 96, 3) := by decide +kernel
theorem dX10_sounding_48 : decode cX10_sounding 48 = .ok (.ireturn, 1) := by decide +kernel
theorem dX10_depth_0 : decode cX10_depth 0 = .ok (.aload_n 0, 1) := by decide +kernel
theorem dX10_depth_1 : decode cX10_depth 1 = .ok (.iload_n 1, 1) := by decide +kernel
theorem dX10_depth_2 : decode cX10_depth 2 = .ok (.invokevirtual 93, 3) := by decide +kernel
theorem dX10_depth_5 : decode cX10_depth 5 = .ok (.ifCond .eq 11, 3) := by decide +kernel
theorem dX10_depth_8 : decode cX10_depth 8 = .ok (.aload_n 0, 1) := by decide +kernel
theorem dX10_depth_9 : decode cX10_depth 9 = .ok (.iload_n 1, 1) := by decide +kernel
theorem dX10_depth_10 : decode cX10_depth 10 = .ok (.invokevirtual 104, 3) := by decide +kernel
theorem dX10_depth_13 : decode cX10_depth 13 = .ok (.goto 6, 3) := by decide +kernel
theorem dX10_depth_16 : decode cX10_depth 16 = .ok (.sipush (-30000), 3) := by decide +kernel
theorem dX10_depth_19 : decode cX10_depth 19 = .ok (.ireturn, 1) := by decide +kernel
theorem dX10_boat_0 : decode cX10_boat 0 = .ok (.aload_n 0, 1) := by decide +kernel
theorem dX10_boat_1 : decode cX10_boat 1 = .ok (.iload_n 1, 1) := by decide +kernel
theorem dX10_boat_2 : decode cX10_boat 2 = .ok (.invokevirtual 53, 3) := by decide +kernel
theorem dX10_boat_5 : decode cX10_boat 5 = .ok (.ifCond .eq 12, 3) := by decide +kernel
theorem dX10_boat_8 : decode cX10_boat 8 = .ok (.iload_n 2, 1) := by decide +kernel
theorem dX10_boat_9 : decode cX10_boat 9 = .ok (.iconst 0, 1) := by decide +kernel
theorem dX10_boat_10 : decode cX10_boat 10 = .ok (.iconst 3, 1) := by decide +kernel
theorem dX10_boat_11 : decode cX10_boat 11 = .ok (.invokestatic 46, 3) := by decide +kernel
theorem dX10_boat_14 : decode cX10_boat 14 = .ok (.ifCond .ne 5, 3) := by decide +kernel
theorem dX10_boat_17 : decode cX10_boat 17 = .ok (.iconst (-1), 1) := by decide +kernel
theorem dX10_boat_18 : decode cX10_boat 18 = .ok (.ireturn, 1) := by decide +kernel
theorem dX10_boat_19 : decode cX10_boat 19 = .ok (.iload_n 2, 1) := by decide +kernel
theorem dX10_boat_20 : decode cX10_boat 20 = .ok (.iconst 3, 1) := by decide +kernel
theorem dX10_boat_21 : decode cX10_boat 21 = .ok (.if_icmp .ge 10, 3) := by decide +kernel
theorem dX10_boat_24 : decode cX10_boat 24 = .ok (.aload_n 0, 1) := by decide +kernel
theorem dX10_boat_25 : decode cX10_boat 25 = .ok (.iload_n 1, 1) := by decide +kernel
theorem dX10_boat_26 : decode cX10_boat 26 = .ok (.iload_n 2, 1) := by decide +kernel
theorem dX10_boat_27 : decode cX10_boat 27 = .ok (.invokevirtual 79, 3) := by decide +kernel
theorem dX10_boat_30 : decode cX10_boat 30 = .ok (.ireturn, 1) := by decide +kernel
theorem dX10_boat_31 : decode cX10_boat 31 = .ok (.iconst 0, 1) := by decide +kernel
theorem dX10_boat_32 : decode cX10_boat 32 = .ok (.istore_n 3, 1) := by decide +kernel
theorem dX10_boat_33 : decode cX10_boat 33 = .ok (.iconst 0, 1) := by decide +kernel
theorem dX10_boat_34 : decode cX10_boat 34 = .ok (.istore 4, 2) := by decide +kernel
theorem dX10_boat_36 : decode cX10_boat 36 = .ok (.iload 4, 2) := by decide +kernel
theorem dX10_boat_38 : decode cX10_boat 38 = .ok (.aload_n 0, 1) := by decide +kernel
theorem dX10_boat_39 : decode cX10_boat 39 = .ok (.getfield 7, 3) := by decide +kernel
theorem dX10_boat_42 : decode cX10_boat 42 = .ok (.iconst 1, 1) := by decide +kernel
theorem dX10_boat_43 : decode cX10_boat 43 = .ok (.iaload, 1) := by decide +kernel
theorem dX10_boat_44 : decode cX10_boat 44 = .ok (.if_icmp .ge 28, 3) := by decide +kernel
theorem dX10_boat_47 : decode cX10_boat 47 = .ok (.iload_n 3, 1) := by decide +kernel
theorem dX10_boat_48 : decode cX10_boat 48 = .ok (.aload_n 0, 1) := by decide +kernel
theorem dX10_boat_49 : decode cX10_boat 49 = .ok (.iload 4, 2) := by decide +kernel
theorem dX10_boat_51 : decode cX10_boat 51 = .ok (.iconst 5, 1) := by decide +kernel
theorem dX10_boat_52 : decode cX10_boat 52 = .ok (.invokevirtual 96, 3) := by decide +kernel
theorem dX10_boat_55 : decode cX10_boat 55 = .ok (.iload_n 1, 1) := by decide +kernel
theorem dX10_boat_56 : decode cX10_boat 56 = .ok (.if_icmp .ne 7, 3) := by decide +kernel
theorem dX10_boat_59 : decode cX10_boat 59 = .ok (.iconst 1, 1) := by decide +kernel
theorem dX10_boat_60 : decode cX10_boat 60 = .ok (.goto 4, 3) := by decide +kernel
theorem dX10_boat_63 : decode cX10_boat 63 = .ok (.iconst 0, 1) := by decide +kernel
theorem dX10_boat_64 : decode cX10_boat 64 = .ok (.iadd, 1) := by decide +kernel
theorem dX10_boat_65 : decode cX10_boat 65 = .ok (.istore_n 3, 1) := by decide +kernel
theorem dX10_boat_66 : decode cX10_boat 66 = .ok (.iinc 4 1, 3) := by decide +kernel
theorem dX10_boat_69 : decode cX10_boat 69 = .ok (.goto (-33), 3) := by decide +kernel
theorem dX10_boat_72 : decode cX10_boat 72 = .ok (.iload_n 3, 1) := by decide +kernel
theorem dX10_boat_73 : decode cX10_boat 73 = .ok (.ireturn, 1) := by decide +kernel
theorem dX10_far_0 : decode cX10_far 0 = .ok (.aload_n 0, 1) := by decide +kernel
theorem dX10_far_1 : decode cX10_far 1 = .ok (.iload_n 1, 1) := by decide +kernel
theorem dX10_far_2 : decode cX10_far 2 = .ok (.iconst 1, 1) := by decide +kernel
theorem dX10_far_3 : decode cX10_far 3 = .ok (.invokevirtual 96, 3) := by decide +kernel
theorem dX10_far_6 : decode cX10_far 6 = .ok (.aload_n 0, 1) := by decide +kernel
theorem dX10_far_7 : decode cX10_far 7 = .ok (.iload_n 2, 1) := by decide +kernel
theorem dX10_far_8 : decode cX10_far 8 = .ok (.iconst 1, 1) := by decide +kernel
theorem dX10_far_9 : decode cX10_far 9 = .ok (.invokevirtual 96, 3) := by decide +kernel
theorem dX10_far_12 : decode cX10_far 12 = .ok (.isub, 1) := by decide +kernel
theorem dX10_far_13 : decode cX10_far 13 = .ok (.istore_n 3, 1) := by decide +kernel
theorem dX10_far_14 : decode cX10_far 14 = .ok (.aload_n 0, 1) := by decide +kernel
theorem dX10_far_15 : decode cX10_far 15 = .ok (.iload_n 1, 1) := by decide +kernel
theorem dX10_far_16 : decode cX10_far 16 = .ok (.iconst 2, 1) := by decide +kernel
theorem dX10_far_17 : decode cX10_far 17 = .ok (.invokevirtual 96, 3) := by decide +kernel
theorem dX10_far_20 : decode cX10_far 20 = .ok (.aload_n 0, 1) := by decide +kernel
theorem dX10_far_21 : decode cX10_far 21 = .ok (.iload_n 2, 1) := by decide +kernel
theorem dX10_far_22 : decode cX10_far 22 = .ok (.iconst 2, 1) := by decide +kernel
theorem dX10_far_23 : decode cX10_far 23 = .ok (.invokevirtual 96, 3) := by decide +kernel
theorem dX10_far_26 : decode cX10_far 26 = .ok (.isub, 1) := by decide +kernel
theorem dX10_far_27 : decode cX10_far 27 = .ok (.istore 4, 2) := by decide +kernel
theorem dX10_far_29 : decode cX10_far 29 = .ok (.iload_n 3, 1) := by decide +kernel
theorem dX10_far_30 : decode cX10_far 30 = .ok (.iload_n 3, 1) := by decide +kernel
theorem dX10_far_31 : decode cX10_far 31 = .ok (.imul, 1) := by decide +kernel
theorem dX10_far_32 : decode cX10_far 32 = .ok (.iload 4, 2) := by decide +kernel
theorem dX10_far_34 : decode cX10_far 34 = .ok (.iload 4, 2) := by decide +kernel
theorem dX10_far_36 : decode cX10_far 36 = .ok (.imul, 1) := by decide +kernel
theorem dX10_far_37 : decode cX10_far 37 = .ok (.iadd, 1) := by decide +kernel
theorem dX10_far_38 : decode cX10_far 38 = .ok (.ireturn, 1) := by decide +kernel
theorem dX10_isOf_0 : decode cX10_isOf 0 = .ok (.aload_n 0, 1) := by decide +kernel
theorem dX10_isOf_1 : decode cX10_isOf 1 = .ok (.iload_n 1, 1) := by decide +kernel
theorem dX10_isOf_2 : decode cX10_isOf 2 = .ok (.iconst 5, 1) := by decide +kernel
theorem dX10_isOf_3 : decode cX10_isOf 3 = .ok (.invokevirtual 96, 3) := by decide +kernel
theorem dX10_isOf_6 : decode cX10_isOf 6 = .ok (.iload_n 2, 1) := by decide +kernel
theorem dX10_isOf_7 : decode cX10_isOf 7 = .ok (.if_icmp .ne 25, 3) := by decide +kernel
theorem dX10_isOf_10 : decode cX10_isOf 10 = .ok (.aload_n 0, 1) := by decide +kernel
theorem dX10_isOf_11 : decode cX10_isOf 11 = .ok (.iload_n 1, 1) := by decide +kernel
theorem dX10_isOf_12 : decode cX10_isOf 12 = .ok (.iconst 0, 1) := by decide +kernel
theorem dX10_isOf_13 : decode cX10_isOf 13 = .ok (.invokevirtual 96, 3) := by decide +kernel
theorem dX10_isOf_16 : decode cX10_isOf 16 = .ok (.iconst 2, 1) := by decide +kernel
theorem dX10_isOf_17 : decode cX10_isOf 17 = .ok (.if_icmp .ge 15, 3) := by decide +kernel
theorem dX10_isOf_20 : decode cX10_isOf 20 = .ok (.aload_n 0, 1) := by decide +kernel
theorem dX10_isOf_21 : decode cX10_isOf 21 = .ok (.iload_n 1, 1) := by decide +kernel
theorem dX10_isOf_22 : decode cX10_isOf 22 = .ok (.invokevirtual 101, 3) := by decide +kernel
theorem dX10_isOf_25 : decode cX10_isOf 25 = .ok (.ifCond .ne 7, 3) := by decide +kernel
theorem dX10_isOf_28 : decode cX10_isOf 28 = .ok (.iconst 1, 1) := by decide +kernel
theorem dX10_isOf_29 : decode cX10_isOf 29 = .ok (.goto 4, 3) := by decide +kernel
theorem dX10_isOf_32 : decode cX10_isOf 32 = .ok (.iconst 0, 1) := by decide +kernel
theorem dX10_isOf_33 : decode cX10_isOf 33 = .ok (.ireturn, 1) := by decide +kernel
theorem dX10_crosses_0 : decode cX10_crosses 0 = .ok (.aload_n 0, 1) := by decide +kernel
theorem dX10_crosses_1 : decode cX10_crosses 1 = .ok (.iconst (-1), 1) := by decide +kernel
theorem dX10_crosses_2 : decode cX10_crosses 2 = .ok (.putfield 107, 3) := by decide +kernel
theorem dX10_crosses_5 : decode cX10_crosses 5 = .ok (.iconst 0, 1) := by decide +kernel
theorem dX10_crosses_6 : decode cX10_crosses 6 = .ok (.istore 4, 2) := by decide +kernel
theorem dX10_crosses_8 : decode cX10_crosses 8 = .ok (.iload 4, 2) := by decide +kernel
theorem dX10_crosses_10 : decode cX10_crosses 10 = .ok (.aload_n 0, 1) := by decide +kernel
theorem dX10_crosses_11 : decode cX10_crosses 11 = .ok (.getfield 7, 3) := by decide +kernel
theorem dX10_crosses_14 : decode cX10_crosses 14 = .ok (.iconst 1, 1) := by decide +kernel
theorem dX10_crosses_15 : decode cX10_crosses 15 = .ok (.iaload, 1) := by decide +kernel
theorem dX10_crosses_16 : decode cX10_crosses 16 = .ok (.if_icmp .ge 101, 3) := by decide +kernel
theorem dX10_crosses_19 : decode cX10_crosses 19 = .ok (.aload_n 0, 1) := by decide +kernel
theorem dX10_crosses_20 : decode cX10_crosses 20 = .ok (.iload 4, 2) := by decide +kernel
theorem dX10_crosses_22 : decode cX10_crosses 22 = .ok (.iload_n 1, 1) := by decide +kernel
theorem dX10_crosses_23 : decode cX10_crosses 23 = .ok (.invokevirtual 110, 3) := by decide +kernel
theorem dX10_crosses_26 : decode cX10_crosses 26 = .ok (.ifCond .ne 6, 3) := by decide +kernel
theorem dX10_crosses_29 : decode cX10_crosses 29 = .ok (.goto 82, 3) := by decide +kernel
theorem dX10_crosses_32 : decode cX10_crosses 32 = .ok (.iconst 0, 1) := by decide +kernel
theorem dX10_crosses_33 : decode cX10_crosses 33 = .ok (.istore 5, 2) := by decide +kernel
theorem dX10_crosses_35 : decode cX10_crosses 35 = .ok (.iload 5, 2) := by decide +kernel
theorem dX10_crosses_37 : decode cX10_crosses 37 = .ok (.aload_n 0, 1) := by decide +kernel
theorem dX10_crosses_38 : decode cX10_crosses 38 = .ok (.getfield 7, 3) := by decide +kernel
theorem dX10_crosses_41 : decode cX10_crosses 41 = .ok (.iconst 1, 1) := by decide +kernel
theorem dX10_crosses_42 : decode cX10_crosses 42 = .ok (.iaload, 1) := by decide +kernel
theorem dX10_crosses_43 : decode cX10_crosses 43 = .ok (.if_icmp .ge 68, 3) := by decide +kernel
theorem dX10_crosses_46 : decode cX10_crosses 46 = .ok (.aload_n 0, 1) := by decide +kernel
theorem dX10_crosses_47 : decode cX10_crosses 47 = .ok (.iload 5, 2) := by decide +kernel
theorem dX10_crosses_49 : decode cX10_crosses 49 = .ok (.iload_n 2, 1) := by decide +kernel
theorem dX10_crosses_50 : decode cX10_crosses 50 = .ok (.invokevirtual 110, 3) := by decide +kernel
theorem dX10_crosses_53 : decode cX10_crosses 53 = .ok (.ifCond .eq 52, 3) := by decide +kernel
theorem dX10_crosses_56 : decode cX10_crosses 56 = .ok (.aload_n 0, 1) := by decide +kernel
theorem dX10_crosses_57 : decode cX10_crosses 57 = .ok (.getfield 107, 3) := by decide +kernel
theorem dX10_crosses_60 : decode cX10_crosses 60 = .ok (.ifCond .lt 21, 3) := by decide +kernel
theorem dX10_crosses_63 : decode cX10_crosses 63 = .ok (.aload_n 0, 1) := by decide +kernel
