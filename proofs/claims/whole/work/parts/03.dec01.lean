theorem dX5_findAll_47 : decode cX5_findAll 47 = .ok (.goto 4, 3) := by decide +kernel
theorem dX5_findAll_50 : decode cX5_findAll 50 = .ok (.iconst 0, 1) := by decide +kernel
theorem dX5_findAll_51 : decode cX5_findAll 51 = .ok (.istore 5, 2) := by decide +kernel
theorem dX5_findAll_53 : decode cX5_findAll 53 = .ok (.iload 5, 2) := by decide +kernel
theorem dX5_findAll_55 : decode cX5_findAll 55 = .ok (.ifCond .eq 46, 3) := by decide +kernel
theorem dX5_findAll_58 : decode cX5_findAll 58 = .ok (.aload_n 0, 1) := by decide +kernel
theorem dX5_findAll_59 : decode cX5_findAll 59 = .ok (.getfield 28, 3) := by decide +kernel
theorem dX5_findAll_62 : decode cX5_findAll 62 = .ok (.iload 4, 2) := by decide +kernel
theorem dX5_findAll_64 : decode cX5_findAll 64 = .ok (.iload_n 1, 1) := by decide +kernel
theorem dX5_findAll_65 : decode cX5_findAll 65 = .ok (.invokevirtual 67, 3) := by decide +kernel
theorem dX5_findAll_68 : decode cX5_findAll 68 = .ok (.ifCond .eq 33, 3) := by decide +kernel
theorem dX5_findAll_71 : decode cX5_findAll 71 = .ok (.aload_n 0, 1) := by decide +kernel
theorem dX5_findAll_72 : decode cX5_findAll 72 = .ok (.getfield 9, 3) := by decide +kernel
theorem dX5_findAll_75 : decode cX5_findAll 75 = .ok (.aload_n 0, 1) := by decide +kernel
theorem dX5_findAll_76 : decode cX5_findAll 76 = .ok (.getfield 15, 3) := by decide +kernel
theorem dX5_findAll_79 : decode cX5_findAll 79 = .ok (.iload 4, 2) := by decide +kernel
theorem dX5_findAll_81 : decode cX5_findAll 81 = .ok (.iastore, 1) := by decide +kernel
theorem dX5_findAll_82 : decode cX5_findAll 82 = .ok (.aload_n 0, 1) := by decide +kernel
theorem dX5_findAll_83 : decode cX5_findAll 83 = .ok (.dup, 1) := by decide +kernel
theorem dX5_findAll_84 : decode cX5_findAll 84 = .ok (.getfield 15, 3) := by decide +kernel
theorem dX5_findAll_87 : decode cX5_findAll 87 = .ok (.iconst 1, 1) := by decide +kernel
theorem dX5_findAll_88 : decode cX5_findAll 88 = .ok (.iadd, 1) := by decide +kernel
theorem dX5_findAll_89 : decode cX5_findAll 89 = .ok (.putfield 15, 3) := by decide +kernel
theorem dX5_findAll_92 : decode cX5_findAll 92 = .ok (.aload_n 0, 1) := by decide +kernel
theorem dX5_findAll_93 : decode cX5_findAll 93 = .ok (.getfield 25, 3) := by decide +kernel
theorem dX5_findAll_96 : decode cX5_findAll 96 = .ok (.iload 4, 2) := by decide +kernel
theorem dX5_findAll_98 : decode cX5_findAll 98 = .ok (.bipush 6, 2) := by decide +kernel
theorem dX5_findAll_100 : decode cX5_findAll 100 = .ok (.iastore, 1) := by decide +kernel
theorem dX5_findAll_101 : decode cX5_findAll 101 = .ok (.iinc 4 1, 3) := by decide +kernel
theorem dX5_findAll_104 : decode cX5_findAll 104 = .ok (.goto (-88), 3) := by decide +kernel
theorem dX5_findAll_107 : decode cX5_findAll 107 = .ok (.return_, 1) := by decide +kernel
theorem dX5_showAlways_0 : decode cX5_showAlways 0 = .ok (.iconst 0, 1) := by decide +kernel
theorem dX5_showAlways_1 : decode cX5_showAlways 1 = .ok (.istore_n 2, 1) := by decide +kernel
theorem dX5_showAlways_2 : decode cX5_showAlways 2 = .ok (.iload_n 2, 1) := by decide +kernel
theorem dX5_showAlways_3 : decode cX5_showAlways 3 = .ok (.aload_n 0, 1) := by decide +kernel
theorem dX5_showAlways_4 : decode cX5_showAlways 4 = .ok (.getfield 15, 3) := by decide +kernel
theorem dX5_showAlways_7 : decode cX5_showAlways 7 = .ok (.if_icmp .ge 57, 3) := by decide +kernel
theorem dX5_showAlways_10 : decode cX5_showAlways 10 = .ok (.aload_n 0, 1) := by decide +kernel
theorem dX5_showAlways_11 : decode cX5_showAlways 11 = .ok (.getfield 9, 3) := by decide +kernel
theorem dX5_showAlways_14 : decode cX5_showAlways 14 = .ok (.iload_n 2, 1) := by decide +kernel
theorem dX5_showAlways_15 : decode cX5_showAlways 15 = .ok (.iaload, 1) := by decide +kernel
theorem dX5_showAlways_16 : decode cX5_showAlways 16 = .ok (.istore_n 3, 1) := by decide +kernel
theorem dX5_showAlways_17 : decode cX5_showAlways 17 = .ok (.aload_n 0, 1) := by decide +kernel
theorem dX5_showAlways_18 : decode cX5_showAlways 18 = .ok (.getfield 28, 3) := by decide +kernel
theorem dX5_showAlways_21 : decode cX5_showAlways 21 = .ok (.getfield 51, 3) := by decide +kernel
theorem dX5_showAlways_24 : decode cX5_showAlways 24 = .ok (.getfield 60, 3) := by decide +kernel
theorem dX5_showAlways_27 : decode cX5_showAlways 27 = .ok (.iload_n 3, 1) := by decide +kernel
theorem dX5_showAlways_28 : decode cX5_showAlways 28 = .ok (.iaload, 1) := by decide +kernel
theorem dX5_showAlways_29 : decode cX5_showAlways 29 = .ok (.istore 4, 2) := by decide +kernel
theorem dX5_showAlways_31 : decode cX5_showAlways 31 = .ok (.iload 4, 2) := by decide +kernel
theorem dX5_showAlways_33 : decode cX5_showAlways 33 = .ok (.iconst 3, 1) := by decide +kernel
theorem dX5_showAlways_34 : decode cX5_showAlways 34 = .ok (.if_icmp .eq 18, 3) := by decide +kernel
theorem dX5_showAlways_37 : decode cX5_showAlways 37 = .ok (.iload 4, 2) := by decide +kernel
theorem dX5_showAlways_39 : decode cX5_showAlways 39 = .ok (.iconst 4, 1) := by decide +kernel
theorem dX5_showAlways_40 : decode cX5_showAlways 40 = .ok (.if_icmp .eq 12, 3) := by decide +kernel
theorem dX5_showAlways_43 : decode cX5_showAlways 43 = .ok (.aload_n 0, 1) := by decide +kernel
theorem dX5_showAlways_44 : decode cX5_showAlways 44 = .ok (.iload_n 3, 1) := by decide +kernel
theorem dX5_showAlways_45 : decode cX5_showAlways 45 = .ok (.iload_n 1, 1) := by decide +kernel
theorem dX5_showAlways_46 : decode cX5_showAlways 46 = .ok (.invokevirtual 71, 3) := by decide +kernel
theorem dX5_showAlways_49 : decode cX5_showAlways 49 = .ok (.ifCond .eq 9, 3) := by decide +kernel
theorem dX5_showAlways_52 : decode cX5_showAlways 52 = .ok (.aload_n 0, 1) := by decide +kernel
theorem dX5_showAlways_53 : decode cX5_showAlways 53 = .ok (.iload_n 3, 1) := by decide +kernel
theorem dX5_showAlways_54 : decode cX5_showAlways 54 = .ok (.iconst 0, 1) := by decide +kernel
theorem dX5_showAlways_55 : decode cX5_showAlways 55 = .ok (.invokevirtual 74, 3) := by decide +kernel
theorem dX5_showAlways_58 : decode cX5_showAlways 58 = .ok (.iinc 2 1, 3) := by decide +kernel
theorem dX5_showAlways_61 : decode cX5_showAlways 61 = .ok (.goto (-59), 3) := by decide +kernel
theorem dX5_showAlways_64 : decode cX5_showAlways 64 = .ok (.return_, 1) := by decide +kernel
theorem dX5_standsInSwept_0 : decode cX5_standsInSwept 0 = .ok (.aload_n 0, 1) := by decide +kernel
theorem dX5_standsInSwept_1 : decode cX5_standsInSwept 1 = .ok (.getfield 28, 3) := by decide +kernel
theorem dX5_standsInSwept_4 : decode cX5_standsInSwept 4 = .ok (.getfield 51, 3) := by decide +kernel
theorem dX5_standsInSwept_7 : decode cX5_standsInSwept 7 = .ok (.astore_n 3, 1) := by decide +kernel
theorem dX5_standsInSwept_8 : decode cX5_standsInSwept 8 = .ok (.iconst 0, 1) := by decide +kernel
theorem dX5_standsInSwept_9 : decode cX5_standsInSwept 9 = .ok (.istore 4, 2) := by decide +kernel
theorem dX5_standsInSwept_11 : decode cX5_standsInSwept 11 = .ok (.iload 4, 2) := by decide +kernel
theorem dX5_standsInSwept_13 : decode cX5_standsInSwept 13 = .ok (.aload_n 3, 1) := by decide +kernel
theorem dX5_standsInSwept_14 : decode cX5_standsInSwept 14 = .ok (.getfield 55, 3) := by decide +kernel
theorem dX5_standsInSwept_17 : decode cX5_standsInSwept 17 = .ok (.if_icmp .ge 95, 3) := by decide +kernel
theorem dX5_standsInSwept_20 : decode cX5_standsInSwept 20 = .ok (.aload_n 3, 1) := by decide +kernel
theorem dX5_standsInSwept_21 : decode cX5_standsInSwept 21 = .ok (.getfield 60, 3) := by decide +kernel
theorem dX5_standsInSwept_24 : decode cX5_standsInSwept 24 = .ok (.iload 4, 2) := by decide +kernel
theorem dX5_standsInSwept_26 : decode cX5_standsInSwept 26 = .ok (.iaload, 1) := by decide +kernel
theorem dX5_standsInSwept_27 : decode cX5_standsInSwept 27 = .ok (.iconst 2, 1) := by decide +kernel
theorem dX5_standsInSwept_28 : decode cX5_standsInSwept 28 = .ok (.if_icmp .ne 23, 3) := by decide +kernel
theorem dX5_standsInSwept_31 : decode cX5_standsInSwept 31 = .ok (.aload_n 3, 1) := by decide +kernel
theorem dX5_standsInSwept_32 : decode cX5_standsInSwept 32 = .ok (.getfield 77, 3) := by decide +kernel
theorem dX5_standsInSwept_35 : decode cX5_standsInSwept 35 = .ok (.iload 4, 2) := by decide +kernel
theorem dX5_standsInSwept_37 : decode cX5_standsInSwept 37 = .ok (.iaload, 1) := by decide +kernel
theorem dX5_standsInSwept_38 : decode cX5_standsInSwept 38 = .ok (.aload_n 3, 1) := by decide +kernel
theorem dX5_standsInSwept_39 : decode cX5_standsInSwept 39 = .ok (.getfield 77, 3) := by decide +kernel
theorem dX5_standsInSwept_42 : decode cX5_standsInSwept 42 = .ok (.iload_n 1, 1) := by decide +kernel
theorem dX5_standsInSwept_43 : decode cX5_standsInSwept 43 = .ok (.iaload, 1) := by decide +kernel
theorem dX5_standsInSwept_44 : decode cX5_standsInSwept 44 = .ok (.if_icmp .ge 7, 3) := by decide +kernel
theorem dX5_standsInSwept_47 : decode cX5_standsInSwept 47 = .ok (.iconst 1, 1) := by decide +kernel
theorem dX5_standsInSwept_48 : decode cX5_standsInSwept 48 = .ok (.goto 4, 3) := by decide +kernel
theorem dX5_standsInSwept_51 : decode cX5_standsInSwept 51 = .ok (.iconst 0, 1) := by decide +kernel
theorem dX5_standsInSwept_52 : decode cX5_standsInSwept 52 = .ok (.istore 5, 2) := by decide +kernel
theorem dX5_standsInSwept_54 : decode cX5_standsInSwept 54 = .ok (.iload 5, 2) := by decide +kernel
theorem dX5_standsInSwept_56 : decode cX5_standsInSwept 56 = .ok (.ifCond .eq 50, 3) := by decide +kernel
theorem dX5_standsInSwept_59 : decode cX5_standsInSwept 59 = .ok (.aload_n 0, 1) := by decide +kernel
theorem dX5_standsInSwept_60 : decode cX5_standsInSwept 60 = .ok (.getfield 28, 3) := by decide +kernel
theorem dX5_standsInSwept_63 : decode cX5_standsInSwept 63 = .ok (.iload 4, 2) := by decide +kernel
theorem dX5_standsInSwept_65 : decode cX5_standsInSwept 65 = .ok (.iload_n 2, 1) := by decide +kernel
theorem dX5_standsInSwept_66 : decode cX5_standsInSwept 66 = .ok (.invokevirtual 67, 3) := by decide +kernel
theorem dX5_standsInSwept_69 : decode cX5_standsInSwept 69 = .ok (.ifCond .eq 37, 3) := by decide +kernel
theorem dX5_standsInSwept_72 : decode cX5_standsInSwept 72 = .ok (.aload_n 3, 1) := by decide +kernel
theorem dX5_standsInSwept_73 : decode cX5_standsInSwept 73 = .ok (.iload 4, 2) := by decide +kernel
theorem dX5_standsInSwept_75 : decode cX5_standsInSwept 75 = .ok (.iload_n 1, 1) := by decide +kernel
theorem dX5_standsInSwept_76 : decode cX5_standsInSwept 76 = .ok (.invokevirtual 80, 3) := by decide +kernel
theorem dX5_standsInSwept_79 : decode cX5_standsInSwept 79 = .ok (.ifCond .eq 27, 3) := by decide +kernel
theorem dX5_standsInSwept_82 : decode cX5_standsInSwept 82 = .ok (.aload_n 0, 1) := by decide +kernel
theorem dX5_standsInSwept_83 : decode cX5_standsInSwept 83 = .ok (.getfield 28, 3) := by decide +kernel
theorem dX5_standsInSwept_86 : decode cX5_standsInSwept 86 = .ok (.getfield 83, 3) := by decide +kernel
theorem dX5_standsInSwept_89 : decode cX5_standsInSwept 89 = .ok (.iload_n 1, 1) := by decide +kernel
theorem dX5_standsInSwept_90 : decode cX5_standsInSwept 90 = .ok (.iaload, 1) := by decide +kernel
theorem dX5_standsInSwept_91 : decode cX5_standsInSwept 91 = .ok (.aload_n 0, 1) := by decide +kernel
theorem dX5_standsInSwept_92 : decode cX5_standsInSwept 92 = .ok (.getfield 28, 3) := by decide +kernel
theorem dX5_standsInSwept_95 : decode cX5_standsInSwept 95 = .ok (.getfield 83, 3) := by decide +kernel
theorem dX5_standsInSwept_98 : decode cX5_standsInSwept 98 = .ok (.iload 4, 2) := by decide +kernel
theorem dX5_standsInSwept_100 : decode cX5_standsInSwept 100 = .ok (.iaload, 1) := by decide +kernel
theorem dX5_standsInSwept_101 : decode cX5_standsInSwept 101 = .ok (.if_icmp .ge 5, 3) := by decide +kernel
theorem dX5_standsInSwept_104 : decode cX5_standsInSwept 104 = .ok (.iconst 1, 1) := by decide +kernel
theorem dX5_standsInSwept_105 : decode cX5_standsInSwept 105 = .ok (.ireturn, 1) := by decide +kernel
theorem dX5_standsInSwept_106 : decode cX5_standsInSwept 106 = .ok (.iinc 4 1, 3) := by decide +kernel
theorem dX5_standsInSwept_109 : decode cX5_standsInSwept 109 = .ok (.goto (-98), 3) := by decide +kernel
theorem dX5_standsInSwept_112 : decode cX5_standsInSwept 112 = .ok (.iconst 0, 1) := by decide +kernel
theorem dX5_standsInSwept_113 : decode cX5_standsInSwept 113 = .ok (.ireturn, 1) := by decide +kernel
theorem dX5_showShoalest_0 : decode cX5_showShoalest 0 = .ok (.iconst (-1), 1) := by decide +kernel
theorem dX5_showShoalest_1 : decode cX5_showShoalest 1 = .ok (.istore_n 1, 1) := by decide +kernel
theorem dX5_showShoalest_2 : decode cX5_showShoalest 2 = .ok (.iconst 0, 1) := by decide +kernel
theorem dX5_showShoalest_3 : decode cX5_showShoalest 3 = .ok (.istore_n 2, 1) := by decide +kernel
theorem dX5_showShoalest_4 : decode cX5_showShoalest 4 = .ok (.iload_n 2, 1) := by decide +kernel
theorem dX5_showShoalest_5 : decode cX5_showShoalest 5 = .ok (.aload_n 0, 1) := by decide +kernel
theorem dX5_showShoalest_6 : decode cX5_showShoalest 6 = .ok (.getfield 15, 3) := by decide +kernel
theorem dX5_showShoalest_9 : decode cX5_showShoalest 9 = .ok (.if_icmp .ge 44, 3) := by decide +kernel
theorem dX5_showShoalest_12 : decode cX5_showShoalest 12 = .ok (.aload_n 0, 1) := by decide +kernel
theorem dX5_showShoalest_13 : decode cX5_showShoalest 13 = .ok (.getfield 9, 3) := by decide +kernel
theorem dX5_showShoalest_16 : decode cX5_showShoalest 16 = .ok (.iload_n 2, 1) := by decide +kernel
theorem dX5_showShoalest_17 : decode cX5_showShoalest 17 = .ok (.iaload, 1) := by decide +kernel
theorem dX5_showShoalest_18 : decode cX5_showShoalest 18 = .ok (.istore_n 3, 1) := by decide +kernel
theorem dX5_showShoalest_19 : decode cX5_showShoalest 19 = .ok (.iload_n 1, 1) := by decide +kernel
theorem dX5_showShoalest_20 : decode cX5_showShoalest 20 = .ok (.iconst (-1), 1) := by decide +kernel
theorem dX5_showShoalest_21 : decode cX5_showShoalest 21 = .ok (.if_icmp .eq 24, 3) := by decide +kernel
theorem dX5_showShoalest_24 : decode cX5_showShoalest 24 = .ok (.aload_n 0, 1) := by decide +kernel
theorem dX5_showShoalest_25 : decode cX5_showShoalest 25 = .ok (.getfield 28, 3) := by decide +kernel
theorem dX5_showShoalest_28 : decode cX5_showShoalest 28 = .ok (.getfield 83, 3) := by decide +kernel
theorem dX5_showShoalest_31 : decode cX5_showShoalest 31 = .ok (.iload_n 3, 1) := by decide +kernel
theorem dX5_showShoalest_32 : decode cX5_showShoalest 32 = .ok (.iaload, 1) := by decide +kernel
theorem dX5_showShoalest_33 : decode cX5_showShoalest 33 = .ok (.aload_n 0, 1) := by decide +kernel
theorem dX5_showShoalest_34 : decode cX5_showShoalest 34 = .ok (.getfield 28, 3) := by decide +kernel
theorem dX5_showShoalest_37 : decode cX5_showShoalest 37 = .ok (.getfield 83, 3) := by decide +kernel
theorem dX5_showShoalest_40 : decode cX5_showShoalest 40 = .ok (.iload_n 1, 1) := by decide +kernel
theorem dX5_showShoalest_41 : decode cX5_showShoalest 41 = .ok (.iaload, 1) := by decide +kernel
theorem dX5_showShoalest_42 : decode cX5_showShoalest 42 = .ok (.if_icmp .ge 5, 3) := by decide +kernel
theorem dX5_showShoalest_45 : decode cX5_showShoalest 45 = .ok (.iload_n 3, 1) := by decide +kernel
theorem dX5_showShoalest_46 : decode cX5_showShoalest 46 = .ok (.istore_n 1, 1) := by decide +kernel
theorem dX5_showShoalest_47 : decode cX5_showShoalest 47 = .ok (.iinc 2 1, 3) := by decide +kernel
theorem dX5_showShoalest_50 : decode cX5_showShoalest 50 = .ok (.goto (-46), 3) := by decide +kernel
theorem dX5_showShoalest_53 : decode cX5_showShoalest 53 = .ok (.iload_n 1, 1) := by decide +kernel
theorem dX5_showShoalest_54 : decode cX5_showShoalest 54 = .ok (.iconst (-1), 1) := by decide +kernel
theorem dX5_showShoalest_55 : decode cX5_showShoalest 55 = .ok (.if_icmp .eq 20, 3) := by decide +kernel
theorem dX5_showShoalest_58 : decode cX5_showShoalest 58 = .ok (.aload_n 0, 1) := by decide +kernel
theorem dX5_showShoalest_59 : decode cX5_showShoalest 59 = .ok (.getfield 25, 3) := by decide +kernel
theorem dX5_showShoalest_62 : decode cX5_showShoalest 62 = .ok (.iload_n 1, 1) := by decide +kernel
theorem dX5_showShoalest_63 : decode cX5_showShoalest 63 = .ok (.iaload, 1) := by decide +kernel
theorem dX5_showShoalest_64 : decode cX5_showShoalest 64 = .ok (.bipush 6, 2) := by decide +kernel
theorem dX5_showShoalest_66 : decode cX5_showShoalest 66 = .ok (.if_icmp .ne 9, 3) := by decide +kernel
theorem dX5_showShoalest_69 : decode cX5_showShoalest 69 = .ok (.aload_n 0, 1) := by decide +kernel
theorem dX5_showShoalest_70 : decode cX5_showShoalest 70 = .ok (.iload_n 1, 1) := by decide +kernel
theorem dX5_showShoalest_71 : decode cX5_showShoalest 71 = .ok (.iconst 1, 1) := by decide +kernel
theorem dX5_showShoalest_72 : decode cX5_showShoalest 72 = .ok (.invokevirtual 74, 3) := by decide +kernel
theorem dX5_showShoalest_75 : decode cX5_showShoalest 75 = .ok (.return_, 1) := by decide +kernel
theorem dX5_showFarthest_0 : decode cX5_showFarthest 0 = .ok (.iconst (-1), 1) := by decide +kernel
theorem dX5_showFarthest_1 : decode cX5_showFarthest 1 = .ok (.istore_n 1, 1) := by decide +kernel
theorem dX5_showFarthest_2 : decode cX5_showFarthest 2 = .ok (.iconst (-1), 1) := by decide +kernel
theorem dX5_showFarthest_3 : decode cX5_showFarthest 3 = .ok (.istore_n 2, 1) := by decide +kernel
theorem dX5_showFarthest_4 : decode cX5_showFarthest 4 = .ok (.iconst 0, 1) := by decide +kernel
theorem dX5_showFarthest_5 : decode cX5_showFarthest 5 = .ok (.istore_n 3, 1) := by decide +kernel
theorem dX5_showFarthest_6 : decode cX5_showFarthest 6 = .ok (.iload_n 3, 1) := by decide +kernel
theorem dX5_showFarthest_7 : decode cX5_showFarthest 7 = .ok (.aload_n 0, 1) := by decide +kernel
theorem dX5_showFarthest_8 : decode cX5_showFarthest 8 = .ok (.getfield 15, 3) := by decide +kernel
theorem dX5_showFarthest_11 : decode cX5_showFarthest 11 = .ok (.if_icmp .ge 49, 3) := by decide +kernel
theorem dX5_showFarthest_14 : decode cX5_showFarthest 14 = .ok (.aload_n 0, 1) := by decide +kernel
theorem dX5_showFarthest_15 : decode cX5_showFarthest 15 = .ok (.getfield 9, 3) := by decide +kernel
theorem dX5_showFarthest_18 : decode cX5_showFarthest 18 = .ok (.iload_n 3, 1) := by decide +kernel
theorem dX5_showFarthest_19 : decode cX5_showFarthest 19 = .ok (.iaload, 1) := by decide +kernel
theorem dX5_showFarthest_20 : decode cX5_showFarthest 20 = .ok (.istore 4, 2) := by decide +kernel
theorem dX5_showFarthest_22 : decode cX5_showFarthest 22 = .ok (.aload_n 0, 1) := by decide +kernel
theorem dX5_showFarthest_23 : decode cX5_showFarthest 23 = .ok (.getfield 25, 3) := by decide +kernel
theorem dX5_showFarthest_26 : decode cX5_showFarthest 26 = .ok (.iload 4, 2) := by decide +kernel
theorem dX5_showFarthest_28 : decode cX5_showFarthest 28 = .ok (.iaload, 1) := by decide +kernel
theorem dX5_showFarthest_29 : decode cX5_showFarthest 29 = .ok (.bipush 6, 2) := by decide +kernel
theorem dX5_showFarthest_31 : decode cX5_showFarthest 31 = .ok (.if_icmp .ne 23, 3) := by decide +kernel
theorem dX5_showFarthest_34 : decode cX5_showFarthest 34 = .ok (.aload_n 0, 1) := by decide +kernel
theorem dX5_showFarthest_35 : decode cX5_showFarthest 35 = .ok (.iload 4, 2) := by decide +kernel
theorem dX5_showFarthest_37 : decode cX5_showFarthest 37 = .ok (.invokevirtual 86, 3) := by decide +kernel
theorem dX5_showFarthest_40 : decode cX5_showFarthest 40 = .ok (.istore 5, 2) := by decide +kernel
theorem dX5_showFarthest_42 : decode cX5_showFarthest 42 = .ok (.iload 5, 2) := by decide +kernel
theorem dX5_showFarthest_44 : decode cX5_showFarthest 44 = .ok (.iload_n 2, 1) := by decide +kernel
theorem dX5_showFarthest_45 : decode cX5_showFarthest 45 = .ok (.if_icmp .le 9, 3) := by decide +kernel
theorem dX5_showFarthest_48 : decode cX5_showFarthest 48 = .ok (.iload 5, 2) := by decide +kernel
theorem dX5_showFarthest_50 : decode cX5_showFarthest 50 = .ok (.istore_n 2, 1) := by decide +kernel
theorem dX5_showFarthest_51 : decode cX5_showFarthest 51 = .ok (.iload 4, 2) := by decide +kernel
theorem dX5_showFarthest_53 : decode cX5_showFarthest 53 = .ok (.istore_n 1, 1) := by decide +kernel
theorem dX5_showFarthest_54 : decode cX5_showFarthest 54 = .ok (.iinc 3 1, 3) := by decide +kernel
theorem dX5_showFarthest_57 : decode cX5_showFarthest 57 = .ok (.goto (-51), 3) := by decide +kernel
theorem dX5_showFarthest_60 : decode cX5_showFarthest 60 = .ok (.iload_n 1, 1) := by decide +kernel
theorem dX5_showFarthest_61 : decode cX5_showFarthest 61 = .ok (.iconst (-1), 1) := by decide +kernel
theorem dX5_showFarthest_62 : decode cX5_showFarthest 62 = .ok (.if_icmp .eq 9, 3) := by decide +kernel
theorem dX5_showFarthest_65 : decode cX5_showFarthest 65 = .ok (.aload_n 0, 1) := by decide +kernel
theorem dX5_showFarthest_66 : decode cX5_showFarthest 66 = .ok (.iload_n 1, 1) := by decide +kernel
theorem dX5_showFarthest_67 : decode cX5_showFarthest 67 = .ok (.iconst 2, 1) := by decide +kernel
theorem dX5_showFarthest_68 : decode cX5_showFarthest 68 = .ok (.invokevirtual 74, 3) := by decide +kernel
theorem dX5_showFarthest_71 : decode cX5_showFarthest 71 = .ok (.return_, 1) := by decide +kernel
theorem dX5_distanceToShown_0 : decode cX5_distanceToShown 0 = .ok (.ldc 89, 2) := by decide +kernel
theorem dX5_distanceToShown_2 : decode cX5_distanceToShown 2 = .ok (.istore_n 2, 1) := by decide +kernel
theorem dX5_distanceToShown_3 : decode cX5_distanceToShown 3 = .ok (.iconst 0, 1) := by decide +kernel
theorem dX5_distanceToShown_4 : decode cX5_distanceToShown 4 = .ok (.istore_n 3, 1) := by decide +kernel
theorem dX5_distanceToShown_5 : decode cX5_distanceToShown 5 = .ok (.iload_n 3, 1) := by decide +kernel
theorem dX5_distanceToShown_6 : decode cX5_distanceToShown 6 = .ok (.aload_n 0, 1) := by decide +kernel
theorem dX5_distanceToShown_7 : decode cX5_distanceToShown 7 = .ok (.getfield 22, 3) := by decide +kernel
theorem dX5_distanceToShown_10 : decode cX5_distanceToShown 10 = .ok (.if_icmp .ge 31, 3) := by decide +kernel
theorem dX5_distanceToShown_13 : decode cX5_distanceToShown 13 = .ok (.iload_n 2, 1) := by decide +kernel
theorem dX5_distanceToShown_14 : decode cX5_distanceToShown 14 = .ok (.aload_n 0, 1) := by decide +kernel
theorem dX5_distanceToShown_15 : decode cX5_distanceToShown 15 = .ok (.getfield 28, 3) := by decide +kernel
theorem dX5_distanceToShown_18 : decode cX5_distanceToShown 18 = .ok (.getfield 51, 3) := by decide +kernel
theorem dX5_distanceToShown_21 : decode cX5_distanceToShown 21 = .ok (.iload_n 1, 1) := by decide +kernel
theorem dX5_distanceToShown_22 : decode cX5_distanceToShown 22 = .ok (.aload_n 0, 1) := by decide +kernel
theorem dX5_distanceToShown_23 : decode cX5_distanceToShown 23 = .ok (.getfield 19, 3) := by decide +kernel
theorem dX5_distanceToShown_26 : decode cX5_distanceToShown 26 = .ok (.iload_n 3, 1) := by decide +kernel
theorem dX5_distanceToShown_27 : decode cX5_distanceToShown 27 = .ok (.iaload, 1) := by decide +kernel
theorem dX5_distanceToShown_28 : decode cX5_distanceToShown 28 = .ok (.invokevirtual 90, 3) := by decide +kernel
theorem dX5_distanceToShown_31 : decode cX5_distanceToShown 31 = .ok (.invokestatic 94, 3) := by decide +kernel
theorem dX5_distanceToShown_34 : decode cX5_distanceToShown 34 = .ok (.istore_n 2, 1) := by decide +kernel
theorem dX5_distanceToShown_35 : decode cX5_distanceToShown 35 = .ok (.iinc 3 1, 3) := by decide +kernel
theorem dX5_distanceToShown_38 : decode cX5_distanceToShown 38 = .ok (.goto (-33), 3) := by decide +kernel
theorem dX5_distanceToShown_41 : decode cX5_distanceToShown 41 = .ok (.iload_n 2, 1) := by decide +kernel
theorem dX5_distanceToShown_42 : decode cX5_distanceToShown 42 = .ok (.ireturn, 1) := by decide +kernel
theorem dX5_add_0 : decode cX5_add 0 = .ok (.aload_n 0, 1) := by decide +kernel
theorem dX5_add_1 : decode cX5_add 1 = .ok (.getfield 22, 3) := by decide +kernel
theorem dX5_add_4 : decode cX5_add 4 = .ok (.sipush 200, 3) := by decide +kernel
theorem dX5_add_7 : decode cX5_add 7 = .ok (.if_icmp .lt 4, 3) := by decide +kernel
theorem dX5_add_10 : decode cX5_add 10 = .ok (.return_, 1) := by decide +kernel
theorem dX5_add_11 : decode cX5_add 11 = .ok (.aload_n 0, 1) := by decide +kernel
theorem dX5_add_12 : decode cX5_add 12 = .ok (.getfield 19, 3) := by decide +kernel
theorem dX5_add_15 : decode cX5_add 15 = .ok (.aload_n 0, 1) := by decide +kernel
theorem dX5_add_16 : decode cX5_add 16 = .ok (.getfield 22, 3) := by decide +kernel
theorem dX5_add_19 : decode cX5_add 19 = .ok (.iload_n 1, 1) := by decide +kernel
theorem dX5_add_20 : decode cX5_add 20 = .ok (.iastore, 1) := by decide +kernel
theorem dX5_add_21 : decode cX5_add 21 = .ok (.aload_n 0, 1) := by decide +kernel
theorem dX5_add_22 : decode cX5_add 22 = .ok (.dup, 1) := by decide +kernel
theorem dX5_add_23 : decode cX5_add 23 = .ok (.getfield 22, 3) := by decide +kernel
theorem dX5_add_26 : decode cX5_add 26 = .ok (.iconst 1, 1) := by decide +kernel
theorem dX5_add_27 : decode cX5_add 27 = .ok (.iadd, 1) := by decide +kernel
theorem dX5_add_28 : decode cX5_add 28 = .ok (.putfield 22, 3) := by decide +kernel
theorem dX5_add_31 : decode cX5_add 31 = .ok (.aload_n 0, 1) := by decide +kernel
theorem dX5_add_32 : decode cX5_add 32 = .ok (.getfield 25, 3) := by decide +kernel
theorem dX5_add_35 : decode cX5_add 35 = .ok (.iload_n 1, 1) := by decide +kernel
theorem dX5_add_36 : decode cX5_add 36 = .ok (.iload_n 2, 1) := by decide +kernel
theorem dX5_add_37 : decode cX5_add 37 = .ok (.iastore, 1) := by decide +kernel
theorem dX5_add_38 : decode cX5_add 38 = .ok (.return_, 1) := by decide +kernel
theorem dX6_init_0 : decode cX6_init 0 = .ok (.aload_n 0, 1) := by decide +kernel
theorem dX6_init_1 : decode cX6_init 1 = .ok (.invokespecial 3, 3) := by decide +kernel
theorem dX6_init_4 : decode cX6_init 4 = .ok (.aload_n 0, 1) := by decide +kernel
theorem dX6_init_5 : decode cX6_init 5 = .ok (.sipush 200, 3) := by decide +kernel
theorem dX6_init_8 : decode cX6_init 8 = .ok (.newarray .int, 2) := by decide +kernel
theorem dX6_init_10 : decode cX6_init 10 = .ok (.putfield 9, 3) := by decide +kernel
theorem dX6_init_13 : decode cX6_init 13 = .ok (.aload_n 0, 1) := by decide +kernel
theorem dX6_init_14 : decode cX6_init 14 = .ok (.sipush 200, 3) := by decide +kernel
theorem dX6_init_17 : decode cX6_init 17 = .ok (.newarray .int, 2) := by decide +kernel
theorem dX6_init_19 : decode cX6_init 19 = .ok (.putfield 15, 3) := by decide +kernel
theorem dX6_init_22 : decode cX6_init 22 = .ok (.aload_n 0, 1) := by decide +kernel
theorem dX6_init_23 : decode cX6_init 23 = .ok (.sipush 200, 3) := by decide +kernel
theorem dX6_init_26 : decode cX6_init 26 = .ok (.newarray .int, 2) := by decide +kernel
theorem dX6_init_28 : decode cX6_init 28 = .ok (.putfield 18, 3) := by decide +kernel
theorem dX6_init_31 : decode cX6_init 31 = .ok (.aload_n 0, 1) := by decide +kernel
theorem dX6_init_32 : decode cX6_init 32 = .ok (.sipush 200, 3) := by decide +kernel
theorem dX6_init_35 : decode cX6_init 35 = .ok (.newarray .int, 2) := by decide +kernel
theorem dX6_init_37 : decode cX6_init 37 = .ok (.putfield 21, 3) := by decide +kernel
theorem dX6_init_40 : decode cX6_init 40 = .ok (.aload_n 0, 1) := by decide +kernel
theorem dX6_init_41 : decode cX6_init 41 = .ok (.sipush 200, 3) := by decide +kernel
theorem dX6_init_44 : decode cX6_init 44 = .ok (.newarray .int, 2) := by decide +kernel
theorem dX6_init_46 : decode cX6_init 46 = .ok (.putfield 24, 3) := by decide +kernel
theorem dX6_init_49 : decode cX6_init 49 = .ok (.aload_n 0, 1) := by decide +kernel
theorem dX6_init_50 : decode cX6_init 50 = .ok (.sipush 200, 3) := by decide +kernel
theorem dX6_init_53 : decode cX6_init 53 = .ok (.newarray .int, 2) := by decide +kernel
theorem dX6_init_55 : decode cX6_init 55 = .ok (.putfield 27, 3) := by decide +kernel
theorem dX6_init_58 : decode cX6_init 58 = .ok (.aload_n 0, 1) := by decide +kernel
theorem dX6_init_59 : decode cX6_init 59 = .ok (.sipush 200, 3) := by decide +kernel
theorem dX6_init_62 : decode cX6_init 62 = .ok (.newarray .int, 2) := by decide +kernel
theorem dX6_init_64 : decode cX6_init 64 = .ok (.putfield 30, 3) := by decide +kernel
theorem dX6_init_67 : decode cX6_init 67 = .ok (.aload_n 0, 1) := by decide +kernel
theorem dX6_init_68 : decode cX6_init 68 = .ok (.sipush 200, 3) := by decide +kernel
theorem dX6_init_71 : decode cX6_init 71 = .ok (.newarray .int, 2) := by decide +kernel
theorem dX6_init_73 : decode cX6_init 73 = .ok (.putfield 33, 3) := by decide +kernel
theorem dX6_init_76 : decode cX6_init 76 = .ok (.aload_n 0, 1) := by decide +kernel
theorem dX6_init_77 : decode cX6_init 77 = .ok (.sipush 200, 3) := by decide +kernel
theorem dX6_init_80 : decode cX6_init 80 = .ok (.newarray .int, 2) := by decide +kernel
theorem dX6_init_82 : decode cX6_init 82 = .ok (.putfield 36, 3) := by decide +kernel
theorem dX6_init_85 : decode cX6_init 85 = .ok (.aload_n 0, 1) := by decide +kernel
theorem dX6_init_86 : decode cX6_init 86 = .ok (.sipush 200, 3) := by decide +kernel
theorem dX6_init_89 : decode cX6_init 89 = .ok (.newarray .int, 2) := by decide +kernel
theorem dX6_init_91 : decode cX6_init 91 = .ok (.putfield 39, 3) := by decide +kernel
theorem dX6_init_94 : decode cX6_init 94 = .ok (.aload_n 0, 1) := by decide +kernel
theorem dX6_init_95 : decode cX6_init 95 = .ok (.iconst 0, 1) := by decide +kernel
theorem dX6_init_96 : decode cX6_init 96 = .ok (.putfield 42, 3) := by decide +kernel
theorem dX6_init_99 : decode cX6_init 99 = .ok (.return_, 1) := by decide +kernel
theorem dX6_has_0 : decode cX6_has 0 = .ok (.iload_n 1, 1) := by decide +kernel
theorem dX6_has_1 : decode cX6_has 1 = .ok (.ifCond .lt 15, 3) := by decide +kernel
theorem dX6_has_4 : decode cX6_has 4 = .ok (.iload_n 1, 1) := by decide +kernel
theorem dX6_has_5 : decode cX6_has 5 = .ok (.aload_n 0, 1) := by decide +kernel
theorem dX6_has_6 : decode cX6_has 6 = .ok (.getfield 42, 3) := by decide +kernel
theorem dX6_has_9 : decode cX6_has 9 = .ok (.if_icmp .ge 7, 3) := by decide +kernel
theorem dX6_has_12 : decode cX6_has 12 = .ok (.iconst 1, 1) := by decide +kernel
theorem dX6_has_13 : decode cX6_has 13 = .ok (.goto 4, 3) := by decide +kernel
theorem dX6_has_16 : decode cX6_has 16 = .ok (.iconst 0, 1) := by decide +kernel
theorem dX6_has_17 : decode cX6_has 17 = .ok (.ireturn, 1) := by decide +kernel
theorem dX6_add_0 : decode cX6_add 0 = .ok (.aload_n 0, 1) := by decide +kernel
theorem dX6_add_1 : decode cX6_add 1 = .ok (.getfield 42, 3) := by decide +kernel
theorem dX6_add_4 : decode cX6_add 4 = .ok (.sipush 200, 3) := by decide +kernel
theorem dX6_add_7 : decode cX6_add 7 = .ok (.if_icmp .lt 5, 3) := by decide +kernel
theorem dX6_add_10 : decode cX6_add 10 = .ok (.iconst (-1), 1) := by decide +kernel
theorem dX6_add_11 : decode cX6_add 11 = .ok (.ireturn, 1) := by decide +kernel
theorem dX6_add_12 : decode cX6_add 12 = .ok (.aload_n 0, 1) := by decide +kernel
theorem dX6_add_13 : decode cX6_add 13 = .ok (.getfield 9, 3) := by decide +kernel
theorem dX6_add_16 : decode cX6_add 16 = .ok (.aload_n 0, 1) := by decide +kernel
theorem dX6_add_17 : decode cX6_add 17 = .ok (.getfield 42, 3) := by decide +kernel
theorem dX6_add_20 : decode cX6_add 20 = .ok (.iload_n 1, 1) := by decide +kernel
theorem dX6_add_21 : decode cX6_add 21 = .ok (.iastore, 1) := by decide +kernel
theorem dX6_add_22 : decode cX6_add 22 = .ok (.aload_n 0, 1) := by decide +kernel
theorem dX6_add_23 : decode cX6_add 23 = .ok (.getfield 15, 3) := by decide +kernel
theorem dX6_add_26 : decode cX6_add 26 = .ok (.aload_n 0, 1) := by decide +kernel
theorem dX6_add_27 : decode cX6_add 27 = .ok (.getfield 42, 3) := by decide +kernel
theorem dX6_add_30 : decode cX6_add 30 = .ok (.iload_n 2, 1) := by decide +kernel
theorem dX6_add_31 : decode cX6_add 31 = .ok (.iastore, 1) := by decide +kernel
theorem dX6_add_32 : decode cX6_add 32 = .ok (.aload_n 0, 1) := by decide +kernel
theorem dX6_add_33 : decode cX6_add 33 = .ok (.getfield 18, 3) := by decide +kernel
theorem dX6_add_36 : decode cX6_add 36 = .ok (.aload_n 0, 1) := by decide +kernel
theorem dX6_add_37 : decode cX6_add 37 = .ok (.getfield 42, 3) := by decide +kernel
theorem dX6_add_40 : decode cX6_add 40 = .ok (.iload_n 3, 1) := by decide +kernel
theorem dX6_add_41 : decode cX6_add 41 = .ok (.iastore, 1) := by decide +kernel
theorem dX6_add_42 : decode cX6_add 42 = .ok (.aload_n 0, 1) := by decide +kernel
theorem dX6_add_43 : decode cX6_add 43 = .ok (.getfield 21, 3) := by decide +kernel
theorem dX6_add_46 : decode cX6_add 46 = .ok (.aload_n 0, 1) := by decide +kernel
theorem dX6_add_47 : decode cX6_add 47 = .ok (.getfield 42, 3) := by decide +kernel
theorem dX6_add_50 : decode cX6_add 50 = .ok (.iload 4, 2) := by decide +kernel
theorem dX6_add_52 : decode cX6_add 52 = .ok (.iastore, 1) := by decide +kernel
theorem dX6_add_53 : decode cX6_add 53 = .ok (.aload_n 0, 1) := by decide +kernel
theorem dX6_add_54 : decode cX6_add 54 = .ok (.getfield 33, 3) := by decide +kernel
theorem dX6_add_57 : decode cX6_add 57 = .ok (.aload_n 0, 1) := by decide +kernel
theorem dX6_add_58 : decode cX6_add 58 = .ok (.getfield 42, 3) := by decide +kernel
theorem dX6_add_61 : decode cX6_add 61 = .ok (.bipush 100, 2) := by decide +kernel
theorem dX6_add_63 : decode cX6_add 63 = .ok (.iastore, 1) := by decide +kernel
theorem dX6_add_64 : decode cX6_add 64 = .ok (.aload_n 0, 1) := by decide +kernel
theorem dX6_add_65 : decode cX6_add 65 = .ok (.aload_n 0, 1) := by decide +kernel
theorem dX6_add_66 : decode cX6_add 66 = .ok (.getfield 42, 3) := by decide +kernel
theorem dX6_add_69 : decode cX6_add 69 = .ok (.iconst 0, 1) := by decide +kernel
theorem dX6_add_70 : decode cX6_add 70 = .ok (.iconst (-1), 1) := by decide +kernel
theorem dX6_add_71 : decode cX6_add 71 = .ok (.iconst (-1), 1) := by decide +kernel
theorem dX6_add_72 : decode cX6_add 72 = .ok (.invokevirtual 46, 3) := by decide +kernel
theorem dX6_add_75 : decode cX6_add 75 = .ok (.aload_n 0, 1) := by decide +kernel
theorem dX6_add_76 : decode cX6_add 76 = .ok (.aload_n 0, 1) := by decide +kernel
theorem dX6_add_77 : decode cX6_add 77 = .ok (.getfield 42, 3) := by decide +kernel
theorem dX6_add_80 : decode cX6_add 80 = .ok (.iconst 1, 1) := by decide +kernel
theorem dX6_add_81 : decode cX6_add 81 = .ok (.iconst 1, 1) := by decide +kernel
theorem dX6_add_82 : decode cX6_add 82 = .ok (.invokevirtual 50, 3) := by decide +kernel
theorem dX6_add_85 : decode cX6_add 85 = .ok (.aload_n 0, 1) := by decide +kernel
theorem dX6_add_86 : decode cX6_add 86 = .ok (.dup, 1) := by decide +kernel
theorem dX6_add_87 : decode cX6_add 87 = .ok (.getfield 42, 3) := by decide +kernel
theorem dX6_add_90 : decode cX6_add 90 = .ok (.iconst 1, 1) := by decide +kernel
theorem dX6_add_91 : decode cX6_add 91 = .ok (.iadd, 1) := by decide +kernel
theorem dX6_add_92 : decode cX6_add 92 = .ok (.putfield 42, 3) := by decide +kernel
theorem dX6_add_95 : decode cX6_add 95 = .ok (.aload_n 0, 1) := by decide +kernel
theorem dX6_add_96 : decode cX6_add 96 = .ok (.getfield 42, 3) := by decide +kernel
theorem dX6_add_99 : decode cX6_add 99 = .ok (.iconst 1, 1) := by decide +kernel
theorem dX6_add_100 : decode cX6_add 100 = .ok (.isub, 1) := by decide +kernel
theorem dX6_add_101 : decode cX6_add 101 = .ok (.ireturn, 1) := by decide +kernel
theorem dX6_setOrigin_0 : decode cX6_setOrigin 0 = .ok (.aload_n 0, 1) := by decide +kernel
theorem dX6_setOrigin_1 : decode cX6_setOrigin 1 = .ok (.getfield 24, 3) := by decide +kernel
theorem dX6_setOrigin_4 : decode cX6_setOrigin 4 = .ok (.iload_n 1, 1) := by decide +kernel
theorem dX6_setOrigin_5 : decode cX6_setOrigin 5 = .ok (.iload_n 2, 1) := by decide +kernel
theorem dX6_setOrigin_6 : decode cX6_setOrigin 6 = .ok (.iastore, 1) := by decide +kernel
theorem dX6_setOrigin_7 : decode cX6_setOrigin 7 = .ok (.aload_n 0, 1) := by decide +kernel
theorem dX6_setOrigin_8 : decode cX6_setOrigin 8 = .ok (.getfield 27, 3) := by decide +kernel
theorem dX6_setOrigin_11 : decode cX6_setOrigin 11 = .ok (.iload_n 1, 1) := by decide +kernel
theorem dX6_setOrigin_12 : decode cX6_setOrigin 12 = .ok (.iload_n 3, 1) := by decide +kernel
theorem dX6_setOrigin_13 : decode cX6_setOrigin 13 = .ok (.iastore, 1) := by decide +kernel
theorem dX6_setOrigin_14 : decode cX6_setOrigin 14 = .ok (.aload_n 0, 1) := by decide +kernel
theorem dX6_setOrigin_15 : decode cX6_setOrigin 15 = .ok (.getfield 30, 3) := by decide +kernel
theorem dX6_setOrigin_18 : decode cX6_setOrigin 18 = .ok (.iload_n 1, 1) := by decide +kernel
theorem dX6_setOrigin_19 : decode cX6_setOrigin 19 = .ok (.iload 4, 2) := by decide +kernel
theorem dX6_setOrigin_21 : decode cX6_setOrigin 21 = .ok (.iastore, 1) := by decide +kernel
theorem dX6_setOrigin_22 : decode cX6_setOrigin 22 = .ok (.return_, 1) := by decide +kernel
theorem dX6_setSpan_0 : decode cX6_setSpan 0 = .ok (.aload_n 0, 1) := by decide +kernel
theorem dX6_setSpan_1 : decode cX6_setSpan 1 = .ok (.getfield 36, 3) := by decide +kernel
theorem dX6_setSpan_4 : decode cX6_setSpan 4 = .ok (.iload_n 1, 1) := by decide +kernel
theorem dX6_setSpan_5 : decode cX6_setSpan 5 = .ok (.iload_n 2, 1) := by decide +kernel
theorem dX6_setSpan_6 : decode cX6_setSpan 6 = .ok (.iastore, 1) := by decide +kernel
theorem dX6_setSpan_7 : decode cX6_setSpan 7 = .ok (.aload_n 0, 1) := by decide +kernel
theorem dX6_setSpan_8 : decode cX6_setSpan 8 = .ok (.getfield 39, 3) := by decide +kernel
theorem dX6_setSpan_11 : decode cX6_setSpan 11 = .ok (.iload_n 1, 1) := by decide +kernel
theorem dX6_setSpan_12 : decode cX6_setSpan 12 = .ok (.iload_n 3, 1) := by decide +kernel
theorem dX6_setSpan_13 : decode cX6_setSpan 13 = .ok (.iastore, 1) := by decide +kernel
theorem dX6_setSpan_14 : decode cX6_setSpan 14 = .ok (.return_, 1) := by decide +kernel
theorem dX6_removeLast_0 : decode cX6_removeLast 0 = .ok (.aload_n 0, 1) := by decide +kernel
theorem dX6_removeLast_1 : decode cX6_removeLast 1 = .ok (.iconst 0, 1) := by decide +kernel
theorem dX6_removeLast_2 : decode cX6_removeLast 2 = .ok (.aload_n 0, 1) := by decide +kernel
theorem dX6_removeLast_3 : decode cX6_removeLast 3 = .ok (.getfield 42, 3) := by decide +kernel
theorem dX6_removeLast_6 : decode cX6_removeLast 6 = .ok (.iconst 1, 1) := by decide +kernel
theorem dX6_removeLast_7 : decode cX6_removeLast 7 = .ok (.isub, 1) := by decide +kernel
theorem dX6_removeLast_8 : decode cX6_removeLast 8 = .ok (.invokestatic 54, 3) := by decide +kernel
theorem dX6_removeLast_11 : decode cX6_removeLast 11 = .ok (.putfield 42, 3) := by decide +kernel
theorem dX6_removeLast_14 : decode cX6_removeLast 14 = .ok (.return_, 1) := by decide +kernel
theorem dX6_ofLine_0 : decode cX6_ofLine 0 = .ok (.iconst 0, 1) := by decide +kernel
theorem dX6_ofLine_1 : decode cX6_ofLine 1 = .ok (.istore_n 2, 1) := by decide +kernel
theorem dX6_ofLine_2 : decode cX6_ofLine 2 = .ok (.iconst 0, 1) := by decide +kernel
theorem dX6_ofLine_3 : decode cX6_ofLine 3 = .ok (.istore_n 3, 1) := by decide +kernel
theorem dX6_ofLine_4 : decode cX6_ofLine 4 = .ok (.iload_n 3, 1) := by decide +kernel
theorem dX6_ofLine_5 : decode cX6_ofLine 5 = .ok (.aload_n 0, 1) := by decide +kernel
theorem dX6_ofLine_6 : decode cX6_ofLine 6 = .ok (.getfield 42, 3) := by decide +kernel
theorem dX6_ofLine_9 : decode cX6_ofLine 9 = .ok (.if_icmp .ge 22, 3) := by decide +kernel
theorem dX6_ofLine_12 : decode cX6_ofLine 12 = .ok (.aload_n 0, 1) := by decide +kernel
theorem dX6_ofLine_13 : decode cX6_ofLine 13 = .ok (.getfield 27, 3) := by decide +kernel
theorem dX6_ofLine_16 : decode cX6_ofLine 16 = .ok (.iload_n 3, 1) := by decide +kernel
theorem dX6_ofLine_17 : decode cX6_ofLine 17 = .ok (.iaload, 1) := by decide +kernel
theorem dX6_ofLine_18 : decode cX6_ofLine 18 = .ok (.iload_n 1, 1) := by decide +kernel
theorem dX6_ofLine_19 : decode cX6_ofLine 19 = .ok (.if_icmp .ne 6, 3) := by decide +kernel
theorem dX6_ofLine_22 : decode cX6_ofLine 22 = .ok (.iinc 2 1, 3) := by decide +kernel
theorem dX6_ofLine_25 : decode cX6_ofLine 25 = .ok (.iinc 3 1, 3) := by decide +kernel
theorem dX6_ofLine_28 : decode cX6_ofLine 28 = .ok (.goto (-24), 3) := by decide +kernel
theorem dX6_ofLine_31 : decode cX6_ofLine 31 = .ok (.iload_n 2, 1) := by decide +kernel
theorem dX6_ofLine_32 : decode cX6_ofLine 32 = .ok (.ireturn, 1) := by decide +kernel
theorem dX6_isThere_0 : decode cX6_isThere 0 = .ok (.aload_n 0, 1) := by decide +kernel
theorem dX6_isThere_1 : decode cX6_isThere 1 = .ok (.getfield 24, 3) := by decide +kernel
theorem dX6_isThere_4 : decode cX6_isThere 4 = .ok (.iload_n 1, 1) := by decide +kernel
theorem dX6_isThere_5 : decode cX6_isThere 5 = .ok (.iaload, 1) := by decide +kernel
theorem dX6_isThere_6 : decode cX6_isThere 6 = .ok (.iload_n 2, 1) := by decide +kernel
theorem dX6_isThere_7 : decode cX6_isThere 7 = .ok (.if_icmp .gt 17, 3) := by decide +kernel
theorem dX6_isThere_10 : decode cX6_isThere 10 = .ok (.iload_n 2, 1) := by decide +kernel
theorem dX6_isThere_11 : decode cX6_isThere 11 = .ok (.aload_n 0, 1) := by decide +kernel
theorem dX6_isThere_12 : decode cX6_isThere 12 = .ok (.getfield 33, 3) := by decide +kernel
theorem dX6_isThere_15 : decode cX6_isThere 15 = .ok (.iload_n 1, 1) := by decide +kernel
theorem dX6_isThere_16 : decode cX6_isThere 16 = .ok (.iaload, 1) := by decide +kernel
theorem dX6_isThere_17 : decode cX6_isThere 17 = .ok (.if_icmp .ge 7, 3) := by decide +kernel
theorem dX6_isThere_20 : decode cX6_isThere 20 = .ok (.iconst 1, 1) := by decide +kernel
theorem dX6_isThere_21 : decode cX6_isThere 21 = .ok (.goto 4, 3) := by decide +kernel
theorem dX6_isThere_24 : decode cX6_isThere 24 = .ok (.iconst 0, 1) := by decide +kernel
theorem dX6_isThere_25 : decode cX6_isThere 25 = .ok (.ireturn, 1) := by decide +kernel
theorem dX6_squareOf_0 : decode cX6_squareOf 0 = .ok (.bipush 16, 2) := by decide +kernel
theorem dX6_squareOf_2 : decode cX6_squareOf 2 = .ok (.aload_n 0, 1) := by decide +kernel
theorem dX6_squareOf_3 : decode cX6_squareOf 3 = .ok (.getfield 18, 3) := by decide +kernel
theorem dX6_squareOf_6 : decode cX6_squareOf 6 = .ok (.iload_n 1, 1) := by decide +kernel
theorem dX6_squareOf_7 : decode cX6_squareOf 7 = .ok (.iaload, 1) := by decide +kernel
theorem dX6_squareOf_8 : decode cX6_squareOf 8 = .ok (.bipush 16, 2) := by decide +kernel
theorem dX6_squareOf_10 : decode cX6_squareOf 10 = .ok (.idiv, 1) := by decide +kernel
theorem dX6_squareOf_11 : decode cX6_squareOf 11 = .ok (.imul, 1) := by decide +kernel
theorem dX6_squareOf_12 : decode cX6_squareOf 12 = .ok (.aload_n 0, 1) := by decide +kernel
theorem dX6_squareOf_13 : decode cX6_squareOf 13 = .ok (.getfield 15, 3) := by decide +kernel
theorem dX6_squareOf_16 : decode cX6_squareOf 16 = .ok (.iload_n 1, 1) := by decide +kernel
theorem dX6_squareOf_17 : decode cX6_squareOf 17 = .ok (.iaload, 1) := by decide +kernel
theorem dX6_squareOf_18 : decode cX6_squareOf 18 = .ok (.bipush 16, 2) := by decide +kernel
theorem dX6_squareOf_20 : decode cX6_squareOf 20 = .ok (.idiv, 1) := by decide +kernel
theorem dX6_squareOf_21 : decode cX6_squareOf 21 = .ok (.iadd, 1) := by decide +kernel
theorem dX6_squareOf_22 : decode cX6_squareOf 22 = .ok (.ireturn, 1) := by decide +kernel
theorem dX6_apart_0 : decode cX6_apart 0 = .ok (.aload_n 0, 1) := by decide +kernel
theorem dX6_apart_1 : decode cX6_apart 1 = .ok (.getfield 15, 3) := by decide +kernel
theorem dX6_apart_4 : decode cX6_apart 4 = .ok (.iload_n 1, 1) := by decide +kernel
theorem dX6_apart_5 : decode cX6_apart 5 = .ok (.iaload, 1) := by decide +kernel
theorem dX6_apart_6 : decode cX6_apart 6 = .ok (.aload_n 0, 1) := by decide +kernel
theorem dX6_apart_7 : decode cX6_apart 7 = .ok (.getfield 15, 3) := by decide +kernel
theorem dX6_apart_10 : decode cX6_apart 10 = .ok (.iload_n 2, 1) := by decide +kernel
theorem dX6_apart_11 : decode cX6_apart 11 = .ok (.iaload, 1) := by decide +kernel
theorem dX6_apart_12 : decode cX6_apart 12 = .ok (.isub, 1) := by decide +kernel
theorem dX6_apart_13 : decode cX6_apart 13 = .ok (.istore_n 3, 1) := by decide +kernel
theorem dX6_apart_14 : decode cX6_apart 14 = .ok (.aload_n 0, 1) := by decide +kernel
theorem dX6_apart_15 : decode cX6_apart 15 = .ok (.getfield 18, 3) := by decide +kernel
theorem dX6_apart_18 : decode cX6_apart 18 = .ok (.iload_n 1, 1) := by decide +kernel
theorem dX6_apart_19 : decode cX6_apart 19 = .ok (.iaload, 1) := by decide +kernel
theorem dX6_apart_20 : decode cX6_apart 20 = .ok (.aload_n 0, 1) := by decide +kernel
theorem dX6_apart_21 : decode cX6_apart 21 = .ok (.getfield 18, 3) := by decide +kernel
theorem dX6_apart_24 : decode cX6_apart 24 = .ok (.iload_n 2, 1) := by decide +kernel
theorem dX6_apart_25 : decode cX6_apart 25 = .ok (.iaload, 1) := by decide +kernel
theorem dX6_apart_26 : decode cX6_apart 26 = .ok (.isub, 1) := by decide +kernel
theorem dX6_apart_27 : decode cX6_apart 27 = .ok (.istore 4, 2) := by decide +kernel
theorem dX6_apart_29 : decode cX6_apart 29 = .ok (.iload_n 3, 1) := by decide +kernel
theorem dX6_apart_30 : decode cX6_apart 30 = .ok (.iload_n 3, 1) := by decide +kernel
theorem dX6_apart_31 : decode cX6_apart 31 = .ok (.imul, 1) := by decide +kernel
theorem dX6_apart_32 : decode cX6_apart 32 = .ok (.iload 4, 2) := by decide +kernel
theorem dX6_apart_34 : decode cX6_apart 34 = .ok (.iload 4, 2) := by decide +kernel
theorem dX6_apart_36 : decode cX6_apart 36 = .ok (.imul, 1) := by decide +kernel
theorem dX6_apart_37 : decode cX6_apart 37 = .ok (.iadd, 1) := by decide +kernel
theorem dX6_apart_38 : decode cX6_apart 38 = .ok (.ireturn, 1) := by decide +kernel
theorem dX6_spanHas_0 : decode cX6_spanHas 0 = .ok (.aload_n 0, 1) := by decide +kernel
theorem dX6_spanHas_1 : decode cX6_spanHas 1 = .ok (.getfield 15, 3) := by decide +kernel
theorem dX6_spanHas_4 : decode cX6_spanHas 4 = .ok (.iload_n 2, 1) := by decide +kernel
theorem dX6_spanHas_5 : decode cX6_spanHas 5 = .ok (.iaload, 1) := by decide +kernel
theorem dX6_spanHas_6 : decode cX6_spanHas 6 = .ok (.aload_n 0, 1) := by decide +kernel
theorem dX6_spanHas_7 : decode cX6_spanHas 7 = .ok (.getfield 15, 3) := by decide +kernel
theorem dX6_spanHas_10 : decode cX6_spanHas 10 = .ok (.iload_n 1, 1) := by decide +kernel
theorem dX6_spanHas_11 : decode cX6_spanHas 11 = .ok (.iaload, 1) := by decide +kernel
theorem dX6_spanHas_12 : decode cX6_spanHas 12 = .ok (.isub, 1) := by decide +kernel
theorem dX6_spanHas_13 : decode cX6_spanHas 13 = .ok (.istore_n 3, 1) := by decide +kernel
theorem dX6_spanHas_14 : decode cX6_spanHas 14 = .ok (.aload_n 0, 1) := by decide +kernel
theorem dX6_spanHas_15 : decode cX6_spanHas 15 = .ok (.getfield 18, 3) := by decide +kernel
theorem dX6_spanHas_18 : decode cX6_spanHas 18 = .ok (.iload_n 2, 1) := by decide +kernel
theorem dX6_spanHas_19 : decode cX6_spanHas 19 = .ok (.iaload, 1) := by decide +kernel
theorem dX6_spanHas_20 : decode cX6_spanHas 20 = .ok (.aload_n 0, 1) := by decide +kernel
theorem dX6_spanHas_21 : decode cX6_spanHas 21 = .ok (.getfield 18, 3) := by decide +kernel
theorem dX6_spanHas_24 : decode cX6_spanHas 24 = .ok (.iload_n 1, 1) := by decide +kernel
theorem dX6_spanHas_25 : decode cX6_spanHas 25 = .ok (.iaload, 1) := by decide +kernel
theorem dX6_spanHas_26 : decode cX6_spanHas 26 = .ok (.isub, 1) := by decide +kernel
theorem dX6_spanHas_27 : decode cX6_spanHas 27 = .ok (.istore 4, 2) := by decide +kernel
theorem dX6_spanHas_29 : decode cX6_spanHas 29 = .ok (.iload_n 3, 1) := by decide +kernel
theorem dX6_spanHas_30 : decode cX6_spanHas 30 = .ok (.ifCond .lt 33, 3) := by decide +kernel
theorem dX6_spanHas_33 : decode cX6_spanHas 33 = .ok (.iload_n 3, 1) := by decide +kernel
theorem dX6_spanHas_34 : decode cX6_spanHas 34 = .ok (.aload_n 0, 1) := by decide +kernel
theorem dX6_spanHas_35 : decode cX6_spanHas 35 = .ok (.getfield 36, 3) := by decide +kernel
theorem dX6_spanHas_38 : decode cX6_spanHas 38 = .ok (.iload_n 1, 1) := by decide +kernel
theorem dX6_spanHas_39 : decode cX6_spanHas 39 = .ok (.iaload, 1) := by decide +kernel
theorem dX6_spanHas_40 : decode cX6_spanHas 40 = .ok (.if_icmp .ge 23, 3) := by decide +kernel
theorem dX6_spanHas_43 : decode cX6_spanHas 43 = .ok (.iload 4, 2) := by decide +kernel
theorem dX6_spanHas_45 : decode cX6_spanHas 45 = .ok (.ifCond .lt 18, 3) := by decide +kernel
theorem dX6_spanHas_48 : decode cX6_spanHas 48 = .ok (.iload 4, 2) := by decide +kernel
theorem dX6_spanHas_50 : decode cX6_spanHas 50 = .ok (.aload_n 0, 1) := by decide +kernel
theorem dX6_spanHas_51 : decode cX6_spanHas 51 = .ok (.getfield 39, 3) := by decide +kernel
theorem dX6_spanHas_54 : decode cX6_spanHas 54 = .ok (.iload_n 1, 1) := by decide +kernel
theorem dX6_spanHas_55 : decode cX6_spanHas 55 = .ok (.iaload, 1) := by decide +kernel
theorem dX6_spanHas_56 : decode cX6_spanHas 56 = .ok (.if_icmp .ge 7, 3) := by decide +kernel
theorem dX6_spanHas_59 : decode cX6_spanHas 59 = .ok (.iconst 1, 1) := by decide +kernel
theorem dX6_spanHas_60 : decode cX6_spanHas 60 = .ok (.goto 4, 3) := by decide +kernel
theorem dX6_spanHas_63 : decode cX6_spanHas 63 = .ok (.iconst 0, 1) := by decide +kernel
theorem dX6_spanHas_64 : decode cX6_spanHas 64 = .ok (.ireturn, 1) := by decide +kernel
theorem dX6_copyFrom_0 : decode cX6_copyFrom 0 = .ok (.aload_n 0, 1) := by decide +kernel
theorem dX6_copyFrom_1 : decode cX6_copyFrom 1 = .ok (.aload_n 1, 1) := by decide +kernel
theorem dX6_copyFrom_2 : decode cX6_copyFrom 2 = .ok (.getfield 42, 3) := by decide +kernel
theorem dX6_copyFrom_5 : decode cX6_copyFrom 5 = .ok (.putfield 42, 3) := by decide +kernel
theorem dX6_copyFrom_8 : decode cX6_copyFrom 8 = .ok (.aload_n 1, 1) := by decide +kernel
theorem dX6_copyFrom_9 : decode cX6_copyFrom 9 = .ok (.getfield 9, 3) := by decide +kernel
theorem dX6_copyFrom_12 : decode cX6_copyFrom 12 = .ok (.iconst 0, 1) := by decide +kernel
theorem dX6_copyFrom_13 : decode cX6_copyFrom 13 = .ok (.aload_n 0, 1) := by decide +kernel
theorem dX6_copyFrom_14 : decode cX6_copyFrom 14 = .ok (.getfield 9, 3) := by decide +kernel
theorem dX6_copyFrom_17 : decode cX6_copyFrom 17 = .ok (.iconst 0, 1) := by decide +kernel
theorem dX6_copyFrom_18 : decode cX6_copyFrom 18 = .ok (.sipush 200, 3) := by decide +kernel
theorem dX6_copyFrom_21 : decode cX6_copyFrom 21 = .ok (.invokestatic 60, 3) := by decide +kernel
theorem dX6_copyFrom_24 : decode cX6_copyFrom 24 = .ok (.aload_n 1, 1) := by decide +kernel
theorem dX6_copyFrom_25 : decode cX6_copyFrom 25 = .ok (.getfield 15, 3) := by decide +kernel
theorem dX6_copyFrom_28 : decode cX6_copyFrom 28 = .ok (.iconst 0, 1) := by decide +kernel
theorem dX6_copyFrom_29 : decode cX6_copyFrom 29 = .ok (.aload_n 0, 1) := by decide +kernel
theorem dX6_copyFrom_30 : decode cX6_copyFrom 30 = .ok (.getfield 15, 3) := by decide +kernel
theorem dX6_copyFrom_33 : decode cX6_copyFrom 33 = .ok (.iconst 0, 1) := by decide +kernel
theorem dX6_copyFrom_34 : decode cX6_copyFrom 34 = .ok (.sipush 200, 3) := by decide +kernel
theorem dX6_copyFrom_37 : decode cX6_copyFrom 37 = .ok (.invokestatic 60, 3) := by decide +kernel
theorem dX6_copyFrom_40 : decode cX6_copyFrom 40 = .ok (.aload_n 1, 1) := by decide +kernel
theorem dX6_copyFrom_41 : decode cX6_copyFrom 41 = .ok (.getfield 18, 3) := by decide +kernel
theorem dX6_copyFrom_44 : decode cX6_copyFrom 44 = .ok (.iconst 0, 1) := by decide +kernel
theorem dX6_copyFrom_45 : decode cX6_copyFrom 45 = .ok (.aload_n 0, 1) := by decide +kernel
theorem dX6_copyFrom_46 : decode cX6_copyFrom 46 = .ok (.getfield 18, 3) := by decide +kernel
theorem dX6_copyFrom_49 : decode cX6_copyFrom 49 = .ok (.iconst 0, 1) := by decide +kernel
theorem dX6_copyFrom_50 : decode cX6_copyFrom 50 = .ok (.sipush 200, 3) := by decide +kernel
theorem dX6_copyFrom_53 : decode cX6_copyFrom 53 = .ok (.invokestatic 60, 3) := by decide +kernel
theorem dX6_copyFrom_56 : decode cX6_copyFrom 56 = .ok (.aload_n 1, 1) := by decide +kernel
theorem dX6_copyFrom_57 : decode cX6_copyFrom 57 = .ok (.getfield 21, 3) := by decide +kernel
theorem dX6_copyFrom_60 : decode cX6_copyFrom 60 = .ok (.iconst 0, 1) := by decide +kernel
theorem dX6_copyFrom_61 : decode cX6_copyFrom 61 = .ok (.aload_n 0, 1) := by decide +kernel
theorem dX6_copyFrom_62 : decode cX6_copyFrom 62 = .ok (.getfield 21, 3) := by decide +kernel
theorem dX6_copyFrom_65 : decode cX6_copyFrom 65 = .ok (.iconst 0, 1) := by decide +kernel
theorem dX6_copyFrom_66 : decode cX6_copyFrom 66 = .ok (.sipush 200, 3) := by decide +kernel
theorem dX6_copyFrom_69 : decode cX6_copyFrom 69 = .ok (.invokestatic 60, 3) := by decide +kernel
theorem dX6_copyFrom_72 : decode cX6_copyFrom 72 = .ok (.aload_n 1, 1) := by decide +kernel
theorem dX6_copyFrom_73 : decode cX6_copyFrom 73 = .ok (.getfield 24, 3) := by decide +kernel
theorem dX6_copyFrom_76 : decode cX6_copyFrom 76 = .ok (.iconst 0, 1) := by decide +kernel
theorem dX6_copyFrom_77 : decode cX6_copyFrom 77 = .ok (.aload_n 0, 1) := by decide +kernel
theorem dX6_copyFrom_78 : decode cX6_copyFrom 78 = .ok (.getfield 24, 3) := by decide +kernel
theorem dX6_copyFrom_81 : decode cX6_copyFrom 81 = .ok (.iconst 0, 1) := by decide +kernel
theorem dX6_copyFrom_82 : decode cX6_copyFrom 82 = .ok (.sipush 200, 3) := by decide +kernel
theorem dX6_copyFrom_85 : decode cX6_copyFrom 85 = .ok (.invokestatic 60, 3) := by decide +kernel
theorem dX6_copyFrom_88 : decode cX6_copyFrom 88 = .ok (.aload_n 1, 1) := by decide +kernel
theorem dX6_copyFrom_89 : decode cX6_copyFrom 89 = .ok (.getfield 27, 3) := by decide +kernel
theorem dX6_copyFrom_92 : decode cX6_copyFrom 92 = .ok (.iconst 0, 1) := by decide +kernel
theorem dX6_copyFrom_93 : decode cX6_copyFrom 93 = .ok (.aload_n 0, 1) := by decide +kernel
theorem dX6_copyFrom_94 : decode cX6_copyFrom 94 = .ok (.getfield 27, 3) := by decide +kernel
theorem dX6_copyFrom_97 : decode cX6_copyFrom 97 = .ok (.iconst 0, 1) := by decide +kernel
theorem dX6_copyFrom_98 : decode cX6_copyFrom 98 = .ok (.sipush 200, 3) := by decide +kernel
theorem dX6_copyFrom_101 : decode cX6_copyFrom 101 = .ok (.invokestatic 60, 3) := by decide +kernel
theorem dX6_copyFrom_104 : decode cX6_copyFrom 104 = .ok (.aload_n 1, 1) := by decide +kernel
theorem dX6_copyFrom_105 : decode cX6_copyFrom 105 = .ok (.getfield 30, 3) := by decide +kernel
theorem dX6_copyFrom_108 : decode cX6_copyFrom 108 = .ok (.iconst 0, 1) := by decide +kernel
theorem dX6_copyFrom_109 : decode cX6_copyFrom 109 = .ok (.aload_n 0, 1) := by decide +kernel
theorem dX6_copyFrom_110 : decode cX6_copyFrom 110 = .ok (.getfield 30, 3) := by decide +kernel
theorem dX6_copyFrom_113 : decode cX6_copyFrom 113 = .ok (.iconst 0, 1) := by decide +kernel
theorem dX6_copyFrom_114 : decode cX6_copyFrom 114 = .ok (.sipush 200, 3) := by decide +kernel
theorem dX6_copyFrom_117 : decode cX6_copyFrom 117 = .ok (.invokestatic 60, 3) := by decide +kernel
theorem dX6_copyFrom_120 : decode cX6_copyFrom 120 = .ok (.aload_n 1, 1) := by decide +kernel
theorem dX6_copyFrom_121 : decode cX6_copyFrom 121 = .ok (.getfield 33, 3) := by decide +kernel
theorem dX6_copyFrom_124 : decode cX6_copyFrom 124 = .ok (.iconst 0, 1) := by decide +kernel
theorem dX6_copyFrom_125 : decode cX6_copyFrom 125 = .ok (.aload_n 0, 1) := by decide +kernel
theorem dX6_copyFrom_126 : decode cX6_copyFrom 126 = .ok (.getfield 33, 3) := by decide +kernel
theorem dX6_copyFrom_129 : decode cX6_copyFrom 129 = .ok (.iconst 0, 1) := by decide +kernel
theorem dX6_copyFrom_130 : decode cX6_copyFrom 130 = .ok (.sipush 200, 3) := by decide +kernel
theorem dX6_copyFrom_133 : decode cX6_copyFrom 133 = .ok (.invokestatic 60, 3) := by decide +kernel
theorem dX6_copyFrom_136 : decode cX6_copyFrom 136 = .ok (.aload_n 1, 1) := by decide +kernel
theorem dX6_copyFrom_137 : decode cX6_copyFrom 137 = .ok (.getfield 36, 3) := by decide +kernel
theorem dX6_copyFrom_140 : decode cX6_copyFrom 140 = .ok (.iconst 0, 1) := by decide +kernel
theorem dX6_copyFrom_141 : decode cX6_copyFrom 141 = .ok (.aload_n 0, 1) := by decide +kernel
theorem dX6_copyFrom_142 : decode cX6_copyFrom 142 = .ok (.getfield 36, 3) := by decide +kernel
theorem dX6_copyFrom_145 : decode cX6_copyFrom 145 = .ok (.iconst 0, 1) := by decide +kernel
theorem dX6_copyFrom_146 : decode cX6_copyFrom 146 = .ok (.sipush 200, 3) := by decide +kernel
theorem dX6_copyFrom_149 : decode cX6_copyFrom 149 = .ok (.invokestatic 60, 3) := by decide +kernel
theorem dX6_copyFrom_152 : decode cX6_copyFrom 152 = .ok (.aload_n 1, 1) := by decide +kernel
theorem dX6_copyFrom_153 : decode cX6_copyFrom 153 = .ok (.getfield 39, 3) := by decide +kernel
theorem dX6_copyFrom_156 : decode cX6_copyFrom 156 = .ok (.iconst 0, 1) := by decide +kernel
theorem dX6_copyFrom_157 : decode cX6_copyFrom 157 = .ok (.aload_n 0, 1) := by decide +kernel
theorem dX6_copyFrom_158 : decode cX6_copyFrom 158 = .ok (.getfield 39, 3) := by decide +kernel
theorem dX6_copyFrom_161 : decode cX6_copyFrom 161 = .ok (.iconst 0, 1) := by decide +kernel
theorem dX6_copyFrom_162 : decode cX6_copyFrom 162 = .ok (.sipush 200, 3) := by decide +kernel
theorem dX6_copyFrom_165 : decode cX6_copyFrom 165 = .ok (.invokestatic 60, 3) := by decide +kernel
theorem dX6_copyFrom_168 : decode cX6_copyFrom 168 = .ok (.return_, 1) := by decide +kernel
theorem dX7_init_0 : decode cX7_init 0 = .ok (.aload_n 0, 1) := by decide +kernel
theorem dX7_init_1 : decode cX7_init 1 = .ok (.invokespecial 3, 3) := by decide +kernel
theorem dX7_init_4 : decode cX7_init 4 = .ok (.aload_n 0, 1) := by decide +kernel
theorem dX7_init_5 : decode cX7_init 5 = .ok (.new 9, 3) := by decide +kernel
theorem dX7_init_8 : decode cX7_init 8 = .ok (.dup, 1) := by decide +kernel
theorem dX7_init_9 : decode cX7_init 9 = .ok (.invokespecial 11, 3) := by decide +kernel
theorem dX7_init_12 : decode cX7_init 12 = .ok (.putfield 12, 3) := by decide +kernel
theorem dX7_init_15 : decode cX7_init 15 = .ok (.aload_n 0, 1) := by decide +kernel
theorem dX7_init_16 : decode cX7_init 16 = .ok (.new 18, 3) := by decide +kernel
theorem dX7_init_19 : decode cX7_init 19 = .ok (.dup, 1) := by decide +kernel
theorem dX7_init_20 : decode cX7_init 20 = .ok (.invokespecial 20, 3) := by decide +kernel
theorem dX7_init_23 : decode cX7_init 23 = .ok (.putfield 21, 3) := by decide +kernel
theorem dX7_init_26 : decode cX7_init 26 = .ok (.aload_n 0, 1) := by decide +kernel
theorem dX7_init_27 : decode cX7_init 27 = .ok (.new 25, 3) := by decide +kernel
theorem dX7_init_30 : decode cX7_init 30 = .ok (.dup, 1) := by decide +kernel
theorem dX7_init_31 : decode cX7_init 31 = .ok (.invokespecial 27, 3) := by decide +kernel
theorem dX7_init_34 : decode cX7_init 34 = .ok (.putfield 28, 3) := by decide +kernel
theorem dX7_init_37 : decode cX7_init 37 = .ok (.aload_n 0, 1) := by decide +kernel
theorem dX7_init_38 : decode cX7_init 38 = .ok (.sipush 200, 3) := by decide +kernel
theorem dX7_init_41 : decode cX7_init 41 = .ok (.newarray .int, 2) := by decide +kernel
theorem dX7_init_43 : decode cX7_init 43 = .ok (.putfield 32, 3) := by decide +kernel
theorem dX7_init_46 : decode cX7_init 46 = .ok (.return_, 1) := by decide +kernel
theorem dX7_corrected_0 : decode cX7_corrected 0 = .ok (.aload_n 0, 1) := by decide +kernel
theorem dX7_corrected_1 : decode cX7_corrected 1 = .ok (.getfield 28, 3) := by decide +kernel
theorem dX7_corrected_4 : decode cX7_corrected 4 = .ok (.getfield 36, 3) := by decide +kernel
theorem dX7_corrected_7 : decode cX7_corrected 7 = .ok (.iload_n 1, 1) := by decide +kernel
theorem dX7_corrected_8 : decode cX7_corrected 8 = .ok (.iaload, 1) := by decide +kernel
theorem dX7_corrected_9 : decode cX7_corrected 9 = .ok (.istore_n 2, 1) := by decide +kernel
theorem dX7_corrected_10 : decode cX7_corrected 10 = .ok (.aload_n 0, 1) := by decide +kernel
theorem dX7_corrected_11 : decode cX7_corrected 11 = .ok (.getfield 12, 3) := by decide +kernel
theorem dX7_corrected_14 : decode cX7_corrected 14 = .ok (.iload_n 2, 1) := by decide +kernel
theorem dX7_corrected_15 : decode cX7_corrected 15 = .ok (.invokevirtual 38, 3) := by decide +kernel
theorem dX7_corrected_18 : decode cX7_corrected 18 = .ok (.ifCond .ne 13, 3) := by decide +kernel
theorem dX7_corrected_21 : decode cX7_corrected 21 = .ok (.aload_n 0, 1) := by decide +kernel
theorem dX7_corrected_22 : decode cX7_corrected 22 = .ok (.getfield 28, 3) := by decide +kernel
theorem dX7_corrected_25 : decode cX7_corrected 25 = .ok (.getfield 42, 3) := by decide +kernel
theorem dX7_corrected_28 : decode cX7_corrected 28 = .ok (.iload_n 1, 1) := by decide +kernel
theorem dX7_corrected_29 : decode cX7_corrected 29 = .ok (.iaload, 1) := by decide +kernel
theorem dX7_corrected_30 : decode cX7_corrected 30 = .ok (.ireturn, 1) := by decide +kernel
theorem dX7_corrected_31 : decode cX7_corrected 31 = .ok (.aload_n 0, 1) := by decide +kernel
theorem dX7_corrected_32 : decode cX7_corrected 32 = .ok (.getfield 21, 3) := by decide +kernel
theorem dX7_corrected_35 : decode cX7_corrected 35 = .ok (.aload_n 0, 1) := by decide +kernel
theorem dX7_corrected_36 : decode cX7_corrected 36 = .ok (.getfield 28, 3) := by decide +kernel
theorem dX7_corrected_39 : decode cX7_corrected 39 = .ok (.getfield 45, 3) := by decide +kernel
theorem dX7_corrected_42 : decode cX7_corrected 42 = .ok (.iload_n 1, 1) := by decide +kernel
theorem dX7_corrected_43 : decode cX7_corrected 43 = .ok (.iaload, 1) := by decide +kernel
theorem dX7_corrected_44 : decode cX7_corrected 44 = .ok (.aload_n 0, 1) := by decide +kernel
theorem dX7_corrected_45 : decode cX7_corrected 45 = .ok (.getfield 28, 3) := by decide +kernel
theorem dX7_corrected_48 : decode cX7_corrected 48 = .ok (.getfield 48, 3) := by decide +kernel
theorem dX7_corrected_51 : decode cX7_corrected 51 = .ok (.iload_n 1, 1) := by decide +kernel
theorem dX7_corrected_52 : decode cX7_corrected 52 = .ok (.iaload, 1) := by decide +kernel
theorem dX7_corrected_53 : decode cX7_corrected 53 = .ok (.invokevirtual 51, 3) := by decide +kernel
theorem dX7_corrected_56 : decode cX7_corrected 56 = .ok (.ifCond .ne 7, 3) := by decide +kernel
theorem dX7_corrected_59 : decode cX7_corrected 59 = .ok (.sipush (-30000), 3) := by decide +kernel
theorem dX7_corrected_62 : decode cX7_corrected 62 = .ok (.ireturn, 1) := by decide +kernel
theorem dX7_corrected_63 : decode cX7_corrected 63 = .ok (.aload_n 0, 1) := by decide +kernel
theorem dX7_corrected_64 : decode cX7_corrected 64 = .ok (.getfield 28, 3) := by decide +kernel
theorem dX7_corrected_67 : decode cX7_corrected 67 = .ok (.getfield 55, 3) := by decide +kernel
theorem dX7_corrected_70 : decode cX7_corrected 70 = .ok (.iload_n 1, 1) := by decide +kernel
theorem dX7_corrected_71 : decode cX7_corrected 71 = .ok (.iaload, 1) := by decide +kernel
theorem dX7_corrected_72 : decode cX7_corrected 72 = .ok (.iconst 1, 1) := by decide +kernel
theorem dX7_corrected_73 : decode cX7_corrected 73 = .ok (.if_icmp .ne 16, 3) := by decide +kernel
theorem dX7_corrected_76 : decode cX7_corrected 76 = .ok (.aload_n 0, 1) := by decide +kernel
theorem dX7_corrected_77 : decode cX7_corrected 77 = .ok (.getfield 12, 3) := by decide +kernel
theorem dX7_corrected_80 : decode cX7_corrected 80 = .ok (.getfield 58, 3) := by decide +kernel
theorem dX7_corrected_83 : decode cX7_corrected 83 = .ok (.iload_n 2, 1) := by decide +kernel
theorem dX7_corrected_84 : decode cX7_corrected 84 = .ok (.iaload, 1) := by decide +kernel
theorem dX7_corrected_85 : decode cX7_corrected 85 = .ok (.i2l, 1) := by decide +kernel
theorem dX7_corrected_86 : decode cX7_corrected 86 = .ok (.goto 6, 3) := by decide +kernel
theorem dX7_corrected_89 : decode cX7_corrected 89 = .ok (.ldc2_w 61, 3) := by decide +kernel
theorem dX7_corrected_92 : decode cX7_corrected 92 = .ok (.lstore_n 3, 1) := by decide +kernel
theorem dX7_corrected_93 : decode cX7_corrected 93 = .ok (.aload_n 0, 1) := by decide +kernel
theorem dX7_corrected_94 : decode cX7_corrected 94 = .ok (.getfield 28, 3) := by decide +kernel
theorem dX7_corrected_97 : decode cX7_corrected 97 = .ok (.getfield 42, 3) := by decide +kernel
theorem dX7_corrected_100 : decode cX7_corrected 100 = .ok (.iload_n 1, 1) := by decide +kernel
theorem dX7_corrected_101 : decode cX7_corrected 101 = .ok (.iaload, 1) := by decide +kernel
theorem dX7_corrected_102 : decode cX7_corrected 102 = .ok (.i2l, 1) := by decide +kernel
theorem dX7_corrected_103 : decode cX7_corrected 103 = .ok (.lload_n 3, 1) := by decide +kernel
theorem dX7_corrected_104 : decode cX7_corrected 104 = .ok (.lmul, 1) := by decide +kernel
theorem dX7_corrected_105 : decode cX7_corrected 105 = .ok (.aload_n 0, 1) := by decide +kernel
theorem dX7_corrected_106 : decode cX7_corrected 106 = .ok (.getfield 12, 3) := by decide +kernel
theorem dX7_corrected_109 : decode cX7_corrected 109 = .ok (.getfield 63, 3) := by decide +kernel
theorem dX7_corrected_112 : decode cX7_corrected 112 = .ok (.iload_n 2, 1) := by decide +kernel
theorem dX7_corrected_113 : decode cX7_corrected 113 = .ok (.iaload, 1) := by decide +kernel
theorem dX7_corrected_114 : decode cX7_corrected 114 = .ok (.i2l, 1) := by decide +kernel
theorem dX7_corrected_115 : decode cX7_corrected 115 = .ok (.ldc2_w 61, 3) := by decide +kernel
theorem dX7_corrected_118 : decode cX7_corrected 118 = .ok (.lmul, 1) := by decide +kernel
theorem dX7_corrected_119 : decode cX7_corrected 119 = .ok (.ladd, 1) := by decide +kernel
theorem dX7_corrected_120 : decode cX7_corrected 120 = .ok (.lstore 5, 2) := by decide +kernel
theorem dX7_corrected_122 : decode cX7_corrected 122 = .ok (.lload 5, 2) := by decide +kernel
theorem dX7_corrected_124 : decode cX7_corrected 124 = .ok (.aload_n 0, 1) := by decide +kernel
theorem dX7_corrected_125 : decode cX7_corrected 125 = .ok (.getfield 21, 3) := by decide +kernel
theorem dX7_corrected_128 : decode cX7_corrected 128 = .ok (.getfield 66, 3) := by decide +kernel
theorem dX7_corrected_131 : decode cX7_corrected 131 = .ok (.lmul, 1) := by decide +kernel
theorem dX7_corrected_132 : decode cX7_corrected 132 = .ok (.aload_n 0, 1) := by decide +kernel
theorem dX7_corrected_133 : decode cX7_corrected 133 = .ok (.getfield 21, 3) := by decide +kernel
theorem dX7_corrected_136 : decode cX7_corrected 136 = .ok (.getfield 70, 3) := by decide +kernel
theorem dX7_corrected_139 : decode cX7_corrected 139 = .ok (.ldc2_w 61, 3) := by decide +kernel
theorem dX7_corrected_142 : decode cX7_corrected 142 = .ok (.lmul, 1) := by decide +kernel
theorem dX7_corrected_143 : decode cX7_corrected 143 = .ok (.lsub, 1) := by decide +kernel
theorem dX7_corrected_144 : decode cX7_corrected 144 = .ok (.aload_n 0, 1) := by decide +kernel
theorem dX7_corrected_145 : decode cX7_corrected 145 = .ok (.getfield 21, 3) := by decide +kernel
theorem dX7_corrected_148 : decode cX7_corrected 148 = .ok (.getfield 66, 3) := by decide +kernel
theorem dX7_corrected_151 : decode cX7_corrected 151 = .ok (.ldc2_w 61, 3) := by decide +kernel
theorem dX7_corrected_154 : decode cX7_corrected 154 = .ok (.lmul, 1) := by decide +kernel
theorem dX7_corrected_155 : decode cX7_corrected 155 = .ok (.invokestatic 73, 3) := by decide +kernel
theorem dX7_corrected_158 : decode cX7_corrected 158 = .ok (.l2i, 1) := by decide +kernel
theorem dX7_corrected_159 : decode cX7_corrected 159 = .ok (.ireturn, 1) := by decide +kernel
theorem dX7_waiting_0 : decode cX7_waiting 0 = .ok (.iconst 0, 1) := by decide +kernel
theorem dX7_waiting_1 : decode cX7_waiting 1 = .ok (.istore_n 1, 1) := by decide +kernel
theorem dX7_waiting_2 : decode cX7_waiting 2 = .ok (.iconst 0, 1) := by decide +kernel
theorem dX7_waiting_3 : decode cX7_waiting 3 = .ok (.istore_n 2, 1) := by decide +kernel
theorem dX7_waiting_4 : decode cX7_waiting 4 = .ok (.iload_n 2, 1) := by decide +kernel
theorem dX7_waiting_5 : decode cX7_waiting 5 = .ok (.aload_n 0, 1) := by decide +kernel
theorem dX7_waiting_6 : decode cX7_waiting 6 = .ok (.getfield 28, 3) := by decide +kernel
theorem dX7_waiting_9 : decode cX7_waiting 9 = .ok (.getfield 77, 3) := by decide +kernel
theorem dX7_waiting_12 : decode cX7_waiting 12 = .ok (.if_icmp .ge 23, 3) := by decide +kernel
theorem dX7_waiting_15 : decode cX7_waiting 15 = .ok (.aload_n 0, 1) := by decide +kernel
theorem dX7_waiting_16 : decode cX7_waiting 16 = .ok (.iload_n 2, 1) := by decide +kernel
theorem dX7_waiting_17 : decode cX7_waiting 17 = .ok (.invokevirtual 81, 3) := by decide +kernel
theorem dX7_waiting_20 : decode cX7_waiting 20 = .ok (.sipush (-30000), 3) := by decide +kernel
theorem dX7_waiting_23 : decode cX7_waiting 23 = .ok (.if_icmp .ne 6, 3) := by decide +kernel
theorem dX7_waiting_26 : decode cX7_waiting 26 = .ok (.iinc 1 1, 3) := by decide +kernel
theorem dX7_waiting_29 : decode cX7_waiting 29 = .ok (.iinc 2 1, 3) := by decide +kernel
theorem dX7_waiting_32 : decode cX7_waiting 32 = .ok (.goto (-28), 3) := by decide +kernel
theorem dX7_waiting_35 : decode cX7_waiting 35 = .ok (.iload_n 1, 1) := by decide +kernel
theorem dX7_waiting_36 : decode cX7_waiting 36 = .ok (.ireturn, 1) := by decide +kernel
theorem dX7_measure_0 : decode cX7_measure 0 = .ok (.iconst 0, 1) := by decide +kernel
theorem dX7_measure_1 : decode cX7_measure 1 = .ok (.istore_n 1, 1) := by decide +kernel
theorem dX7_measure_2 : decode cX7_measure 2 = .ok (.iload_n 1, 1) := by decide +kernel
theorem dX7_measure_3 : decode cX7_measure 3 = .ok (.aload_n 0, 1) := by decide +kernel
theorem dX7_measure_4 : decode cX7_measure 4 = .ok (.getfield 28, 3) := by decide +kernel
theorem dX7_measure_7 : decode cX7_measure 7 = .ok (.getfield 77, 3) := by decide +kernel
theorem dX7_measure_10 : decode cX7_measure 10 = .ok (.if_icmp .ge 20, 3) := by decide +kernel
theorem dX7_measure_13 : decode cX7_measure 13 = .ok (.aload_n 0, 1) := by decide +kernel
theorem dX7_measure_14 : decode cX7_measure 14 = .ok (.getfield 32, 3) := by decide +kernel
theorem dX7_measure_17 : decode cX7_measure 17 = .ok (.iload_n 1, 1) := by decide +kernel
theorem dX7_measure_18 : decode cX7_measure 18 = .ok (.aload_n 0, 1) := by decide +kernel
theorem dX7_measure_19 : decode cX7_measure 19 = .ok (.iload_n 1, 1) := by decide +kernel
theorem dX7_measure_20 : decode cX7_measure 20 = .ok (.invokevirtual 81, 3) := by decide +kernel
theorem dX7_measure_23 : decode cX7_measure 23 = .ok (.iastore, 1) := by decide +kernel
theorem dX7_measure_24 : decode cX7_measure 24 = .ok (.iinc 1 1, 3) := by decide +kernel
theorem dX7_measure_27 : decode cX7_measure 27 = .ok (.goto (-25), 3) := by decide +kernel
theorem dX7_measure_30 : decode cX7_measure 30 = .ok (.return_, 1) := by decide +kernel
theorem dX7_counts_0 : decode cX7_counts 0 = .ok (.aload_n 0, 1) := by decide +kernel
theorem dX7_counts_1 : decode cX7_counts 1 = .ok (.getfield 32, 3) := by decide +kernel
theorem dX7_counts_4 : decode cX7_counts 4 = .ok (.iload_n 1, 1) := by decide +kernel
theorem dX7_counts_5 : decode cX7_counts 5 = .ok (.iaload, 1) := by decide +kernel
theorem dX7_counts_6 : decode cX7_counts 6 = .ok (.sipush (-30000), 3) := by decide +kernel
theorem dX7_counts_9 : decode cX7_counts 9 = .ok (.if_icmp .eq 19, 3) := by decide +kernel
theorem dX7_counts_12 : decode cX7_counts 12 = .ok (.aload_n 0, 1) := by decide +kernel
theorem dX7_counts_13 : decode cX7_counts 13 = .ok (.getfield 28, 3) := by decide +kernel
theorem dX7_counts_16 : decode cX7_counts 16 = .ok (.iload_n 1, 1) := by decide +kernel
theorem dX7_counts_17 : decode cX7_counts 17 = .ok (.iload_n 2, 1) := by decide +kernel
theorem dX7_counts_18 : decode cX7_counts 18 = .ok (.invokevirtual 85, 3) := by decide +kernel
theorem dX7_counts_21 : decode cX7_counts 21 = .ok (.ifCond .eq 7, 3) := by decide +kernel
theorem dX7_counts_24 : decode cX7_counts 24 = .ok (.iconst 1, 1) := by decide +kernel
theorem dX7_counts_25 : decode cX7_counts 25 = .ok (.goto 4, 3) := by decide +kernel
theorem dX7_counts_28 : decode cX7_counts 28 = .ok (.iconst 0, 1) := by decide +kernel
theorem dX7_counts_29 : decode cX7_counts 29 = .ok (.ireturn, 1) := by decide +kernel
theorem dX7_copyFrom_0 : decode cX7_copyFrom 0 = .ok (.aload_n 0, 1) := by decide +kernel
theorem dX7_copyFrom_1 : decode cX7_copyFrom 1 = .ok (.getfield 12, 3) := by decide +kernel
theorem dX7_copyFrom_4 : decode cX7_copyFrom 4 = .ok (.aload_n 1, 1) := by decide +kernel
theorem dX7_copyFrom_5 : decode cX7_copyFrom 5 = .ok (.getfield 12, 3) := by decide +kernel
theorem dX7_copyFrom_8 : decode cX7_copyFrom 8 = .ok (.invokevirtual 88, 3) := by decide +kernel
theorem dX7_copyFrom_11 : decode cX7_copyFrom 11 = .ok (.aload_n 0, 1) := by decide +kernel
theorem dX7_copyFrom_12 : decode cX7_copyFrom 12 = .ok (.getfield 21, 3) := by decide +kernel
theorem dX7_copyFrom_15 : decode cX7_copyFrom 15 = .ok (.aload_n 1, 1) := by decide +kernel
theorem dX7_copyFrom_16 : decode cX7_copyFrom 16 = .ok (.getfield 21, 3) := by decide +kernel
theorem dX7_copyFrom_19 : decode cX7_copyFrom 19 = .ok (.invokevirtual 92, 3) := by decide +kernel
theorem dX7_copyFrom_22 : decode cX7_copyFrom 22 = .ok (.aload_n 0, 1) := by decide +kernel
theorem dX7_copyFrom_23 : decode cX7_copyFrom 23 = .ok (.getfield 28, 3) := by decide +kernel
theorem dX7_copyFrom_26 : decode cX7_copyFrom 26 = .ok (.aload_n 1, 1) := by decide +kernel
theorem dX7_copyFrom_27 : decode cX7_copyFrom 27 = .ok (.getfield 28, 3) := by decide +kernel
theorem dX7_copyFrom_30 : decode cX7_copyFrom 30 = .ok (.invokevirtual 95, 3) := by decide +kernel
theorem dX7_copyFrom_33 : decode cX7_copyFrom 33 = .ok (.return_, 1) := by decide +kernel
theorem dX8_init_0 : decode cX8_init 0 = .ok (.aload_n 0, 1) := by decide +kernel
theorem dX8_init_1 : decode cX8_init 1 = .ok (.invokespecial 3, 3) := by decide +kernel
theorem dX8_init_4 : decode cX8_init 4 = .ok (.aload_n 0, 1) := by decide +kernel
theorem dX8_init_5 : decode cX8_init 5 = .ok (.bipush 100, 2) := by decide +kernel
theorem dX8_init_7 : decode cX8_init 7 = .ok (.newarray .int, 2) := by decide +kernel
theorem dX8_init_9 : decode cX8_init 9 = .ok (.putfield 9, 3) := by decide +kernel
theorem dX8_init_12 : decode cX8_init 12 = .ok (.aload_n 0, 1) := by decide +kernel
theorem dX8_init_13 : decode cX8_init 13 = .ok (.sipush 1200, 3) := by decide +kernel
theorem dX8_init_16 : decode cX8_init 16 = .ok (.newarray .int, 2) := by decide +kernel
theorem dX8_init_18 : decode cX8_init 18 = .ok (.putfield 15, 3) := by decide +kernel
theorem dX8_init_21 : decode cX8_init 21 = .ok (.aload_n 0, 1) := by decide +kernel
theorem dX8_init_22 : decode cX8_init 22 = .ok (.sipush 1200, 3) := by decide +kernel
theorem dX8_init_25 : decode cX8_init 25 = .ok (.newarray .int, 2) := by decide +kernel
theorem dX8_init_27 : decode cX8_init 27 = .ok (.putfield 18, 3) := by decide +kernel
theorem dX8_init_30 : decode cX8_init 30 = .ok (.aload_n 0, 1) := by decide +kernel
theorem dX8_init_31 : decode cX8_init 31 = .ok (.lconst 0, 1) := by decide +kernel
theorem dX8_init_32 : decode cX8_init 32 = .ok (.putfield 21, 3) := by decide +kernel
theorem dX8_init_35 : decode cX8_init 35 = .ok (.aload_n 0, 1) := by decide +kernel
theorem dX8_init_36 : decode cX8_init 36 = .ok (.lconst 1, 1) := by decide +kernel
theorem dX8_init_37 : decode cX8_init 37 = .ok (.putfield 25, 3) := by decide +kernel
theorem dX8_init_40 : decode cX8_init 40 = .ok (.return_, 1) := by decide +kernel
theorem dX8_rowOf_0 : decode cX8_rowOf 0 = .ok (.iload_n 1, 1) := by decide +kernel
theorem dX8_rowOf_1 : decode cX8_rowOf 1 = .ok (.bipush 12, 2) := by decide +kernel
theorem dX8_rowOf_3 : decode cX8_rowOf 3 = .ok (.imul, 1) := by decide +kernel
theorem dX8_rowOf_4 : decode cX8_rowOf 4 = .ok (.istore_n 3, 1) := by decide +kernel
theorem dX8_rowOf_5 : decode cX8_rowOf 5 = .ok (.iload_n 3, 1) := by decide +kernel
theorem dX8_rowOf_6 : decode cX8_rowOf 6 = .ok (.aload_n 0, 1) := by decide +kernel
theorem dX8_rowOf_7 : decode cX8_rowOf 7 = .ok (.getfield 9, 3) := by decide +kernel
theorem dX8_rowOf_10 : decode cX8_rowOf 10 = .ok (.iload_n 1, 1) := by decide +kernel
theorem dX8_rowOf_11 : decode cX8_rowOf 11 = .ok (.iaload, 1) := by decide +kernel
theorem dX8_rowOf_12 : decode cX8_rowOf 12 = .ok (.iadd, 1) := by decide +kernel
theorem dX8_rowOf_13 : decode cX8_rowOf 13 = .ok (.istore 4, 2) := by decide +kernel
theorem dX8_rowOf_15 : decode cX8_rowOf 15 = .ok (.iload_n 3, 1) := by decide +kernel
theorem dX8_rowOf_16 : decode cX8_rowOf 16 = .ok (.istore 5, 2) := by decide +kernel
theorem dX8_rowOf_18 : decode cX8_rowOf 18 = .ok (.iload 5, 2) := by decide +kernel
theorem dX8_rowOf_20 : decode cX8_rowOf 20 = .ok (.iload 4, 2) := by decide +kernel
theorem dX8_rowOf_22 : decode cX8_rowOf 22 = .ok (.if_icmp .ge 23, 3) := by decide +kernel
theorem dX8_rowOf_25 : decode cX8_rowOf 25 = .ok (.aload_n 0, 1) := by decide +kernel
theorem dX8_rowOf_26 : decode cX8_rowOf 26 = .ok (.getfield 15, 3) := by decide +kernel
theorem dX8_rowOf_29 : decode cX8_rowOf 29 = .ok (.iload 5, 2) := by decide +kernel
theorem dX8_rowOf_31 : decode cX8_rowOf 31 = .ok (.iaload, 1) := by decide +kernel
theorem dX8_rowOf_32 : decode cX8_rowOf 32 = .ok (.iload_n 2, 1) := by decide +kernel
theorem dX8_rowOf_33 : decode cX8_rowOf 33 = .ok (.if_icmp .ne 6, 3) := by decide +kernel
theorem dX8_rowOf_36 : decode cX8_rowOf 36 = .ok (.iload 5, 2) := by decide +kernel
theorem dX8_rowOf_38 : decode cX8_rowOf 38 = .ok (.ireturn, 1) := by decide +kernel
theorem dX8_rowOf_39 : decode cX8_rowOf 39 = .ok (.iinc 5 1, 3) := by decide +kernel
theorem dX8_rowOf_42 : decode cX8_rowOf 42 = .ok (.goto (-24), 3) := by decide +kernel
theorem dX8_rowOf_45 : decode cX8_rowOf 45 = .ok (.iconst (-1), 1) := by decide +kernel
theorem dX8_rowOf_46 : decode cX8_rowOf 46 = .ok (.ireturn, 1) := by decide +kernel
theorem dX8_add_0 : decode cX8_add 0 = .ok (.aload_n 0, 1) := by decide +kernel
theorem dX8_add_1 : decode cX8_add 1 = .ok (.getfield 9, 3) := by decide +kernel
theorem dX8_add_4 : decode cX8_add 4 = .ok (.iload_n 1, 1) := by decide +kernel
theorem dX8_add_5 : decode cX8_add 5 = .ok (.iaload, 1) := by decide +kernel
theorem dX8_add_6 : decode cX8_add 6 = .ok (.bipush 12, 2) := by decide +kernel
theorem dX8_add_8 : decode cX8_add 8 = .ok (.if_icmp .lt 4, 3) := by decide +kernel
theorem dX8_add_11 : decode cX8_add 11 = .ok (.return_, 1) := by decide +kernel
theorem dX8_add_12 : decode cX8_add 12 = .ok (.iload_n 1, 1) := by decide +kernel
theorem dX8_add_13 : decode cX8_add 13 = .ok (.bipush 12, 2) := by decide +kernel
theorem dX8_add_15 : decode cX8_add 15 = .ok (.imul, 1) := by decide +kernel
theorem dX8_add_16 : decode cX8_add 16 = .ok (.aload_n 0, 1) := by decide +kernel
theorem dX8_add_17 : decode cX8_add 17 = .ok (.getfield 9, 3) := by decide +kernel
theorem dX8_add_20 : decode cX8_add 20 = .ok (.iload_n 1, 1) := by decide +kernel
theorem dX8_add_21 : decode cX8_add 21 = .ok (.iaload, 1) := by decide +kernel
theorem dX8_add_22 : decode cX8_add 22 = .ok (.iadd, 1) := by decide +kernel
theorem dX8_add_23 : decode cX8_add 23 = .ok (.istore 4, 2) := by decide +kernel
theorem dX8_add_25 : decode cX8_add 25 = .ok (.aload_n 0, 1) := by decide +kernel
theorem dX8_add_26 : decode cX8_add 26 = .ok (.getfield 15, 3) := by decide +kernel
theorem dX8_add_29 : decode cX8_add 29 = .ok (.iload 4, 2) := by decide +kernel
theorem dX8_add_31 : decode cX8_add 31 = .ok (.iload_n 2, 1) := by decide +kernel
theorem dX8_add_32 : decode cX8_add 32 = .ok (.iastore, 1) := by decide +kernel
theorem dX8_add_33 : decode cX8_add 33 = .ok (.aload_n 0, 1) := by decide +kernel
theorem dX8_add_34 : decode cX8_add 34 = .ok (.getfield 18, 3) := by decide +kernel
theorem dX8_add_37 : decode cX8_add 37 = .ok (.iload 4, 2) := by decide +kernel
theorem dX8_add_39 : decode cX8_add 39 = .ok (.iload_n 3, 1) := by decide +kernel
theorem dX8_add_40 : decode cX8_add 40 = .ok (.iastore, 1) := by decide +kernel
theorem dX8_add_41 : decode cX8_add 41 = .ok (.aload_n 0, 1) := by decide +kernel
theorem dX8_add_42 : decode cX8_add 42 = .ok (.getfield 9, 3) := by decide +kernel
theorem dX8_add_45 : decode cX8_add 45 = .ok (.iload_n 1, 1) := by decide +kernel
theorem dX8_add_46 : decode cX8_add 46 = .ok (.dup2, 1) := by decide +kernel
theorem dX8_add_47 : decode cX8_add 47 = .ok (.iaload, 1) := by decide +kernel
theorem dX8_add_48 : decode cX8_add 48 = .ok (.iconst 1, 1) := by decide +kernel
theorem dX8_add_49 : decode cX8_add 49 = .ok (.iadd, 1) := by decide +kernel
theorem dX8_add_50 : decode cX8_add 50 = .ok (.iastore, 1) := by decide +kernel
theorem dX8_add_51 : decode cX8_add 51 = .ok (.return_, 1) := by decide +kernel
theorem dX8_removeLast_0 : decode cX8_removeLast 0 = .ok (.aload_n 0, 1) := by decide +kernel
theorem dX8_removeLast_1 : decode cX8_removeLast 1 = .ok (.getfield 9, 3) := by decide +kernel
theorem dX8_removeLast_4 : decode cX8_removeLast 4 = .ok (.iload_n 1, 1) := by decide +kernel
theorem dX8_removeLast_5 : decode cX8_removeLast 5 = .ok (.iconst 0, 1) := by decide +kernel
theorem dX8_removeLast_6 : decode cX8_removeLast 6 = .ok (.aload_n 0, 1) := by decide +kernel
theorem dX8_removeLast_7 : decode cX8_removeLast 7 = .ok (.getfield 9, 3) := by decide +kernel
theorem dX8_removeLast_10 : decode cX8_removeLast 10 = .ok (.iload_n 1, 1) := by decide +kernel
theorem dX8_removeLast_11 : decode cX8_removeLast 11 = .ok (.iaload, 1) := by decide +kernel
theorem dX8_removeLast_12 : decode cX8_removeLast 12 = .ok (.iconst 1, 1) := by decide +kernel
theorem dX8_removeLast_13 : decode cX8_removeLast 13 = .ok (.isub, 1) := by decide +kernel
theorem dX8_removeLast_14 : decode cX8_removeLast 14 = .ok (.invokestatic 28, 3) := by decide +kernel
theorem dX8_removeLast_17 : decode cX8_removeLast 17 = .ok (.iastore, 1) := by decide +kernel
theorem dX8_removeLast_18 : decode cX8_removeLast 18 = .ok (.return_, 1) := by decide +kernel
theorem dX8_seek_0 : decode cX8_seek 0 = .ok (.iconst (-1), 1) := by decide +kernel
theorem dX8_seek_1 : decode cX8_seek 1 = .ok (.istore_n 3, 1) := by decide +kernel
theorem dX8_seek_2 : decode cX8_seek 2 = .ok (.iconst (-1), 1) := by decide +kernel
theorem dX8_seek_3 : decode cX8_seek 3 = .ok (.istore 4, 2) := by decide +kernel
theorem dX8_seek_5 : decode cX8_seek 5 = .ok (.iload_n 1, 1) := by decide +kernel
theorem dX8_seek_6 : decode cX8_seek 6 = .ok (.bipush 12, 2) := by decide +kernel
theorem dX8_seek_8 : decode cX8_seek 8 = .ok (.imul, 1) := by decide +kernel
theorem dX8_seek_9 : decode cX8_seek 9 = .ok (.istore 5, 2) := by decide +kernel
theorem dX8_seek_11 : decode cX8_seek 11 = .ok (.iload 5, 2) := by decide +kernel
theorem dX8_seek_13 : decode cX8_seek 13 = .ok (.aload_n 0, 1) := by decide +kernel
theorem dX8_seek_14 : decode cX8_seek 14 = .ok (.getfield 9, 3) := by decide +kernel
theorem dX8_seek_17 : decode cX8_seek 17 = .ok (.iload_n 1, 1) := by decide +kernel
theorem dX8_seek_18 : decode cX8_seek 18 = .ok (.iaload, 1) := by decide +kernel
theorem dX8_seek_19 : decode cX8_seek 19 = .ok (.iadd, 1) := by decide +kernel
theorem dX8_seek_20 : decode cX8_seek 20 = .ok (.istore 6, 2) := by decide +kernel
theorem dX8_seek_22 : decode cX8_seek 22 = .ok (.iload 5, 2) := by decide +kernel
theorem dX8_seek_24 : decode cX8_seek 24 = .ok (.istore 7, 2) := by decide +kernel
theorem dX8_seek_26 : decode cX8_seek 26 = .ok (.iload 7, 2) := by decide +kernel
theorem dX8_seek_28 : decode cX8_seek 28 = .ok (.iload 6, 2) := by decide +kernel
theorem dX8_seek_30 : decode cX8_seek 30 = .ok (.if_icmp .ge 71, 3) := by decide +kernel
theorem dX8_seek_33 : decode cX8_seek 33 = .ok (.aload_n 0, 1) := by decide +kernel
theorem dX8_seek_34 : decode cX8_seek 34 = .ok (.getfield 15, 3) := by decide +kernel
theorem dX8_seek_37 : decode cX8_seek 37 = .ok (.iload 7, 2) := by decide +kernel
theorem dX8_seek_39 : decode cX8_seek 39 = .ok (.iaload, 1) := by decide +kernel
theorem dX8_seek_40 : decode cX8_seek 40 = .ok (.istore 8, 2) := by decide +kernel
theorem dX8_seek_42 : decode cX8_seek 42 = .ok (.iload 8, 2) := by decide +kernel
theorem dX8_seek_44 : decode cX8_seek 44 = .ok (.iload_n 2, 1) := by decide +kernel
theorem dX8_seek_45 : decode cX8_seek 45 = .ok (.if_icmp .gt 22, 3) := by decide +kernel
theorem dX8_seek_48 : decode cX8_seek 48 = .ok (.iload_n 3, 1) := by decide +kernel
theorem dX8_seek_49 : decode cX8_seek 49 = .ok (.iconst (-1), 1) := by decide +kernel
theorem dX8_seek_50 : decode cX8_seek 50 = .ok (.if_icmp .eq 14, 3) := by decide +kernel
theorem dX8_seek_53 : decode cX8_seek 53 = .ok (.iload 8, 2) := by decide +kernel
theorem dX8_seek_55 : decode cX8_seek 55 = .ok (.aload_n 0, 1) := by decide +kernel
theorem dX8_seek_56 : decode cX8_seek 56 = .ok (.getfield 15, 3) := by decide +kernel
theorem dX8_seek_59 : decode cX8_seek 59 = .ok (.iload_n 3, 1) := by decide +kernel
theorem dX8_seek_60 : decode cX8_seek 60 = .ok (.iaload, 1) := by decide +kernel
theorem dX8_seek_61 : decode cX8_seek 61 = .ok (.if_icmp .le 6, 3) := by decide +kernel
theorem dX8_seek_64 : decode cX8_seek 64 = .ok (.iload 7, 2) := by decide +kernel
theorem dX8_seek_66 : decode cX8_seek 66 = .ok (.istore_n 3, 1) := by decide +kernel
theorem dX8_seek_67 : decode cX8_seek 67 = .ok (.iload 8, 2) := by decide +kernel
theorem dX8_seek_69 : decode cX8_seek 69 = .ok (.iload_n 2, 1) := by decide +kernel
theorem dX8_seek_70 : decode cX8_seek 70 = .ok (.if_icmp .lt 25, 3) := by decide +kernel
theorem dX8_seek_73 : decode cX8_seek 73 = .ok (.iload 4, 2) := by decide +kernel
theorem dX8_seek_75 : decode cX8_seek 75 = .ok (.iconst (-1), 1) := by decide +kernel
theorem dX8_seek_76 : decode cX8_seek 76 = .ok (.if_icmp .eq 15, 3) := by decide +kernel
theorem dX8_seek_79 : decode cX8_seek 79 = .ok (.iload 8, 2) := by decide +kernel
theorem dX8_seek_81 : decode cX8_seek 81 = .ok (.aload_n 0, 1) := by decide +kernel
theorem dX8_seek_82 : decode cX8_seek 82 = .ok (.getfield 15, 3) := by decide +kernel
theorem dX8_seek_85 : decode cX8_seek 85 = .ok (.iload 4, 2) := by decide +kernel
theorem dX8_seek_87 : decode cX8_seek 87 = .ok (.iaload, 1) := by decide +kernel
theorem dX8_seek_88 : decode cX8_seek 88 = .ok (.if_icmp .ge 7, 3) := by decide +kernel
theorem dX8_seek_91 : decode cX8_seek 91 = .ok (.iload 7, 2) := by decide +kernel
theorem dX8_seek_93 : decode cX8_seek 93 = .ok (.istore 4, 2) := by decide +kernel
theorem dX8_seek_95 : decode cX8_seek 95 = .ok (.iinc 7 1, 3) := by decide +kernel
theorem dX8_seek_98 : decode cX8_seek 98 = .ok (.goto (-72), 3) := by decide +kernel
theorem dX8_seek_101 : decode cX8_seek 101 = .ok (.iload_n 3, 1) := by decide +kernel
theorem dX8_seek_102 : decode cX8_seek 102 = .ok (.iconst (-1), 1) := by decide +kernel
theorem dX8_seek_103 : decode cX8_seek 103 = .ok (.if_icmp .eq 9, 3) := by decide +kernel
theorem dX8_seek_106 : decode cX8_seek 106 = .ok (.iload 4, 2) := by decide +kernel
theorem dX8_seek_108 : decode cX8_seek 108 = .ok (.iconst (-1), 1) := by decide +kernel
theorem dX8_seek_109 : decode cX8_seek 109 = .ok (.if_icmp .ne 5, 3) := by decide +kernel
theorem dX8_seek_112 : decode cX8_seek 112 = .ok (.iconst 0, 1) := by decide +kernel
theorem dX8_seek_113 : decode cX8_seek 113 = .ok (.ireturn, 1) := by decide +kernel
theorem dX8_seek_114 : decode cX8_seek 114 = .ok (.aload_n 0, 1) := by decide +kernel
theorem dX8_seek_115 : decode cX8_seek 115 = .ok (.iconst 1, 1) := by decide +kernel
theorem dX8_seek_116 : decode cX8_seek 116 = .ok (.aload_n 0, 1) := by decide +kernel
theorem dX8_seek_117 : decode cX8_seek 117 = .ok (.getfield 15, 3) := by decide +kernel
theorem dX8_seek_120 : decode cX8_seek 120 = .ok (.iload 4, 2) := by decide +kernel
theorem dX8_seek_122 : decode cX8_seek 122 = .ok (.iaload, 1) := by decide +kernel
theorem dX8_seek_123 : decode cX8_seek 123 = .ok (.aload_n 0, 1) := by decide +kernel
theorem dX8_seek_124 : decode cX8_seek 124 = .ok (.getfield 15, 3) := by decide +kernel
theorem dX8_seek_127 : decode cX8_seek 127 = .ok (.iload_n 3, 1) := by decide +kernel
theorem dX8_seek_128 : decode cX8_seek 128 = .ok (.iaload, 1) := by decide +kernel
theorem dX8_seek_129 : decode cX8_seek 129 = .ok (.isub, 1) := by decide +kernel
theorem dX8_seek_130 : decode cX8_seek 130 = .ok (.invokestatic 28, 3) := by decide +kernel
theorem dX8_seek_133 : decode cX8_seek 133 = .ok (.i2l, 1) := by decide +kernel
theorem dX8_seek_134 : decode cX8_seek 134 = .ok (.putfield 25, 3) := by decide +kernel
theorem dX8_seek_137 : decode cX8_seek 137 = .ok (.aload_n 0, 1) := by decide +kernel
theorem dX8_seek_138 : decode cX8_seek 138 = .ok (.getfield 18, 3) := by decide +kernel
theorem dX8_seek_141 : decode cX8_seek 141 = .ok (.iload 4, 2) := by decide +kernel
theorem dX8_seek_143 : decode cX8_seek 143 = .ok (.iaload, 1) := by decide +kernel
theorem dX8_seek_144 : decode cX8_seek 144 = .ok (.aload_n 0, 1) := by decide +kernel
theorem dX8_seek_145 : decode cX8_seek 145 = .ok (.getfield 18, 3) := by decide +kernel
theorem dX8_seek_148 : decode cX8_seek 148 = .ok (.iload_n 3, 1) := by decide +kernel
theorem dX8_seek_149 : decode cX8_seek 149 = .ok (.iaload, 1) := by decide +kernel
theorem dX8_seek_150 : decode cX8_seek 150 = .ok (.isub, 1) := by decide +kernel
theorem dX8_seek_151 : decode cX8_seek 151 = .ok (.i2l, 1) := by decide +kernel
theorem dX8_seek_152 : decode cX8_seek 152 = .ok (.lstore 7, 2) := by decide +kernel
theorem dX8_seek_154 : decode cX8_seek 154 = .ok (.aload_n 0, 1) := by decide +kernel
theorem dX8_seek_155 : decode cX8_seek 155 = .ok (.aload_n 0, 1) := by decide +kernel
theorem dX8_seek_156 : decode cX8_seek 156 = .ok (.getfield 18, 3) := by decide +kernel
theorem dX8_seek_159 : decode cX8_seek 159 = .ok (.iload_n 3, 1) := by decide +kernel
theorem dX8_seek_160 : decode cX8_seek 160 = .ok (.iaload, 1) := by decide +kernel
theorem dX8_seek_161 : decode cX8_seek 161 = .ok (.i2l, 1) := by decide +kernel
theorem dX8_seek_162 : decode cX8_seek 162 = .ok (.aload_n 0, 1) := by decide +kernel
theorem dX8_seek_163 : decode cX8_seek 163 = .ok (.getfield 25, 3) := by decide +kernel
theorem dX8_seek_166 : decode cX8_seek 166 = .ok (.lmul, 1) := by decide +kernel
theorem dX8_seek_167 : decode cX8_seek 167 = .ok (.lload 7, 2) := by decide +kernel
theorem dX8_seek_169 : decode cX8_seek 169 = .ok (.iload_n 2, 1) := by decide +kernel
theorem dX8_seek_170 : decode cX8_seek 170 = .ok (.aload_n 0, 1) := by decide +kernel
theorem dX8_seek_171 : decode cX8_seek 171 = .ok (.getfield 15, 3) := by decide +kernel
theorem dX8_seek_174 : decode cX8_seek 174 = .ok (.iload_n 3, 1) := by decide +kernel
theorem dX8_seek_175 : decode cX8_seek 175 = .ok (.iaload, 1) := by decide +kernel
theorem dX8_seek_176 : decode cX8_seek 176 = .ok (.isub, 1) := by decide +kernel
theorem dX8_seek_177 : decode cX8_seek 177 = .ok (.i2l, 1) := by decide +kernel
theorem dX8_seek_178 : decode cX8_seek 178 = .ok (.lmul, 1) := by decide +kernel
theorem dX8_seek_179 : decode cX8_seek 179 = .ok (.ladd, 1) := by decide +kernel
theorem dX8_seek_180 : decode cX8_seek 180 = .ok (.putfield 21, 3) := by decide +kernel
theorem dX8_seek_183 : decode cX8_seek 183 = .ok (.iconst 1, 1) := by decide +kernel
theorem dX8_seek_184 : decode cX8_seek 184 = .ok (.ireturn, 1) := by decide +kernel
theorem dX8_copyFrom_0 : decode cX8_copyFrom 0 = .ok (.aload_n 1, 1) := by decide +kernel
theorem dX8_copyFrom_1 : decode cX8_copyFrom 1 = .ok (.getfield 9, 3) := by decide +kernel
theorem dX8_copyFrom_4 : decode cX8_copyFrom 4 = .ok (.iconst 0, 1) := by decide +kernel
theorem dX8_copyFrom_5 : decode cX8_copyFrom 5 = .ok (.aload_n 0, 1) := by decide +kernel
theorem dX8_copyFrom_6 : decode cX8_copyFrom 6 = .ok (.getfield 9, 3) := by decide +kernel
theorem dX8_copyFrom_9 : decode cX8_copyFrom 9 = .ok (.iconst 0, 1) := by decide +kernel
theorem dX8_copyFrom_10 : decode cX8_copyFrom 10 = .ok (.bipush 100, 2) := by decide +kernel
theorem dX8_copyFrom_12 : decode cX8_copyFrom 12 = .ok (.invokestatic 34, 3) := by decide +kernel
theorem dX8_copyFrom_15 : decode cX8_copyFrom 15 = .ok (.aload_n 1, 1) := by decide +kernel
theorem dX8_copyFrom_16 : decode cX8_copyFrom 16 = .ok (.getfield 15, 3) := by decide +kernel
theorem dX8_copyFrom_19 : decode cX8_copyFrom 19 = .ok (.iconst 0, 1) := by decide +kernel
theorem dX8_copyFrom_20 : decode cX8_copyFrom 20 = .ok (.aload_n 0, 1) := by decide +kernel
theorem dX8_copyFrom_21 : decode cX8_copyFrom 21 = .ok (.getfield 15, 3) := by decide +kernel
theorem dX8_copyFrom_24 : decode cX8_copyFrom 24 = .ok (.iconst 0, 1) := by decide +kernel
theorem dX8_copyFrom_25 : decode cX8_copyFrom 25 = .ok (.sipush 1200, 3) := by decide +kernel
theorem dX8_copyFrom_28 : decode cX8_copyFrom 28 = .ok (.invokestatic 34, 3) := by decide +kernel
theorem dX8_copyFrom_31 : decode cX8_copyFrom 31 = .ok (.aload_n 1, 1) := by decide +kernel
theorem dX8_copyFrom_32 : decode cX8_copyFrom 32 = .ok (.getfield 18, 3) := by decide +kernel
theorem dX8_copyFrom_35 : decode cX8_copyFrom 35 = .ok (.iconst 0, 1) := by decide +kernel
theorem dX8_copyFrom_36 : decode cX8_copyFrom 36 = .ok (.aload_n 0, 1) := by decide +kernel
theorem dX8_copyFrom_37 : decode cX8_copyFrom 37 = .ok (.getfield 18, 3) := by decide +kernel
theorem dX8_copyFrom_40 : decode cX8_copyFrom 40 = .ok (.iconst 0, 1) := by decide +kernel
theorem dX8_copyFrom_41 : decode cX8_copyFrom 41 = .ok (.sipush 1200, 3) := by decide +kernel
theorem dX8_copyFrom_44 : decode cX8_copyFrom 44 = .ok (.invokestatic 34, 3) := by decide +kernel
theorem dX8_copyFrom_47 : decode cX8_copyFrom 47 = .ok (.return_, 1) := by decide +kernel
theorem dX9_init_0 : decode cX9_init 0 = .ok (.aload_n 0, 1) := by decide +kernel
theorem dX9_init_1 : decode cX9_init 1 = .ok (.invokespecial 1, 3) := by decide +kernel
theorem dX9_init_4 : decode cX9_init 4 = .ok (.aload_n 0, 1) := by decide +kernel
theorem dX9_init_5 : decode cX9_init 5 = .ok (.new 7, 3) := by decide +kernel
theorem dX9_init_8 : decode cX9_init 8 = .ok (.dup, 1) := by decide +kernel
theorem dX9_init_9 : decode cX9_init 9 = .ok (.invokespecial 9, 3) := by decide +kernel
theorem dX9_init_12 : decode cX9_init 12 = .ok (.putfield 10, 3) := by decide +kernel
theorem dX9_init_15 : decode cX9_init 15 = .ok (.aload_n 0, 1) := by decide +kernel
theorem dX9_init_16 : decode cX9_init 16 = .ok (.new 7, 3) := by decide +kernel
theorem dX9_init_19 : decode cX9_init 19 = .ok (.dup, 1) := by decide +kernel
theorem dX9_init_20 : decode cX9_init 20 = .ok (.invokespecial 9, 3) := by decide +kernel
theorem dX9_init_23 : decode cX9_init 23 = .ok (.putfield 16, 3) := by decide +kernel
theorem dX9_init_26 : decode cX9_init 26 = .ok (.aload_n 0, 1) := by decide +kernel
theorem dX9_init_27 : decode cX9_init 27 = .ok (.new 19, 3) := by decide +kernel
theorem dX9_init_30 : decode cX9_init 30 = .ok (.dup, 1) := by decide +kernel
theorem dX9_init_31 : decode cX9_init 31 = .ok (.invokespecial 21, 3) := by decide +kernel
theorem dX9_init_34 : decode cX9_init 34 = .ok (.putfield 22, 3) := by decide +kernel
theorem dX9_init_37 : decode cX9_init 37 = .ok (.aload_n 0, 1) := by decide +kernel
theorem dX9_init_38 : decode cX9_init 38 = .ok (.new 26, 3) := by decide +kernel
theorem dX9_init_41 : decode cX9_init 41 = .ok (.dup, 1) := by decide +kernel
theorem dX9_init_42 : decode cX9_init 42 = .ok (.aload_n 0, 1) := by decide +kernel
theorem dX9_init_43 : decode cX9_init 43 = .ok (.getfield 10, 3) := by decide +kernel
theorem dX9_init_46 : decode cX9_init 46 = .ok (.invokespecial 28, 3) := by decide +kernel
theorem dX9_init_49 : decode cX9_init 49 = .ok (.putfield 31, 3) := by decide +kernel
theorem dX9_init_52 : decode cX9_init 52 = .ok (.aload_n 0, 1) := by decide +kernel
theorem dX9_init_53 : decode cX9_init 53 = .ok (.new 35, 3) := by decide +kernel
theorem dX9_init_56 : decode cX9_init 56 = .ok (.dup, 1) := by decide +kernel
theorem dX9_init_57 : decode cX9_init 57 = .ok (.aload_n 0, 1) := by decide +kernel
theorem dX9_init_58 : decode cX9_init 58 = .ok (.getfield 10, 3) := by decide +kernel
theorem dX9_init_61 : decode cX9_init 61 = .ok (.invokespecial 37, 3) := by decide +kernel
theorem dX9_init_64 : decode cX9_init 64 = .ok (.putfield 38, 3) := by decide +kernel
theorem dX9_init_67 : decode cX9_init 67 = .ok (.aload_n 0, 1) := by decide +kernel
theorem dX9_init_68 : decode cX9_init 68 = .ok (.new 42, 3) := by decide +kernel
theorem dX9_init_71 : decode cX9_init 71 = .ok (.dup, 1) := by decide +kernel
theorem dX9_init_72 : decode cX9_init 72 = .ok (.aload_n 0, 1) := by decide +kernel
theorem dX9_init_73 : decode cX9_init 73 = .ok (.getfield 10, 3) := by decide +kernel
theorem dX9_init_76 : decode cX9_init 76 = .ok (.invokespecial 44, 3) := by decide +kernel
theorem dX9_init_79 : decode cX9_init 79 = .ok (.putfield 45, 3) := by decide +kernel
theorem dX9_init_82 : decode cX9_init 82 = .ok (.aload_n 0, 1) := by decide +kernel
theorem dX9_init_83 : decode cX9_init 83 = .ok (.new 49, 3) := by decide +kernel
theorem dX9_init_86 : decode cX9_init 86 = .ok (.dup, 1) := by decide +kernel
theorem dX9_init_87 : decode cX9_init 87 = .ok (.aload_n 0, 1) := by decide +kernel
theorem dX9_init_88 : decode cX9_init 88 = .ok (.getfield 45, 3) := by decide +kernel
theorem dX9_init_91 : decode cX9_init 91 = .ok (.invokespecial 51, 3) := by decide +kernel
theorem dX9_init_94 : decode cX9_init 94 = .ok (.putfield 54, 3) := by decide +kernel
theorem dX9_init_97 : decode cX9_init 97 = .ok (.aload_n 0, 1) := by decide +kernel
theorem dX9_init_98 : decode cX9_init 98 = .ok (.iconst 0, 1) := by decide +kernel
theorem dX9_init_99 : decode cX9_init 99 = .ok (.putfield 58, 3) := by decide +kernel
theorem dX9_init_102 : decode cX9_init 102 = .ok (.return_, 1) := by decide +kernel
theorem dX9_line_0 : decode cX9_line 0 = .ok (.iload_n 1, 1) := by decide +kernel
theorem dX9_line_1 : decode cX9_line 1 = .ok (.invokestatic 62, 3) := by decide +kernel
theorem dX9_line_4 : decode cX9_line 4 = .ok (.ifCond .eq 25, 3) := by decide +kernel
theorem dX9_line_7 : decode cX9_line 7 = .ok (.iload_n 2, 1) := by decide +kernel
theorem dX9_line_8 : decode cX9_line 8 = .ok (.invokestatic 66, 3) := by decide +kernel
theorem dX9_line_11 : decode cX9_line 11 = .ok (.ifCond .eq 18, 3) := by decide +kernel
theorem dX9_line_14 : decode cX9_line 14 = .ok (.aload_n 0, 1) := by decide +kernel
theorem dX9_line_15 : decode cX9_line 15 = .ok (.getfield 10, 3) := by decide +kernel
theorem dX9_line_18 : decode cX9_line 18 = .ok (.getfield 69, 3) := by decide +kernel
theorem dX9_line_21 : decode cX9_line 21 = .ok (.getfield 73, 3) := by decide +kernel
theorem dX9_line_24 : decode cX9_line 24 = .ok (.bipush 20, 2) := by decide +kernel
theorem dX9_line_26 : decode cX9_line 26 = .ok (.if_icmp .lt 5, 3) := by decide +kernel
theorem dX9_line_29 : decode cX9_line 29 = .ok (.iconst (-1), 1) := by decide +kernel
theorem dX9_line_30 : decode cX9_line 30 = .ok (.ireturn, 1) := by decide +kernel
theorem dX9_line_31 : decode cX9_line 31 = .ok (.aload_n 0, 1) := by decide +kernel
theorem dX9_line_32 : decode cX9_line 32 = .ok (.getfield 10, 3) := by decide +kernel
theorem dX9_line_35 : decode cX9_line 35 = .ok (.getfield 69, 3) := by decide +kernel
theorem dX9_line_38 : decode cX9_line 38 = .ok (.iload_n 1, 1) := by decide +kernel
theorem dX9_line_39 : decode cX9_line 39 = .ok (.iload_n 2, 1) := by decide +kernel
theorem dX9_line_40 : decode cX9_line 40 = .ok (.invokevirtual 79, 3) := by decide +kernel
theorem dX9_line_43 : decode cX9_line 43 = .ok (.istore_n 3, 1) := by decide +kernel
theorem dX9_line_44 : decode cX9_line 44 = .ok (.aload_n 0, 1) := by decide +kernel
theorem dX9_line_45 : decode cX9_line 45 = .ok (.getfield 22, 3) := by decide +kernel
theorem dX9_line_48 : decode cX9_line 48 = .ok (.iconst 0, 1) := by decide +kernel
theorem dX9_line_49 : decode cX9_line 49 = .ok (.iload_n 3, 1) := by decide +kernel
theorem dX9_line_50 : decode cX9_line 50 = .ok (.iconst 0, 1) := by decide +kernel
theorem dX9_line_51 : decode cX9_line 51 = .ok (.invokevirtual 83, 3) := by decide +kernel
theorem dX9_line_54 : decode cX9_line 54 = .ok (.iload_n 3, 1) := by decide +kernel
theorem dX9_line_55 : decode cX9_line 55 = .ok (.ireturn, 1) := by decide +kernel
theorem dX9_tide_0 : decode cX9_tide 0 = .ok (.iload_n 1, 1) := by decide +kernel
theorem dX9_tide_1 : decode cX9_tide 1 = .ok (.invokestatic 62, 3) := by decide +kernel
theorem dX9_tide_4 : decode cX9_tide 4 = .ok (.ifCond .eq 22, 3) := by decide +kernel
theorem dX9_tide_7 : decode cX9_tide 7 = .ok (.iload_n 2, 1) := by decide +kernel
theorem dX9_tide_8 : decode cX9_tide 8 = .ok (.invokestatic 86, 3) := by decide +kernel
theorem dX9_tide_11 : decode cX9_tide 11 = .ok (.ifCond .eq 15, 3) := by decide +kernel
theorem dX9_tide_14 : decode cX9_tide 14 = .ok (.iload_n 3, 1) := by decide +kernel
theorem dX9_tide_15 : decode cX9_tide 15 = .ok (.bipush (-100), 2) := by decide +kernel
theorem dX9_tide_17 : decode cX9_tide 17 = .ok (.sipush 200, 3) := by decide +kernel
theorem dX9_tide_20 : decode cX9_tide 20 = .ok (.invokestatic 89, 3) := by decide +kernel
theorem dX9_tide_23 : decode cX9_tide 23 = .ok (.ifCond .ne 5, 3) := by decide +kernel
theorem dX9_tide_26 : decode cX9_tide 26 = .ok (.iconst (-1), 1) := by decide +kernel
theorem dX9_tide_27 : decode cX9_tide 27 = .ok (.ireturn, 1) := by decide +kernel
theorem dX9_tide_28 : decode cX9_tide 28 = .ok (.aload_n 0, 1) := by decide +kernel
theorem dX9_tide_29 : decode cX9_tide 29 = .ok (.getfield 10, 3) := by decide +kernel
theorem dX9_tide_32 : decode cX9_tide 32 = .ok (.getfield 93, 3) := by decide +kernel
theorem dX9_tide_35 : decode cX9_tide 35 = .ok (.astore 4, 2) := by decide +kernel
theorem dX9_tide_37 : decode cX9_tide 37 = .ok (.aload 4, 2) := by decide +kernel
theorem dX9_tide_39 : decode cX9_tide 39 = .ok (.iload_n 1, 1) := by decide +kernel
theorem dX9_tide_40 : decode cX9_tide 40 = .ok (.iload_n 2, 1) := by decide +kernel
theorem dX9_tide_41 : decode cX9_tide 41 = .ok (.invokevirtual 97, 3) := by decide +kernel
theorem dX9_tide_44 : decode cX9_tide 44 = .ok (.istore 5, 2) := by decide +kernel
theorem dX9_tide_46 : decode cX9_tide 46 = .ok (.iload 5, 2) := by decide +kernel
theorem dX9_tide_48 : decode cX9_tide 48 = .ok (.iconst (-1), 1) := by decide +kernel
theorem dX9_tide_49 : decode cX9_tide 49 = .ok (.if_icmp .eq 38, 3) := by decide +kernel
theorem dX9_tide_52 : decode cX9_tide 52 = .ok (.aload_n 0, 1) := by decide +kernel
theorem dX9_tide_53 : decode cX9_tide 53 = .ok (.getfield 22, 3) := by decide +kernel
theorem dX9_tide_56 : decode cX9_tide 56 = .ok (.iconst 2, 1) := by decide +kernel
theorem dX9_tide_57 : decode cX9_tide 57 = .ok (.iload 5, 2) := by decide +kernel
theorem dX9_tide_59 : decode cX9_tide 59 = .ok (.aload 4, 2) := by decide +kernel
theorem dX9_tide_61 : decode cX9_tide 61 = .ok (.getfield 102, 3) := by decide +kernel
theorem dX9_tide_64 : decode cX9_tide 64 = .ok (.iload 5, 2) := by decide +kernel
theorem dX9_tide_66 : decode cX9_tide 66 = .ok (.iaload, 1) := by decide +kernel
theorem dX9_tide_67 : decode cX9_tide 67 = .ok (.invokevirtual 83, 3) := by decide +kernel
theorem dX9_tide_70 : decode cX9_tide 70 = .ok (.aload 4, 2) := by decide +kernel
theorem dX9_tide_72 : decode cX9_tide 72 = .ok (.getfield 102, 3) := by decide +kernel
theorem dX9_tide_75 : decode cX9_tide 75 = .ok (.iload 5, 2) := by decide +kernel
theorem dX9_tide_77 : decode cX9_tide 77 = .ok (.iload_n 3, 1) := by decide +kernel
theorem dX9_tide_78 : decode cX9_tide 78 = .ok (.iastore, 1) := by decide +kernel
theorem dX9_tide_79 : decode cX9_tide 79 = .ok (.aload 4, 2) := by decide +kernel
theorem dX9_tide_81 : decode cX9_tide 81 = .ok (.getfield 106, 3) := by decide +kernel
theorem dX9_tide_84 : decode cX9_tide 84 = .ok (.iload_n 1, 1) := by decide +kernel
theorem dX9_tide_85 : decode cX9_tide 85 = .ok (.iaload, 1) := by decide +kernel
theorem dX9_tide_86 : decode cX9_tide 86 = .ok (.ireturn, 1) := by decide +kernel
theorem dX9_tide_87 : decode cX9_tide 87 = .ok (.aload 4, 2) := by decide +kernel
theorem dX9_tide_89 : decode cX9_tide 89 = .ok (.getfield 106, 3) := by decide +kernel
theorem dX9_tide_92 : decode cX9_tide 92 = .ok (.iload_n 1, 1) := by decide +kernel
theorem dX9_tide_93 : decode cX9_tide 93 = .ok (.iaload, 1) := by decide +kernel
