theorem dX9_tide_94 : decode cX9_tide 94 = .ok (.bipush 12, 2) := by decide +kernel
theorem dX9_tide_96 : decode cX9_tide 96 = .ok (.if_icmp .lt 5, 3) := by decide +kernel
theorem dX9_tide_99 : decode cX9_tide 99 = .ok (.iconst (-1), 1) := by decide +kernel
theorem dX9_tide_100 : decode cX9_tide 100 = .ok (.ireturn, 1) := by decide +kernel
theorem dX9_tide_101 : decode cX9_tide 101 = .ok (.aload 4, 2) := by decide +kernel
theorem dX9_tide_103 : decode cX9_tide 103 = .ok (.iload_n 1, 1) := by decide +kernel
theorem dX9_tide_104 : decode cX9_tide 104 = .ok (.iload_n 2, 1) := by decide +kernel
theorem dX9_tide_105 : decode cX9_tide 105 = .ok (.iload_n 3, 1) := by decide +kernel
theorem dX9_tide_106 : decode cX9_tide 106 = .ok (.invokevirtual 109, 3) := by decide +kernel
theorem dX9_tide_109 : decode cX9_tide 109 = .ok (.aload_n 0, 1) := by decide +kernel
theorem dX9_tide_110 : decode cX9_tide 110 = .ok (.getfield 22, 3) := by decide +kernel
theorem dX9_tide_113 : decode cX9_tide 113 = .ok (.iconst 1, 1) := by decide +kernel
theorem dX9_tide_114 : decode cX9_tide 114 = .ok (.iload_n 1, 1) := by decide +kernel
theorem dX9_tide_115 : decode cX9_tide 115 = .ok (.iconst 0, 1) := by decide +kernel
theorem dX9_tide_116 : decode cX9_tide 116 = .ok (.invokevirtual 83, 3) := by decide +kernel
theorem dX9_tide_119 : decode cX9_tide 119 = .ok (.aload 4, 2) := by decide +kernel
theorem dX9_tide_121 : decode cX9_tide 121 = .ok (.getfield 106, 3) := by decide +kernel
theorem dX9_tide_124 : decode cX9_tide 124 = .ok (.iload_n 1, 1) := by decide +kernel
theorem dX9_tide_125 : decode cX9_tide 125 = .ok (.iaload, 1) := by decide +kernel
theorem dX9_tide_126 : decode cX9_tide 126 = .ok (.ireturn, 1) := by decide +kernel
theorem dX9_speed_0 : decode cX9_speed 0 = .ok (.aload_n 0, 1) := by decide +kernel
theorem dX9_speed_1 : decode cX9_speed 1 = .ok (.getfield 10, 3) := by decide +kernel
theorem dX9_speed_4 : decode cX9_speed 4 = .ok (.getfield 69, 3) := by decide +kernel
theorem dX9_speed_7 : decode cX9_speed 7 = .ok (.iload_n 1, 1) := by decide +kernel
theorem dX9_speed_8 : decode cX9_speed 8 = .ok (.invokevirtual 110, 3) := by decide +kernel
theorem dX9_speed_11 : decode cX9_speed 11 = .ok (.ifCond .eq 10, 3) := by decide +kernel
theorem dX9_speed_14 : decode cX9_speed 14 = .ok (.iload_n 2, 1) := by decide +kernel
theorem dX9_speed_15 : decode cX9_speed 15 = .ok (.invokestatic 66, 3) := by decide +kernel
theorem dX9_speed_18 : decode cX9_speed 18 = .ok (.ifCond .ne 5, 3) := by decide +kernel
theorem dX9_speed_21 : decode cX9_speed 21 = .ok (.iconst 0, 1) := by decide +kernel
theorem dX9_speed_22 : decode cX9_speed 22 = .ok (.ireturn, 1) := by decide +kernel
theorem dX9_speed_23 : decode cX9_speed 23 = .ok (.aload_n 0, 1) := by decide +kernel
theorem dX9_speed_24 : decode cX9_speed 24 = .ok (.getfield 22, 3) := by decide +kernel
theorem dX9_speed_27 : decode cX9_speed 27 = .ok (.iconst 3, 1) := by decide +kernel
theorem dX9_speed_28 : decode cX9_speed 28 = .ok (.iload_n 1, 1) := by decide +kernel
theorem dX9_speed_29 : decode cX9_speed 29 = .ok (.aload_n 0, 1) := by decide +kernel
theorem dX9_speed_30 : decode cX9_speed 30 = .ok (.getfield 10, 3) := by decide +kernel
theorem dX9_speed_33 : decode cX9_speed 33 = .ok (.getfield 69, 3) := by decide +kernel
theorem dX9_speed_36 : decode cX9_speed 36 = .ok (.getfield 113, 3) := by decide +kernel
theorem dX9_speed_39 : decode cX9_speed 39 = .ok (.iload_n 1, 1) := by decide +kernel
theorem dX9_speed_40 : decode cX9_speed 40 = .ok (.iaload, 1) := by decide +kernel
theorem dX9_speed_41 : decode cX9_speed 41 = .ok (.invokevirtual 83, 3) := by decide +kernel
theorem dX9_speed_44 : decode cX9_speed 44 = .ok (.aload_n 0, 1) := by decide +kernel
theorem dX9_speed_45 : decode cX9_speed 45 = .ok (.getfield 10, 3) := by decide +kernel
theorem dX9_speed_48 : decode cX9_speed 48 = .ok (.getfield 69, 3) := by decide +kernel
theorem dX9_speed_51 : decode cX9_speed 51 = .ok (.getfield 113, 3) := by decide +kernel
theorem dX9_speed_54 : decode cX9_speed 54 = .ok (.iload_n 1, 1) := by decide +kernel
theorem dX9_speed_55 : decode cX9_speed 55 = .ok (.iload_n 2, 1) := by decide +kernel
theorem dX9_speed_56 : decode cX9_speed 56 = .ok (.iastore, 1) := by decide +kernel
theorem dX9_speed_57 : decode cX9_speed 57 = .ok (.iconst 1, 1) := by decide +kernel
theorem dX9_speed_58 : decode cX9_speed 58 = .ok (.ireturn, 1) := by decide +kernel
theorem dX9_shift_0 : decode cX9_shift 0 = .ok (.aload_n 0, 1) := by decide +kernel
theorem dX9_shift_1 : decode cX9_shift 1 = .ok (.getfield 10, 3) := by decide +kernel
theorem dX9_shift_4 : decode cX9_shift 4 = .ok (.getfield 69, 3) := by decide +kernel
theorem dX9_shift_7 : decode cX9_shift 7 = .ok (.iload_n 1, 1) := by decide +kernel
theorem dX9_shift_8 : decode cX9_shift 8 = .ok (.invokevirtual 110, 3) := by decide +kernel
theorem dX9_shift_11 : decode cX9_shift 11 = .ok (.ifCond .eq 14, 3) := by decide +kernel
theorem dX9_shift_14 : decode cX9_shift 14 = .ok (.iload_n 2, 1) := by decide +kernel
theorem dX9_shift_15 : decode cX9_shift 15 = .ok (.bipush (-50), 2) := by decide +kernel
theorem dX9_shift_17 : decode cX9_shift 17 = .ok (.bipush 50, 2) := by decide +kernel
theorem dX9_shift_19 : decode cX9_shift 19 = .ok (.invokestatic 89, 3) := by decide +kernel
theorem dX9_shift_22 : decode cX9_shift 22 = .ok (.ifCond .ne 5, 3) := by decide +kernel
theorem dX9_shift_25 : decode cX9_shift 25 = .ok (.iconst 0, 1) := by decide +kernel
theorem dX9_shift_26 : decode cX9_shift 26 = .ok (.ireturn, 1) := by decide +kernel
theorem dX9_shift_27 : decode cX9_shift 27 = .ok (.aload_n 0, 1) := by decide +kernel
theorem dX9_shift_28 : decode cX9_shift 28 = .ok (.getfield 22, 3) := by decide +kernel
theorem dX9_shift_31 : decode cX9_shift 31 = .ok (.iconst 4, 1) := by decide +kernel
theorem dX9_shift_32 : decode cX9_shift 32 = .ok (.iload_n 1, 1) := by decide +kernel
theorem dX9_shift_33 : decode cX9_shift 33 = .ok (.aload_n 0, 1) := by decide +kernel
theorem dX9_shift_34 : decode cX9_shift 34 = .ok (.getfield 10, 3) := by decide +kernel
theorem dX9_shift_37 : decode cX9_shift 37 = .ok (.getfield 69, 3) := by decide +kernel
theorem dX9_shift_40 : decode cX9_shift 40 = .ok (.getfield 116, 3) := by decide +kernel
theorem dX9_shift_43 : decode cX9_shift 43 = .ok (.iload_n 1, 1) := by decide +kernel
theorem dX9_shift_44 : decode cX9_shift 44 = .ok (.iaload, 1) := by decide +kernel
theorem dX9_shift_45 : decode cX9_shift 45 = .ok (.invokevirtual 83, 3) := by decide +kernel
theorem dX9_shift_48 : decode cX9_shift 48 = .ok (.aload_n 0, 1) := by decide +kernel
theorem dX9_shift_49 : decode cX9_shift 49 = .ok (.getfield 10, 3) := by decide +kernel
theorem dX9_shift_52 : decode cX9_shift 52 = .ok (.getfield 69, 3) := by decide +kernel
theorem dX9_shift_55 : decode cX9_shift 55 = .ok (.getfield 116, 3) := by decide +kernel
theorem dX9_shift_58 : decode cX9_shift 58 = .ok (.iload_n 1, 1) := by decide +kernel
theorem dX9_shift_59 : decode cX9_shift 59 = .ok (.iload_n 2, 1) := by decide +kernel
theorem dX9_shift_60 : decode cX9_shift 60 = .ok (.iastore, 1) := by decide +kernel
theorem dX9_shift_61 : decode cX9_shift 61 = .ok (.iconst 1, 1) := by decide +kernel
theorem dX9_shift_62 : decode cX9_shift 62 = .ok (.ireturn, 1) := by decide +kernel
theorem dX9_lead_0 : decode cX9_lead 0 = .ok (.iload 5, 2) := by decide +kernel
theorem dX9_lead_2 : decode cX9_lead 2 = .ok (.iconst 0, 1) := by decide +kernel
theorem dX9_lead_3 : decode cX9_lead 3 = .ok (.sipush 9999, 3) := by decide +kernel
theorem dX9_lead_6 : decode cX9_lead 6 = .ok (.invokestatic 89, 3) := by decide +kernel
theorem dX9_lead_9 : decode cX9_lead 9 = .ok (.ifCond .ne 5, 3) := by decide +kernel
theorem dX9_lead_12 : decode cX9_lead 12 = .ok (.iconst (-1), 1) := by decide +kernel
theorem dX9_lead_13 : decode cX9_lead 13 = .ok (.ireturn, 1) := by decide +kernel
theorem dX9_lead_14 : decode cX9_lead 14 = .ok (.aload_n 0, 1) := by decide +kernel
theorem dX9_lead_15 : decode cX9_lead 15 = .ok (.iconst 0, 1) := by decide +kernel
theorem dX9_lead_16 : decode cX9_lead 16 = .ok (.iload_n 1, 1) := by decide +kernel
theorem dX9_lead_17 : decode cX9_lead 17 = .ok (.iload_n 2, 1) := by decide +kernel
theorem dX9_lead_18 : decode cX9_lead 18 = .ok (.iload_n 3, 1) := by decide +kernel
theorem dX9_lead_19 : decode cX9_lead 19 = .ok (.iload 4, 2) := by decide +kernel
theorem dX9_lead_21 : decode cX9_lead 21 = .ok (.iload 5, 2) := by decide +kernel
theorem dX9_lead_23 : decode cX9_lead 23 = .ok (.invokevirtual 119, 3) := by decide +kernel
theorem dX9_lead_26 : decode cX9_lead 26 = .ok (.ireturn, 1) := by decide +kernel
theorem dX9_echo_0 : decode cX9_echo 0 = .ok (.iload 5, 2) := by decide +kernel
theorem dX9_echo_2 : decode cX9_echo 2 = .ok (.invokestatic 123, 3) := by decide +kernel
theorem dX9_echo_5 : decode cX9_echo 5 = .ok (.istore 6, 2) := by decide +kernel
theorem dX9_echo_7 : decode cX9_echo 7 = .ok (.iload 6, 2) := by decide +kernel
theorem dX9_echo_9 : decode cX9_echo 9 = .ok (.iconst 0, 1) := by decide +kernel
theorem dX9_echo_10 : decode cX9_echo 10 = .ok (.sipush 19999, 3) := by decide +kernel
theorem dX9_echo_13 : decode cX9_echo 13 = .ok (.invokestatic 89, 3) := by decide +kernel
theorem dX9_echo_16 : decode cX9_echo 16 = .ok (.ifCond .ne 5, 3) := by decide +kernel
theorem dX9_echo_19 : decode cX9_echo 19 = .ok (.iconst (-1), 1) := by decide +kernel
theorem dX9_echo_20 : decode cX9_echo 20 = .ok (.ireturn, 1) := by decide +kernel
theorem dX9_echo_21 : decode cX9_echo 21 = .ok (.aload_n 0, 1) := by decide +kernel
theorem dX9_echo_22 : decode cX9_echo 22 = .ok (.iconst 1, 1) := by decide +kernel
theorem dX9_echo_23 : decode cX9_echo 23 = .ok (.iload_n 1, 1) := by decide +kernel
theorem dX9_echo_24 : decode cX9_echo 24 = .ok (.iload_n 2, 1) := by decide +kernel
theorem dX9_echo_25 : decode cX9_echo 25 = .ok (.iload_n 3, 1) := by decide +kernel
theorem dX9_echo_26 : decode cX9_echo 26 = .ok (.iload 4, 2) := by decide +kernel
theorem dX9_echo_28 : decode cX9_echo 28 = .ok (.iload 6, 2) := by decide +kernel
theorem dX9_echo_30 : decode cX9_echo 30 = .ok (.invokevirtual 119, 3) := by decide +kernel
theorem dX9_echo_33 : decode cX9_echo 33 = .ok (.ireturn, 1) := by decide +kernel
theorem dX9_sweep_0 : decode cX9_sweep 0 = .ok (.iload_n 3, 1) := by decide +kernel
theorem dX9_sweep_1 : decode cX9_sweep 1 = .ok (.iload 4, 2) := by decide +kernel
theorem dX9_sweep_3 : decode cX9_sweep 3 = .ok (.invokestatic 127, 3) := by decide +kernel
theorem dX9_sweep_6 : decode cX9_sweep 6 = .ok (.ifCond .eq 32, 3) := by decide +kernel
theorem dX9_sweep_9 : decode cX9_sweep 9 = .ok (.iload 5, 2) := by decide +kernel
theorem dX9_sweep_11 : decode cX9_sweep 11 = .ok (.iconst 1, 1) := by decide +kernel
theorem dX9_sweep_12 : decode cX9_sweep 12 = .ok (.sipush 256, 3) := by decide +kernel
theorem dX9_sweep_15 : decode cX9_sweep 15 = .ok (.iload_n 3, 1) := by decide +kernel
theorem dX9_sweep_16 : decode cX9_sweep 16 = .ok (.isub, 1) := by decide +kernel
theorem dX9_sweep_17 : decode cX9_sweep 17 = .ok (.invokestatic 89, 3) := by decide +kernel
theorem dX9_sweep_20 : decode cX9_sweep 20 = .ok (.ifCond .eq 18, 3) := by decide +kernel
theorem dX9_sweep_23 : decode cX9_sweep 23 = .ok (.iload 6, 2) := by decide +kernel
theorem dX9_sweep_25 : decode cX9_sweep 25 = .ok (.iconst 1, 1) := by decide +kernel
theorem dX9_sweep_26 : decode cX9_sweep 26 = .ok (.sipush 256, 3) := by decide +kernel
theorem dX9_sweep_29 : decode cX9_sweep 29 = .ok (.iload 4, 2) := by decide +kernel
theorem dX9_sweep_31 : decode cX9_sweep 31 = .ok (.isub, 1) := by decide +kernel
theorem dX9_sweep_32 : decode cX9_sweep 32 = .ok (.invokestatic 89, 3) := by decide +kernel
theorem dX9_sweep_35 : decode cX9_sweep 35 = .ok (.ifCond .ne 5, 3) := by decide +kernel
theorem dX9_sweep_38 : decode cX9_sweep 38 = .ok (.iconst (-1), 1) := by decide +kernel
theorem dX9_sweep_39 : decode cX9_sweep 39 = .ok (.ireturn, 1) := by decide +kernel
theorem dX9_sweep_40 : decode cX9_sweep 40 = .ok (.iload 7, 2) := by decide +kernel
theorem dX9_sweep_42 : decode cX9_sweep 42 = .ok (.iconst 0, 1) := by decide +kernel
theorem dX9_sweep_43 : decode cX9_sweep 43 = .ok (.sipush 9999, 3) := by decide +kernel
theorem dX9_sweep_46 : decode cX9_sweep 46 = .ok (.invokestatic 89, 3) := by decide +kernel
theorem dX9_sweep_49 : decode cX9_sweep 49 = .ok (.ifCond .ne 5, 3) := by decide +kernel
theorem dX9_sweep_52 : decode cX9_sweep 52 = .ok (.iconst (-1), 1) := by decide +kernel
theorem dX9_sweep_53 : decode cX9_sweep 53 = .ok (.ireturn, 1) := by decide +kernel
theorem dX9_sweep_54 : decode cX9_sweep 54 = .ok (.aload_n 0, 1) := by decide +kernel
theorem dX9_sweep_55 : decode cX9_sweep 55 = .ok (.iconst 2, 1) := by decide +kernel
theorem dX9_sweep_56 : decode cX9_sweep 56 = .ok (.iload_n 1, 1) := by decide +kernel
theorem dX9_sweep_57 : decode cX9_sweep 57 = .ok (.iload_n 2, 1) := by decide +kernel
theorem dX9_sweep_58 : decode cX9_sweep 58 = .ok (.iload_n 3, 1) := by decide +kernel
theorem dX9_sweep_59 : decode cX9_sweep 59 = .ok (.iload 4, 2) := by decide +kernel
theorem dX9_sweep_61 : decode cX9_sweep 61 = .ok (.iload 7, 2) := by decide +kernel
theorem dX9_sweep_63 : decode cX9_sweep 63 = .ok (.invokevirtual 119, 3) := by decide +kernel
theorem dX9_sweep_66 : decode cX9_sweep 66 = .ok (.istore 8, 2) := by decide +kernel
theorem dX9_sweep_68 : decode cX9_sweep 68 = .ok (.iload 8, 2) := by decide +kernel
theorem dX9_sweep_70 : decode cX9_sweep 70 = .ok (.iconst (-1), 1) := by decide +kernel
theorem dX9_sweep_71 : decode cX9_sweep 71 = .ok (.if_icmp .eq 19, 3) := by decide +kernel
theorem dX9_sweep_74 : decode cX9_sweep 74 = .ok (.aload_n 0, 1) := by decide +kernel
theorem dX9_sweep_75 : decode cX9_sweep 75 = .ok (.getfield 10, 3) := by decide +kernel
theorem dX9_sweep_78 : decode cX9_sweep 78 = .ok (.getfield 131, 3) := by decide +kernel
theorem dX9_sweep_81 : decode cX9_sweep 81 = .ok (.iload 8, 2) := by decide +kernel
theorem dX9_sweep_83 : decode cX9_sweep 83 = .ok (.iload 5, 2) := by decide +kernel
theorem dX9_sweep_85 : decode cX9_sweep 85 = .ok (.iload 6, 2) := by decide +kernel
theorem dX9_sweep_87 : decode cX9_sweep 87 = .ok (.invokevirtual 135, 3) := by decide +kernel
theorem dX9_sweep_90 : decode cX9_sweep 90 = .ok (.iload 8, 2) := by decide +kernel
theorem dX9_sweep_92 : decode cX9_sweep 92 = .ok (.ireturn, 1) := by decide +kernel
theorem dX9_notice_0 : decode cX9_notice 0 = .ok (.iload_n 1, 1) := by decide +kernel
theorem dX9_notice_1 : decode cX9_notice 1 = .ok (.iconst 3, 1) := by decide +kernel
theorem dX9_notice_2 : decode cX9_notice 2 = .ok (.iconst 5, 1) := by decide +kernel
theorem dX9_notice_3 : decode cX9_notice 3 = .ok (.invokestatic 89, 3) := by decide +kernel
theorem dX9_notice_6 : decode cX9_notice 6 = .ok (.ifCond .eq 19, 3) := by decide +kernel
theorem dX9_notice_9 : decode cX9_notice 9 = .ok (.iload_n 2, 1) := by decide +kernel
theorem dX9_notice_10 : decode cX9_notice 10 = .ok (.invokestatic 62, 3) := by decide +kernel
theorem dX9_notice_13 : decode cX9_notice 13 = .ok (.ifCond .eq 12, 3) := by decide +kernel
theorem dX9_notice_16 : decode cX9_notice 16 = .ok (.iload_n 3, 1) := by decide +kernel
theorem dX9_notice_17 : decode cX9_notice 17 = .ok (.iload 4, 2) := by decide +kernel
theorem dX9_notice_19 : decode cX9_notice 19 = .ok (.invokestatic 127, 3) := by decide +kernel
theorem dX9_notice_22 : decode cX9_notice 22 = .ok (.ifCond .ne 5, 3) := by decide +kernel
theorem dX9_notice_25 : decode cX9_notice 25 = .ok (.iconst (-1), 1) := by decide +kernel
theorem dX9_notice_26 : decode cX9_notice 26 = .ok (.ireturn, 1) := by decide +kernel
theorem dX9_notice_27 : decode cX9_notice 27 = .ok (.iload_n 1, 1) := by decide +kernel
theorem dX9_notice_28 : decode cX9_notice 28 = .ok (.iconst 4, 1) := by decide +kernel
theorem dX9_notice_29 : decode cX9_notice 29 = .ok (.if_icmp .ne 15, 3) := by decide +kernel
theorem dX9_notice_32 : decode cX9_notice 32 = .ok (.iload 5, 2) := by decide +kernel
theorem dX9_notice_34 : decode cX9_notice 34 = .ok (.sipush (-200), 3) := by decide +kernel
theorem dX9_notice_37 : decode cX9_notice 37 = .ok (.iconst (-1), 1) := by decide +kernel
theorem dX9_notice_38 : decode cX9_notice 38 = .ok (.invokestatic 89, 3) := by decide +kernel
theorem dX9_notice_41 : decode cX9_notice 41 = .ok (.goto 12, 3) := by decide +kernel
theorem dX9_notice_44 : decode cX9_notice 44 = .ok (.iload 5, 2) := by decide +kernel
theorem dX9_notice_46 : decode cX9_notice 46 = .ok (.iconst 0, 1) := by decide +kernel
theorem dX9_notice_47 : decode cX9_notice 47 = .ok (.sipush 9999, 3) := by decide +kernel
theorem dX9_notice_50 : decode cX9_notice 50 = .ok (.invokestatic 89, 3) := by decide +kernel
theorem dX9_notice_53 : decode cX9_notice 53 = .ok (.istore 6, 2) := by decide +kernel
theorem dX9_notice_55 : decode cX9_notice 55 = .ok (.iload 6, 2) := by decide +kernel
theorem dX9_notice_57 : decode cX9_notice 57 = .ok (.ifCond .ne 5, 3) := by decide +kernel
theorem dX9_notice_60 : decode cX9_notice 60 = .ok (.iconst (-1), 1) := by decide +kernel
theorem dX9_notice_61 : decode cX9_notice 61 = .ok (.ireturn, 1) := by decide +kernel
theorem dX9_notice_62 : decode cX9_notice 62 = .ok (.aload_n 0, 1) := by decide +kernel
theorem dX9_notice_63 : decode cX9_notice 63 = .ok (.iload_n 1, 1) := by decide +kernel
theorem dX9_notice_64 : decode cX9_notice 64 = .ok (.iload_n 3, 1) := by decide +kernel
theorem dX9_notice_65 : decode cX9_notice 65 = .ok (.iload 4, 2) := by decide +kernel
theorem dX9_notice_67 : decode cX9_notice 67 = .ok (.iload 5, 2) := by decide +kernel
theorem dX9_notice_69 : decode cX9_notice 69 = .ok (.invokevirtual 140, 3) := by decide +kernel
theorem dX9_notice_72 : decode cX9_notice 72 = .ok (.istore 7, 2) := by decide +kernel
theorem dX9_notice_74 : decode cX9_notice 74 = .ok (.iload 7, 2) := by decide +kernel
theorem dX9_notice_76 : decode cX9_notice 76 = .ok (.iconst (-1), 1) := by decide +kernel
theorem dX9_notice_77 : decode cX9_notice 77 = .ok (.if_icmp .eq 18, 3) := by decide +kernel
theorem dX9_notice_80 : decode cX9_notice 80 = .ok (.aload_n 0, 1) := by decide +kernel
theorem dX9_notice_81 : decode cX9_notice 81 = .ok (.getfield 10, 3) := by decide +kernel
theorem dX9_notice_84 : decode cX9_notice 84 = .ok (.getfield 131, 3) := by decide +kernel
theorem dX9_notice_87 : decode cX9_notice 87 = .ok (.iload 7, 2) := by decide +kernel
theorem dX9_notice_89 : decode cX9_notice 89 = .ok (.iload_n 2, 1) := by decide +kernel
theorem dX9_notice_90 : decode cX9_notice 90 = .ok (.iconst (-1), 1) := by decide +kernel
theorem dX9_notice_91 : decode cX9_notice 91 = .ok (.iconst (-1), 1) := by decide +kernel
theorem dX9_notice_92 : decode cX9_notice 92 = .ok (.invokevirtual 144, 3) := by decide +kernel
theorem dX9_notice_95 : decode cX9_notice 95 = .ok (.iload 7, 2) := by decide +kernel
theorem dX9_notice_97 : decode cX9_notice 97 = .ok (.ireturn, 1) := by decide +kernel
theorem dX9_gone_0 : decode cX9_gone 0 = .ok (.aload_n 0, 1) := by decide +kernel
theorem dX9_gone_1 : decode cX9_gone 1 = .ok (.getfield 10, 3) := by decide +kernel
theorem dX9_gone_4 : decode cX9_gone 4 = .ok (.getfield 131, 3) := by decide +kernel
theorem dX9_gone_7 : decode cX9_gone 7 = .ok (.astore_n 3, 1) := by decide +kernel
theorem dX9_gone_8 : decode cX9_gone 8 = .ok (.aload_n 3, 1) := by decide +kernel
theorem dX9_gone_9 : decode cX9_gone 9 = .ok (.iload_n 1, 1) := by decide +kernel
theorem dX9_gone_10 : decode cX9_gone 10 = .ok (.invokevirtual 148, 3) := by decide +kernel
theorem dX9_gone_13 : decode cX9_gone 13 = .ok (.ifCond .eq 23, 3) := by decide +kernel
theorem dX9_gone_16 : decode cX9_gone 16 = .ok (.iload_n 2, 1) := by decide +kernel
theorem dX9_gone_17 : decode cX9_gone 17 = .ok (.iconst 0, 1) := by decide +kernel
theorem dX9_gone_18 : decode cX9_gone 18 = .ok (.bipush 100, 2) := by decide +kernel
theorem dX9_gone_20 : decode cX9_gone 20 = .ok (.invokestatic 89, 3) := by decide +kernel
theorem dX9_gone_23 : decode cX9_gone 23 = .ok (.ifCond .eq 13, 3) := by decide +kernel
theorem dX9_gone_26 : decode cX9_gone 26 = .ok (.aload_n 3, 1) := by decide +kernel
theorem dX9_gone_27 : decode cX9_gone 27 = .ok (.getfield 149, 3) := by decide +kernel
theorem dX9_gone_30 : decode cX9_gone 30 = .ok (.iload_n 1, 1) := by decide +kernel
theorem dX9_gone_31 : decode cX9_gone 31 = .ok (.iaload, 1) := by decide +kernel
theorem dX9_gone_32 : decode cX9_gone 32 = .ok (.iload_n 2, 1) := by decide +kernel
theorem dX9_gone_33 : decode cX9_gone 33 = .ok (.if_icmp .ne 5, 3) := by decide +kernel
theorem dX9_gone_36 : decode cX9_gone 36 = .ok (.iconst 0, 1) := by decide +kernel
theorem dX9_gone_37 : decode cX9_gone 37 = .ok (.ireturn, 1) := by decide +kernel
theorem dX9_gone_38 : decode cX9_gone 38 = .ok (.aload_n 0, 1) := by decide +kernel
theorem dX9_gone_39 : decode cX9_gone 39 = .ok (.getfield 22, 3) := by decide +kernel
theorem dX9_gone_42 : decode cX9_gone 42 = .ok (.bipush 6, 2) := by decide +kernel
theorem dX9_gone_44 : decode cX9_gone 44 = .ok (.iload_n 1, 1) := by decide +kernel
theorem dX9_gone_45 : decode cX9_gone 45 = .ok (.aload_n 3, 1) := by decide +kernel
theorem dX9_gone_46 : decode cX9_gone 46 = .ok (.getfield 149, 3) := by decide +kernel
theorem dX9_gone_49 : decode cX9_gone 49 = .ok (.iload_n 1, 1) := by decide +kernel
theorem dX9_gone_50 : decode cX9_gone 50 = .ok (.iaload, 1) := by decide +kernel
theorem dX9_gone_51 : decode cX9_gone 51 = .ok (.invokevirtual 83, 3) := by decide +kernel
theorem dX9_gone_54 : decode cX9_gone 54 = .ok (.aload_n 3, 1) := by decide +kernel
theorem dX9_gone_55 : decode cX9_gone 55 = .ok (.getfield 149, 3) := by decide +kernel
theorem dX9_gone_58 : decode cX9_gone 58 = .ok (.iload_n 1, 1) := by decide +kernel
theorem dX9_gone_59 : decode cX9_gone 59 = .ok (.iload_n 2, 1) := by decide +kernel
theorem dX9_gone_60 : decode cX9_gone 60 = .ok (.iastore, 1) := by decide +kernel
theorem dX9_gone_61 : decode cX9_gone 61 = .ok (.iconst 1, 1) := by decide +kernel
theorem dX9_gone_62 : decode cX9_gone 62 = .ok (.ireturn, 1) := by decide +kernel
theorem dX9_count_0 : decode cX9_count 0 = .ok (.iload_n 1, 1) := by decide +kernel
theorem dX9_count_1 : decode cX9_count 1 = .ok (.tableswitch 69 0 3 #[31, 42, 53, 61], 31) := by decide +kernel
theorem dX9_count_32 : decode cX9_count 32 = .ok (.aload_n 0, 1) := by decide +kernel
theorem dX9_count_33 : decode cX9_count 33 = .ok (.getfield 10, 3) := by decide +kernel
theorem dX9_count_36 : decode cX9_count 36 = .ok (.getfield 69, 3) := by decide +kernel
theorem dX9_count_39 : decode cX9_count 39 = .ok (.getfield 73, 3) := by decide +kernel
theorem dX9_count_42 : decode cX9_count 42 = .ok (.ireturn, 1) := by decide +kernel
theorem dX9_count_43 : decode cX9_count 43 = .ok (.aload_n 0, 1) := by decide +kernel
theorem dX9_count_44 : decode cX9_count 44 = .ok (.getfield 10, 3) := by decide +kernel
theorem dX9_count_47 : decode cX9_count 47 = .ok (.getfield 131, 3) := by decide +kernel
theorem dX9_count_50 : decode cX9_count 50 = .ok (.getfield 152, 3) := by decide +kernel
theorem dX9_count_53 : decode cX9_count 53 = .ok (.ireturn, 1) := by decide +kernel
theorem dX9_count_54 : decode cX9_count 54 = .ok (.aload_n 0, 1) := by decide +kernel
theorem dX9_count_55 : decode cX9_count 55 = .ok (.getfield 10, 3) := by decide +kernel
theorem dX9_count_58 : decode cX9_count 58 = .ok (.invokevirtual 153, 3) := by decide +kernel
theorem dX9_count_61 : decode cX9_count 61 = .ok (.ireturn, 1) := by decide +kernel
theorem dX9_count_62 : decode cX9_count 62 = .ok (.aload_n 0, 1) := by decide +kernel
theorem dX9_count_63 : decode cX9_count 63 = .ok (.getfield 22, 3) := by decide +kernel
theorem dX9_count_66 : decode cX9_count 66 = .ok (.getfield 157, 3) := by decide +kernel
theorem dX9_count_69 : decode cX9_count 69 = .ok (.ireturn, 1) := by decide +kernel
theorem dX9_count_70 : decode cX9_count 70 = .ok (.iconst (-1), 1) := by decide +kernel
theorem dX9_count_71 : decode cX9_count 71 = .ok (.ireturn, 1) := by decide +kernel
theorem dX9_sounding_0 : decode cX9_sounding 0 = .ok (.aload_n 0, 1) := by decide +kernel
theorem dX9_sounding_1 : decode cX9_sounding 1 = .ok (.getfield 10, 3) := by decide +kernel
theorem dX9_sounding_4 : decode cX9_sounding 4 = .ok (.getfield 131, 3) := by decide +kernel
theorem dX9_sounding_7 : decode cX9_sounding 7 = .ok (.astore_n 3, 1) := by decide +kernel
theorem dX9_sounding_8 : decode cX9_sounding 8 = .ok (.aload_n 3, 1) := by decide +kernel
theorem dX9_sounding_9 : decode cX9_sounding 9 = .ok (.iload_n 1, 1) := by decide +kernel
theorem dX9_sounding_10 : decode cX9_sounding 10 = .ok (.invokevirtual 148, 3) := by decide +kernel
theorem dX9_sounding_13 : decode cX9_sounding 13 = .ok (.ifCond .ne 5, 3) := by decide +kernel
theorem dX9_sounding_16 : decode cX9_sounding 16 = .ok (.iconst (-1), 1) := by decide +kernel
theorem dX9_sounding_17 : decode cX9_sounding 17 = .ok (.ireturn, 1) := by decide +kernel
theorem dX9_sounding_18 : decode cX9_sounding 18 = .ok (.iload_n 2, 1) := by decide +kernel
theorem dX9_sounding_19 : decode cX9_sounding 19 = .ok (.tableswitch 147 0 10 #[57, 64, 71, 78, 85, 92, 99, 106, 113, 120, 127], 57) := by decide +kernel
theorem dX9_sounding_76 : decode cX9_sounding 76 = .ok (.aload_n 3, 1) := by decide +kernel
theorem dX9_sounding_77 : decode cX9_sounding 77 = .ok (.getfield 158, 3) := by decide +kernel
theorem dX9_sounding_80 : decode cX9_sounding 80 = .ok (.iload_n 1, 1) := by decide +kernel
theorem dX9_sounding_81 : decode cX9_sounding 81 = .ok (.iaload, 1) := by decide +kernel
theorem dX9_sounding_82 : decode cX9_sounding 82 = .ok (.ireturn, 1) := by decide +kernel
theorem dX9_sounding_83 : decode cX9_sounding 83 = .ok (.aload_n 3, 1) := by decide +kernel
theorem dX9_sounding_84 : decode cX9_sounding 84 = .ok (.getfield 161, 3) := by decide +kernel
theorem dX9_sounding_87 : decode cX9_sounding 87 = .ok (.iload_n 1, 1) := by decide +kernel
theorem dX9_sounding_88 : decode cX9_sounding 88 = .ok (.iaload, 1) := by decide +kernel
theorem dX9_sounding_89 : decode cX9_sounding 89 = .ok (.ireturn, 1) := by decide +kernel
theorem dX9_sounding_90 : decode cX9_sounding 90 = .ok (.aload_n 3, 1) := by decide +kernel
theorem dX9_sounding_91 : decode cX9_sounding 91 = .ok (.getfield 164, 3) := by decide +kernel
theorem dX9_sounding_94 : decode cX9_sounding 94 = .ok (.iload_n 1, 1) := by decide +kernel
theorem dX9_sounding_95 : decode cX9_sounding 95 = .ok (.iaload, 1) := by decide +kernel
theorem dX9_sounding_96 : decode cX9_sounding 96 = .ok (.ireturn, 1) := by decide +kernel
theorem dX9_sounding_97 : decode cX9_sounding 97 = .ok (.aload_n 3, 1) := by decide +kernel
theorem dX9_sounding_98 : decode cX9_sounding 98 = .ok (.getfield 167, 3) := by decide +kernel
theorem dX9_sounding_101 : decode cX9_sounding 101 = .ok (.iload_n 1, 1) := by decide +kernel
theorem dX9_sounding_102 : decode cX9_sounding 102 = .ok (.iaload, 1) := by decide +kernel
theorem dX9_sounding_103 : decode cX9_sounding 103 = .ok (.ireturn, 1) := by decide +kernel
theorem dX9_sounding_104 : decode cX9_sounding 104 = .ok (.aload_n 3, 1) := by decide +kernel
theorem dX9_sounding_105 : decode cX9_sounding 105 = .ok (.getfield 170, 3) := by decide +kernel
theorem dX9_sounding_108 : decode cX9_sounding 108 = .ok (.iload_n 1, 1) := by decide +kernel
theorem dX9_sounding_109 : decode cX9_sounding 109 = .ok (.iaload, 1) := by decide +kernel
theorem dX9_sounding_110 : decode cX9_sounding 110 = .ok (.ireturn, 1) := by decide +kernel
theorem dX9_sounding_111 : decode cX9_sounding 111 = .ok (.aload_n 3, 1) := by decide +kernel
theorem dX9_sounding_112 : decode cX9_sounding 112 = .ok (.getfield 173, 3) := by decide +kernel
theorem dX9_sounding_115 : decode cX9_sounding 115 = .ok (.iload_n 1, 1) := by decide +kernel
theorem dX9_sounding_116 : decode cX9_sounding 116 = .ok (.iaload, 1) := by decide +kernel
theorem dX9_sounding_117 : decode cX9_sounding 117 = .ok (.ireturn, 1) := by decide +kernel
theorem dX9_sounding_118 : decode cX9_sounding 118 = .ok (.aload_n 3, 1) := by decide +kernel
theorem dX9_sounding_119 : decode cX9_sounding 119 = .ok (.getfield 175, 3) := by decide +kernel
theorem dX9_sounding_122 : decode cX9_sounding 122 = .ok (.iload_n 1, 1) := by decide +kernel
theorem dX9_sounding_123 : decode cX9_sounding 123 = .ok (.iaload, 1) := by decide +kernel
theorem dX9_sounding_124 : decode cX9_sounding 124 = .ok (.ireturn, 1) := by decide +kernel
theorem dX9_sounding_125 : decode cX9_sounding 125 = .ok (.aload_n 3, 1) := by decide +kernel
theorem dX9_sounding_126 : decode cX9_sounding 126 = .ok (.getfield 149, 3) := by decide +kernel
theorem dX9_sounding_129 : decode cX9_sounding 129 = .ok (.iload_n 1, 1) := by decide +kernel
theorem dX9_sounding_130 : decode cX9_sounding 130 = .ok (.iaload, 1) := by decide +kernel
theorem dX9_sounding_131 : decode cX9_sounding 131 = .ok (.ireturn, 1) := by decide +kernel
theorem dX9_sounding_132 : decode cX9_sounding 132 = .ok (.aload_n 3, 1) := by decide +kernel
theorem dX9_sounding_133 : decode cX9_sounding 133 = .ok (.getfield 178, 3) := by decide +kernel
theorem dX9_sounding_136 : decode cX9_sounding 136 = .ok (.iload_n 1, 1) := by decide +kernel
theorem dX9_sounding_137 : decode cX9_sounding 137 = .ok (.iaload, 1) := by decide +kernel
theorem dX9_sounding_138 : decode cX9_sounding 138 = .ok (.ireturn, 1) := by decide +kernel
theorem dX9_sounding_139 : decode cX9_sounding 139 = .ok (.aload_n 3, 1) := by decide +kernel
theorem dX9_sounding_140 : decode cX9_sounding 140 = .ok (.getfield 181, 3) := by decide +kernel
theorem dX9_sounding_143 : decode cX9_sounding 143 = .ok (.iload_n 1, 1) := by decide +kernel
theorem dX9_sounding_144 : decode cX9_sounding 144 = .ok (.iaload, 1) := by decide +kernel
theorem dX9_sounding_145 : decode cX9_sounding 145 = .ok (.ireturn, 1) := by decide +kernel
theorem dX9_sounding_146 : decode cX9_sounding 146 = .ok (.aload_n 0, 1) := by decide +kernel
theorem dX9_sounding_147 : decode cX9_sounding 147 = .ok (.getfield 10, 3) := by decide +kernel
theorem dX9_sounding_150 : decode cX9_sounding 150 = .ok (.iload_n 1, 1) := by decide +kernel
theorem dX9_sounding_151 : decode cX9_sounding 151 = .ok (.invokevirtual 182, 3) := by decide +kernel
theorem dX9_sounding_154 : decode cX9_sounding 154 = .ok (.sipush (-30000), 3) := by decide +kernel
theorem dX9_sounding_157 : decode cX9_sounding 157 = .ok (.if_icmp .ne 7, 3) := by decide +kernel
theorem dX9_sounding_160 : decode cX9_sounding 160 = .ok (.iconst 1, 1) := by decide +kernel
theorem dX9_sounding_161 : decode cX9_sounding 161 = .ok (.goto 4, 3) := by decide +kernel
theorem dX9_sounding_164 : decode cX9_sounding 164 = .ok (.iconst 0, 1) := by decide +kernel
theorem dX9_sounding_165 : decode cX9_sounding 165 = .ok (.ireturn, 1) := by decide +kernel
theorem dX9_sounding_166 : decode cX9_sounding 166 = .ok (.iconst (-1), 1) := by decide +kernel
theorem dX9_sounding_167 : decode cX9_sounding 167 = .ok (.ireturn, 1) := by decide +kernel
theorem dX9_depth_0 : decode cX9_depth 0 = .ok (.aload_n 0, 1) := by decide +kernel
theorem dX9_depth_1 : decode cX9_depth 1 = .ok (.getfield 10, 3) := by decide +kernel
theorem dX9_depth_4 : decode cX9_depth 4 = .ok (.getfield 131, 3) := by decide +kernel
theorem dX9_depth_7 : decode cX9_depth 7 = .ok (.iload_n 1, 1) := by decide +kernel
theorem dX9_depth_8 : decode cX9_depth 8 = .ok (.invokevirtual 148, 3) := by decide +kernel
theorem dX9_depth_11 : decode cX9_depth 11 = .ok (.ifCond .eq 14, 3) := by decide +kernel
theorem dX9_depth_14 : decode cX9_depth 14 = .ok (.aload_n 0, 1) := by decide +kernel
theorem dX9_depth_15 : decode cX9_depth 15 = .ok (.getfield 10, 3) := by decide +kernel
theorem dX9_depth_18 : decode cX9_depth 18 = .ok (.iload_n 1, 1) := by decide +kernel
theorem dX9_depth_19 : decode cX9_depth 19 = .ok (.invokevirtual 182, 3) := by decide +kernel
theorem dX9_depth_22 : decode cX9_depth 22 = .ok (.goto 6, 3) := by decide +kernel
theorem dX9_depth_25 : decode cX9_depth 25 = .ok (.sipush (-30000), 3) := by decide +kernel
theorem dX9_depth_28 : decode cX9_depth 28 = .ok (.ireturn, 1) := by decide +kernel
theorem dX9_boat_0 : decode cX9_boat 0 = .ok (.aload_n 0, 1) := by decide +kernel
theorem dX9_boat_1 : decode cX9_boat 1 = .ok (.getfield 10, 3) := by decide +kernel
theorem dX9_boat_4 : decode cX9_boat 4 = .ok (.getfield 69, 3) := by decide +kernel
theorem dX9_boat_7 : decode cX9_boat 7 = .ok (.astore_n 3, 1) := by decide +kernel
theorem dX9_boat_8 : decode cX9_boat 8 = .ok (.aload_n 3, 1) := by decide +kernel
theorem dX9_boat_9 : decode cX9_boat 9 = .ok (.iload_n 1, 1) := by decide +kernel
theorem dX9_boat_10 : decode cX9_boat 10 = .ok (.invokevirtual 110, 3) := by decide +kernel
theorem dX9_boat_13 : decode cX9_boat 13 = .ok (.ifCond .ne 5, 3) := by decide +kernel
theorem dX9_boat_16 : decode cX9_boat 16 = .ok (.iconst (-1), 1) := by decide +kernel
theorem dX9_boat_17 : decode cX9_boat 17 = .ok (.ireturn, 1) := by decide +kernel
theorem dX9_boat_18 : decode cX9_boat 18 = .ok (.iload_n 2, 1) := by decide +kernel
theorem dX9_boat_19 : decode cX9_boat 19 = .ok (.tableswitch 62 0 3 #[29, 36, 43, 50], 29) := by decide +kernel
theorem dX9_boat_48 : decode cX9_boat 48 = .ok (.aload_n 3, 1) := by decide +kernel
theorem dX9_boat_49 : decode cX9_boat 49 = .ok (.getfield 185, 3) := by decide +kernel
theorem dX9_boat_52 : decode cX9_boat 52 = .ok (.iload_n 1, 1) := by decide +kernel
theorem dX9_boat_53 : decode cX9_boat 53 = .ok (.iaload, 1) := by decide +kernel
theorem dX9_boat_54 : decode cX9_boat 54 = .ok (.ireturn, 1) := by decide +kernel
theorem dX9_boat_55 : decode cX9_boat 55 = .ok (.aload_n 3, 1) := by decide +kernel
theorem dX9_boat_56 : decode cX9_boat 56 = .ok (.getfield 113, 3) := by decide +kernel
theorem dX9_boat_59 : decode cX9_boat 59 = .ok (.iload_n 1, 1) := by decide +kernel
theorem dX9_boat_60 : decode cX9_boat 60 = .ok (.iaload, 1) := by decide +kernel
theorem dX9_boat_61 : decode cX9_boat 61 = .ok (.ireturn, 1) := by decide +kernel
theorem dX9_boat_62 : decode cX9_boat 62 = .ok (.aload_n 3, 1) := by decide +kernel
theorem dX9_boat_63 : decode cX9_boat 63 = .ok (.getfield 116, 3) := by decide +kernel
theorem dX9_boat_66 : decode cX9_boat 66 = .ok (.iload_n 1, 1) := by decide +kernel
theorem dX9_boat_67 : decode cX9_boat 67 = .ok (.iaload, 1) := by decide +kernel
theorem dX9_boat_68 : decode cX9_boat 68 = .ok (.ireturn, 1) := by decide +kernel
theorem dX9_boat_69 : decode cX9_boat 69 = .ok (.aload_n 0, 1) := by decide +kernel
theorem dX9_boat_70 : decode cX9_boat 70 = .ok (.getfield 10, 3) := by decide +kernel
theorem dX9_boat_73 : decode cX9_boat 73 = .ok (.getfield 131, 3) := by decide +kernel
theorem dX9_boat_76 : decode cX9_boat 76 = .ok (.iload_n 1, 1) := by decide +kernel
theorem dX9_boat_77 : decode cX9_boat 77 = .ok (.invokevirtual 186, 3) := by decide +kernel
theorem dX9_boat_80 : decode cX9_boat 80 = .ok (.ireturn, 1) := by decide +kernel
theorem dX9_boat_81 : decode cX9_boat 81 = .ok (.iconst (-1), 1) := by decide +kernel
theorem dX9_boat_82 : decode cX9_boat 82 = .ok (.ireturn, 1) := by decide +kernel
theorem dX9_water_0 : decode cX9_water 0 = .ok (.iload_n 1, 1) := by decide +kernel
theorem dX9_water_1 : decode cX9_water 1 = .ok (.invokestatic 62, 3) := by decide +kernel
theorem dX9_water_4 : decode cX9_water 4 = .ok (.ifCond .eq 21, 3) := by decide +kernel
theorem dX9_water_7 : decode cX9_water 7 = .ok (.iload_n 2, 1) := by decide +kernel
theorem dX9_water_8 : decode cX9_water 8 = .ok (.invokestatic 86, 3) := by decide +kernel
theorem dX9_water_11 : decode cX9_water 11 = .ok (.ifCond .eq 14, 3) := by decide +kernel
theorem dX9_water_14 : decode cX9_water 14 = .ok (.iload_n 3, 1) := by decide +kernel
theorem dX9_water_15 : decode cX9_water 15 = .ok (.iconst 1, 1) := by decide +kernel
theorem dX9_water_16 : decode cX9_water 16 = .ok (.sipush 1439, 3) := by decide +kernel
theorem dX9_water_19 : decode cX9_water 19 = .ok (.invokestatic 89, 3) := by decide +kernel
theorem dX9_water_22 : decode cX9_water 22 = .ok (.ifCond .ne 7, 3) := by decide +kernel
theorem dX9_water_25 : decode cX9_water 25 = .ok (.sipush (-30000), 3) := by decide +kernel
theorem dX9_water_28 : decode cX9_water 28 = .ok (.ireturn, 1) := by decide +kernel
theorem dX9_water_29 : decode cX9_water 29 = .ok (.aload_n 0, 1) := by decide +kernel
theorem dX9_water_30 : decode cX9_water 30 = .ok (.getfield 10, 3) := by decide +kernel
theorem dX9_water_33 : decode cX9_water 33 = .ok (.getfield 93, 3) := by decide +kernel
theorem dX9_water_36 : decode cX9_water 36 = .ok (.astore 4, 2) := by decide +kernel
theorem dX9_water_38 : decode cX9_water 38 = .ok (.aload 4, 2) := by decide +kernel
theorem dX9_water_40 : decode cX9_water 40 = .ok (.iload_n 1, 1) := by decide +kernel
theorem dX9_water_41 : decode cX9_water 41 = .ok (.iload_n 2, 1) := by decide +kernel
theorem dX9_water_42 : decode cX9_water 42 = .ok (.invokevirtual 189, 3) := by decide +kernel
theorem dX9_water_45 : decode cX9_water 45 = .ok (.ifCond .ne 7, 3) := by decide +kernel
theorem dX9_water_48 : decode cX9_water 48 = .ok (.sipush (-30000), 3) := by decide +kernel
theorem dX9_water_51 : decode cX9_water 51 = .ok (.ireturn, 1) := by decide +kernel
theorem dX9_water_52 : decode cX9_water 52 = .ok (.aload 4, 2) := by decide +kernel
theorem dX9_water_54 : decode cX9_water 54 = .ok (.getfield 192, 3) := by decide +kernel
theorem dX9_water_57 : decode cX9_water 57 = .ok (.iload_n 3, 1) := by decide +kernel
theorem dX9_water_58 : decode cX9_water 58 = .ok (.i2l, 1) := by decide +kernel
theorem dX9_water_59 : decode cX9_water 59 = .ok (.lmul, 1) := by decide +kernel
theorem dX9_water_60 : decode cX9_water 60 = .ok (.aload 4, 2) := by decide +kernel
theorem dX9_water_62 : decode cX9_water 62 = .ok (.getfield 196, 3) := by decide +kernel
theorem dX9_water_65 : decode cX9_water 65 = .ok (.invokestatic 199, 3) := by decide +kernel
theorem dX9_water_68 : decode cX9_water 68 = .ok (.l2i, 1) := by decide +kernel
theorem dX9_water_69 : decode cX9_water 69 = .ok (.ireturn, 1) := by decide +kernel
theorem dX9_cross_0 : decode cX9_cross 0 = .ok (.iload 4, 2) := by decide +kernel
theorem dX9_cross_2 : decode cX9_cross 2 = .ok (.iconst 3, 1) := by decide +kernel
theorem dX9_cross_3 : decode cX9_cross 3 = .ok (.if_icmp .ne 9, 3) := by decide +kernel
theorem dX9_cross_6 : decode cX9_cross 6 = .ok (.sipush (-30000), 3) := by decide +kernel
theorem dX9_cross_9 : decode cX9_cross 9 = .ok (.goto 4, 3) := by decide +kernel
theorem dX9_cross_12 : decode cX9_cross 12 = .ok (.iconst (-1), 1) := by decide +kernel
theorem dX9_cross_13 : decode cX9_cross 13 = .ok (.istore 5, 2) := by decide +kernel
theorem dX9_cross_15 : decode cX9_cross 15 = .ok (.aload_n 0, 1) := by decide +kernel
theorem dX9_cross_16 : decode cX9_cross 16 = .ok (.getfield 10, 3) := by decide +kernel
theorem dX9_cross_19 : decode cX9_cross 19 = .ok (.getfield 69, 3) := by decide +kernel
theorem dX9_cross_22 : decode cX9_cross 22 = .ok (.iload_n 1, 1) := by decide +kernel
theorem dX9_cross_23 : decode cX9_cross 23 = .ok (.invokevirtual 110, 3) := by decide +kernel
theorem dX9_cross_26 : decode cX9_cross 26 = .ok (.ifCond .eq 29, 3) := by decide +kernel
theorem dX9_cross_29 : decode cX9_cross 29 = .ok (.aload_n 0, 1) := by decide +kernel
theorem dX9_cross_30 : decode cX9_cross 30 = .ok (.getfield 10, 3) := by decide +kernel
theorem dX9_cross_33 : decode cX9_cross 33 = .ok (.getfield 69, 3) := by decide +kernel
theorem dX9_cross_36 : decode cX9_cross 36 = .ok (.iload_n 2, 1) := by decide +kernel
theorem dX9_cross_37 : decode cX9_cross 37 = .ok (.invokevirtual 110, 3) := by decide +kernel
theorem dX9_cross_40 : decode cX9_cross 40 = .ok (.ifCond .eq 15, 3) := by decide +kernel
theorem dX9_cross_43 : decode cX9_cross 43 = .ok (.iload_n 1, 1) := by decide +kernel
theorem dX9_cross_44 : decode cX9_cross 44 = .ok (.iload_n 2, 1) := by decide +kernel
theorem dX9_cross_45 : decode cX9_cross 45 = .ok (.if_icmp .ge 10, 3) := by decide +kernel
theorem dX9_cross_48 : decode cX9_cross 48 = .ok (.iload_n 3, 1) := by decide +kernel
theorem dX9_cross_49 : decode cX9_cross 49 = .ok (.invokestatic 203, 3) := by decide +kernel
theorem dX9_cross_52 : decode cX9_cross 52 = .ok (.ifCond .ne 6, 3) := by decide +kernel
theorem dX9_cross_55 : decode cX9_cross 55 = .ok (.iload 5, 2) := by decide +kernel
theorem dX9_cross_57 : decode cX9_cross 57 = .ok (.ireturn, 1) := by decide +kernel
theorem dX9_cross_58 : decode cX9_cross 58 = .ok (.aload_n 0, 1) := by decide +kernel
theorem dX9_cross_59 : decode cX9_cross 59 = .ok (.getfield 31, 3) := by decide +kernel
theorem dX9_cross_62 : decode cX9_cross 62 = .ok (.invokevirtual 206, 3) := by decide +kernel
theorem dX9_cross_65 : decode cX9_cross 65 = .ok (.aload_n 0, 1) := by decide +kernel
theorem dX9_cross_66 : decode cX9_cross 66 = .ok (.getfield 31, 3) := by decide +kernel
theorem dX9_cross_69 : decode cX9_cross 69 = .ok (.iload_n 1, 1) := by decide +kernel
theorem dX9_cross_70 : decode cX9_cross 70 = .ok (.iload_n 2, 1) := by decide +kernel
theorem dX9_cross_71 : decode cX9_cross 71 = .ok (.iload_n 3, 1) := by decide +kernel
theorem dX9_cross_72 : decode cX9_cross 72 = .ok (.invokevirtual 209, 3) := by decide +kernel
theorem dX9_cross_75 : decode cX9_cross 75 = .ok (.ifCond .ne 6, 3) := by decide +kernel
theorem dX9_cross_78 : decode cX9_cross 78 = .ok (.iload 5, 2) := by decide +kernel
theorem dX9_cross_80 : decode cX9_cross 80 = .ok (.ireturn, 1) := by decide +kernel
theorem dX9_cross_81 : decode cX9_cross 81 = .ok (.iload 4, 2) := by decide +kernel
theorem dX9_cross_83 : decode cX9_cross 83 = .ok (.tableswitch 61 0 3 #[29, 37, 45, 53], 29) := by decide +kernel
theorem dX9_cross_112 : decode cX9_cross 112 = .ok (.aload_n 0, 1) := by decide +kernel
theorem dX9_cross_113 : decode cX9_cross 113 = .ok (.getfield 31, 3) := by decide +kernel
theorem dX9_cross_116 : decode cX9_cross 116 = .ok (.getfield 212, 3) := by decide +kernel
theorem dX9_cross_119 : decode cX9_cross 119 = .ok (.ireturn, 1) := by decide +kernel
theorem dX9_cross_120 : decode cX9_cross 120 = .ok (.aload_n 0, 1) := by decide +kernel
theorem dX9_cross_121 : decode cX9_cross 121 = .ok (.getfield 31, 3) := by decide +kernel
theorem dX9_cross_124 : decode cX9_cross 124 = .ok (.getfield 215, 3) := by decide +kernel
theorem dX9_cross_127 : decode cX9_cross 127 = .ok (.ireturn, 1) := by decide +kernel
theorem dX9_cross_128 : decode cX9_cross 128 = .ok (.aload_n 0, 1) := by decide +kernel
theorem dX9_cross_129 : decode cX9_cross 129 = .ok (.getfield 31, 3) := by decide +kernel
theorem dX9_cross_132 : decode cX9_cross 132 = .ok (.getfield 218, 3) := by decide +kernel
theorem dX9_cross_135 : decode cX9_cross 135 = .ok (.ireturn, 1) := by decide +kernel
theorem dX9_cross_136 : decode cX9_cross 136 = .ok (.aload_n 0, 1) := by decide +kernel
theorem dX9_cross_137 : decode cX9_cross 137 = .ok (.getfield 31, 3) := by decide +kernel
theorem dX9_cross_140 : decode cX9_cross 140 = .ok (.invokevirtual 221, 3) := by decide +kernel
theorem dX9_cross_143 : decode cX9_cross 143 = .ok (.ireturn, 1) := by decide +kernel
theorem dX9_cross_144 : decode cX9_cross 144 = .ok (.iconst (-1), 1) := by decide +kernel
theorem dX9_cross_145 : decode cX9_cross 145 = .ok (.ireturn, 1) := by decide +kernel
theorem dX9_worst_0 : decode cX9_worst 0 = .ok (.iload_n 1, 1) := by decide +kernel
theorem dX9_worst_1 : decode cX9_worst 1 = .ok (.invokestatic 203, 3) := by decide +kernel
theorem dX9_worst_4 : decode cX9_worst 4 = .ok (.ifCond .ne 5, 3) := by decide +kernel
theorem dX9_worst_7 : decode cX9_worst 7 = .ok (.iconst (-1), 1) := by decide +kernel
theorem dX9_worst_8 : decode cX9_worst 8 = .ok (.ireturn, 1) := by decide +kernel
theorem dX9_worst_9 : decode cX9_worst 9 = .ok (.aload_n 0, 1) := by decide +kernel
theorem dX9_worst_10 : decode cX9_worst 10 = .ok (.getfield 31, 3) := by decide +kernel
theorem dX9_worst_13 : decode cX9_worst 13 = .ok (.invokevirtual 206, 3) := by decide +kernel
theorem dX9_worst_16 : decode cX9_worst 16 = .ok (.aload_n 0, 1) := by decide +kernel
theorem dX9_worst_17 : decode cX9_worst 17 = .ok (.getfield 31, 3) := by decide +kernel
theorem dX9_worst_20 : decode cX9_worst 20 = .ok (.iload_n 1, 1) := by decide +kernel
theorem dX9_worst_21 : decode cX9_worst 21 = .ok (.invokevirtual 224, 3) := by decide +kernel
theorem dX9_worst_24 : decode cX9_worst 24 = .ok (.aload_n 0, 1) := by decide +kernel
theorem dX9_worst_25 : decode cX9_worst 25 = .ok (.getfield 31, 3) := by decide +kernel
theorem dX9_worst_28 : decode cX9_worst 28 = .ok (.invokevirtual 228, 3) := by decide +kernel
theorem dX9_worst_31 : decode cX9_worst 31 = .ok (.ireturn, 1) := by decide +kernel
theorem dX9_shown_0 : decode cX9_shown 0 = .ok (.iload_n 1, 1) := by decide +kernel
theorem dX9_shown_1 : decode cX9_shown 1 = .ok (.invokestatic 62, 3) := by decide +kernel
theorem dX9_shown_4 : decode cX9_shown 4 = .ok (.ifCond .eq 17, 3) := by decide +kernel
theorem dX9_shown_7 : decode cX9_shown 7 = .ok (.iload_n 2, 1) := by decide +kernel
theorem dX9_shown_8 : decode cX9_shown 8 = .ok (.invokestatic 231, 3) := by decide +kernel
theorem dX9_shown_11 : decode cX9_shown 11 = .ok (.ifCond .eq 10, 3) := by decide +kernel
theorem dX9_shown_14 : decode cX9_shown 14 = .ok (.iload_n 3, 1) := by decide +kernel
theorem dX9_shown_15 : decode cX9_shown 15 = .ok (.invokestatic 234, 3) := by decide +kernel
theorem dX9_shown_18 : decode cX9_shown 18 = .ok (.ifCond .ne 5, 3) := by decide +kernel
theorem dX9_shown_21 : decode cX9_shown 21 = .ok (.iconst (-1), 1) := by decide +kernel
theorem dX9_shown_22 : decode cX9_shown 22 = .ok (.ireturn, 1) := by decide +kernel
theorem dX9_shown_23 : decode cX9_shown 23 = .ok (.aload_n 0, 1) := by decide +kernel
theorem dX9_shown_24 : decode cX9_shown 24 = .ok (.getfield 38, 3) := by decide +kernel
theorem dX9_shown_27 : decode cX9_shown 27 = .ok (.iload_n 1, 1) := by decide +kernel
theorem dX9_shown_28 : decode cX9_shown 28 = .ok (.iload_n 2, 1) := by decide +kernel
theorem dX9_shown_29 : decode cX9_shown 29 = .ok (.iload_n 3, 1) := by decide +kernel
theorem dX9_shown_30 : decode cX9_shown 30 = .ok (.invokevirtual 237, 3) := by decide +kernel
theorem dX9_shown_33 : decode cX9_shown 33 = .ok (.iload 4, 2) := by decide +kernel
theorem dX9_shown_35 : decode cX9_shown 35 = .ok (.ifCond .lt 28, 3) := by decide +kernel
theorem dX9_shown_38 : decode cX9_shown 38 = .ok (.iload 4, 2) := by decide +kernel
theorem dX9_shown_40 : decode cX9_shown 40 = .ok (.aload_n 0, 1) := by decide +kernel
theorem dX9_shown_41 : decode cX9_shown 41 = .ok (.getfield 38, 3) := by decide +kernel
theorem dX9_shown_44 : decode cX9_shown 44 = .ok (.getfield 240, 3) := by decide +kernel
theorem dX9_shown_47 : decode cX9_shown 47 = .ok (.if_icmp .ge 16, 3) := by decide +kernel
theorem dX9_shown_50 : decode cX9_shown 50 = .ok (.aload_n 0, 1) := by decide +kernel
theorem dX9_shown_51 : decode cX9_shown 51 = .ok (.getfield 38, 3) := by decide +kernel
theorem dX9_shown_54 : decode cX9_shown 54 = .ok (.getfield 243, 3) := by decide +kernel
theorem dX9_shown_57 : decode cX9_shown 57 = .ok (.iload 4, 2) := by decide +kernel
theorem dX9_shown_59 : decode cX9_shown 59 = .ok (.iaload, 1) := by decide +kernel
theorem dX9_shown_60 : decode cX9_shown 60 = .ok (.goto 4, 3) := by decide +kernel
theorem dX9_shown_63 : decode cX9_shown 63 = .ok (.iconst (-1), 1) := by decide +kernel
theorem dX9_shown_64 : decode cX9_shown 64 = .ok (.ireturn, 1) := by decide +kernel
theorem dX9_why_0 : decode cX9_why 0 = .ok (.iload_n 1, 1) := by decide +kernel
theorem dX9_why_1 : decode cX9_why 1 = .ok (.invokestatic 62, 3) := by decide +kernel
theorem dX9_why_4 : decode cX9_why 4 = .ok (.ifCond .eq 24, 3) := by decide +kernel
theorem dX9_why_7 : decode cX9_why 7 = .ok (.iload_n 2, 1) := by decide +kernel
theorem dX9_why_8 : decode cX9_why 8 = .ok (.invokestatic 231, 3) := by decide +kernel
theorem dX9_why_11 : decode cX9_why 11 = .ok (.ifCond .eq 17, 3) := by decide +kernel
theorem dX9_why_14 : decode cX9_why 14 = .ok (.aload_n 0, 1) := by decide +kernel
theorem dX9_why_15 : decode cX9_why 15 = .ok (.getfield 10, 3) := by decide +kernel
theorem dX9_why_18 : decode cX9_why 18 = .ok (.getfield 131, 3) := by decide +kernel
theorem dX9_why_21 : decode cX9_why 21 = .ok (.iload_n 3, 1) := by decide +kernel
theorem dX9_why_22 : decode cX9_why 22 = .ok (.invokevirtual 148, 3) := by decide +kernel
theorem dX9_why_25 : decode cX9_why 25 = .ok (.ifCond .ne 5, 3) := by decide +kernel
theorem dX9_why_28 : decode cX9_why 28 = .ok (.iconst (-1), 1) := by decide +kernel
theorem dX9_why_29 : decode cX9_why 29 = .ok (.ireturn, 1) := by decide +kernel
theorem dX9_why_30 : decode cX9_why 30 = .ok (.aload_n 0, 1) := by decide +kernel
theorem dX9_why_31 : decode cX9_why 31 = .ok (.getfield 10, 3) := by decide +kernel
theorem dX9_why_34 : decode cX9_why 34 = .ok (.getfield 131, 3) := by decide +kernel
theorem dX9_why_37 : decode cX9_why 37 = .ok (.getfield 158, 3) := by decide +kernel
theorem dX9_why_40 : decode cX9_why 40 = .ok (.iload_n 3, 1) := by decide +kernel
theorem dX9_why_41 : decode cX9_why 41 = .ok (.iaload, 1) := by decide +kernel
theorem dX9_why_42 : decode cX9_why 42 = .ok (.iconst 2, 1) := by decide +kernel
theorem dX9_why_43 : decode cX9_why 43 = .ok (.if_icmp .ne 5, 3) := by decide +kernel
theorem dX9_why_46 : decode cX9_why 46 = .ok (.iconst 3, 1) := by decide +kernel
theorem dX9_why_47 : decode cX9_why 47 = .ok (.ireturn, 1) := by decide +kernel
theorem dX9_why_48 : decode cX9_why 48 = .ok (.aload_n 0, 1) := by decide +kernel
theorem dX9_why_49 : decode cX9_why 49 = .ok (.getfield 10, 3) := by decide +kernel
theorem dX9_why_52 : decode cX9_why 52 = .ok (.getfield 131, 3) := by decide +kernel
theorem dX9_why_55 : decode cX9_why 55 = .ok (.iload_n 3, 1) := by decide +kernel
theorem dX9_why_56 : decode cX9_why 56 = .ok (.iload_n 1, 1) := by decide +kernel
theorem dX9_why_57 : decode cX9_why 57 = .ok (.invokevirtual 246, 3) := by decide +kernel
theorem dX9_why_60 : decode cX9_why 60 = .ok (.ifCond .ne 5, 3) := by decide +kernel
theorem dX9_why_63 : decode cX9_why 63 = .ok (.iconst 4, 1) := by decide +kernel
theorem dX9_why_64 : decode cX9_why 64 = .ok (.ireturn, 1) := by decide +kernel
theorem dX9_why_65 : decode cX9_why 65 = .ok (.aload_n 0, 1) := by decide +kernel
theorem dX9_why_66 : decode cX9_why 66 = .ok (.getfield 10, 3) := by decide +kernel
theorem dX9_why_69 : decode cX9_why 69 = .ok (.iload_n 3, 1) := by decide +kernel
theorem dX9_why_70 : decode cX9_why 70 = .ok (.invokevirtual 182, 3) := by decide +kernel
theorem dX9_why_73 : decode cX9_why 73 = .ok (.sipush (-30000), 3) := by decide +kernel
theorem dX9_why_76 : decode cX9_why 76 = .ok (.if_icmp .ne 5, 3) := by decide +kernel
theorem dX9_why_79 : decode cX9_why 79 = .ok (.iconst 5, 1) := by decide +kernel
theorem dX9_why_80 : decode cX9_why 80 = .ok (.ireturn, 1) := by decide +kernel
theorem dX9_why_81 : decode cX9_why 81 = .ok (.aload_n 0, 1) := by decide +kernel
theorem dX9_why_82 : decode cX9_why 82 = .ok (.getfield 38, 3) := by decide +kernel
theorem dX9_why_85 : decode cX9_why 85 = .ok (.iload_n 1, 1) := by decide +kernel
theorem dX9_why_86 : decode cX9_why 86 = .ok (.iload_n 2, 1) := by decide +kernel
theorem dX9_why_87 : decode cX9_why 87 = .ok (.aload_n 0, 1) := by decide +kernel
theorem dX9_why_88 : decode cX9_why 88 = .ok (.getfield 10, 3) := by decide +kernel
theorem dX9_why_91 : decode cX9_why 91 = .ok (.getfield 131, 3) := by decide +kernel
theorem dX9_why_94 : decode cX9_why 94 = .ok (.iload_n 3, 1) := by decide +kernel
theorem dX9_why_95 : decode cX9_why 95 = .ok (.invokevirtual 249, 3) := by decide +kernel
theorem dX9_why_98 : decode cX9_why 98 = .ok (.invokevirtual 237, 3) := by decide +kernel
theorem dX9_why_101 : decode cX9_why 101 = .ok (.aload_n 0, 1) := by decide +kernel
theorem dX9_why_102 : decode cX9_why 102 = .ok (.getfield 38, 3) := by decide +kernel
theorem dX9_why_105 : decode cX9_why 105 = .ok (.getfield 252, 3) := by decide +kernel
theorem dX9_why_108 : decode cX9_why 108 = .ok (.iload_n 3, 1) := by decide +kernel
theorem dX9_why_109 : decode cX9_why 109 = .ok (.iaload, 1) := by decide +kernel
theorem dX9_why_110 : decode cX9_why 110 = .ok (.ireturn, 1) := by decide +kernel
theorem dX9_bottom_0 : decode cX9_bottom 0 = .ok (.iload_n 1, 1) := by decide +kernel
theorem dX9_bottom_1 : decode cX9_bottom 1 = .ok (.invokestatic 62, 3) := by decide +kernel
theorem dX9_bottom_4 : decode cX9_bottom 4 = .ok (.ifCond .eq 10, 3) := by decide +kernel
theorem dX9_bottom_7 : decode cX9_bottom 7 = .ok (.iload_n 2, 1) := by decide +kernel
theorem dX9_bottom_8 : decode cX9_bottom 8 = .ok (.invokestatic 234, 3) := by decide +kernel
theorem dX9_bottom_11 : decode cX9_bottom 11 = .ok (.ifCond .ne 7, 3) := by decide +kernel
theorem dX9_bottom_14 : decode cX9_bottom 14 = .ok (.sipush (-30000), 3) := by decide +kernel
theorem dX9_bottom_17 : decode cX9_bottom 17 = .ok (.ireturn, 1) := by decide +kernel
theorem dX9_bottom_18 : decode cX9_bottom 18 = .ok (.aload_n 0, 1) := by decide +kernel
theorem dX9_bottom_19 : decode cX9_bottom 19 = .ok (.getfield 45, 3) := by decide +kernel
theorem dX9_bottom_22 : decode cX9_bottom 22 = .ok (.iload_n 1, 1) := by decide +kernel
theorem dX9_bottom_23 : decode cX9_bottom 23 = .ok (.invokevirtual 255, 3) := by decide +kernel
theorem dX9_bottom_26 : decode cX9_bottom 26 = .ok (.aload_n 0, 1) := by decide +kernel
theorem dX9_bottom_27 : decode cX9_bottom 27 = .ok (.getfield 45, 3) := by decide +kernel
theorem dX9_bottom_30 : decode cX9_bottom 30 = .ok (.getfield 257, 3) := by decide +kernel
theorem dX9_bottom_33 : decode cX9_bottom 33 = .ok (.iload_n 2, 1) := by decide +kernel
theorem dX9_bottom_34 : decode cX9_bottom 34 = .ok (.iaload, 1) := by decide +kernel
theorem dX9_bottom_35 : decode cX9_bottom 35 = .ok (.ireturn, 1) := by decide +kernel
theorem dX9_deepest_0 : decode cX9_deepest 0 = .ok (.aload_n 0, 1) := by decide +kernel
theorem dX9_deepest_1 : decode cX9_deepest 1 = .ok (.iload_n 1, 1) := by decide +kernel
theorem dX9_deepest_2 : decode cX9_deepest 2 = .ok (.iload_n 2, 1) := by decide +kernel
theorem dX9_deepest_3 : decode cX9_deepest 3 = .ok (.iload_n 3, 1) := by decide +kernel
theorem dX9_deepest_4 : decode cX9_deepest 4 = .ok (.invokevirtual 260, 3) := by decide +kernel
theorem dX9_deepest_7 : decode cX9_deepest 7 = .ok (.ifCond .eq 13, 3) := by decide +kernel
theorem dX9_deepest_10 : decode cX9_deepest 10 = .ok (.aload_n 0, 1) := by decide +kernel
theorem dX9_deepest_11 : decode cX9_deepest 11 = .ok (.getfield 54, 3) := by decide +kernel
theorem dX9_deepest_14 : decode cX9_deepest 14 = .ok (.getfield 263, 3) := by decide +kernel
theorem dX9_deepest_17 : decode cX9_deepest 17 = .ok (.goto 6, 3) := by decide +kernel
theorem dX9_deepest_20 : decode cX9_deepest 20 = .ok (.sipush (-30000), 3) := by decide +kernel
theorem dX9_deepest_23 : decode cX9_deepest 23 = .ok (.ireturn, 1) := by decide +kernel
theorem dX9_way_0 : decode cX9_way 0 = .ok (.aload_n 0, 1) := by decide +kernel
theorem dX9_way_1 : decode cX9_way 1 = .ok (.iload_n 1, 1) := by decide +kernel
theorem dX9_way_2 : decode cX9_way 2 = .ok (.iload_n 2, 1) := by decide +kernel
theorem dX9_way_3 : decode cX9_way 3 = .ok (.iload_n 3, 1) := by decide +kernel
theorem dX9_way_4 : decode cX9_way 4 = .ok (.invokevirtual 260, 3) := by decide +kernel
theorem dX9_way_7 : decode cX9_way 7 = .ok (.ifCond .ne 5, 3) := by decide +kernel
theorem dX9_way_10 : decode cX9_way 10 = .ok (.iconst (-1), 1) := by decide +kernel
theorem dX9_way_11 : decode cX9_way 11 = .ok (.ireturn, 1) := by decide +kernel
theorem dX9_way_12 : decode cX9_way 12 = .ok (.iload 4, 2) := by decide +kernel
theorem dX9_way_14 : decode cX9_way 14 = .ok (.ifCond .lt 28, 3) := by decide +kernel
theorem dX9_way_17 : decode cX9_way 17 = .ok (.iload 4, 2) := by decide +kernel
theorem dX9_way_19 : decode cX9_way 19 = .ok (.aload_n 0, 1) := by decide +kernel
theorem dX9_way_20 : decode cX9_way 20 = .ok (.getfield 54, 3) := by decide +kernel
theorem dX9_way_23 : decode cX9_way 23 = .ok (.getfield 266, 3) := by decide +kernel
theorem dX9_way_26 : decode cX9_way 26 = .ok (.if_icmp .ge 16, 3) := by decide +kernel
theorem dX9_way_29 : decode cX9_way 29 = .ok (.aload_n 0, 1) := by decide +kernel
theorem dX9_way_30 : decode cX9_way 30 = .ok (.getfield 54, 3) := by decide +kernel
theorem dX9_way_33 : decode cX9_way 33 = .ok (.getfield 269, 3) := by decide +kernel
theorem dX9_way_36 : decode cX9_way 36 = .ok (.iload 4, 2) := by decide +kernel
theorem dX9_way_38 : decode cX9_way 38 = .ok (.iaload, 1) := by decide +kernel
theorem dX9_way_39 : decode cX9_way 39 = .ok (.goto 4, 3) := by decide +kernel
theorem dX9_way_42 : decode cX9_way 42 = .ok (.iconst (-1), 1) := by decide +kernel
theorem dX9_way_43 : decode cX9_way 43 = .ok (.ireturn, 1) := by decide +kernel
theorem dX9_narrow_0 : decode cX9_narrow 0 = .ok (.aload_n 0, 1) := by decide +kernel
theorem dX9_narrow_1 : decode cX9_narrow 1 = .ok (.iload_n 1, 1) := by decide +kernel
theorem dX9_narrow_2 : decode cX9_narrow 2 = .ok (.iload_n 2, 1) := by decide +kernel
theorem dX9_narrow_3 : decode cX9_narrow 3 = .ok (.iload_n 3, 1) := by decide +kernel
theorem dX9_narrow_4 : decode cX9_narrow 4 = .ok (.invokevirtual 260, 3) := by decide +kernel
theorem dX9_narrow_7 : decode cX9_narrow 7 = .ok (.ifCond .eq 13, 3) := by decide +kernel
theorem dX9_narrow_10 : decode cX9_narrow 10 = .ok (.aload_n 0, 1) := by decide +kernel
theorem dX9_narrow_11 : decode cX9_narrow 11 = .ok (.getfield 54, 3) := by decide +kernel
theorem dX9_narrow_14 : decode cX9_narrow 14 = .ok (.invokevirtual 272, 3) := by decide +kernel
theorem dX9_narrow_17 : decode cX9_narrow 17 = .ok (.goto 4, 3) := by decide +kernel
theorem dX9_narrow_20 : decode cX9_narrow 20 = .ok (.iconst (-1), 1) := by decide +kernel
theorem dX9_narrow_21 : decode cX9_narrow 21 = .ok (.ireturn, 1) := by decide +kernel
theorem dX9_draught_0 : decode cX9_draught 0 = .ok (.iload_n 1, 1) := by decide +kernel
theorem dX9_draught_1 : decode cX9_draught 1 = .ok (.invokestatic 62, 3) := by decide +kernel
theorem dX9_draught_4 : decode cX9_draught 4 = .ok (.ifCond .eq 17, 3) := by decide +kernel
theorem dX9_draught_7 : decode cX9_draught 7 = .ok (.iload_n 2, 1) := by decide +kernel
theorem dX9_draught_8 : decode cX9_draught 8 = .ok (.invokestatic 234, 3) := by decide +kernel
theorem dX9_draught_11 : decode cX9_draught 11 = .ok (.ifCond .eq 10, 3) := by decide +kernel
theorem dX9_draught_14 : decode cX9_draught 14 = .ok (.iload_n 3, 1) := by decide +kernel
theorem dX9_draught_15 : decode cX9_draught 15 = .ok (.invokestatic 234, 3) := by decide +kernel
theorem dX9_draught_18 : decode cX9_draught 18 = .ok (.ifCond .ne 5, 3) := by decide +kernel
theorem dX9_draught_21 : decode cX9_draught 21 = .ok (.iconst 0, 1) := by decide +kernel
theorem dX9_draught_22 : decode cX9_draught 22 = .ok (.ireturn, 1) := by decide +kernel
theorem dX9_draught_23 : decode cX9_draught 23 = .ok (.aload_n 0, 1) := by decide +kernel
theorem dX9_draught_24 : decode cX9_draught 24 = .ok (.getfield 45, 3) := by decide +kernel
theorem dX9_draught_27 : decode cX9_draught 27 = .ok (.iload_n 1, 1) := by decide +kernel
theorem dX9_draught_28 : decode cX9_draught 28 = .ok (.invokevirtual 255, 3) := by decide +kernel
theorem dX9_draught_31 : decode cX9_draught 31 = .ok (.aload_n 0, 1) := by decide +kernel
theorem dX9_draught_32 : decode cX9_draught 32 = .ok (.getfield 54, 3) := by decide +kernel
theorem dX9_draught_35 : decode cX9_draught 35 = .ok (.iload_n 2, 1) := by decide +kernel
theorem dX9_draught_36 : decode cX9_draught 36 = .ok (.iload_n 3, 1) := by decide +kernel
theorem dX9_draught_37 : decode cX9_draught 37 = .ok (.iload 4, 2) := by decide +kernel
theorem dX9_draught_39 : decode cX9_draught 39 = .ok (.invokevirtual 275, 3) := by decide +kernel
theorem dX9_draught_42 : decode cX9_draught 42 = .ok (.ireturn, 1) := by decide +kernel
theorem dX9_check_0 : decode cX9_check 0 = .ok (.iload_n 1, 1) := by decide +kernel
theorem dX9_check_1 : decode cX9_check 1 = .ok (.invokestatic 62, 3) := by decide +kernel
theorem dX9_check_4 : decode cX9_check 4 = .ok (.ifCond .eq 10, 3) := by decide +kernel
theorem dX9_check_7 : decode cX9_check 7 = .ok (.iload_n 2, 1) := by decide +kernel
theorem dX9_check_8 : decode cX9_check 8 = .ok (.invokestatic 234, 3) := by decide +kernel
theorem dX9_check_11 : decode cX9_check 11 = .ok (.ifCond .ne 6, 3) := by decide +kernel
theorem dX9_check_14 : decode cX9_check 14 = .ok (.bipush (-2), 2) := by decide +kernel
theorem dX9_check_16 : decode cX9_check 16 = .ok (.ireturn, 1) := by decide +kernel
theorem dX9_check_17 : decode cX9_check 17 = .ok (.aload_n 0, 1) := by decide +kernel
theorem dX9_check_18 : decode cX9_check 18 = .ok (.getfield 45, 3) := by decide +kernel
theorem dX9_check_21 : decode cX9_check 21 = .ok (.iload_n 1, 1) := by decide +kernel
theorem dX9_check_22 : decode cX9_check 22 = .ok (.invokevirtual 255, 3) := by decide +kernel
theorem dX9_check_25 : decode cX9_check 25 = .ok (.aload_n 0, 1) := by decide +kernel
theorem dX9_check_26 : decode cX9_check 26 = .ok (.getfield 45, 3) := by decide +kernel
theorem dX9_check_29 : decode cX9_check 29 = .ok (.getfield 257, 3) := by decide +kernel
theorem dX9_check_32 : decode cX9_check 32 = .ok (.iload_n 2, 1) := by decide +kernel
theorem dX9_check_33 : decode cX9_check 33 = .ok (.iaload, 1) := by decide +kernel
theorem dX9_check_34 : decode cX9_check 34 = .ok (.istore 4, 2) := by decide +kernel
theorem dX9_check_36 : decode cX9_check 36 = .ok (.iload 4, 2) := by decide +kernel
theorem dX9_check_38 : decode cX9_check 38 = .ok (.sipush (-30000), 3) := by decide +kernel
theorem dX9_check_41 : decode cX9_check 41 = .ok (.if_icmp .ne 5, 3) := by decide +kernel
theorem dX9_check_44 : decode cX9_check 44 = .ok (.iconst 2, 1) := by decide +kernel
theorem dX9_check_45 : decode cX9_check 45 = .ok (.ireturn, 1) := by decide +kernel
theorem dX9_check_46 : decode cX9_check 46 = .ok (.iload 4, 2) := by decide +kernel
theorem dX9_check_48 : decode cX9_check 48 = .ok (.iload_n 3, 1) := by decide +kernel
theorem dX9_check_49 : decode cX9_check 49 = .ok (.if_icmp .ne 5, 3) := by decide +kernel
theorem dX9_check_52 : decode cX9_check 52 = .ok (.iconst (-1), 1) := by decide +kernel
theorem dX9_check_53 : decode cX9_check 53 = .ok (.ireturn, 1) := by decide +kernel
theorem dX9_check_54 : decode cX9_check 54 = .ok (.iload 4, 2) := by decide +kernel
theorem dX9_check_56 : decode cX9_check 56 = .ok (.iload_n 3, 1) := by decide +kernel
theorem dX9_check_57 : decode cX9_check 57 = .ok (.if_icmp .ge 7, 3) := by decide +kernel
theorem dX9_check_60 : decode cX9_check 60 = .ok (.iconst 0, 1) := by decide +kernel
theorem dX9_check_61 : decode cX9_check 61 = .ok (.goto 4, 3) := by decide +kernel
theorem dX9_check_64 : decode cX9_check 64 = .ok (.iconst 1, 1) := by decide +kernel
theorem dX9_check_65 : decode cX9_check 65 = .ok (.ireturn, 1) := by decide +kernel
theorem dX9_undo_0 : decode cX9_undo 0 = .ok (.aload_n 0, 1) := by decide +kernel
theorem dX9_undo_1 : decode cX9_undo 1 = .ok (.getfield 22, 3) := by decide +kernel
theorem dX9_undo_4 : decode cX9_undo 4 = .ok (.invokevirtual 278, 3) := by decide +kernel
theorem dX9_undo_7 : decode cX9_undo 7 = .ok (.ifCond .ne 5, 3) := by decide +kernel
theorem dX9_undo_10 : decode cX9_undo 10 = .ok (.iconst 0, 1) := by decide +kernel
theorem dX9_undo_11 : decode cX9_undo 11 = .ok (.ireturn, 1) := by decide +kernel
theorem dX9_undo_12 : decode cX9_undo 12 = .ok (.aload_n 0, 1) := by decide +kernel
theorem dX9_undo_13 : decode cX9_undo 13 = .ok (.getfield 22, 3) := by decide +kernel
theorem dX9_undo_16 : decode cX9_undo 16 = .ok (.getfield 282, 3) := by decide +kernel
theorem dX9_undo_19 : decode cX9_undo 19 = .ok (.tableswitch 167 0 5 #[37, 50, 70, 98, 126, 154], 37) := by decide +kernel
theorem dX9_undo_56 : decode cX9_undo 56 = .ok (.aload_n 0, 1) := by decide +kernel
theorem dX9_undo_57 : decode cX9_undo 57 = .ok (.getfield 10, 3) := by decide +kernel
theorem dX9_undo_60 : decode cX9_undo 60 = .ok (.getfield 69, 3) := by decide +kernel
theorem dX9_undo_63 : decode cX9_undo 63 = .ok (.invokevirtual 285, 3) := by decide +kernel
theorem dX9_undo_66 : decode cX9_undo 66 = .ok (.goto 145, 3) := by decide +kernel
theorem dX9_undo_69 : decode cX9_undo 69 = .ok (.aload_n 0, 1) := by decide +kernel
theorem dX9_undo_70 : decode cX9_undo 70 = .ok (.getfield 10, 3) := by decide +kernel
theorem dX9_undo_73 : decode cX9_undo 73 = .ok (.getfield 93, 3) := by decide +kernel
theorem dX9_undo_76 : decode cX9_undo 76 = .ok (.aload_n 0, 1) := by decide +kernel
theorem dX9_undo_77 : decode cX9_undo 77 = .ok (.getfield 22, 3) := by decide +kernel
theorem dX9_undo_80 : decode cX9_undo 80 = .ok (.getfield 288, 3) := by decide +kernel
theorem dX9_undo_83 : decode cX9_undo 83 = .ok (.invokevirtual 291, 3) := by decide +kernel
theorem dX9_undo_86 : decode cX9_undo 86 = .ok (.goto 125, 3) := by decide +kernel
theorem dX9_undo_89 : decode cX9_undo 89 = .ok (.aload_n 0, 1) := by decide +kernel
theorem dX9_undo_90 : decode cX9_undo 90 = .ok (.getfield 10, 3) := by decide +kernel
theorem dX9_undo_93 : decode cX9_undo 93 = .ok (.getfield 93, 3) := by decide +kernel
theorem dX9_undo_96 : decode cX9_undo 96 = .ok (.getfield 102, 3) := by decide +kernel
theorem dX9_undo_99 : decode cX9_undo 99 = .ok (.aload_n 0, 1) := by decide +kernel
theorem dX9_undo_100 : decode cX9_undo 100 = .ok (.getfield 22, 3) := by decide +kernel
theorem dX9_undo_103 : decode cX9_undo 103 = .ok (.getfield 288, 3) := by decide +kernel
theorem dX9_undo_106 : decode cX9_undo 106 = .ok (.aload_n 0, 1) := by decide +kernel
theorem dX9_undo_107 : decode cX9_undo 107 = .ok (.getfield 22, 3) := by decide +kernel
theorem dX9_undo_110 : decode cX9_undo 110 = .ok (.getfield 293, 3) := by decide +kernel
theorem dX9_undo_113 : decode cX9_undo 113 = .ok (.iastore, 1) := by decide +kernel
theorem dX9_undo_114 : decode cX9_undo 114 = .ok (.goto 97, 3) := by decide +kernel
theorem dX9_undo_117 : decode cX9_undo 117 = .ok (.aload_n 0, 1) := by decide +kernel
theorem dX9_undo_118 : decode cX9_undo 118 = .ok (.getfield 10, 3) := by decide +kernel
theorem dX9_undo_121 : decode cX9_undo 121 = .ok (.getfield 69, 3) := by decide +kernel
theorem dX9_undo_124 : decode cX9_undo 124 = .ok (.getfield 113, 3) := by decide +kernel
theorem dX9_undo_127 : decode cX9_undo 127 = .ok (.aload_n 0, 1) := by decide +kernel
theorem dX9_undo_128 : decode cX9_undo 128 = .ok (.getfield 22, 3) := by decide +kernel
theorem dX9_undo_131 : decode cX9_undo 131 = .ok (.getfield 288, 3) := by decide +kernel
theorem dX9_undo_134 : decode cX9_undo 134 = .ok (.aload_n 0, 1) := by decide +kernel
theorem dX9_undo_135 : decode cX9_undo 135 = .ok (.getfield 22, 3) := by decide +kernel
theorem dX9_undo_138 : decode cX9_undo 138 = .ok (.getfield 293, 3) := by decide +kernel
theorem dX9_undo_141 : decode cX9_undo 141 = .ok (.iastore, 1) := by decide +kernel
theorem dX9_undo_142 : decode cX9_undo 142 = .ok (.goto 69, 3) := by decide +kernel
theorem dX9_undo_145 : decode cX9_undo 145 = .ok (.aload_n 0, 1) := by decide +kernel
theorem dX9_undo_146 : decode cX9_undo 146 = .ok (.getfield 10, 3) := by decide +kernel
theorem dX9_undo_149 : decode cX9_undo 149 = .ok (.getfield 69, 3) := by decide +kernel
theorem dX9_undo_152 : decode cX9_undo 152 = .ok (.getfield 116, 3) := by decide +kernel
theorem dX9_undo_155 : decode cX9_undo 155 = .ok (.aload_n 0, 1) := by decide +kernel
theorem dX9_undo_156 : decode cX9_undo 156 = .ok (.getfield 22, 3) := by decide +kernel
theorem dX9_undo_159 : decode cX9_undo 159 = .ok (.getfield 288, 3) := by decide +kernel
theorem dX9_undo_162 : decode cX9_undo 162 = .ok (.aload_n 0, 1) := by decide +kernel
theorem dX9_undo_163 : decode cX9_undo 163 = .ok (.getfield 22, 3) := by decide +kernel
theorem dX9_undo_166 : decode cX9_undo 166 = .ok (.getfield 293, 3) := by decide +kernel
theorem dX9_undo_169 : decode cX9_undo 169 = .ok (.iastore, 1) := by decide +kernel
theorem dX9_undo_170 : decode cX9_undo 170 = .ok (.goto 41, 3) := by decide +kernel
theorem dX9_undo_173 : decode cX9_undo 173 = .ok (.aload_n 0, 1) := by decide +kernel
theorem dX9_undo_174 : decode cX9_undo 174 = .ok (.getfield 10, 3) := by decide +kernel
theorem dX9_undo_177 : decode cX9_undo 177 = .ok (.getfield 131, 3) := by decide +kernel
theorem dX9_undo_180 : decode cX9_undo 180 = .ok (.invokevirtual 296, 3) := by decide +kernel
theorem dX9_undo_183 : decode cX9_undo 183 = .ok (.goto 28, 3) := by decide +kernel
theorem dX9_undo_186 : decode cX9_undo 186 = .ok (.aload_n 0, 1) := by decide +kernel
theorem dX9_undo_187 : decode cX9_undo 187 = .ok (.getfield 10, 3) := by decide +kernel
theorem dX9_undo_190 : decode cX9_undo 190 = .ok (.getfield 131, 3) := by decide +kernel
theorem dX9_undo_193 : decode cX9_undo 193 = .ok (.getfield 149, 3) := by decide +kernel
theorem dX9_undo_196 : decode cX9_undo 196 = .ok (.aload_n 0, 1) := by decide +kernel
theorem dX9_undo_197 : decode cX9_undo 197 = .ok (.getfield 22, 3) := by decide +kernel
theorem dX9_undo_200 : decode cX9_undo 200 = .ok (.getfield 288, 3) := by decide +kernel
theorem dX9_undo_203 : decode cX9_undo 203 = .ok (.aload_n 0, 1) := by decide +kernel
theorem dX9_undo_204 : decode cX9_undo 204 = .ok (.getfield 22, 3) := by decide +kernel
theorem dX9_undo_207 : decode cX9_undo 207 = .ok (.getfield 293, 3) := by decide +kernel
theorem dX9_undo_210 : decode cX9_undo 210 = .ok (.iastore, 1) := by decide +kernel
theorem dX9_undo_211 : decode cX9_undo 211 = .ok (.iconst 1, 1) := by decide +kernel
theorem dX9_undo_212 : decode cX9_undo 212 = .ok (.ireturn, 1) := by decide +kernel
theorem dX9_image_0 : decode cX9_image 0 = .ok (.aload_n 0, 1) := by decide +kernel
theorem dX9_image_1 : decode cX9_image 1 = .ok (.getfield 16, 3) := by decide +kernel
theorem dX9_image_4 : decode cX9_image 4 = .ok (.aload_n 0, 1) := by decide +kernel
theorem dX9_image_5 : decode cX9_image 5 = .ok (.getfield 10, 3) := by decide +kernel
theorem dX9_image_8 : decode cX9_image 8 = .ok (.invokevirtual 297, 3) := by decide +kernel
theorem dX9_image_11 : decode cX9_image 11 = .ok (.aload_n 0, 1) := by decide +kernel
theorem dX9_image_12 : decode cX9_image 12 = .ok (.iconst 1, 1) := by decide +kernel
theorem dX9_image_13 : decode cX9_image 13 = .ok (.putfield 58, 3) := by decide +kernel
theorem dX9_image_16 : decode cX9_image 16 = .ok (.return_, 1) := by decide +kernel
theorem dX9_load_0 : decode cX9_load 0 = .ok (.aload_n 0, 1) := by decide +kernel
theorem dX9_load_1 : decode cX9_load 1 = .ok (.getfield 58, 3) := by decide +kernel
theorem dX9_load_4 : decode cX9_load 4 = .ok (.ifCond .ne 5, 3) := by decide +kernel
theorem dX9_load_7 : decode cX9_load 7 = .ok (.iconst 0, 1) := by decide +kernel
theorem dX9_load_8 : decode cX9_load 8 = .ok (.ireturn, 1) := by decide +kernel
theorem dX9_load_9 : decode cX9_load 9 = .ok (.aload_n 0, 1) := by decide +kernel
theorem dX9_load_10 : decode cX9_load 10 = .ok (.getfield 10, 3) := by decide +kernel
theorem dX9_load_13 : decode cX9_load 13 = .ok (.aload_n 0, 1) := by decide +kernel
theorem dX9_load_14 : decode cX9_load 14 = .ok (.getfield 16, 3) := by decide +kernel
theorem dX9_load_17 : decode cX9_load 17 = .ok (.invokevirtual 297, 3) := by decide +kernel
theorem dX9_load_20 : decode cX9_load 20 = .ok (.aload_n 0, 1) := by decide +kernel
theorem dX9_load_21 : decode cX9_load 21 = .ok (.getfield 22, 3) := by decide +kernel
theorem dX9_load_24 : decode cX9_load 24 = .ok (.invokevirtual 300, 3) := by decide +kernel
theorem dX9_load_27 : decode cX9_load 27 = .ok (.iconst 1, 1) := by decide +kernel
theorem dX9_load_28 : decode cX9_load 28 = .ok (.ireturn, 1) := by decide +kernel
theorem dX9_addOfLine_0 : decode cX9_addOfLine 0 = .ok (.aload_n 0, 1) := by decide +kernel
theorem dX9_addOfLine_1 : decode cX9_addOfLine 1 = .ok (.getfield 10, 3) := by decide +kernel
theorem dX9_addOfLine_4 : decode cX9_addOfLine 4 = .ok (.getfield 69, 3) := by decide +kernel
theorem dX9_addOfLine_7 : decode cX9_addOfLine 7 = .ok (.iload_n 2, 1) := by decide +kernel
theorem dX9_addOfLine_8 : decode cX9_addOfLine 8 = .ok (.invokevirtual 110, 3) := by decide +kernel
theorem dX9_addOfLine_11 : decode cX9_addOfLine 11 = .ok (.ifCond .eq 20, 3) := by decide +kernel
theorem dX9_addOfLine_14 : decode cX9_addOfLine 14 = .ok (.iload_n 3, 1) := by decide +kernel
theorem dX9_addOfLine_15 : decode cX9_addOfLine 15 = .ok (.invokestatic 86, 3) := by decide +kernel
theorem dX9_addOfLine_18 : decode cX9_addOfLine 18 = .ok (.ifCond .eq 13, 3) := by decide +kernel
theorem dX9_addOfLine_21 : decode cX9_addOfLine 21 = .ok (.iload 4, 2) := by decide +kernel
theorem dX9_addOfLine_23 : decode cX9_addOfLine 23 = .ok (.iload 5, 2) := by decide +kernel
theorem dX9_addOfLine_25 : decode cX9_addOfLine 25 = .ok (.invokestatic 127, 3) := by decide +kernel
theorem dX9_addOfLine_28 : decode cX9_addOfLine 28 = .ok (.ifCond .ne 5, 3) := by decide +kernel
theorem dX9_addOfLine_31 : decode cX9_addOfLine 31 = .ok (.iconst (-1), 1) := by decide +kernel
theorem dX9_addOfLine_32 : decode cX9_addOfLine 32 = .ok (.ireturn, 1) := by decide +kernel
theorem dX9_addOfLine_33 : decode cX9_addOfLine 33 = .ok (.aload_n 0, 1) := by decide +kernel
theorem dX9_addOfLine_34 : decode cX9_addOfLine 34 = .ok (.iload_n 1, 1) := by decide +kernel
theorem dX9_addOfLine_35 : decode cX9_addOfLine 35 = .ok (.iload 4, 2) := by decide +kernel
theorem dX9_addOfLine_37 : decode cX9_addOfLine 37 = .ok (.iload 5, 2) := by decide +kernel
theorem dX9_addOfLine_39 : decode cX9_addOfLine 39 = .ok (.iload 6, 2) := by decide +kernel
theorem dX9_addOfLine_41 : decode cX9_addOfLine 41 = .ok (.invokevirtual 140, 3) := by decide +kernel
theorem dX9_addOfLine_44 : decode cX9_addOfLine 44 = .ok (.istore 7, 2) := by decide +kernel
theorem dX9_addOfLine_46 : decode cX9_addOfLine 46 = .ok (.iload 7, 2) := by decide +kernel
theorem dX9_addOfLine_48 : decode cX9_addOfLine 48 = .ok (.iconst (-1), 1) := by decide +kernel
theorem dX9_addOfLine_49 : decode cX9_addOfLine 49 = .ok (.if_icmp .eq 29, 3) := by decide +kernel
theorem dX9_addOfLine_52 : decode cX9_addOfLine 52 = .ok (.aload_n 0, 1) := by decide +kernel
theorem dX9_addOfLine_53 : decode cX9_addOfLine 53 = .ok (.getfield 10, 3) := by decide +kernel
theorem dX9_addOfLine_56 : decode cX9_addOfLine 56 = .ok (.getfield 131, 3) := by decide +kernel
theorem dX9_addOfLine_59 : decode cX9_addOfLine 59 = .ok (.iload 7, 2) := by decide +kernel
theorem dX9_addOfLine_61 : decode cX9_addOfLine 61 = .ok (.aload_n 0, 1) := by decide +kernel
theorem dX9_addOfLine_62 : decode cX9_addOfLine 62 = .ok (.getfield 10, 3) := by decide +kernel
theorem dX9_addOfLine_65 : decode cX9_addOfLine 65 = .ok (.getfield 69, 3) := by decide +kernel
theorem dX9_addOfLine_68 : decode cX9_addOfLine 68 = .ok (.getfield 185, 3) := by decide +kernel
theorem dX9_addOfLine_71 : decode cX9_addOfLine 71 = .ok (.iload_n 2, 1) := by decide +kernel
theorem dX9_addOfLine_72 : decode cX9_addOfLine 72 = .ok (.iaload, 1) := by decide +kernel
theorem dX9_addOfLine_73 : decode cX9_addOfLine 73 = .ok (.iload_n 2, 1) := by decide +kernel
theorem dX9_addOfLine_74 : decode cX9_addOfLine 74 = .ok (.iload_n 3, 1) := by decide +kernel
theorem dX9_addOfLine_75 : decode cX9_addOfLine 75 = .ok (.invokevirtual 144, 3) := by decide +kernel
theorem dX9_addOfLine_78 : decode cX9_addOfLine 78 = .ok (.iload 7, 2) := by decide +kernel
theorem dX9_addOfLine_80 : decode cX9_addOfLine 80 = .ok (.ireturn, 1) := by decide +kernel
theorem dX9_addSounding_0 : decode cX9_addSounding 0 = .ok (.aload_n 0, 1) := by decide +kernel
theorem dX9_addSounding_1 : decode cX9_addSounding 1 = .ok (.getfield 10, 3) := by decide +kernel
theorem dX9_addSounding_4 : decode cX9_addSounding 4 = .ok (.getfield 131, 3) := by decide +kernel
theorem dX9_addSounding_7 : decode cX9_addSounding 7 = .ok (.getfield 152, 3) := by decide +kernel
theorem dX9_addSounding_10 : decode cX9_addSounding 10 = .ok (.sipush 200, 3) := by decide +kernel
theorem dX9_addSounding_13 : decode cX9_addSounding 13 = .ok (.if_icmp .lt 5, 3) := by decide +kernel
theorem dX9_addSounding_16 : decode cX9_addSounding 16 = .ok (.iconst (-1), 1) := by decide +kernel
theorem dX9_addSounding_17 : decode cX9_addSounding 17 = .ok (.ireturn, 1) := by decide +kernel
theorem dX9_addSounding_18 : decode cX9_addSounding 18 = .ok (.aload_n 0, 1) := by decide +kernel
theorem dX9_addSounding_19 : decode cX9_addSounding 19 = .ok (.getfield 10, 3) := by decide +kernel
theorem dX9_addSounding_22 : decode cX9_addSounding 22 = .ok (.getfield 131, 3) := by decide +kernel
theorem dX9_addSounding_25 : decode cX9_addSounding 25 = .ok (.iload_n 1, 1) := by decide +kernel
theorem dX9_addSounding_26 : decode cX9_addSounding 26 = .ok (.iload_n 2, 1) := by decide +kernel
theorem dX9_addSounding_27 : decode cX9_addSounding 27 = .ok (.iload_n 3, 1) := by decide +kernel
theorem dX9_addSounding_28 : decode cX9_addSounding 28 = .ok (.iload 4, 2) := by decide +kernel
theorem dX9_addSounding_30 : decode cX9_addSounding 30 = .ok (.invokevirtual 303, 3) := by decide +kernel
theorem dX9_addSounding_33 : decode cX9_addSounding 33 = .ok (.istore 5, 2) := by decide +kernel
theorem dX9_addSounding_35 : decode cX9_addSounding 35 = .ok (.aload_n 0, 1) := by decide +kernel
theorem dX9_addSounding_36 : decode cX9_addSounding 36 = .ok (.getfield 22, 3) := by decide +kernel
theorem dX9_addSounding_39 : decode cX9_addSounding 39 = .ok (.iconst 5, 1) := by decide +kernel
theorem dX9_addSounding_40 : decode cX9_addSounding 40 = .ok (.iload 5, 2) := by decide +kernel
theorem dX9_addSounding_42 : decode cX9_addSounding 42 = .ok (.iconst 0, 1) := by decide +kernel
theorem dX9_addSounding_43 : decode cX9_addSounding 43 = .ok (.invokevirtual 83, 3) := by decide +kernel
theorem dX9_addSounding_46 : decode cX9_addSounding 46 = .ok (.iload 5, 2) := by decide +kernel
theorem dX9_addSounding_48 : decode cX9_addSounding 48 = .ok (.ireturn, 1) := by decide +kernel
theorem dX9_findChannel_0 : decode cX9_findChannel 0 = .ok (.iload_n 1, 1) := by decide +kernel
theorem dX9_findChannel_1 : decode cX9_findChannel 1 = .ok (.invokestatic 62, 3) := by decide +kernel
theorem dX9_findChannel_4 : decode cX9_findChannel 4 = .ok (.ifCond .eq 17, 3) := by decide +kernel
theorem dX9_findChannel_7 : decode cX9_findChannel 7 = .ok (.iload_n 2, 1) := by decide +kernel
theorem dX9_findChannel_8 : decode cX9_findChannel 8 = .ok (.invokestatic 234, 3) := by decide +kernel
theorem dX9_findChannel_11 : decode cX9_findChannel 11 = .ok (.ifCond .eq 10, 3) := by decide +kernel
theorem dX9_findChannel_14 : decode cX9_findChannel 14 = .ok (.iload_n 3, 1) := by decide +kernel
theorem dX9_findChannel_15 : decode cX9_findChannel 15 = .ok (.invokestatic 234, 3) := by decide +kernel
theorem dX9_findChannel_18 : decode cX9_findChannel 18 = .ok (.ifCond .ne 5, 3) := by decide +kernel
theorem dX9_findChannel_21 : decode cX9_findChannel 21 = .ok (.iconst 0, 1) := by decide +kernel
theorem dX9_findChannel_22 : decode cX9_findChannel 22 = .ok (.ireturn, 1) := by decide +kernel
theorem dX9_findChannel_23 : decode cX9_findChannel 23 = .ok (.aload_n 0, 1) := by decide +kernel
theorem dX9_findChannel_24 : decode cX9_findChannel 24 = .ok (.getfield 45, 3) := by decide +kernel
theorem dX9_findChannel_27 : decode cX9_findChannel 27 = .ok (.iload_n 1, 1) := by decide +kernel
theorem dX9_findChannel_28 : decode cX9_findChannel 28 = .ok (.invokevirtual 255, 3) := by decide +kernel
theorem dX9_findChannel_31 : decode cX9_findChannel 31 = .ok (.aload_n 0, 1) := by decide +kernel
theorem dX9_findChannel_32 : decode cX9_findChannel 32 = .ok (.getfield 54, 3) := by decide +kernel
theorem dX9_findChannel_35 : decode cX9_findChannel 35 = .ok (.iload_n 2, 1) := by decide +kernel
theorem dX9_findChannel_36 : decode cX9_findChannel 36 = .ok (.iload_n 3, 1) := by decide +kernel
theorem dX9_findChannel_37 : decode cX9_findChannel 37 = .ok (.invokevirtual 305, 3) := by decide +kernel
theorem dX9_findChannel_40 : decode cX9_findChannel 40 = .ok (.ireturn, 1) := by decide +kernel
theorem dX9_within_0 : decode cX9_within 0 = .ok (.iload_n 0, 1) := by decide +kernel
theorem dX9_within_1 : decode cX9_within 1 = .ok (.iload_n 1, 1) := by decide +kernel
theorem dX9_within_2 : decode cX9_within 2 = .ok (.if_icmp .lt 12, 3) := by decide +kernel
theorem dX9_within_5 : decode cX9_within 5 = .ok (.iload_n 0, 1) := by decide +kernel
theorem dX9_within_6 : decode cX9_within 6 = .ok (.iload_n 2, 1) := by decide +kernel
theorem dX9_within_7 : decode cX9_within 7 = .ok (.if_icmp .gt 7, 3) := by decide +kernel
theorem dX9_within_10 : decode cX9_within 10 = .ok (.iconst 1, 1) := by decide +kernel
theorem dX9_within_11 : decode cX9_within 11 = .ok (.goto 4, 3) := by decide +kernel
theorem dX9_within_14 : decode cX9_within 14 = .ok (.iconst 0, 1) := by decide +kernel
theorem dX9_within_15 : decode cX9_within 15 = .ok (.ireturn, 1) := by decide +kernel
theorem dX9_isDay_0 : decode cX9_isDay 0 = .ok (.iload_n 0, 1) := by decide +kernel
theorem dX9_isDay_1 : decode cX9_isDay 1 = .ok (.iconst 0, 1) := by decide +kernel
theorem dX9_isDay_2 : decode cX9_isDay 2 = .ok (.bipush 99, 2) := by decide +kernel
theorem dX9_isDay_4 : decode cX9_isDay 4 = .ok (.invokestatic 89, 3) := by decide +kernel
theorem dX9_isDay_7 : decode cX9_isDay 7 = .ok (.ireturn, 1) := by decide +kernel
theorem dX9_isMinute_0 : decode cX9_isMinute 0 = .ok (.iload_n 0, 1) := by decide +kernel
theorem dX9_isMinute_1 : decode cX9_isMinute 1 = .ok (.iconst 0, 1) := by decide +kernel
theorem dX9_isMinute_2 : decode cX9_isMinute 2 = .ok (.sipush 1439, 3) := by decide +kernel
theorem dX9_isMinute_5 : decode cX9_isMinute 5 = .ok (.invokestatic 89, 3) := by decide +kernel
theorem dX9_isMinute_8 : decode cX9_isMinute 8 = .ok (.ireturn, 1) := by decide +kernel
theorem dX9_isSpeed_0 : decode cX9_isSpeed 0 = .ok (.iload_n 0, 1) := by decide +kernel
theorem dX9_isSpeed_1 : decode cX9_isSpeed 1 = .ok (.sipush 1400, 3) := by decide +kernel
theorem dX9_isSpeed_4 : decode cX9_isSpeed 4 = .ok (.sipush 1600, 3) := by decide +kernel
theorem dX9_isSpeed_7 : decode cX9_isSpeed 7 = .ok (.invokestatic 89, 3) := by decide +kernel
theorem dX9_isSpeed_10 : decode cX9_isSpeed 10 = .ok (.ireturn, 1) := by decide +kernel
theorem dX9_isPlace_0 : decode cX9_isPlace 0 = .ok (.iload_n 0, 1) := by decide +kernel
theorem dX9_isPlace_1 : decode cX9_isPlace 1 = .ok (.iconst 0, 1) := by decide +kernel
theorem dX9_isPlace_2 : decode cX9_isPlace 2 = .ok (.sipush 255, 3) := by decide +kernel
theorem dX9_isPlace_5 : decode cX9_isPlace 5 = .ok (.invokestatic 89, 3) := by decide +kernel
theorem dX9_isPlace_8 : decode cX9_isPlace 8 = .ok (.ifCond .eq 18, 3) := by decide +kernel
theorem dX9_isPlace_11 : decode cX9_isPlace 11 = .ok (.iload_n 1, 1) := by decide +kernel
theorem dX9_isPlace_12 : decode cX9_isPlace 12 = .ok (.iconst 0, 1) := by decide +kernel
theorem dX9_isPlace_13 : decode cX9_isPlace 13 = .ok (.sipush 255, 3) := by decide +kernel
theorem dX9_isPlace_16 : decode cX9_isPlace 16 = .ok (.invokestatic 89, 3) := by decide +kernel
theorem dX9_isPlace_19 : decode cX9_isPlace 19 = .ok (.ifCond .eq 7, 3) := by decide +kernel
theorem dX9_isPlace_22 : decode cX9_isPlace 22 = .ok (.iconst 1, 1) := by decide +kernel
theorem dX9_isPlace_23 : decode cX9_isPlace 23 = .ok (.goto 4, 3) := by decide +kernel
theorem dX9_isPlace_26 : decode cX9_isPlace 26 = .ok (.iconst 0, 1) := by decide +kernel
theorem dX9_isPlace_27 : decode cX9_isPlace 27 = .ok (.ireturn, 1) := by decide +kernel
theorem dX9_isSquare_0 : decode cX9_isSquare 0 = .ok (.iload_n 0, 1) := by decide +kernel
theorem dX9_isSquare_1 : decode cX9_isSquare 1 = .ok (.iconst 0, 1) := by decide +kernel
theorem dX9_isSquare_2 : decode cX9_isSquare 2 = .ok (.sipush 255, 3) := by decide +kernel
theorem dX9_isSquare_5 : decode cX9_isSquare 5 = .ok (.invokestatic 89, 3) := by decide +kernel
theorem dX9_isSquare_8 : decode cX9_isSquare 8 = .ok (.ireturn, 1) := by decide +kernel
theorem dX9_isDensity_0 : decode cX9_isDensity 0 = .ok (.iload_n 0, 1) := by decide +kernel
theorem dX9_isDensity_1 : decode cX9_isDensity 1 = .ok (.iconst 1, 1) := by decide +kernel
theorem dX9_isDensity_2 : decode cX9_isDensity 2 = .ok (.bipush 6, 2) := by decide +kernel
theorem dX9_isDensity_4 : decode cX9_isDensity 4 = .ok (.invokestatic 89, 3) := by decide +kernel
theorem dX9_isDensity_7 : decode cX9_isDensity 7 = .ok (.ireturn, 1) := by decide +kernel
theorem dX9_isReach_0 : decode cX9_isReach 0 = .ok (.iload_n 0, 1) := by decide +kernel
theorem dX9_isReach_1 : decode cX9_isReach 1 = .ok (.iconst 0, 1) := by decide +kernel
theorem dX9_isReach_2 : decode cX9_isReach 2 = .ok (.sipush 400, 3) := by decide +kernel
theorem dX9_isReach_5 : decode cX9_isReach 5 = .ok (.invokestatic 89, 3) := by decide +kernel
theorem dX9_isReach_8 : decode cX9_isReach 8 = .ok (.ireturn, 1) := by decide +kernel
theorem dX9_floorOf_0 : decode cX9_floorOf 0 = .ok (.lload_n 2, 1) := by decide +kernel
theorem dX9_floorOf_1 : decode cX9_floorOf 1 = .ok (.lconst 0, 1) := by decide +kernel
theorem dX9_floorOf_2 : decode cX9_floorOf 2 = .ok (.lcmp, 1) := by decide +kernel
theorem dX9_floorOf_3 : decode cX9_floorOf 3 = .ok (.ifCond .le 11, 3) := by decide +kernel
theorem dX9_floorOf_6 : decode cX9_floorOf 6 = .ok (.lload_n 0, 1) := by decide +kernel
theorem dX9_floorOf_7 : decode cX9_floorOf 7 = .ok (.lload_n 2, 1) := by decide +kernel
theorem dX9_floorOf_8 : decode cX9_floorOf 8 = .ok (.invokestatic 307, 3) := by decide +kernel
theorem dX9_floorOf_11 : decode cX9_floorOf 11 = .ok (.goto 4, 3) := by decide +kernel
theorem dX9_floorOf_14 : decode cX9_floorOf 14 = .ok (.lconst 0, 1) := by decide +kernel
theorem dX9_floorOf_15 : decode cX9_floorOf 15 = .ok (.lreturn, 1) := by decide +kernel
theorem dX9_cutFloat_0 : decode cX9_cutFloat 0 = .ok (.iload_n 0, 1) := by decide +kernel
theorem dX9_cutFloat_1 : decode cX9_cutFloat 1 = .ok (.bipush 23, 2) := by decide +kernel
theorem dX9_cutFloat_3 : decode cX9_cutFloat 3 = .ok (.iushr, 1) := by decide +kernel
theorem dX9_cutFloat_4 : decode cX9_cutFloat 4 = .ok (.sipush 255, 3) := by decide +kernel
theorem dX9_cutFloat_7 : decode cX9_cutFloat 7 = .ok (.iand, 1) := by decide +kernel
theorem dX9_cutFloat_8 : decode cX9_cutFloat 8 = .ok (.bipush 127, 2) := by decide +kernel
theorem dX9_cutFloat_10 : decode cX9_cutFloat 10 = .ok (.isub, 1) := by decide +kernel
theorem dX9_cutFloat_11 : decode cX9_cutFloat 11 = .ok (.istore_n 1, 1) := by decide +kernel
theorem dX9_cutFloat_12 : decode cX9_cutFloat 12 = .ok (.iload_n 1, 1) := by decide +kernel
theorem dX9_cutFloat_13 : decode cX9_cutFloat 13 = .ok (.ifCond .ge 5, 3) := by decide +kernel
theorem dX9_cutFloat_16 : decode cX9_cutFloat 16 = .ok (.iconst 0, 1) := by decide +kernel
theorem dX9_cutFloat_17 : decode cX9_cutFloat 17 = .ok (.ireturn, 1) := by decide +kernel
theorem dX9_cutFloat_18 : decode cX9_cutFloat 18 = .ok (.iload_n 1, 1) := by decide +kernel
theorem dX9_cutFloat_19 : decode cX9_cutFloat 19 = .ok (.bipush 14, 2) := by decide +kernel
theorem dX9_cutFloat_21 : decode cX9_cutFloat 21 = .ok (.if_icmp .le 5, 3) := by decide +kernel
theorem dX9_cutFloat_24 : decode cX9_cutFloat 24 = .ok (.iconst (-1), 1) := by decide +kernel
theorem dX9_cutFloat_25 : decode cX9_cutFloat 25 = .ok (.ireturn, 1) := by decide +kernel
theorem dX9_cutFloat_26 : decode cX9_cutFloat 26 = .ok (.iload_n 0, 1) := by decide +kernel
theorem dX9_cutFloat_27 : decode cX9_cutFloat 27 = .ok (.ldc_w 312, 3) := by decide +kernel
theorem dX9_cutFloat_30 : decode cX9_cutFloat 30 = .ok (.iand, 1) := by decide +kernel
theorem dX9_cutFloat_31 : decode cX9_cutFloat 31 = .ok (.ldc_w 313, 3) := by decide +kernel
theorem dX9_cutFloat_34 : decode cX9_cutFloat 34 = .ok (.ior, 1) := by decide +kernel
theorem dX9_cutFloat_35 : decode cX9_cutFloat 35 = .ok (.bipush 23, 2) := by decide +kernel
theorem dX9_cutFloat_37 : decode cX9_cutFloat 37 = .ok (.iload_n 1, 1) := by decide +kernel
theorem dX9_cutFloat_38 : decode cX9_cutFloat 38 = .ok (.isub, 1) := by decide +kernel
theorem dX9_cutFloat_39 : decode cX9_cutFloat 39 = .ok (.ishr, 1) := by decide +kernel
theorem dX9_cutFloat_40 : decode cX9_cutFloat 40 = .ok (.istore_n 2, 1) := by decide +kernel
theorem dX9_cutFloat_41 : decode cX9_cutFloat 41 = .ok (.iload_n 0, 1) := by decide +kernel
theorem dX9_cutFloat_42 : decode cX9_cutFloat 42 = .ok (.ifCond .ge 8, 3) := by decide +kernel
theorem dX9_cutFloat_45 : decode cX9_cutFloat 45 = .ok (.iload_n 2, 1) := by decide +kernel
theorem dX9_cutFloat_46 : decode cX9_cutFloat 46 = .ok (.ineg, 1) := by decide +kernel
theorem dX9_cutFloat_47 : decode cX9_cutFloat 47 = .ok (.goto 4, 3) := by decide +kernel
theorem dX9_cutFloat_50 : decode cX9_cutFloat 50 = .ok (.iload_n 2, 1) := by decide +kernel
theorem dX9_cutFloat_51 : decode cX9_cutFloat 51 = .ok (.ireturn, 1) := by decide +kernel
theorem dX10_init_0 : decode cX10_init 0 = .ok (.aload_n 0, 1) := by decide +kernel
theorem dX10_init_1 : decode cX10_init 1 = .ok (.invokespecial 1, 3) := by decide +kernel
theorem dX10_init_4 : decode cX10_init 4 = .ok (.aload_n 0, 1) := by decide +kernel
theorem dX10_init_5 : decode cX10_init 5 = .ok (.sipush 4564, 3) := by decide +kernel
theorem dX10_init_8 : decode cX10_init 8 = .ok (.newarray .int, 2) := by decide +kernel
theorem dX10_init_10 : decode cX10_init 10 = .ok (.putfield 7, 3) := by decide +kernel
theorem dX10_init_13 : decode cX10_init 13 = .ok (.aload_n 0, 1) := by decide +kernel
theorem dX10_init_14 : decode cX10_init 14 = .ok (.ldc 13, 2) := by decide +kernel
theorem dX10_init_16 : decode cX10_init 16 = .ok (.newarray .int, 2) := by decide +kernel
theorem dX10_init_18 : decode cX10_init 18 = .ok (.putfield 14, 3) := by decide +kernel
theorem dX10_init_21 : decode cX10_init 21 = .ok (.aload_n 0, 1) := by decide +kernel
theorem dX10_init_22 : decode cX10_init 22 = .ok (.sipush 4564, 3) := by decide +kernel
theorem dX10_init_25 : decode cX10_init 25 = .ok (.newarray .int, 2) := by decide +kernel
theorem dX10_init_27 : decode cX10_init 27 = .ok (.putfield 17, 3) := by decide +kernel
theorem dX10_init_30 : decode cX10_init 30 = .ok (.aload_n 0, 1) := by decide +kernel
theorem dX10_init_31 : decode cX10_init 31 = .ok (.sipush 200, 3) := by decide +kernel
theorem dX10_init_34 : decode cX10_init 34 = .ok (.newarray .int, 2) := by decide +kernel
theorem dX10_init_36 : decode cX10_init 36 = .ok (.putfield 20, 3) := by decide +kernel
theorem dX10_init_39 : decode cX10_init 39 = .ok (.aload_n 0, 1) := by decide +kernel
theorem dX10_init_40 : decode cX10_init 40 = .ok (.sipush 200, 3) := by decide +kernel
theorem dX10_init_43 : decode cX10_init 43 = .ok (.newarray .int, 2) := by decide +kernel
theorem dX10_init_45 : decode cX10_init 45 = .ok (.putfield 23, 3) := by decide +kernel
theorem dX10_init_48 : decode cX10_init 48 = .ok (.aload_n 0, 1) := by decide +kernel
theorem dX10_init_49 : decode cX10_init 49 = .ok (.sipush 256, 3) := by decide +kernel
theorem dX10_init_52 : decode cX10_init 52 = .ok (.newarray .int, 2) := by decide +kernel
theorem dX10_init_54 : decode cX10_init 54 = .ok (.putfield 26, 3) := by decide +kernel
theorem dX10_init_57 : decode cX10_init 57 = .ok (.aload_n 0, 1) := by decide +kernel
theorem dX10_init_58 : decode cX10_init 58 = .ok (.sipush 256, 3) := by decide +kernel
theorem dX10_init_61 : decode cX10_init 61 = .ok (.newarray .int, 2) := by decide +kernel
theorem dX10_init_63 : decode cX10_init 63 = .ok (.putfield 29, 3) := by decide +kernel
theorem dX10_init_66 : decode cX10_init 66 = .ok (.aload_n 0, 1) := by decide +kernel
theorem dX10_init_67 : decode cX10_init 67 = .ok (.sipush 256, 3) := by decide +kernel
theorem dX10_init_70 : decode cX10_init 70 = .ok (.newarray .int, 2) := by decide +kernel
theorem dX10_init_72 : decode cX10_init 72 = .ok (.putfield 32, 3) := by decide +kernel
theorem dX10_init_75 : decode cX10_init 75 = .ok (.return_, 1) := by decide +kernel
theorem dX10_in_0 : decode cX10_in 0 = .ok (.iload_n 0, 1) := by decide +kernel
theorem dX10_in_1 : decode cX10_in 1 = .ok (.iload_n 1, 1) := by decide +kernel
theorem dX10_in_2 : decode cX10_in 2 = .ok (.if_icmp .lt 12, 3) := by decide +kernel
theorem dX10_in_5 : decode cX10_in 5 = .ok (.iload_n 0, 1) := by decide +kernel
theorem dX10_in_6 : decode cX10_in 6 = .ok (.iload_n 2, 1) := by decide +kernel
theorem dX10_in_7 : decode cX10_in 7 = .ok (.if_icmp .gt 7, 3) := by decide +kernel
theorem dX10_in_10 : decode cX10_in 10 = .ok (.iconst 1, 1) := by decide +kernel
theorem dX10_in_11 : decode cX10_in 11 = .ok (.goto 4, 3) := by decide +kernel
theorem dX10_in_14 : decode cX10_in 14 = .ok (.iconst 0, 1) := by decide +kernel
theorem dX10_in_15 : decode cX10_in 15 = .ok (.ireturn, 1) := by decide +kernel
theorem dX10_acts_0 : decode cX10_acts 0 = .ok (.iconst 0, 1) := by decide +kernel
theorem dX10_acts_1 : decode cX10_acts 1 = .ok (.istore_n 1, 1) := by decide +kernel
theorem dX10_acts_2 : decode cX10_acts 2 = .ok (.iload_n 1, 1) := by decide +kernel
theorem dX10_acts_3 : decode cX10_acts 3 = .ok (.sipush 4564, 3) := by decide +kernel
theorem dX10_acts_6 : decode cX10_acts 6 = .ok (.if_icmp .ge 30, 3) := by decide +kernel
theorem dX10_acts_9 : decode cX10_acts 9 = .ok (.aload_n 0, 1) := by decide +kernel
theorem dX10_acts_10 : decode cX10_acts 10 = .ok (.getfield 14, 3) := by decide +kernel
theorem dX10_acts_13 : decode cX10_acts 13 = .ok (.sipush 4564, 3) := by decide +kernel
theorem dX10_acts_16 : decode cX10_acts 16 = .ok (.aload_n 0, 1) := by decide +kernel
theorem dX10_acts_17 : decode cX10_acts 17 = .ok (.getfield 35, 3) := by decide +kernel
theorem dX10_acts_20 : decode cX10_acts 20 = .ok (.imul, 1) := by decide +kernel
theorem dX10_acts_21 : decode cX10_acts 21 = .ok (.iload_n 1, 1) := by decide +kernel
theorem dX10_acts_22 : decode cX10_acts 22 = .ok (.iadd, 1) := by decide +kernel
theorem dX10_acts_23 : decode cX10_acts 23 = .ok (.aload_n 0, 1) := by decide +kernel
theorem dX10_acts_24 : decode cX10_acts 24 = .ok (.getfield 7, 3) := by decide +kernel
theorem dX10_acts_27 : decode cX10_acts 27 = .ok (.iload_n 1, 1) := by decide +kernel
theorem dX10_acts_28 : decode cX10_acts 28 = .ok (.iaload, 1) := by decide +kernel
theorem dX10_acts_29 : decode cX10_acts 29 = .ok (.iastore, 1) := by decide +kernel
theorem dX10_acts_30 : decode cX10_acts 30 = .ok (.iinc 1 1, 3) := by decide +kernel
theorem dX10_acts_33 : decode cX10_acts 33 = .ok (.goto (-31), 3) := by decide +kernel
theorem dX10_acts_36 : decode cX10_acts 36 = .ok (.aload_n 0, 1) := by decide +kernel
theorem dX10_acts_37 : decode cX10_acts 37 = .ok (.aload_n 0, 1) := by decide +kernel
theorem dX10_acts_38 : decode cX10_acts 38 = .ok (.getfield 35, 3) := by decide +kernel
theorem dX10_acts_41 : decode cX10_acts 41 = .ok (.iconst 1, 1) := by decide +kernel
theorem dX10_acts_42 : decode cX10_acts 42 = .ok (.iadd, 1) := by decide +kernel
theorem dX10_acts_43 : decode cX10_acts 43 = .ok (.bipush 20, 2) := by decide +kernel
theorem dX10_acts_45 : decode cX10_acts 45 = .ok (.irem, 1) := by decide +kernel
theorem dX10_acts_46 : decode cX10_acts 46 = .ok (.putfield 35, 3) := by decide +kernel
theorem dX10_acts_49 : decode cX10_acts 49 = .ok (.aload_n 0, 1) := by decide +kernel
theorem dX10_acts_50 : decode cX10_acts 50 = .ok (.aload_n 0, 1) := by decide +kernel
theorem dX10_acts_51 : decode cX10_acts 51 = .ok (.getfield 39, 3) := by decide +kernel
theorem dX10_acts_54 : decode cX10_acts 54 = .ok (.bipush 20, 2) := by decide +kernel
theorem dX10_acts_56 : decode cX10_acts 56 = .ok (.if_icmp .ge 12, 3) := by decide +kernel
theorem dX10_acts_59 : decode cX10_acts 59 = .ok (.aload_n 0, 1) := by decide +kernel
theorem dX10_acts_60 : decode cX10_acts 60 = .ok (.getfield 39, 3) := by decide +kernel
theorem dX10_acts_63 : decode cX10_acts 63 = .ok (.iconst 1, 1) := by decide +kernel
theorem dX10_acts_64 : decode cX10_acts 64 = .ok (.iadd, 1) := by decide +kernel
theorem dX10_acts_65 : decode cX10_acts 65 = .ok (.goto 5, 3) := by decide +kernel
theorem dX10_acts_68 : decode cX10_acts 68 = .ok (.bipush 20, 2) := by decide +kernel
theorem dX10_acts_70 : decode cX10_acts 70 = .ok (.putfield 39, 3) := by decide +kernel
theorem dX10_acts_73 : decode cX10_acts 73 = .ok (.return_, 1) := by decide +kernel
theorem dX10_undo_0 : decode cX10_undo 0 = .ok (.aload_n 0, 1) := by decide +kernel
theorem dX10_undo_1 : decode cX10_undo 1 = .ok (.getfield 39, 3) := by decide +kernel
theorem dX10_undo_4 : decode cX10_undo 4 = .ok (.ifCond .ne 5, 3) := by decide +kernel
theorem dX10_undo_7 : decode cX10_undo 7 = .ok (.iconst 0, 1) := by decide +kernel
theorem dX10_undo_8 : decode cX10_undo 8 = .ok (.ireturn, 1) := by decide +kernel
theorem dX10_undo_9 : decode cX10_undo 9 = .ok (.aload_n 0, 1) := by decide +kernel
theorem dX10_undo_10 : decode cX10_undo 10 = .ok (.aload_n 0, 1) := by decide +kernel
theorem dX10_undo_11 : decode cX10_undo 11 = .ok (.getfield 35, 3) := by decide +kernel
theorem dX10_undo_14 : decode cX10_undo 14 = .ok (.bipush 19, 2) := by decide +kernel
theorem dX10_undo_16 : decode cX10_undo 16 = .ok (.iadd, 1) := by decide +kernel
theorem dX10_undo_17 : decode cX10_undo 17 = .ok (.bipush 20, 2) := by decide +kernel
theorem dX10_undo_19 : decode cX10_undo 19 = .ok (.irem, 1) := by decide +kernel
theorem dX10_undo_20 : decode cX10_undo 20 = .ok (.putfield 35, 3) := by decide +kernel
theorem dX10_undo_23 : decode cX10_undo 23 = .ok (.aload_n 0, 1) := by decide +kernel
theorem dX10_undo_24 : decode cX10_undo 24 = .ok (.dup, 1) := by decide +kernel
theorem dX10_undo_25 : decode cX10_undo 25 = .ok (.getfield 39, 3) := by decide +kernel
theorem dX10_undo_28 : decode cX10_undo 28 = .ok (.iconst 1, 1) := by decide +kernel
theorem dX10_undo_29 : decode cX10_undo 29 = .ok (.isub, 1) := by decide +kernel
theorem dX10_undo_30 : decode cX10_undo 30 = .ok (.putfield 39, 3) := by decide +kernel
theorem dX10_undo_33 : decode cX10_undo 33 = .ok (.iconst 0, 1) := by decide +kernel
theorem dX10_undo_34 : decode cX10_undo 34 = .ok (.istore_n 1, 1) := by decide +kernel
theorem dX10_undo_35 : decode cX10_undo 35 = .ok (.iload_n 1, 1) := by decide +kernel
theorem dX10_undo_36 : decode cX10_undo 36 = .ok (.sipush 4564, 3) := by decide +kernel
theorem dX10_undo_39 : decode cX10_undo 39 = .ok (.if_icmp .ge 30, 3) := by decide +kernel
theorem dX10_undo_42 : decode cX10_undo 42 = .ok (.aload_n 0, 1) := by decide +kernel
theorem dX10_undo_43 : decode cX10_undo 43 = .ok (.getfield 7, 3) := by decide +kernel
theorem dX10_undo_46 : decode cX10_undo 46 = .ok (.iload_n 1, 1) := by decide +kernel
theorem dX10_undo_47 : decode cX10_undo 47 = .ok (.aload_n 0, 1) := by decide +kernel
theorem dX10_undo_48 : decode cX10_undo 48 = .ok (.getfield 14, 3) := by decide +kernel
theorem dX10_undo_51 : decode cX10_undo 51 = .ok (.sipush 4564, 3) := by decide +kernel
theorem dX10_undo_54 : decode cX10_undo 54 = .ok (.aload_n 0, 1) := by decide +kernel
theorem dX10_undo_55 : decode cX10_undo 55 = .ok (.getfield 35, 3) := by decide +kernel
theorem dX10_undo_58 : decode cX10_undo 58 = .ok (.imul, 1) := by decide +kernel
theorem dX10_undo_59 : decode cX10_undo 59 = .ok (.iload_n 1, 1) := by decide +kernel
theorem dX10_undo_60 : decode cX10_undo 60 = .ok (.iadd, 1) := by decide +kernel
theorem dX10_undo_61 : decode cX10_undo 61 = .ok (.iaload, 1) := by decide +kernel
theorem dX10_undo_62 : decode cX10_undo 62 = .ok (.iastore, 1) := by decide +kernel
theorem dX10_undo_63 : decode cX10_undo 63 = .ok (.iinc 1 1, 3) := by decide +kernel
theorem dX10_undo_66 : decode cX10_undo 66 = .ok (.goto (-31), 3) := by decide +kernel
theorem dX10_undo_69 : decode cX10_undo 69 = .ok (.iconst 1, 1) := by decide +kernel
theorem dX10_undo_70 : decode cX10_undo 70 = .ok (.ireturn, 1) := by decide +kernel
theorem dX10_image_0 : decode cX10_image 0 = .ok (.iconst 0, 1) := by decide +kernel
theorem dX10_image_1 : decode cX10_image 1 = .ok (.istore_n 1, 1) := by decide +kernel
theorem dX10_image_2 : decode cX10_image 2 = .ok (.iload_n 1, 1) := by decide +kernel
theorem dX10_image_3 : decode cX10_image 3 = .ok (.sipush 4564, 3) := by decide +kernel
theorem dX10_image_6 : decode cX10_image 6 = .ok (.if_icmp .ge 21, 3) := by decide +kernel
theorem dX10_image_9 : decode cX10_image 9 = .ok (.aload_n 0, 1) := by decide +kernel
theorem dX10_image_10 : decode cX10_image 10 = .ok (.getfield 17, 3) := by decide +kernel
theorem dX10_image_13 : decode cX10_image 13 = .ok (.iload_n 1, 1) := by decide +kernel
theorem dX10_image_14 : decode cX10_image 14 = .ok (.aload_n 0, 1) := by decide +kernel
theorem dX10_image_15 : decode cX10_image 15 = .ok (.getfield 7, 3) := by decide +kernel
theorem dX10_image_18 : decode cX10_image 18 = .ok (.iload_n 1, 1) := by decide +kernel
theorem dX10_image_19 : decode cX10_image 19 = .ok (.iaload, 1) := by decide +kernel
theorem dX10_image_20 : decode cX10_image 20 = .ok (.iastore, 1) := by decide +kernel
theorem dX10_image_21 : decode cX10_image 21 = .ok (.iinc 1 1, 3) := by decide +kernel
theorem dX10_image_24 : decode cX10_image 24 = .ok (.goto (-22), 3) := by decide +kernel
theorem dX10_image_27 : decode cX10_image 27 = .ok (.aload_n 0, 1) := by decide +kernel
theorem dX10_image_28 : decode cX10_image 28 = .ok (.iconst 1, 1) := by decide +kernel
theorem dX10_image_29 : decode cX10_image 29 = .ok (.putfield 42, 3) := by decide +kernel
theorem dX10_image_32 : decode cX10_image 32 = .ok (.return_, 1) := by decide +kernel
