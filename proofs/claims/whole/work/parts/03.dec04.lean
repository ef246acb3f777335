theorem dX10_crosses_64 : decode cX10_crosses 64 = .ok (.iload 4, 2) := by decide +kernel
theorem dX10_crosses_66 : decode cX10_crosses 66 = .ok (.iload 5, 2) := by decide +kernel
theorem dX10_crosses_68 : decode cX10_crosses 68 = .ok (.invokevirtual 113, 3) := by decide +kernel
theorem dX10_crosses_71 : decode cX10_crosses 71 = .ok (.aload_n 0, 1) := by decide +kernel
theorem dX10_crosses_72 : decode cX10_crosses 72 = .ok (.getfield 116, 3) := by decide +kernel
theorem dX10_crosses_75 : decode cX10_crosses 75 = .ok (.if_icmp .lt 6, 3) := by decide +kernel
theorem dX10_crosses_78 : decode cX10_crosses 78 = .ok (.goto 27, 3) := by decide +kernel
theorem dX10_crosses_81 : decode cX10_crosses 81 = .ok (.aload_n 0, 1) := by decide +kernel
theorem dX10_crosses_82 : decode cX10_crosses 82 = .ok (.iload 4, 2) := by decide +kernel
theorem dX10_crosses_84 : decode cX10_crosses 84 = .ok (.putfield 107, 3) := by decide +kernel
theorem dX10_crosses_87 : decode cX10_crosses 87 = .ok (.aload_n 0, 1) := by decide +kernel
theorem dX10_crosses_88 : decode cX10_crosses 88 = .ok (.iload 5, 2) := by decide +kernel
theorem dX10_crosses_90 : decode cX10_crosses 90 = .ok (.putfield 119, 3) := by decide +kernel
theorem dX10_crosses_93 : decode cX10_crosses 93 = .ok (.aload_n 0, 1) := by decide +kernel
theorem dX10_crosses_94 : decode cX10_crosses 94 = .ok (.aload_n 0, 1) := by decide +kernel
theorem dX10_crosses_95 : decode cX10_crosses 95 = .ok (.iload 4, 2) := by decide +kernel
theorem dX10_crosses_97 : decode cX10_crosses 97 = .ok (.iload 5, 2) := by decide +kernel
theorem dX10_crosses_99 : decode cX10_crosses 99 = .ok (.invokevirtual 113, 3) := by decide +kernel
theorem dX10_crosses_102 : decode cX10_crosses 102 = .ok (.putfield 116, 3) := by decide +kernel
theorem dX10_crosses_105 : decode cX10_crosses 105 = .ok (.iinc 5 1, 3) := by decide +kernel
theorem dX10_crosses_108 : decode cX10_crosses 108 = .ok (.goto (-73), 3) := by decide +kernel
theorem dX10_crosses_111 : decode cX10_crosses 111 = .ok (.iinc 4 1, 3) := by decide +kernel
theorem dX10_crosses_114 : decode cX10_crosses 114 = .ok (.goto (-106), 3) := by decide +kernel
theorem dX10_crosses_117 : decode cX10_crosses 117 = .ok (.aload_n 0, 1) := by decide +kernel
theorem dX10_crosses_118 : decode cX10_crosses 118 = .ok (.getfield 107, 3) := by decide +kernel
theorem dX10_crosses_121 : decode cX10_crosses 121 = .ok (.ifCond .lt 17, 3) := by decide +kernel
theorem dX10_crosses_124 : decode cX10_crosses 124 = .ok (.aload_n 0, 1) := by decide +kernel
theorem dX10_crosses_125 : decode cX10_crosses 125 = .ok (.getfield 116, 3) := by decide +kernel
theorem dX10_crosses_128 : decode cX10_crosses 128 = .ok (.iload_n 3, 1) := by decide +kernel
theorem dX10_crosses_129 : decode cX10_crosses 129 = .ok (.iload_n 3, 1) := by decide +kernel
theorem dX10_crosses_130 : decode cX10_crosses 130 = .ok (.imul, 1) := by decide +kernel
theorem dX10_crosses_131 : decode cX10_crosses 131 = .ok (.if_icmp .gt 7, 3) := by decide +kernel
theorem dX10_crosses_134 : decode cX10_crosses 134 = .ok (.iconst 1, 1) := by decide +kernel
theorem dX10_crosses_135 : decode cX10_crosses 135 = .ok (.goto 4, 3) := by decide +kernel
theorem dX10_crosses_138 : decode cX10_crosses 138 = .ok (.iconst 0, 1) := by decide +kernel
theorem dX10_crosses_139 : decode cX10_crosses 139 = .ok (.ireturn, 1) := by decide +kernel
theorem dX10_cross_0 : decode cX10_cross 0 = .ok (.aload_n 0, 1) := by decide +kernel
theorem dX10_cross_1 : decode cX10_cross 1 = .ok (.iload_n 1, 1) := by decide +kernel
theorem dX10_cross_2 : decode cX10_cross 2 = .ok (.invokevirtual 53, 3) := by decide +kernel
theorem dX10_cross_5 : decode cX10_cross 5 = .ok (.ifCond .eq 41, 3) := by decide +kernel
theorem dX10_cross_8 : decode cX10_cross 8 = .ok (.aload_n 0, 1) := by decide +kernel
theorem dX10_cross_9 : decode cX10_cross 9 = .ok (.iload_n 2, 1) := by decide +kernel
theorem dX10_cross_10 : decode cX10_cross 10 = .ok (.invokevirtual 53, 3) := by decide +kernel
theorem dX10_cross_13 : decode cX10_cross 13 = .ok (.ifCond .eq 33, 3) := by decide +kernel
theorem dX10_cross_16 : decode cX10_cross 16 = .ok (.iload_n 1, 1) := by decide +kernel
theorem dX10_cross_17 : decode cX10_cross 17 = .ok (.iload_n 2, 1) := by decide +kernel
theorem dX10_cross_18 : decode cX10_cross 18 = .ok (.if_icmp .ge 28, 3) := by decide +kernel
theorem dX10_cross_21 : decode cX10_cross 21 = .ok (.iload_n 3, 1) := by decide +kernel
theorem dX10_cross_22 : decode cX10_cross 22 = .ok (.iconst 0, 1) := by decide +kernel
theorem dX10_cross_23 : decode cX10_cross 23 = .ok (.sipush 400, 3) := by decide +kernel
theorem dX10_cross_26 : decode cX10_cross 26 = .ok (.invokestatic 46, 3) := by decide +kernel
theorem dX10_cross_29 : decode cX10_cross 29 = .ok (.ifCond .eq 17, 3) := by decide +kernel
theorem dX10_cross_32 : decode cX10_cross 32 = .ok (.aload_n 0, 1) := by decide +kernel
theorem dX10_cross_33 : decode cX10_cross 33 = .ok (.iload_n 1, 1) := by decide +kernel
theorem dX10_cross_34 : decode cX10_cross 34 = .ok (.iload_n 2, 1) := by decide +kernel
theorem dX10_cross_35 : decode cX10_cross 35 = .ok (.iload_n 3, 1) := by decide +kernel
theorem dX10_cross_36 : decode cX10_cross 36 = .ok (.invokevirtual 122, 3) := by decide +kernel
theorem dX10_cross_39 : decode cX10_cross 39 = .ok (.ifCond .eq 7, 3) := by decide +kernel
theorem dX10_cross_42 : decode cX10_cross 42 = .ok (.iconst 1, 1) := by decide +kernel
theorem dX10_cross_43 : decode cX10_cross 43 = .ok (.goto 4, 3) := by decide +kernel
theorem dX10_cross_46 : decode cX10_cross 46 = .ok (.iconst 0, 1) := by decide +kernel
theorem dX10_cross_47 : decode cX10_cross 47 = .ok (.istore 5, 2) := by decide +kernel
theorem dX10_cross_49 : decode cX10_cross 49 = .ok (.iload 5, 2) := by decide +kernel
theorem dX10_cross_51 : decode cX10_cross 51 = .ok (.ifCond .ne 17, 3) := by decide +kernel
theorem dX10_cross_54 : decode cX10_cross 54 = .ok (.iload 4, 2) := by decide +kernel
theorem dX10_cross_56 : decode cX10_cross 56 = .ok (.iconst 3, 1) := by decide +kernel
theorem dX10_cross_57 : decode cX10_cross 57 = .ok (.if_icmp .ne 9, 3) := by decide +kernel
theorem dX10_cross_60 : decode cX10_cross 60 = .ok (.sipush (-30000), 3) := by decide +kernel
theorem dX10_cross_63 : decode cX10_cross 63 = .ok (.goto 4, 3) := by decide +kernel
theorem dX10_cross_66 : decode cX10_cross 66 = .ok (.iconst (-1), 1) := by decide +kernel
theorem dX10_cross_67 : decode cX10_cross 67 = .ok (.ireturn, 1) := by decide +kernel
theorem dX10_cross_68 : decode cX10_cross 68 = .ok (.iload 4, 2) := by decide +kernel
theorem dX10_cross_70 : decode cX10_cross 70 = .ok (.tableswitch 63 0 3 #[30, 35, 40, 45], 30) := by decide +kernel
theorem dX10_cross_100 : decode cX10_cross 100 = .ok (.aload_n 0, 1) := by decide +kernel
theorem dX10_cross_101 : decode cX10_cross 101 = .ok (.getfield 116, 3) := by decide +kernel
theorem dX10_cross_104 : decode cX10_cross 104 = .ok (.ireturn, 1) := by decide +kernel
theorem dX10_cross_105 : decode cX10_cross 105 = .ok (.aload_n 0, 1) := by decide +kernel
theorem dX10_cross_106 : decode cX10_cross 106 = .ok (.getfield 107, 3) := by decide +kernel
theorem dX10_cross_109 : decode cX10_cross 109 = .ok (.ireturn, 1) := by decide +kernel
theorem dX10_cross_110 : decode cX10_cross 110 = .ok (.aload_n 0, 1) := by decide +kernel
theorem dX10_cross_111 : decode cX10_cross 111 = .ok (.getfield 119, 3) := by decide +kernel
theorem dX10_cross_114 : decode cX10_cross 114 = .ok (.ireturn, 1) := by decide +kernel
theorem dX10_cross_115 : decode cX10_cross 115 = .ok (.aload_n 0, 1) := by decide +kernel
theorem dX10_cross_116 : decode cX10_cross 116 = .ok (.aload_n 0, 1) := by decide +kernel
theorem dX10_cross_117 : decode cX10_cross 117 = .ok (.getfield 107, 3) := by decide +kernel
theorem dX10_cross_120 : decode cX10_cross 120 = .ok (.invokevirtual 104, 3) := by decide +kernel
theorem dX10_cross_123 : decode cX10_cross 123 = .ok (.aload_n 0, 1) := by decide +kernel
theorem dX10_cross_124 : decode cX10_cross 124 = .ok (.aload_n 0, 1) := by decide +kernel
theorem dX10_cross_125 : decode cX10_cross 125 = .ok (.getfield 119, 3) := by decide +kernel
theorem dX10_cross_128 : decode cX10_cross 128 = .ok (.invokevirtual 104, 3) := by decide +kernel
theorem dX10_cross_131 : decode cX10_cross 131 = .ok (.isub, 1) := by decide +kernel
theorem dX10_cross_132 : decode cX10_cross 132 = .ok (.ireturn, 1) := by decide +kernel
theorem dX10_cross_133 : decode cX10_cross 133 = .ok (.iconst (-1), 1) := by decide +kernel
theorem dX10_cross_134 : decode cX10_cross 134 = .ok (.ireturn, 1) := by decide +kernel
theorem dX10_worst_0 : decode cX10_worst 0 = .ok (.iload_n 1, 1) := by decide +kernel
theorem dX10_worst_1 : decode cX10_worst 1 = .ok (.iconst 0, 1) := by decide +kernel
theorem dX10_worst_2 : decode cX10_worst 2 = .ok (.sipush 400, 3) := by decide +kernel
theorem dX10_worst_5 : decode cX10_worst 5 = .ok (.invokestatic 46, 3) := by decide +kernel
theorem dX10_worst_8 : decode cX10_worst 8 = .ok (.ifCond .ne 5, 3) := by decide +kernel
theorem dX10_worst_11 : decode cX10_worst 11 = .ok (.iconst (-1), 1) := by decide +kernel
theorem dX10_worst_12 : decode cX10_worst 12 = .ok (.ireturn, 1) := by decide +kernel
theorem dX10_worst_13 : decode cX10_worst 13 = .ok (.iconst (-1), 1) := by decide +kernel
theorem dX10_worst_14 : decode cX10_worst 14 = .ok (.istore_n 2, 1) := by decide +kernel
theorem dX10_worst_15 : decode cX10_worst 15 = .ok (.iconst 0, 1) := by decide +kernel
theorem dX10_worst_16 : decode cX10_worst 16 = .ok (.istore_n 3, 1) := by decide +kernel
theorem dX10_worst_17 : decode cX10_worst 17 = .ok (.iconst 0, 1) := by decide +kernel
theorem dX10_worst_18 : decode cX10_worst 18 = .ok (.istore 4, 2) := by decide +kernel
theorem dX10_worst_20 : decode cX10_worst 20 = .ok (.iload 4, 2) := by decide +kernel
theorem dX10_worst_22 : decode cX10_worst 22 = .ok (.aload_n 0, 1) := by decide +kernel
theorem dX10_worst_23 : decode cX10_worst 23 = .ok (.getfield 7, 3) := by decide +kernel
theorem dX10_worst_26 : decode cX10_worst 26 = .ok (.iconst 0, 1) := by decide +kernel
theorem dX10_worst_27 : decode cX10_worst 27 = .ok (.iaload, 1) := by decide +kernel
theorem dX10_worst_28 : decode cX10_worst 28 = .ok (.if_icmp .ge 145, 3) := by decide +kernel
theorem dX10_worst_31 : decode cX10_worst 31 = .ok (.iconst 0, 1) := by decide +kernel
theorem dX10_worst_32 : decode cX10_worst 32 = .ok (.istore 5, 2) := by decide +kernel
theorem dX10_worst_34 : decode cX10_worst 34 = .ok (.iconst 0, 1) := by decide +kernel
theorem dX10_worst_35 : decode cX10_worst 35 = .ok (.istore 6, 2) := by decide +kernel
theorem dX10_worst_37 : decode cX10_worst 37 = .ok (.iconst 0, 1) := by decide +kernel
theorem dX10_worst_38 : decode cX10_worst 38 = .ok (.istore 7, 2) := by decide +kernel
theorem dX10_worst_40 : decode cX10_worst 40 = .ok (.iload 7, 2) := by decide +kernel
theorem dX10_worst_42 : decode cX10_worst 42 = .ok (.aload_n 0, 1) := by decide +kernel
theorem dX10_worst_43 : decode cX10_worst 43 = .ok (.getfield 7, 3) := by decide +kernel
theorem dX10_worst_46 : decode cX10_worst 46 = .ok (.iconst 0, 1) := by decide +kernel
theorem dX10_worst_47 : decode cX10_worst 47 = .ok (.iaload, 1) := by decide +kernel
theorem dX10_worst_48 : decode cX10_worst 48 = .ok (.if_icmp .ge 95, 3) := by decide +kernel
theorem dX10_worst_51 : decode cX10_worst 51 = .ok (.iload 7, 2) := by decide +kernel
theorem dX10_worst_53 : decode cX10_worst 53 = .ok (.iload 4, 2) := by decide +kernel
theorem dX10_worst_55 : decode cX10_worst 55 = .ok (.if_icmp .eq 82, 3) := by decide +kernel
theorem dX10_worst_58 : decode cX10_worst 58 = .ok (.aload_n 0, 1) := by decide +kernel
theorem dX10_worst_59 : decode cX10_worst 59 = .ok (.iload 7, 2) := by decide +kernel
theorem dX10_worst_61 : decode cX10_worst 61 = .ok (.iload 4, 2) := by decide +kernel
theorem dX10_worst_63 : decode cX10_worst 63 = .ok (.if_icmp .ge 8, 3) := by decide +kernel
theorem dX10_worst_66 : decode cX10_worst 66 = .ok (.iload 7, 2) := by decide +kernel
theorem dX10_worst_68 : decode cX10_worst 68 = .ok (.goto 5, 3) := by decide +kernel
theorem dX10_worst_71 : decode cX10_worst 71 = .ok (.iload 4, 2) := by decide +kernel
theorem dX10_worst_73 : decode cX10_worst 73 = .ok (.iload 7, 2) := by decide +kernel
theorem dX10_worst_75 : decode cX10_worst 75 = .ok (.iload 4, 2) := by decide +kernel
theorem dX10_worst_77 : decode cX10_worst 77 = .ok (.if_icmp .ge 8, 3) := by decide +kernel
theorem dX10_worst_80 : decode cX10_worst 80 = .ok (.iload 4, 2) := by decide +kernel
theorem dX10_worst_82 : decode cX10_worst 82 = .ok (.goto 5, 3) := by decide +kernel
theorem dX10_worst_85 : decode cX10_worst 85 = .ok (.iload 7, 2) := by decide +kernel
theorem dX10_worst_87 : decode cX10_worst 87 = .ok (.iload_n 1, 1) := by decide +kernel
theorem dX10_worst_88 : decode cX10_worst 88 = .ok (.invokevirtual 122, 3) := by decide +kernel
theorem dX10_worst_91 : decode cX10_worst 91 = .ok (.ifCond .ne 6, 3) := by decide +kernel
theorem dX10_worst_94 : decode cX10_worst 94 = .ok (.goto 43, 3) := by decide +kernel
theorem dX10_worst_97 : decode cX10_worst 97 = .ok (.aload_n 0, 1) := by decide +kernel
theorem dX10_worst_98 : decode cX10_worst 98 = .ok (.aload_n 0, 1) := by decide +kernel
theorem dX10_worst_99 : decode cX10_worst 99 = .ok (.getfield 107, 3) := by decide +kernel
theorem dX10_worst_102 : decode cX10_worst 102 = .ok (.invokevirtual 104, 3) := by decide +kernel
theorem dX10_worst_105 : decode cX10_worst 105 = .ok (.aload_n 0, 1) := by decide +kernel
theorem dX10_worst_106 : decode cX10_worst 106 = .ok (.aload_n 0, 1) := by decide +kernel
theorem dX10_worst_107 : decode cX10_worst 107 = .ok (.getfield 119, 3) := by decide +kernel
theorem dX10_worst_110 : decode cX10_worst 110 = .ok (.invokevirtual 104, 3) := by decide +kernel
theorem dX10_worst_113 : decode cX10_worst 113 = .ok (.isub, 1) := by decide +kernel
theorem dX10_worst_114 : decode cX10_worst 114 = .ok (.istore 8, 2) := by decide +kernel
theorem dX10_worst_116 : decode cX10_worst 116 = .ok (.iload 5, 2) := by decide +kernel
theorem dX10_worst_118 : decode cX10_worst 118 = .ok (.iload 8, 2) := by decide +kernel
theorem dX10_worst_120 : decode cX10_worst 120 = .ok (.ifCond .ge 9, 3) := by decide +kernel
theorem dX10_worst_123 : decode cX10_worst 123 = .ok (.iload 8, 2) := by decide +kernel
theorem dX10_worst_125 : decode cX10_worst 125 = .ok (.ineg, 1) := by decide +kernel
theorem dX10_worst_126 : decode cX10_worst 126 = .ok (.goto 5, 3) := by decide +kernel
theorem dX10_worst_129 : decode cX10_worst 129 = .ok (.iload 8, 2) := by decide +kernel
theorem dX10_worst_131 : decode cX10_worst 131 = .ok (.iadd, 1) := by decide +kernel
theorem dX10_worst_132 : decode cX10_worst 132 = .ok (.istore 5, 2) := by decide +kernel
theorem dX10_worst_134 : decode cX10_worst 134 = .ok (.iconst 1, 1) := by decide +kernel
theorem dX10_worst_135 : decode cX10_worst 135 = .ok (.istore 6, 2) := by decide +kernel
theorem dX10_worst_137 : decode cX10_worst 137 = .ok (.iinc 7 1, 3) := by decide +kernel
theorem dX10_worst_140 : decode cX10_worst 140 = .ok (.goto (-100), 3) := by decide +kernel
theorem dX10_worst_143 : decode cX10_worst 143 = .ok (.iload 6, 2) := by decide +kernel
theorem dX10_worst_145 : decode cX10_worst 145 = .ok (.ifCond .eq 22, 3) := by decide +kernel
theorem dX10_worst_148 : decode cX10_worst 148 = .ok (.iload_n 2, 1) := by decide +kernel
theorem dX10_worst_149 : decode cX10_worst 149 = .ok (.ifCond .lt 12, 3) := by decide +kernel
theorem dX10_worst_152 : decode cX10_worst 152 = .ok (.iload 5, 2) := by decide +kernel
theorem dX10_worst_154 : decode cX10_worst 154 = .ok (.iload_n 3, 1) := by decide +kernel
theorem dX10_worst_155 : decode cX10_worst 155 = .ok (.if_icmp .gt 6, 3) := by decide +kernel
theorem dX10_worst_158 : decode cX10_worst 158 = .ok (.goto 9, 3) := by decide +kernel
theorem dX10_worst_161 : decode cX10_worst 161 = .ok (.iload 4, 2) := by decide +kernel
theorem dX10_worst_163 : decode cX10_worst 163 = .ok (.istore_n 2, 1) := by decide +kernel
theorem dX10_worst_164 : decode cX10_worst 164 = .ok (.iload 5, 2) := by decide +kernel
theorem dX10_worst_166 : decode cX10_worst 166 = .ok (.istore_n 3, 1) := by decide +kernel
theorem dX10_worst_167 : decode cX10_worst 167 = .ok (.iinc 4 1, 3) := by decide +kernel
theorem dX10_worst_170 : decode cX10_worst 170 = .ok (.goto (-150), 3) := by decide +kernel
theorem dX10_worst_173 : decode cX10_worst 173 = .ok (.iload_n 2, 1) := by decide +kernel
theorem dX10_worst_174 : decode cX10_worst 174 = .ok (.ireturn, 1) := by decide +kernel
theorem dX10_squareOf_0 : decode cX10_squareOf 0 = .ok (.bipush 16, 2) := by decide +kernel
theorem dX10_squareOf_2 : decode cX10_squareOf 2 = .ok (.iload_n 1, 1) := by decide +kernel
theorem dX10_squareOf_3 : decode cX10_squareOf 3 = .ok (.bipush 16, 2) := by decide +kernel
theorem dX10_squareOf_5 : decode cX10_squareOf 5 = .ok (.idiv, 1) := by decide +kernel
theorem dX10_squareOf_6 : decode cX10_squareOf 6 = .ok (.imul, 1) := by decide +kernel
theorem dX10_squareOf_7 : decode cX10_squareOf 7 = .ok (.iload_n 0, 1) := by decide +kernel
theorem dX10_squareOf_8 : decode cX10_squareOf 8 = .ok (.bipush 16, 2) := by decide +kernel
theorem dX10_squareOf_10 : decode cX10_squareOf 10 = .ok (.idiv, 1) := by decide +kernel
theorem dX10_squareOf_11 : decode cX10_squareOf 11 = .ok (.iadd, 1) := by decide +kernel
theorem dX10_squareOf_12 : decode cX10_squareOf 12 = .ok (.ireturn, 1) := by decide +kernel
theorem dX10_isFound_0 : decode cX10_isFound 0 = .ok (.aload_n 0, 1) := by decide +kernel
theorem dX10_isFound_1 : decode cX10_isFound 1 = .ok (.iload_n 1, 1) := by decide +kernel
theorem dX10_isFound_2 : decode cX10_isFound 2 = .ok (.iconst 0, 1) := by decide +kernel
theorem dX10_isFound_3 : decode cX10_isFound 3 = .ok (.invokevirtual 96, 3) := by decide +kernel
theorem dX10_isFound_6 : decode cX10_isFound 6 = .ok (.iconst 2, 1) := by decide +kernel
theorem dX10_isFound_7 : decode cX10_isFound 7 = .ok (.if_icmp .eq 43, 3) := by decide +kernel
theorem dX10_isFound_10 : decode cX10_isFound 10 = .ok (.aload_n 0, 1) := by decide +kernel
theorem dX10_isFound_11 : decode cX10_isFound 11 = .ok (.iload_n 1, 1) := by decide +kernel
theorem dX10_isFound_12 : decode cX10_isFound 12 = .ok (.iconst 1, 1) := by decide +kernel
theorem dX10_isFound_13 : decode cX10_isFound 13 = .ok (.invokevirtual 96, 3) := by decide +kernel
theorem dX10_isFound_16 : decode cX10_isFound 16 = .ok (.aload_n 0, 1) := by decide +kernel
theorem dX10_isFound_17 : decode cX10_isFound 17 = .ok (.iload_n 1, 1) := by decide +kernel
theorem dX10_isFound_18 : decode cX10_isFound 18 = .ok (.iconst 2, 1) := by decide +kernel
theorem dX10_isFound_19 : decode cX10_isFound 19 = .ok (.invokevirtual 96, 3) := by decide +kernel
theorem dX10_isFound_22 : decode cX10_isFound 22 = .ok (.invokestatic 125, 3) := by decide +kernel
theorem dX10_isFound_25 : decode cX10_isFound 25 = .ok (.iload_n 3, 1) := by decide +kernel
theorem dX10_isFound_26 : decode cX10_isFound 26 = .ok (.if_icmp .ne 24, 3) := by decide +kernel
theorem dX10_isFound_29 : decode cX10_isFound 29 = .ok (.aload_n 0, 1) := by decide +kernel
theorem dX10_isFound_30 : decode cX10_isFound 30 = .ok (.iload_n 1, 1) := by decide +kernel
theorem dX10_isFound_31 : decode cX10_isFound 31 = .ok (.iload_n 2, 1) := by decide +kernel
theorem dX10_isFound_32 : decode cX10_isFound 32 = .ok (.invokevirtual 128, 3) := by decide +kernel
theorem dX10_isFound_35 : decode cX10_isFound 35 = .ok (.ifCond .eq 15, 3) := by decide +kernel
theorem dX10_isFound_38 : decode cX10_isFound 38 = .ok (.aload_n 0, 1) := by decide +kernel
theorem dX10_isFound_39 : decode cX10_isFound 39 = .ok (.iload_n 1, 1) := by decide +kernel
theorem dX10_isFound_40 : decode cX10_isFound 40 = .ok (.invokevirtual 101, 3) := by decide +kernel
theorem dX10_isFound_43 : decode cX10_isFound 43 = .ok (.ifCond .ne 7, 3) := by decide +kernel
theorem dX10_isFound_46 : decode cX10_isFound 46 = .ok (.iconst 1, 1) := by decide +kernel
theorem dX10_isFound_47 : decode cX10_isFound 47 = .ok (.goto 4, 3) := by decide +kernel
theorem dX10_isFound_50 : decode cX10_isFound 50 = .ok (.iconst 0, 1) := by decide +kernel
theorem dX10_isFound_51 : decode cX10_isFound 51 = .ok (.ireturn, 1) := by decide +kernel
theorem dX10_hasPlace_0 : decode cX10_hasPlace 0 = .ok (.iload_n 2, 1) := by decide +kernel
theorem dX10_hasPlace_1 : decode cX10_hasPlace 1 = .ok (.aload_n 0, 1) := by decide +kernel
theorem dX10_hasPlace_2 : decode cX10_hasPlace 2 = .ok (.iload_n 1, 1) := by decide +kernel
theorem dX10_hasPlace_3 : decode cX10_hasPlace 3 = .ok (.iconst 1, 1) := by decide +kernel
theorem dX10_hasPlace_4 : decode cX10_hasPlace 4 = .ok (.invokevirtual 96, 3) := by decide +kernel
theorem dX10_hasPlace_7 : decode cX10_hasPlace 7 = .ok (.if_icmp .lt 53, 3) := by decide +kernel
theorem dX10_hasPlace_10 : decode cX10_hasPlace 10 = .ok (.iload_n 2, 1) := by decide +kernel
theorem dX10_hasPlace_11 : decode cX10_hasPlace 11 = .ok (.aload_n 0, 1) := by decide +kernel
theorem dX10_hasPlace_12 : decode cX10_hasPlace 12 = .ok (.iload_n 1, 1) := by decide +kernel
theorem dX10_hasPlace_13 : decode cX10_hasPlace 13 = .ok (.iconst 1, 1) := by decide +kernel
theorem dX10_hasPlace_14 : decode cX10_hasPlace 14 = .ok (.invokevirtual 96, 3) := by decide +kernel
theorem dX10_hasPlace_17 : decode cX10_hasPlace 17 = .ok (.aload_n 0, 1) := by decide +kernel
theorem dX10_hasPlace_18 : decode cX10_hasPlace 18 = .ok (.iload_n 1, 1) := by decide +kernel
theorem dX10_hasPlace_19 : decode cX10_hasPlace 19 = .ok (.bipush 8, 2) := by decide +kernel
theorem dX10_hasPlace_21 : decode cX10_hasPlace 21 = .ok (.invokevirtual 96, 3) := by decide +kernel
theorem dX10_hasPlace_24 : decode cX10_hasPlace 24 = .ok (.iadd, 1) := by decide +kernel
theorem dX10_hasPlace_25 : decode cX10_hasPlace 25 = .ok (.if_icmp .ge 35, 3) := by decide +kernel
theorem dX10_hasPlace_28 : decode cX10_hasPlace 28 = .ok (.iload_n 3, 1) := by decide +kernel
theorem dX10_hasPlace_29 : decode cX10_hasPlace 29 = .ok (.aload_n 0, 1) := by decide +kernel
theorem dX10_hasPlace_30 : decode cX10_hasPlace 30 = .ok (.iload_n 1, 1) := by decide +kernel
theorem dX10_hasPlace_31 : decode cX10_hasPlace 31 = .ok (.iconst 2, 1) := by decide +kernel
theorem dX10_hasPlace_32 : decode cX10_hasPlace 32 = .ok (.invokevirtual 96, 3) := by decide +kernel
theorem dX10_hasPlace_35 : decode cX10_hasPlace 35 = .ok (.if_icmp .lt 25, 3) := by decide +kernel
theorem dX10_hasPlace_38 : decode cX10_hasPlace 38 = .ok (.iload_n 3, 1) := by decide +kernel
theorem dX10_hasPlace_39 : decode cX10_hasPlace 39 = .ok (.aload_n 0, 1) := by decide +kernel
theorem dX10_hasPlace_40 : decode cX10_hasPlace 40 = .ok (.iload_n 1, 1) := by decide +kernel
theorem dX10_hasPlace_41 : decode cX10_hasPlace 41 = .ok (.iconst 2, 1) := by decide +kernel
theorem dX10_hasPlace_42 : decode cX10_hasPlace 42 = .ok (.invokevirtual 96, 3) := by decide +kernel
theorem dX10_hasPlace_45 : decode cX10_hasPlace 45 = .ok (.aload_n 0, 1) := by decide +kernel
theorem dX10_hasPlace_46 : decode cX10_hasPlace 46 = .ok (.iload_n 1, 1) := by decide +kernel
theorem dX10_hasPlace_47 : decode cX10_hasPlace 47 = .ok (.bipush 9, 2) := by decide +kernel
theorem dX10_hasPlace_49 : decode cX10_hasPlace 49 = .ok (.invokevirtual 96, 3) := by decide +kernel
theorem dX10_hasPlace_52 : decode cX10_hasPlace 52 = .ok (.iadd, 1) := by decide +kernel
theorem dX10_hasPlace_53 : decode cX10_hasPlace 53 = .ok (.if_icmp .ge 7, 3) := by decide +kernel
theorem dX10_hasPlace_56 : decode cX10_hasPlace 56 = .ok (.iconst 1, 1) := by decide +kernel
theorem dX10_hasPlace_57 : decode cX10_hasPlace 57 = .ok (.goto 4, 3) := by decide +kernel
theorem dX10_hasPlace_60 : decode cX10_hasPlace 60 = .ok (.iconst 0, 1) := by decide +kernel
theorem dX10_hasPlace_61 : decode cX10_hasPlace 61 = .ok (.ireturn, 1) := by decide +kernel
theorem dX10_isSwept_0 : decode cX10_isSwept 0 = .ok (.aload_n 0, 1) := by decide +kernel
theorem dX10_isSwept_1 : decode cX10_isSwept 1 = .ok (.iload_n 1, 1) := by decide +kernel
theorem dX10_isSwept_2 : decode cX10_isSwept 2 = .ok (.iconst 0, 1) := by decide +kernel
theorem dX10_isSwept_3 : decode cX10_isSwept 3 = .ok (.invokevirtual 96, 3) := by decide +kernel
theorem dX10_isSwept_6 : decode cX10_isSwept 6 = .ok (.iconst 2, 1) := by decide +kernel
theorem dX10_isSwept_7 : decode cX10_isSwept 7 = .ok (.if_icmp .ne 24, 3) := by decide +kernel
theorem dX10_isSwept_10 : decode cX10_isSwept 10 = .ok (.aload_n 0, 1) := by decide +kernel
theorem dX10_isSwept_11 : decode cX10_isSwept 11 = .ok (.iload_n 1, 1) := by decide +kernel
theorem dX10_isSwept_12 : decode cX10_isSwept 12 = .ok (.iload_n 2, 1) := by decide +kernel
theorem dX10_isSwept_13 : decode cX10_isSwept 13 = .ok (.invokevirtual 128, 3) := by decide +kernel
theorem dX10_isSwept_16 : decode cX10_isSwept 16 = .ok (.ifCond .eq 15, 3) := by decide +kernel
theorem dX10_isSwept_19 : decode cX10_isSwept 19 = .ok (.aload_n 0, 1) := by decide +kernel
theorem dX10_isSwept_20 : decode cX10_isSwept 20 = .ok (.iload_n 1, 1) := by decide +kernel
theorem dX10_isSwept_21 : decode cX10_isSwept 21 = .ok (.invokevirtual 101, 3) := by decide +kernel
theorem dX10_isSwept_24 : decode cX10_isSwept 24 = .ok (.ifCond .ne 7, 3) := by decide +kernel
theorem dX10_isSwept_27 : decode cX10_isSwept 27 = .ok (.iconst 1, 1) := by decide +kernel
theorem dX10_isSwept_28 : decode cX10_isSwept 28 = .ok (.goto 4, 3) := by decide +kernel
theorem dX10_isSwept_31 : decode cX10_isSwept 31 = .ok (.iconst 0, 1) := by decide +kernel
theorem dX10_isSwept_32 : decode cX10_isSwept 32 = .ok (.ireturn, 1) := by decide +kernel
theorem dX10_isAlways_0 : decode cX10_isAlways 0 = .ok (.aload_n 0, 1) := by decide +kernel
theorem dX10_isAlways_1 : decode cX10_isAlways 1 = .ok (.iload_n 1, 1) := by decide +kernel
theorem dX10_isAlways_2 : decode cX10_isAlways 2 = .ok (.iconst 0, 1) := by decide +kernel
theorem dX10_isAlways_3 : decode cX10_isAlways 3 = .ok (.invokevirtual 96, 3) := by decide +kernel
theorem dX10_isAlways_6 : decode cX10_isAlways 6 = .ok (.iconst 3, 1) := by decide +kernel
theorem dX10_isAlways_7 : decode cX10_isAlways 7 = .ok (.if_icmp .eq 13, 3) := by decide +kernel
theorem dX10_isAlways_10 : decode cX10_isAlways 10 = .ok (.aload_n 0, 1) := by decide +kernel
theorem dX10_isAlways_11 : decode cX10_isAlways 11 = .ok (.iload_n 1, 1) := by decide +kernel
theorem dX10_isAlways_12 : decode cX10_isAlways 12 = .ok (.iconst 0, 1) := by decide +kernel
theorem dX10_isAlways_13 : decode cX10_isAlways 13 = .ok (.invokevirtual 96, 3) := by decide +kernel
theorem dX10_isAlways_16 : decode cX10_isAlways 16 = .ok (.iconst 4, 1) := by decide +kernel
theorem dX10_isAlways_17 : decode cX10_isAlways 17 = .ok (.if_icmp .ne 5, 3) := by decide +kernel
theorem dX10_isAlways_20 : decode cX10_isAlways 20 = .ok (.iconst 1, 1) := by decide +kernel
theorem dX10_isAlways_21 : decode cX10_isAlways 21 = .ok (.ireturn, 1) := by decide +kernel
theorem dX10_isAlways_22 : decode cX10_isAlways 22 = .ok (.iconst 0, 1) := by decide +kernel
theorem dX10_isAlways_23 : decode cX10_isAlways 23 = .ok (.istore_n 3, 1) := by decide +kernel
theorem dX10_isAlways_24 : decode cX10_isAlways 24 = .ok (.iload_n 3, 1) := by decide +kernel
theorem dX10_isAlways_25 : decode cX10_isAlways 25 = .ok (.aload_n 0, 1) := by decide +kernel
theorem dX10_isAlways_26 : decode cX10_isAlways 26 = .ok (.getfield 7, 3) := by decide +kernel
theorem dX10_isAlways_29 : decode cX10_isAlways 29 = .ok (.iconst 1, 1) := by decide +kernel
theorem dX10_isAlways_30 : decode cX10_isAlways 30 = .ok (.iaload, 1) := by decide +kernel
theorem dX10_isAlways_31 : decode cX10_isAlways 31 = .ok (.if_icmp .ge 68, 3) := by decide +kernel
theorem dX10_isAlways_34 : decode cX10_isAlways 34 = .ok (.aload_n 0, 1) := by decide +kernel
theorem dX10_isAlways_35 : decode cX10_isAlways 35 = .ok (.iload_n 3, 1) := by decide +kernel
theorem dX10_isAlways_36 : decode cX10_isAlways 36 = .ok (.iload_n 2, 1) := by decide +kernel
theorem dX10_isAlways_37 : decode cX10_isAlways 37 = .ok (.invokevirtual 131, 3) := by decide +kernel
theorem dX10_isAlways_40 : decode cX10_isAlways 40 = .ok (.ifCond .eq 53, 3) := by decide +kernel
theorem dX10_isAlways_43 : decode cX10_isAlways 43 = .ok (.aload_n 0, 1) := by decide +kernel
theorem dX10_isAlways_44 : decode cX10_isAlways 44 = .ok (.iload_n 3, 1) := by decide +kernel
theorem dX10_isAlways_45 : decode cX10_isAlways 45 = .ok (.iconst 4, 1) := by decide +kernel
theorem dX10_isAlways_46 : decode cX10_isAlways 46 = .ok (.invokevirtual 96, 3) := by decide +kernel
theorem dX10_isAlways_49 : decode cX10_isAlways 49 = .ok (.aload_n 0, 1) := by decide +kernel
theorem dX10_isAlways_50 : decode cX10_isAlways 50 = .ok (.iload_n 1, 1) := by decide +kernel
theorem dX10_isAlways_51 : decode cX10_isAlways 51 = .ok (.iconst 4, 1) := by decide +kernel
theorem dX10_isAlways_52 : decode cX10_isAlways 52 = .ok (.invokevirtual 96, 3) := by decide +kernel
theorem dX10_isAlways_55 : decode cX10_isAlways 55 = .ok (.if_icmp .ge 38, 3) := by decide +kernel
theorem dX10_isAlways_58 : decode cX10_isAlways 58 = .ok (.aload_n 0, 1) := by decide +kernel
theorem dX10_isAlways_59 : decode cX10_isAlways 59 = .ok (.iload_n 3, 1) := by decide +kernel
theorem dX10_isAlways_60 : decode cX10_isAlways 60 = .ok (.aload_n 0, 1) := by decide +kernel
theorem dX10_isAlways_61 : decode cX10_isAlways 61 = .ok (.iload_n 1, 1) := by decide +kernel
theorem dX10_isAlways_62 : decode cX10_isAlways 62 = .ok (.iconst 1, 1) := by decide +kernel
theorem dX10_isAlways_63 : decode cX10_isAlways 63 = .ok (.invokevirtual 96, 3) := by decide +kernel
theorem dX10_isAlways_66 : decode cX10_isAlways 66 = .ok (.aload_n 0, 1) := by decide +kernel
theorem dX10_isAlways_67 : decode cX10_isAlways 67 = .ok (.iload_n 1, 1) := by decide +kernel
theorem dX10_isAlways_68 : decode cX10_isAlways 68 = .ok (.iconst 2, 1) := by decide +kernel
theorem dX10_isAlways_69 : decode cX10_isAlways 69 = .ok (.invokevirtual 96, 3) := by decide +kernel
theorem dX10_isAlways_72 : decode cX10_isAlways 72 = .ok (.invokevirtual 134, 3) := by decide +kernel
theorem dX10_isAlways_75 : decode cX10_isAlways 75 = .ok (.ifCond .eq 18, 3) := by decide +kernel
theorem dX10_isAlways_78 : decode cX10_isAlways 78 = .ok (.aload_n 0, 1) := by decide +kernel
theorem dX10_isAlways_79 : decode cX10_isAlways 79 = .ok (.iload_n 1, 1) := by decide +kernel
theorem dX10_isAlways_80 : decode cX10_isAlways 80 = .ok (.invokevirtual 104, 3) := by decide +kernel
theorem dX10_isAlways_83 : decode cX10_isAlways 83 = .ok (.aload_n 0, 1) := by decide +kernel
theorem dX10_isAlways_84 : decode cX10_isAlways 84 = .ok (.iload_n 3, 1) := by decide +kernel
theorem dX10_isAlways_85 : decode cX10_isAlways 85 = .ok (.invokevirtual 104, 3) := by decide +kernel
theorem dX10_isAlways_88 : decode cX10_isAlways 88 = .ok (.if_icmp .ge 5, 3) := by decide +kernel
theorem dX10_isAlways_91 : decode cX10_isAlways 91 = .ok (.iconst 1, 1) := by decide +kernel
theorem dX10_isAlways_92 : decode cX10_isAlways 92 = .ok (.ireturn, 1) := by decide +kernel
theorem dX10_isAlways_93 : decode cX10_isAlways 93 = .ok (.iinc 3 1, 3) := by decide +kernel
theorem dX10_isAlways_96 : decode cX10_isAlways 96 = .ok (.goto (-72), 3) := by decide +kernel
theorem dX10_isAlways_99 : decode cX10_isAlways 99 = .ok (.iconst 0, 1) := by decide +kernel
theorem dX10_isAlways_100 : decode cX10_isAlways 100 = .ok (.ireturn, 1) := by decide +kernel
theorem dX10_isListed_0 : decode cX10_isListed 0 = .ok (.iconst 0, 1) := by decide +kernel
theorem dX10_isListed_1 : decode cX10_isListed 1 = .ok (.istore_n 2, 1) := by decide +kernel
theorem dX10_isListed_2 : decode cX10_isListed 2 = .ok (.iconst 0, 1) := by decide +kernel
theorem dX10_isListed_3 : decode cX10_isListed 3 = .ok (.istore_n 3, 1) := by decide +kernel
theorem dX10_isListed_4 : decode cX10_isListed 4 = .ok (.iload_n 3, 1) := by decide +kernel
theorem dX10_isListed_5 : decode cX10_isListed 5 = .ok (.aload_n 0, 1) := by decide +kernel
theorem dX10_isListed_6 : decode cX10_isListed 6 = .ok (.getfield 137, 3) := by decide +kernel
theorem dX10_isListed_9 : decode cX10_isListed 9 = .ok (.if_icmp .ge 29, 3) := by decide +kernel
theorem dX10_isListed_12 : decode cX10_isListed 12 = .ok (.iload_n 2, 1) := by decide +kernel
theorem dX10_isListed_13 : decode cX10_isListed 13 = .ok (.ifCond .ne 25, 3) := by decide +kernel
theorem dX10_isListed_16 : decode cX10_isListed 16 = .ok (.aload_n 0, 1) := by decide +kernel
theorem dX10_isListed_17 : decode cX10_isListed 17 = .ok (.getfield 20, 3) := by decide +kernel
theorem dX10_isListed_20 : decode cX10_isListed 20 = .ok (.iload_n 3, 1) := by decide +kernel
theorem dX10_isListed_21 : decode cX10_isListed 21 = .ok (.iaload, 1) := by decide +kernel
theorem dX10_isListed_22 : decode cX10_isListed 22 = .ok (.iload_n 1, 1) := by decide +kernel
theorem dX10_isListed_23 : decode cX10_isListed 23 = .ok (.if_icmp .ne 7, 3) := by decide +kernel
theorem dX10_isListed_26 : decode cX10_isListed 26 = .ok (.iconst 1, 1) := by decide +kernel
theorem dX10_isListed_27 : decode cX10_isListed 27 = .ok (.goto 4, 3) := by decide +kernel
theorem dX10_isListed_30 : decode cX10_isListed 30 = .ok (.iconst 0, 1) := by decide +kernel
theorem dX10_isListed_31 : decode cX10_isListed 31 = .ok (.istore_n 2, 1) := by decide +kernel
theorem dX10_isListed_32 : decode cX10_isListed 32 = .ok (.iinc 3 1, 3) := by decide +kernel
theorem dX10_isListed_35 : decode cX10_isListed 35 = .ok (.goto (-31), 3) := by decide +kernel
theorem dX10_isListed_38 : decode cX10_isListed 38 = .ok (.iload_n 2, 1) := by decide +kernel
theorem dX10_isListed_39 : decode cX10_isListed 39 = .ok (.ireturn, 1) := by decide +kernel
theorem dX10_lists_0 : decode cX10_lists 0 = .ok (.aload_n 0, 1) := by decide +kernel
theorem dX10_lists_1 : decode cX10_lists 1 = .ok (.getfield 20, 3) := by decide +kernel
theorem dX10_lists_4 : decode cX10_lists 4 = .ok (.aload_n 0, 1) := by decide +kernel
theorem dX10_lists_5 : decode cX10_lists 5 = .ok (.getfield 137, 3) := by decide +kernel
theorem dX10_lists_8 : decode cX10_lists 8 = .ok (.iload_n 1, 1) := by decide +kernel
theorem dX10_lists_9 : decode cX10_lists 9 = .ok (.iastore, 1) := by decide +kernel
theorem dX10_lists_10 : decode cX10_lists 10 = .ok (.aload_n 0, 1) := by decide +kernel
theorem dX10_lists_11 : decode cX10_lists 11 = .ok (.getfield 23, 3) := by decide +kernel
theorem dX10_lists_14 : decode cX10_lists 14 = .ok (.aload_n 0, 1) := by decide +kernel
theorem dX10_lists_15 : decode cX10_lists 15 = .ok (.getfield 137, 3) := by decide +kernel
theorem dX10_lists_18 : decode cX10_lists 18 = .ok (.iload_n 2, 1) := by decide +kernel
theorem dX10_lists_19 : decode cX10_lists 19 = .ok (.iastore, 1) := by decide +kernel
theorem dX10_lists_20 : decode cX10_lists 20 = .ok (.aload_n 0, 1) := by decide +kernel
theorem dX10_lists_21 : decode cX10_lists 21 = .ok (.dup, 1) := by decide +kernel
theorem dX10_lists_22 : decode cX10_lists 22 = .ok (.getfield 137, 3) := by decide +kernel
theorem dX10_lists_25 : decode cX10_lists 25 = .ok (.iconst 1, 1) := by decide +kernel
theorem dX10_lists_26 : decode cX10_lists 26 = .ok (.iadd, 1) := by decide +kernel
theorem dX10_lists_27 : decode cX10_lists 27 = .ok (.putfield 137, 3) := by decide +kernel
theorem dX10_lists_30 : decode cX10_lists 30 = .ok (.return_, 1) := by decide +kernel
theorem dX10_sheet_0 : decode cX10_sheet 0 = .ok (.aload_n 0, 1) := by decide +kernel
theorem dX10_sheet_1 : decode cX10_sheet 1 = .ok (.iconst 0, 1) := by decide +kernel
theorem dX10_sheet_2 : decode cX10_sheet 2 = .ok (.putfield 137, 3) := by decide +kernel
theorem dX10_sheet_5 : decode cX10_sheet 5 = .ok (.iconst (-1), 1) := by decide +kernel
theorem dX10_sheet_6 : decode cX10_sheet 6 = .ok (.istore 4, 2) := by decide +kernel
theorem dX10_sheet_8 : decode cX10_sheet 8 = .ok (.iconst 0, 1) := by decide +kernel
theorem dX10_sheet_9 : decode cX10_sheet 9 = .ok (.istore 5, 2) := by decide +kernel
theorem dX10_sheet_11 : decode cX10_sheet 11 = .ok (.iload 5, 2) := by decide +kernel
theorem dX10_sheet_13 : decode cX10_sheet 13 = .ok (.aload_n 0, 1) := by decide +kernel
theorem dX10_sheet_14 : decode cX10_sheet 14 = .ok (.getfield 7, 3) := by decide +kernel
theorem dX10_sheet_17 : decode cX10_sheet 17 = .ok (.iconst 1, 1) := by decide +kernel
theorem dX10_sheet_18 : decode cX10_sheet 18 = .ok (.iaload, 1) := by decide +kernel
theorem dX10_sheet_19 : decode cX10_sheet 19 = .ok (.if_icmp .ge 64, 3) := by decide +kernel
theorem dX10_sheet_22 : decode cX10_sheet 22 = .ok (.aload_n 0, 1) := by decide +kernel
theorem dX10_sheet_23 : decode cX10_sheet 23 = .ok (.iload 5, 2) := by decide +kernel
theorem dX10_sheet_25 : decode cX10_sheet 25 = .ok (.iload_n 1, 1) := by decide +kernel
theorem dX10_sheet_26 : decode cX10_sheet 26 = .ok (.iload_n 3, 1) := by decide +kernel
theorem dX10_sheet_27 : decode cX10_sheet 27 = .ok (.invokevirtual 140, 3) := by decide +kernel
theorem dX10_sheet_30 : decode cX10_sheet 30 = .ok (.ifCond .ne 6, 3) := by decide +kernel
theorem dX10_sheet_33 : decode cX10_sheet 33 = .ok (.goto 44, 3) := by decide +kernel
theorem dX10_sheet_36 : decode cX10_sheet 36 = .ok (.aload_n 0, 1) := by decide +kernel
theorem dX10_sheet_37 : decode cX10_sheet 37 = .ok (.iload 5, 2) := by decide +kernel
theorem dX10_sheet_39 : decode cX10_sheet 39 = .ok (.iload_n 1, 1) := by decide +kernel
theorem dX10_sheet_40 : decode cX10_sheet 40 = .ok (.invokevirtual 143, 3) := by decide +kernel
theorem dX10_sheet_43 : decode cX10_sheet 43 = .ok (.ifCond .eq 10, 3) := by decide +kernel
theorem dX10_sheet_46 : decode cX10_sheet 46 = .ok (.aload_n 0, 1) := by decide +kernel
theorem dX10_sheet_47 : decode cX10_sheet 47 = .ok (.iload 5, 2) := by decide +kernel
theorem dX10_sheet_49 : decode cX10_sheet 49 = .ok (.iconst 0, 1) := by decide +kernel
theorem dX10_sheet_50 : decode cX10_sheet 50 = .ok (.invokevirtual 146, 3) := by decide +kernel
theorem dX10_sheet_53 : decode cX10_sheet 53 = .ok (.iload 4, 2) := by decide +kernel
theorem dX10_sheet_55 : decode cX10_sheet 55 = .ok (.ifCond .lt 18, 3) := by decide +kernel
theorem dX10_sheet_58 : decode cX10_sheet 58 = .ok (.aload_n 0, 1) := by decide +kernel
theorem dX10_sheet_59 : decode cX10_sheet 59 = .ok (.iload 5, 2) := by decide +kernel
theorem dX10_sheet_61 : decode cX10_sheet 61 = .ok (.invokevirtual 104, 3) := by decide +kernel
theorem dX10_sheet_64 : decode cX10_sheet 64 = .ok (.aload_n 0, 1) := by decide +kernel
theorem dX10_sheet_65 : decode cX10_sheet 65 = .ok (.iload 4, 2) := by decide +kernel
theorem dX10_sheet_67 : decode cX10_sheet 67 = .ok (.invokevirtual 104, 3) := by decide +kernel
theorem dX10_sheet_70 : decode cX10_sheet 70 = .ok (.if_icmp .ge 7, 3) := by decide +kernel
theorem dX10_sheet_73 : decode cX10_sheet 73 = .ok (.iload 5, 2) := by decide +kernel
theorem dX10_sheet_75 : decode cX10_sheet 75 = .ok (.istore 4, 2) := by decide +kernel
theorem dX10_sheet_77 : decode cX10_sheet 77 = .ok (.iinc 5 1, 3) := by decide +kernel
theorem dX10_sheet_80 : decode cX10_sheet 80 = .ok (.goto (-69), 3) := by decide +kernel
theorem dX10_sheet_83 : decode cX10_sheet 83 = .ok (.iload 4, 2) := by decide +kernel
theorem dX10_sheet_85 : decode cX10_sheet 85 = .ok (.ifCond .ge 4, 3) := by decide +kernel
theorem dX10_sheet_88 : decode cX10_sheet 88 = .ok (.return_, 1) := by decide +kernel
theorem dX10_sheet_89 : decode cX10_sheet 89 = .ok (.aload_n 0, 1) := by decide +kernel
theorem dX10_sheet_90 : decode cX10_sheet 90 = .ok (.iload 4, 2) := by decide +kernel
theorem dX10_sheet_92 : decode cX10_sheet 92 = .ok (.invokevirtual 150, 3) := by decide +kernel
theorem dX10_sheet_95 : decode cX10_sheet 95 = .ok (.ifCond .ne 10, 3) := by decide +kernel
theorem dX10_sheet_98 : decode cX10_sheet 98 = .ok (.aload_n 0, 1) := by decide +kernel
theorem dX10_sheet_99 : decode cX10_sheet 99 = .ok (.iload 4, 2) := by decide +kernel
theorem dX10_sheet_101 : decode cX10_sheet 101 = .ok (.iconst 1, 1) := by decide +kernel
theorem dX10_sheet_102 : decode cX10_sheet 102 = .ok (.invokevirtual 146, 3) := by decide +kernel
theorem dX10_sheet_105 : decode cX10_sheet 105 = .ok (.iconst 1, 1) := by decide +kernel
theorem dX10_sheet_106 : decode cX10_sheet 106 = .ok (.istore 5, 2) := by decide +kernel
theorem dX10_sheet_108 : decode cX10_sheet 108 = .ok (.iload 5, 2) := by decide +kernel
theorem dX10_sheet_110 : decode cX10_sheet 110 = .ok (.ifCond .eq 180, 3) := by decide +kernel
theorem dX10_sheet_113 : decode cX10_sheet 113 = .ok (.aload_n 0, 1) := by decide +kernel
theorem dX10_sheet_114 : decode cX10_sheet 114 = .ok (.getfield 137, 3) := by decide +kernel
theorem dX10_sheet_117 : decode cX10_sheet 117 = .ok (.iload_n 2, 1) := by decide +kernel
theorem dX10_sheet_118 : decode cX10_sheet 118 = .ok (.if_icmp .ge 172, 3) := by decide +kernel
theorem dX10_sheet_121 : decode cX10_sheet 121 = .ok (.iconst (-1), 1) := by decide +kernel
theorem dX10_sheet_122 : decode cX10_sheet 122 = .ok (.istore 6, 2) := by decide +kernel
theorem dX10_sheet_124 : decode cX10_sheet 124 = .ok (.iconst 0, 1) := by decide +kernel
theorem dX10_sheet_125 : decode cX10_sheet 125 = .ok (.istore 7, 2) := by decide +kernel
theorem dX10_sheet_127 : decode cX10_sheet 127 = .ok (.iconst 0, 1) := by decide +kernel
theorem dX10_sheet_128 : decode cX10_sheet 128 = .ok (.istore 8, 2) := by decide +kernel
theorem dX10_sheet_130 : decode cX10_sheet 130 = .ok (.iload 8, 2) := by decide +kernel
theorem dX10_sheet_132 : decode cX10_sheet 132 = .ok (.aload_n 0, 1) := by decide +kernel
theorem dX10_sheet_133 : decode cX10_sheet 133 = .ok (.getfield 7, 3) := by decide +kernel
theorem dX10_sheet_136 : decode cX10_sheet 136 = .ok (.iconst 1, 1) := by decide +kernel
theorem dX10_sheet_137 : decode cX10_sheet 137 = .ok (.iaload, 1) := by decide +kernel
theorem dX10_sheet_138 : decode cX10_sheet 138 = .ok (.if_icmp .ge 125, 3) := by decide +kernel
theorem dX10_sheet_141 : decode cX10_sheet 141 = .ok (.aload_n 0, 1) := by decide +kernel
theorem dX10_sheet_142 : decode cX10_sheet 142 = .ok (.iload 8, 2) := by decide +kernel
theorem dX10_sheet_144 : decode cX10_sheet 144 = .ok (.iload_n 1, 1) := by decide +kernel
theorem dX10_sheet_145 : decode cX10_sheet 145 = .ok (.iload_n 3, 1) := by decide +kernel
theorem dX10_sheet_146 : decode cX10_sheet 146 = .ok (.invokevirtual 140, 3) := by decide +kernel
theorem dX10_sheet_149 : decode cX10_sheet 149 = .ok (.ifCond .eq 108, 3) := by decide +kernel
theorem dX10_sheet_152 : decode cX10_sheet 152 = .ok (.aload_n 0, 1) := by decide +kernel
theorem dX10_sheet_153 : decode cX10_sheet 153 = .ok (.iload 8, 2) := by decide +kernel
theorem dX10_sheet_155 : decode cX10_sheet 155 = .ok (.invokevirtual 150, 3) := by decide +kernel
theorem dX10_sheet_158 : decode cX10_sheet 158 = .ok (.ifCond .eq 6, 3) := by decide +kernel
theorem dX10_sheet_161 : decode cX10_sheet 161 = .ok (.goto 96, 3) := by decide +kernel
theorem dX10_sheet_164 : decode cX10_sheet 164 = .ok (.aload_n 0, 1) := by decide +kernel
theorem dX10_sheet_165 : decode cX10_sheet 165 = .ok (.iload 8, 2) := by decide +kernel
theorem dX10_sheet_167 : decode cX10_sheet 167 = .ok (.aload_n 0, 1) := by decide +kernel
theorem dX10_sheet_168 : decode cX10_sheet 168 = .ok (.getfield 20, 3) := by decide +kernel
theorem dX10_sheet_171 : decode cX10_sheet 171 = .ok (.iconst 0, 1) := by decide +kernel
theorem dX10_sheet_172 : decode cX10_sheet 172 = .ok (.iaload, 1) := by decide +kernel
theorem dX10_sheet_173 : decode cX10_sheet 173 = .ok (.invokevirtual 113, 3) := by decide +kernel
theorem dX10_sheet_176 : decode cX10_sheet 176 = .ok (.istore 9, 2) := by decide +kernel
theorem dX10_sheet_178 : decode cX10_sheet 178 = .ok (.iconst 1, 1) := by decide +kernel
theorem dX10_sheet_179 : decode cX10_sheet 179 = .ok (.istore 10, 2) := by decide +kernel
theorem dX10_sheet_181 : decode cX10_sheet 181 = .ok (.iload 10, 2) := by decide +kernel
theorem dX10_sheet_183 : decode cX10_sheet 183 = .ok (.aload_n 0, 1) := by decide +kernel
theorem dX10_sheet_184 : decode cX10_sheet 184 = .ok (.getfield 137, 3) := by decide +kernel
theorem dX10_sheet_187 : decode cX10_sheet 187 = .ok (.if_icmp .ge 47, 3) := by decide +kernel
theorem dX10_sheet_190 : decode cX10_sheet 190 = .ok (.aload_n 0, 1) := by decide +kernel
theorem dX10_sheet_191 : decode cX10_sheet 191 = .ok (.iload 8, 2) := by decide +kernel
theorem dX10_sheet_193 : decode cX10_sheet 193 = .ok (.aload_n 0, 1) := by decide +kernel
theorem dX10_sheet_194 : decode cX10_sheet 194 = .ok (.getfield 20, 3) := by decide +kernel
theorem dX10_sheet_197 : decode cX10_sheet 197 = .ok (.iload 10, 2) := by decide +kernel
theorem dX10_sheet_199 : decode cX10_sheet 199 = .ok (.iaload, 1) := by decide +kernel
theorem dX10_sheet_200 : decode cX10_sheet 200 = .ok (.invokevirtual 113, 3) := by decide +kernel
theorem dX10_sheet_203 : decode cX10_sheet 203 = .ok (.iload 9, 2) := by decide +kernel
theorem dX10_sheet_205 : decode cX10_sheet 205 = .ok (.if_icmp .ge 19, 3) := by decide +kernel
theorem dX10_sheet_208 : decode cX10_sheet 208 = .ok (.aload_n 0, 1) := by decide +kernel
theorem dX10_sheet_209 : decode cX10_sheet 209 = .ok (.iload 8, 2) := by decide +kernel
theorem dX10_sheet_211 : decode cX10_sheet 211 = .ok (.aload_n 0, 1) := by decide +kernel
theorem dX10_sheet_212 : decode cX10_sheet 212 = .ok (.getfield 20, 3) := by decide +kernel
theorem dX10_sheet_215 : decode cX10_sheet 215 = .ok (.iload 10, 2) := by decide +kernel
theorem dX10_sheet_217 : decode cX10_sheet 217 = .ok (.iaload, 1) := by decide +kernel
theorem dX10_sheet_218 : decode cX10_sheet 218 = .ok (.invokevirtual 113, 3) := by decide +kernel
theorem dX10_sheet_221 : decode cX10_sheet 221 = .ok (.goto 5, 3) := by decide +kernel
theorem dX10_sheet_224 : decode cX10_sheet 224 = .ok (.iload 9, 2) := by decide +kernel
theorem dX10_sheet_226 : decode cX10_sheet 226 = .ok (.istore 9, 2) := by decide +kernel
theorem dX10_sheet_228 : decode cX10_sheet 228 = .ok (.iinc 10 1, 3) := by decide +kernel
theorem dX10_sheet_231 : decode cX10_sheet 231 = .ok (.goto (-50), 3) := by decide +kernel
theorem dX10_sheet_234 : decode cX10_sheet 234 = .ok (.iload 6, 2) := by decide +kernel
theorem dX10_sheet_236 : decode cX10_sheet 236 = .ok (.ifCond .lt 13, 3) := by decide +kernel
theorem dX10_sheet_239 : decode cX10_sheet 239 = .ok (.iload 9, 2) := by decide +kernel
theorem dX10_sheet_241 : decode cX10_sheet 241 = .ok (.iload 7, 2) := by decide +kernel
theorem dX10_sheet_243 : decode cX10_sheet 243 = .ok (.if_icmp .gt 6, 3) := by decide +kernel
theorem dX10_sheet_246 : decode cX10_sheet 246 = .ok (.goto 11, 3) := by decide +kernel
theorem dX10_sheet_249 : decode cX10_sheet 249 = .ok (.iload 8, 2) := by decide +kernel
theorem dX10_sheet_251 : decode cX10_sheet 251 = .ok (.istore 6, 2) := by decide +kernel
theorem dX10_sheet_253 : decode cX10_sheet 253 = .ok (.iload 9, 2) := by decide +kernel
theorem dX10_sheet_255 : decode cX10_sheet 255 = .ok (.istore 7, 2) := by decide +kernel
theorem dX10_sheet_257 : decode cX10_sheet 257 = .ok (.iinc 8 1, 3) := by decide +kernel
theorem dX10_sheet_260 : decode cX10_sheet 260 = .ok (.goto (-130), 3) := by decide +kernel
theorem dX10_sheet_263 : decode cX10_sheet 263 = .ok (.iload 6, 2) := by decide +kernel
theorem dX10_sheet_265 : decode cX10_sheet 265 = .ok (.ifCond .lt 7, 3) := by decide +kernel
theorem dX10_sheet_268 : decode cX10_sheet 268 = .ok (.iconst 1, 1) := by decide +kernel
theorem dX10_sheet_269 : decode cX10_sheet 269 = .ok (.goto 4, 3) := by decide +kernel
theorem dX10_sheet_272 : decode cX10_sheet 272 = .ok (.iconst 0, 1) := by decide +kernel
theorem dX10_sheet_273 : decode cX10_sheet 273 = .ok (.istore 5, 2) := by decide +kernel
theorem dX10_sheet_275 : decode cX10_sheet 275 = .ok (.iload 5, 2) := by decide +kernel
theorem dX10_sheet_277 : decode cX10_sheet 277 = .ok (.ifCond .eq 10, 3) := by decide +kernel
theorem dX10_sheet_280 : decode cX10_sheet 280 = .ok (.aload_n 0, 1) := by decide +kernel
theorem dX10_sheet_281 : decode cX10_sheet 281 = .ok (.iload 6, 2) := by decide +kernel
theorem dX10_sheet_283 : decode cX10_sheet 283 = .ok (.iconst 2, 1) := by decide +kernel
theorem dX10_sheet_284 : decode cX10_sheet 284 = .ok (.invokevirtual 146, 3) := by decide +kernel
theorem dX10_sheet_287 : decode cX10_sheet 287 = .ok (.goto (-179), 3) := by decide +kernel
theorem dX10_sheet_290 : decode cX10_sheet 290 = .ok (.return_, 1) := by decide +kernel
theorem dX10_shown_0 : decode cX10_shown 0 = .ok (.iload_n 1, 1) := by decide +kernel
theorem dX10_shown_1 : decode cX10_shown 1 = .ok (.iconst 0, 1) := by decide +kernel
theorem dX10_shown_2 : decode cX10_shown 2 = .ok (.bipush 99, 2) := by decide +kernel
theorem dX10_shown_4 : decode cX10_shown 4 = .ok (.invokestatic 46, 3) := by decide +kernel
theorem dX10_shown_7 : decode cX10_shown 7 = .ok (.ifCond .eq 24, 3) := by decide +kernel
theorem dX10_shown_10 : decode cX10_shown 10 = .ok (.iload_n 2, 1) := by decide +kernel
theorem dX10_shown_11 : decode cX10_shown 11 = .ok (.iconst 1, 1) := by decide +kernel
theorem dX10_shown_12 : decode cX10_shown 12 = .ok (.bipush 6, 2) := by decide +kernel
theorem dX10_shown_14 : decode cX10_shown 14 = .ok (.invokestatic 46, 3) := by decide +kernel
theorem dX10_shown_17 : decode cX10_shown 17 = .ok (.ifCond .eq 14, 3) := by decide +kernel
theorem dX10_shown_20 : decode cX10_shown 20 = .ok (.iload_n 3, 1) := by decide +kernel
theorem dX10_shown_21 : decode cX10_shown 21 = .ok (.iconst 0, 1) := by decide +kernel
theorem dX10_shown_22 : decode cX10_shown 22 = .ok (.sipush 255, 3) := by decide +kernel
theorem dX10_shown_25 : decode cX10_shown 25 = .ok (.invokestatic 46, 3) := by decide +kernel
theorem dX10_shown_28 : decode cX10_shown 28 = .ok (.ifCond .ne 5, 3) := by decide +kernel
theorem dX10_shown_31 : decode cX10_shown 31 = .ok (.iconst (-1), 1) := by decide +kernel
theorem dX10_shown_32 : decode cX10_shown 32 = .ok (.ireturn, 1) := by decide +kernel
theorem dX10_shown_33 : decode cX10_shown 33 = .ok (.aload_n 0, 1) := by decide +kernel
theorem dX10_shown_34 : decode cX10_shown 34 = .ok (.iload_n 1, 1) := by decide +kernel
theorem dX10_shown_35 : decode cX10_shown 35 = .ok (.iload_n 2, 1) := by decide +kernel
theorem dX10_shown_36 : decode cX10_shown 36 = .ok (.iload_n 3, 1) := by decide +kernel
theorem dX10_shown_37 : decode cX10_shown 37 = .ok (.invokevirtual 153, 3) := by decide +kernel
theorem dX10_shown_40 : decode cX10_shown 40 = .ok (.iload 4, 2) := by decide +kernel
theorem dX10_shown_42 : decode cX10_shown 42 = .ok (.iconst 0, 1) := by decide +kernel
theorem dX10_shown_43 : decode cX10_shown 43 = .ok (.aload_n 0, 1) := by decide +kernel
theorem dX10_shown_44 : decode cX10_shown 44 = .ok (.getfield 137, 3) := by decide +kernel
theorem dX10_shown_47 : decode cX10_shown 47 = .ok (.iconst 1, 1) := by decide +kernel
theorem dX10_shown_48 : decode cX10_shown 48 = .ok (.isub, 1) := by decide +kernel
theorem dX10_shown_49 : decode cX10_shown 49 = .ok (.invokestatic 46, 3) := by decide +kernel
theorem dX10_shown_52 : decode cX10_shown 52 = .ok (.ifCond .eq 13, 3) := by decide +kernel
theorem dX10_shown_55 : decode cX10_shown 55 = .ok (.aload_n 0, 1) := by decide +kernel
theorem dX10_shown_56 : decode cX10_shown 56 = .ok (.getfield 20, 3) := by decide +kernel
theorem dX10_shown_59 : decode cX10_shown 59 = .ok (.iload 4, 2) := by decide +kernel
theorem dX10_shown_61 : decode cX10_shown 61 = .ok (.iaload, 1) := by decide +kernel
theorem dX10_shown_62 : decode cX10_shown 62 = .ok (.goto 4, 3) := by decide +kernel
theorem dX10_shown_65 : decode cX10_shown 65 = .ok (.iconst (-1), 1) := by decide +kernel
theorem dX10_shown_66 : decode cX10_shown 66 = .ok (.ireturn, 1) := by decide +kernel
theorem dX10_why_0 : decode cX10_why 0 = .ok (.iload_n 1, 1) := by decide +kernel
theorem dX10_why_1 : decode cX10_why 1 = .ok (.iconst 0, 1) := by decide +kernel
theorem dX10_why_2 : decode cX10_why 2 = .ok (.bipush 99, 2) := by decide +kernel
theorem dX10_why_4 : decode cX10_why 4 = .ok (.invokestatic 46, 3) := by decide +kernel
theorem dX10_why_7 : decode cX10_why 7 = .ok (.ifCond .eq 21, 3) := by decide +kernel
theorem dX10_why_10 : decode cX10_why 10 = .ok (.iload_n 2, 1) := by decide +kernel
theorem dX10_why_11 : decode cX10_why 11 = .ok (.iconst 1, 1) := by decide +kernel
theorem dX10_why_12 : decode cX10_why 12 = .ok (.bipush 6, 2) := by decide +kernel
theorem dX10_why_14 : decode cX10_why 14 = .ok (.invokestatic 46, 3) := by decide +kernel
theorem dX10_why_17 : decode cX10_why 17 = .ok (.ifCond .eq 11, 3) := by decide +kernel
theorem dX10_why_20 : decode cX10_why 20 = .ok (.aload_n 0, 1) := by decide +kernel
theorem dX10_why_21 : decode cX10_why 21 = .ok (.iload_n 3, 1) := by decide +kernel
theorem dX10_why_22 : decode cX10_why 22 = .ok (.invokevirtual 93, 3) := by decide +kernel
theorem dX10_why_25 : decode cX10_why 25 = .ok (.ifCond .ne 5, 3) := by decide +kernel
theorem dX10_why_28 : decode cX10_why 28 = .ok (.iconst (-1), 1) := by decide +kernel
theorem dX10_why_29 : decode cX10_why 29 = .ok (.ireturn, 1) := by decide +kernel
theorem dX10_why_30 : decode cX10_why 30 = .ok (.aload_n 0, 1) := by decide +kernel
theorem dX10_why_31 : decode cX10_why 31 = .ok (.iload_n 3, 1) := by decide +kernel
theorem dX10_why_32 : decode cX10_why 32 = .ok (.iconst 0, 1) := by decide +kernel
theorem dX10_why_33 : decode cX10_why 33 = .ok (.invokevirtual 96, 3) := by decide +kernel
theorem dX10_why_36 : decode cX10_why 36 = .ok (.iconst 2, 1) := by decide +kernel
theorem dX10_why_37 : decode cX10_why 37 = .ok (.if_icmp .ne 5, 3) := by decide +kernel
theorem dX10_why_40 : decode cX10_why 40 = .ok (.iconst 3, 1) := by decide +kernel
theorem dX10_why_41 : decode cX10_why 41 = .ok (.ireturn, 1) := by decide +kernel
theorem dX10_why_42 : decode cX10_why 42 = .ok (.aload_n 0, 1) := by decide +kernel
theorem dX10_why_43 : decode cX10_why 43 = .ok (.iload_n 3, 1) := by decide +kernel
theorem dX10_why_44 : decode cX10_why 44 = .ok (.iload_n 1, 1) := by decide +kernel
theorem dX10_why_45 : decode cX10_why 45 = .ok (.invokevirtual 128, 3) := by decide +kernel
theorem dX10_why_48 : decode cX10_why 48 = .ok (.ifCond .ne 5, 3) := by decide +kernel
theorem dX10_why_51 : decode cX10_why 51 = .ok (.iconst 4, 1) := by decide +kernel
theorem dX10_why_52 : decode cX10_why 52 = .ok (.ireturn, 1) := by decide +kernel
theorem dX10_why_53 : decode cX10_why 53 = .ok (.aload_n 0, 1) := by decide +kernel
theorem dX10_why_54 : decode cX10_why 54 = .ok (.iload_n 3, 1) := by decide +kernel
theorem dX10_why_55 : decode cX10_why 55 = .ok (.invokevirtual 101, 3) := by decide +kernel
theorem dX10_why_58 : decode cX10_why 58 = .ok (.ifCond .eq 5, 3) := by decide +kernel
theorem dX10_why_61 : decode cX10_why 61 = .ok (.iconst 5, 1) := by decide +kernel
theorem dX10_why_62 : decode cX10_why 62 = .ok (.ireturn, 1) := by decide +kernel
theorem dX10_why_63 : decode cX10_why 63 = .ok (.aload_n 0, 1) := by decide +kernel
theorem dX10_why_64 : decode cX10_why 64 = .ok (.iload_n 1, 1) := by decide +kernel
theorem dX10_why_65 : decode cX10_why 65 = .ok (.iload_n 2, 1) := by decide +kernel
theorem dX10_why_66 : decode cX10_why 66 = .ok (.aload_n 0, 1) := by decide +kernel
theorem dX10_why_67 : decode cX10_why 67 = .ok (.iload_n 3, 1) := by decide +kernel
theorem dX10_why_68 : decode cX10_why 68 = .ok (.iconst 1, 1) := by decide +kernel
theorem dX10_why_69 : decode cX10_why 69 = .ok (.invokevirtual 96, 3) := by decide +kernel
theorem dX10_why_72 : decode cX10_why 72 = .ok (.aload_n 0, 1) := by decide +kernel
theorem dX10_why_73 : decode cX10_why 73 = .ok (.iload_n 3, 1) := by decide +kernel
theorem dX10_why_74 : decode cX10_why 74 = .ok (.iconst 2, 1) := by decide +kernel
theorem dX10_why_75 : decode cX10_why 75 = .ok (.invokevirtual 96, 3) := by decide +kernel
theorem dX10_why_78 : decode cX10_why 78 = .ok (.invokestatic 125, 3) := by decide +kernel
theorem dX10_why_81 : decode cX10_why 81 = .ok (.invokevirtual 153, 3) := by decide +kernel
theorem dX10_why_84 : decode cX10_why 84 = .ok (.iconst 0, 1) := by decide +kernel
theorem dX10_why_85 : decode cX10_why 85 = .ok (.istore 4, 2) := by decide +kernel
theorem dX10_why_87 : decode cX10_why 87 = .ok (.iload 4, 2) := by decide +kernel
theorem dX10_why_89 : decode cX10_why 89 = .ok (.aload_n 0, 1) := by decide +kernel
theorem dX10_why_90 : decode cX10_why 90 = .ok (.getfield 137, 3) := by decide +kernel
theorem dX10_why_93 : decode cX10_why 93 = .ok (.if_icmp .ge 28, 3) := by decide +kernel
theorem dX10_why_96 : decode cX10_why 96 = .ok (.aload_n 0, 1) := by decide +kernel
theorem dX10_why_97 : decode cX10_why 97 = .ok (.getfield 20, 3) := by decide +kernel
theorem dX10_why_100 : decode cX10_why 100 = .ok (.iload 4, 2) := by decide +kernel
theorem dX10_why_102 : decode cX10_why 102 = .ok (.iaload, 1) := by decide +kernel
theorem dX10_why_103 : decode cX10_why 103 = .ok (.iload_n 3, 1) := by decide +kernel
theorem dX10_why_104 : decode cX10_why 104 = .ok (.if_icmp .ne 11, 3) := by decide +kernel
theorem dX10_why_107 : decode cX10_why 107 = .ok (.aload_n 0, 1) := by decide +kernel
theorem dX10_why_108 : decode cX10_why 108 = .ok (.getfield 23, 3) := by decide +kernel
theorem dX10_why_111 : decode cX10_why 111 = .ok (.iload 4, 2) := by decide +kernel
theorem dX10_why_113 : decode cX10_why 113 = .ok (.iaload, 1) := by decide +kernel
theorem dX10_why_114 : decode cX10_why 114 = .ok (.ireturn, 1) := by decide +kernel
theorem dX10_why_115 : decode cX10_why 115 = .ok (.iinc 4 1, 3) := by decide +kernel
theorem dX10_why_118 : decode cX10_why 118 = .ok (.goto (-31), 3) := by decide +kernel
theorem dX10_why_121 : decode cX10_why 121 = .ok (.bipush 6, 2) := by decide +kernel
theorem dX10_why_123 : decode cX10_why 123 = .ok (.ireturn, 1) := by decide +kernel
theorem dX10_depthOf_0 : decode cX10_depthOf 0 = .ok (.sipush (-30000), 3) := by decide +kernel
theorem dX10_depthOf_3 : decode cX10_depthOf 3 = .ok (.istore_n 3, 1) := by decide +kernel
theorem dX10_depthOf_4 : decode cX10_depthOf 4 = .ok (.iconst 0, 1) := by decide +kernel
theorem dX10_depthOf_5 : decode cX10_depthOf 5 = .ok (.istore 4, 2) := by decide +kernel
theorem dX10_depthOf_7 : decode cX10_depthOf 7 = .ok (.iconst 0, 1) := by decide +kernel
theorem dX10_depthOf_8 : decode cX10_depthOf 8 = .ok (.istore 5, 2) := by decide +kernel
theorem dX10_depthOf_10 : decode cX10_depthOf 10 = .ok (.iload 5, 2) := by decide +kernel
theorem dX10_depthOf_12 : decode cX10_depthOf 12 = .ok (.aload_n 0, 1) := by decide +kernel
theorem dX10_depthOf_13 : decode cX10_depthOf 13 = .ok (.getfield 7, 3) := by decide +kernel
theorem dX10_depthOf_16 : decode cX10_depthOf 16 = .ok (.iconst 1, 1) := by decide +kernel
theorem dX10_depthOf_17 : decode cX10_depthOf 17 = .ok (.iaload, 1) := by decide +kernel
theorem dX10_depthOf_18 : decode cX10_depthOf 18 = .ok (.if_icmp .ge 52, 3) := by decide +kernel
theorem dX10_depthOf_21 : decode cX10_depthOf 21 = .ok (.aload_n 0, 1) := by decide +kernel
theorem dX10_depthOf_22 : decode cX10_depthOf 22 = .ok (.iload 5, 2) := by decide +kernel
theorem dX10_depthOf_24 : decode cX10_depthOf 24 = .ok (.iload_n 1, 1) := by decide +kernel
theorem dX10_depthOf_25 : decode cX10_depthOf 25 = .ok (.iload_n 2, 1) := by decide +kernel
theorem dX10_depthOf_26 : decode cX10_depthOf 26 = .ok (.invokevirtual 140, 3) := by decide +kernel
theorem dX10_depthOf_29 : decode cX10_depthOf 29 = .ok (.ifCond .ne 6, 3) := by decide +kernel
theorem dX10_depthOf_32 : decode cX10_depthOf 32 = .ok (.goto 32, 3) := by decide +kernel
theorem dX10_depthOf_35 : decode cX10_depthOf 35 = .ok (.aload_n 0, 1) := by decide +kernel
theorem dX10_depthOf_36 : decode cX10_depthOf 36 = .ok (.iload 5, 2) := by decide +kernel
theorem dX10_depthOf_38 : decode cX10_depthOf 38 = .ok (.invokevirtual 104, 3) := by decide +kernel
theorem dX10_depthOf_41 : decode cX10_depthOf 41 = .ok (.istore 6, 2) := by decide +kernel
theorem dX10_depthOf_43 : decode cX10_depthOf 43 = .ok (.iload 4, 2) := by decide +kernel
theorem dX10_depthOf_45 : decode cX10_depthOf 45 = .ok (.ifCond .eq 9, 3) := by decide +kernel
theorem dX10_depthOf_48 : decode cX10_depthOf 48 = .ok (.iload 6, 2) := by decide +kernel
theorem dX10_depthOf_50 : decode cX10_depthOf 50 = .ok (.iload_n 3, 1) := by decide +kernel
theorem dX10_depthOf_51 : decode cX10_depthOf 51 = .ok (.if_icmp .ge 8, 3) := by decide +kernel
theorem dX10_depthOf_54 : decode cX10_depthOf 54 = .ok (.iload 6, 2) := by decide +kernel
theorem dX10_depthOf_56 : decode cX10_depthOf 56 = .ok (.goto 4, 3) := by decide +kernel
theorem dX10_depthOf_59 : decode cX10_depthOf 59 = .ok (.iload_n 3, 1) := by decide +kernel
theorem dX10_depthOf_60 : decode cX10_depthOf 60 = .ok (.istore_n 3, 1) := by decide +kernel
theorem dX10_depthOf_61 : decode cX10_depthOf 61 = .ok (.iconst 1, 1) := by decide +kernel
theorem dX10_depthOf_62 : decode cX10_depthOf 62 = .ok (.istore 4, 2) := by decide +kernel
theorem dX10_depthOf_64 : decode cX10_depthOf 64 = .ok (.iinc 5 1, 3) := by decide +kernel
theorem dX10_depthOf_67 : decode cX10_depthOf 67 = .ok (.goto (-57), 3) := by decide +kernel
theorem dX10_depthOf_70 : decode cX10_depthOf 70 = .ok (.iload 4, 2) := by decide +kernel
theorem dX10_depthOf_72 : decode cX10_depthOf 72 = .ok (.ifCond .eq 5, 3) := by decide +kernel
theorem dX10_depthOf_75 : decode cX10_depthOf 75 = .ok (.iload_n 3, 1) := by decide +kernel
theorem dX10_depthOf_76 : decode cX10_depthOf 76 = .ok (.ireturn, 1) := by decide +kernel
theorem dX10_depthOf_77 : decode cX10_depthOf 77 = .ok (.bipush 16, 2) := by decide +kernel
theorem dX10_depthOf_79 : decode cX10_depthOf 79 = .ok (.iload_n 2, 1) := by decide +kernel
theorem dX10_depthOf_80 : decode cX10_depthOf 80 = .ok (.bipush 16, 2) := by decide +kernel
theorem dX10_depthOf_82 : decode cX10_depthOf 82 = .ok (.irem, 1) := by decide +kernel
theorem dX10_depthOf_83 : decode cX10_depthOf 83 = .ok (.imul, 1) := by decide +kernel
theorem dX10_depthOf_84 : decode cX10_depthOf 84 = .ok (.istore 5, 2) := by decide +kernel
theorem dX10_depthOf_86 : decode cX10_depthOf 86 = .ok (.bipush 16, 2) := by decide +kernel
theorem dX10_depthOf_88 : decode cX10_depthOf 88 = .ok (.iload_n 2, 1) := by decide +kernel
theorem dX10_depthOf_89 : decode cX10_depthOf 89 = .ok (.bipush 16, 2) := by decide +kernel
theorem dX10_depthOf_91 : decode cX10_depthOf 91 = .ok (.idiv, 1) := by decide +kernel
theorem dX10_depthOf_92 : decode cX10_depthOf 92 = .ok (.imul, 1) := by decide +kernel
theorem dX10_depthOf_93 : decode cX10_depthOf 93 = .ok (.istore 6, 2) := by decide +kernel
theorem dX10_depthOf_95 : decode cX10_depthOf 95 = .ok (.sipush (-30000), 3) := by decide +kernel
theorem dX10_depthOf_98 : decode cX10_depthOf 98 = .ok (.istore 7, 2) := by decide +kernel
theorem dX10_depthOf_100 : decode cX10_depthOf 100 = .ok (.iconst 0, 1) := by decide +kernel
theorem dX10_depthOf_101 : decode cX10_depthOf 101 = .ok (.istore 8, 2) := by decide +kernel
theorem dX10_depthOf_103 : decode cX10_depthOf 103 = .ok (.iload 8, 2) := by decide +kernel
theorem dX10_depthOf_105 : decode cX10_depthOf 105 = .ok (.aload_n 0, 1) := by decide +kernel
theorem dX10_depthOf_106 : decode cX10_depthOf 106 = .ok (.getfield 7, 3) := by decide +kernel
theorem dX10_depthOf_109 : decode cX10_depthOf 109 = .ok (.iconst 1, 1) := by decide +kernel
theorem dX10_depthOf_110 : decode cX10_depthOf 110 = .ok (.iaload, 1) := by decide +kernel
theorem dX10_depthOf_111 : decode cX10_depthOf 111 = .ok (.if_icmp .ge 86, 3) := by decide +kernel
theorem dX10_depthOf_114 : decode cX10_depthOf 114 = .ok (.aload_n 0, 1) := by decide +kernel
theorem dX10_depthOf_115 : decode cX10_depthOf 115 = .ok (.iload 8, 2) := by decide +kernel
theorem dX10_depthOf_117 : decode cX10_depthOf 117 = .ok (.iload_n 1, 1) := by decide +kernel
theorem dX10_depthOf_118 : decode cX10_depthOf 118 = .ok (.invokevirtual 131, 3) := by decide +kernel
theorem dX10_depthOf_121 : decode cX10_depthOf 121 = .ok (.ifCond .eq 70, 3) := by decide +kernel
theorem dX10_depthOf_124 : decode cX10_depthOf 124 = .ok (.aload_n 0, 1) := by decide +kernel
theorem dX10_depthOf_125 : decode cX10_depthOf 125 = .ok (.iload 8, 2) := by decide +kernel
theorem dX10_depthOf_127 : decode cX10_depthOf 127 = .ok (.iload 5, 2) := by decide +kernel
theorem dX10_depthOf_129 : decode cX10_depthOf 129 = .ok (.iload 6, 2) := by decide +kernel
theorem dX10_depthOf_131 : decode cX10_depthOf 131 = .ok (.invokevirtual 134, 3) := by decide +kernel
theorem dX10_depthOf_134 : decode cX10_depthOf 134 = .ok (.ifCond .eq 57, 3) := by decide +kernel
theorem dX10_depthOf_137 : decode cX10_depthOf 137 = .ok (.aload_n 0, 1) := by decide +kernel
theorem dX10_depthOf_138 : decode cX10_depthOf 138 = .ok (.iload 8, 2) := by decide +kernel
theorem dX10_depthOf_140 : decode cX10_depthOf 140 = .ok (.iload 5, 2) := by decide +kernel
theorem dX10_depthOf_142 : decode cX10_depthOf 142 = .ok (.bipush 15, 2) := by decide +kernel
theorem dX10_depthOf_144 : decode cX10_depthOf 144 = .ok (.iadd, 1) := by decide +kernel
theorem dX10_depthOf_145 : decode cX10_depthOf 145 = .ok (.iload 6, 2) := by decide +kernel
theorem dX10_depthOf_147 : decode cX10_depthOf 147 = .ok (.bipush 15, 2) := by decide +kernel
theorem dX10_depthOf_149 : decode cX10_depthOf 149 = .ok (.iadd, 1) := by decide +kernel
theorem dX10_depthOf_150 : decode cX10_depthOf 150 = .ok (.invokevirtual 134, 3) := by decide +kernel
theorem dX10_depthOf_153 : decode cX10_depthOf 153 = .ok (.ifCond .ne 6, 3) := by decide +kernel
theorem dX10_depthOf_156 : decode cX10_depthOf 156 = .ok (.goto 35, 3) := by decide +kernel
theorem dX10_depthOf_159 : decode cX10_depthOf 159 = .ok (.aload_n 0, 1) := by decide +kernel
theorem dX10_depthOf_160 : decode cX10_depthOf 160 = .ok (.iload 8, 2) := by decide +kernel
theorem dX10_depthOf_162 : decode cX10_depthOf 162 = .ok (.invokevirtual 104, 3) := by decide +kernel
theorem dX10_depthOf_165 : decode cX10_depthOf 165 = .ok (.istore 9, 2) := by decide +kernel
theorem dX10_depthOf_167 : decode cX10_depthOf 167 = .ok (.iload 4, 2) := by decide +kernel
theorem dX10_depthOf_169 : decode cX10_depthOf 169 = .ok (.ifCond .eq 10, 3) := by decide +kernel
theorem dX10_depthOf_172 : decode cX10_depthOf 172 = .ok (.iload 9, 2) := by decide +kernel
theorem dX10_depthOf_174 : decode cX10_depthOf 174 = .ok (.iload 7, 2) := by decide +kernel
theorem dX10_depthOf_176 : decode cX10_depthOf 176 = .ok (.if_icmp .le 8, 3) := by decide +kernel
theorem dX10_depthOf_179 : decode cX10_depthOf 179 = .ok (.iload 9, 2) := by decide +kernel
theorem dX10_depthOf_181 : decode cX10_depthOf 181 = .ok (.goto 5, 3) := by decide +kernel
theorem dX10_depthOf_184 : decode cX10_depthOf 184 = .ok (.iload 7, 2) := by decide +kernel
theorem dX10_depthOf_186 : decode cX10_depthOf 186 = .ok (.istore 7, 2) := by decide +kernel
theorem dX10_depthOf_188 : decode cX10_depthOf 188 = .ok (.iconst 1, 1) := by decide +kernel
theorem dX10_depthOf_189 : decode cX10_depthOf 189 = .ok (.istore 4, 2) := by decide +kernel
theorem dX10_depthOf_191 : decode cX10_depthOf 191 = .ok (.iinc 8 1, 3) := by decide +kernel
theorem dX10_depthOf_194 : decode cX10_depthOf 194 = .ok (.goto (-91), 3) := by decide +kernel
theorem dX10_depthOf_197 : decode cX10_depthOf 197 = .ok (.iload 7, 2) := by decide +kernel
theorem dX10_depthOf_199 : decode cX10_depthOf 199 = .ok (.ireturn, 1) := by decide +kernel
theorem dX10_bottom_0 : decode cX10_bottom 0 = .ok (.iload_n 1, 1) := by decide +kernel
theorem dX10_bottom_1 : decode cX10_bottom 1 = .ok (.iconst 0, 1) := by decide +kernel
theorem dX10_bottom_2 : decode cX10_bottom 2 = .ok (.bipush 99, 2) := by decide +kernel
theorem dX10_bottom_4 : decode cX10_bottom 4 = .ok (.invokestatic 46, 3) := by decide +kernel
theorem dX10_bottom_7 : decode cX10_bottom 7 = .ok (.ifCond .eq 23, 3) := by decide +kernel
theorem dX10_bottom_10 : decode cX10_bottom 10 = .ok (.iload_n 2, 1) := by decide +kernel
theorem dX10_bottom_11 : decode cX10_bottom 11 = .ok (.iconst 0, 1) := by decide +kernel
theorem dX10_bottom_12 : decode cX10_bottom 12 = .ok (.sipush 255, 3) := by decide +kernel
theorem dX10_bottom_15 : decode cX10_bottom 15 = .ok (.invokestatic 46, 3) := by decide +kernel
theorem dX10_bottom_18 : decode cX10_bottom 18 = .ok (.ifCond .eq 12, 3) := by decide +kernel
theorem dX10_bottom_21 : decode cX10_bottom 21 = .ok (.aload_n 0, 1) := by decide +kernel
theorem dX10_bottom_22 : decode cX10_bottom 22 = .ok (.iload_n 1, 1) := by decide +kernel
theorem dX10_bottom_23 : decode cX10_bottom 23 = .ok (.iload_n 2, 1) := by decide +kernel
theorem dX10_bottom_24 : decode cX10_bottom 24 = .ok (.invokevirtual 157, 3) := by decide +kernel
theorem dX10_bottom_27 : decode cX10_bottom 27 = .ok (.goto 6, 3) := by decide +kernel
theorem dX10_bottom_30 : decode cX10_bottom 30 = .ok (.sipush (-30000), 3) := by decide +kernel
theorem dX10_bottom_33 : decode cX10_bottom 33 = .ok (.ireturn, 1) := by decide +kernel
theorem dX10_check_0 : decode cX10_check 0 = .ok (.iload_n 1, 1) := by decide +kernel
theorem dX10_check_1 : decode cX10_check 1 = .ok (.iconst 0, 1) := by decide +kernel
theorem dX10_check_2 : decode cX10_check 2 = .ok (.bipush 99, 2) := by decide +kernel
theorem dX10_check_4 : decode cX10_check 4 = .ok (.invokestatic 46, 3) := by decide +kernel
theorem dX10_check_7 : decode cX10_check 7 = .ok (.ifCond .eq 14, 3) := by decide +kernel
theorem dX10_check_10 : decode cX10_check 10 = .ok (.iload_n 2, 1) := by decide +kernel
theorem dX10_check_11 : decode cX10_check 11 = .ok (.iconst 0, 1) := by decide +kernel
theorem dX10_check_12 : decode cX10_check 12 = .ok (.sipush 255, 3) := by decide +kernel
theorem dX10_check_15 : decode cX10_check 15 = .ok (.invokestatic 46, 3) := by decide +kernel
theorem dX10_check_18 : decode cX10_check 18 = .ok (.ifCond .ne 6, 3) := by decide +kernel
theorem dX10_check_21 : decode cX10_check 21 = .ok (.bipush (-2), 2) := by decide +kernel
theorem dX10_check_23 : decode cX10_check 23 = .ok (.ireturn, 1) := by decide +kernel
theorem dX10_check_24 : decode cX10_check 24 = .ok (.aload_n 0, 1) := by decide +kernel
theorem dX10_check_25 : decode cX10_check 25 = .ok (.iload_n 1, 1) := by decide +kernel
theorem dX10_check_26 : decode cX10_check 26 = .ok (.iload_n 2, 1) := by decide +kernel
theorem dX10_check_27 : decode cX10_check 27 = .ok (.invokevirtual 157, 3) := by decide +kernel
theorem dX10_check_30 : decode cX10_check 30 = .ok (.istore 4, 2) := by decide +kernel
theorem dX10_check_32 : decode cX10_check 32 = .ok (.iload 4, 2) := by decide +kernel
theorem dX10_check_34 : decode cX10_check 34 = .ok (.sipush (-30000), 3) := by decide +kernel
theorem dX10_check_37 : decode cX10_check 37 = .ok (.if_icmp .ne 7, 3) := by decide +kernel
theorem dX10_check_40 : decode cX10_check 40 = .ok (.iconst 2, 1) := by decide +kernel
theorem dX10_check_41 : decode cX10_check 41 = .ok (.goto 24, 3) := by decide +kernel
theorem dX10_check_44 : decode cX10_check 44 = .ok (.iload 4, 2) := by decide +kernel
theorem dX10_check_46 : decode cX10_check 46 = .ok (.iload_n 3, 1) := by decide +kernel
theorem dX10_check_47 : decode cX10_check 47 = .ok (.if_icmp .ge 7, 3) := by decide +kernel
theorem dX10_check_50 : decode cX10_check 50 = .ok (.iconst 0, 1) := by decide +kernel
theorem dX10_check_51 : decode cX10_check 51 = .ok (.goto 14, 3) := by decide +kernel
theorem dX10_check_54 : decode cX10_check 54 = .ok (.iload 4, 2) := by decide +kernel
theorem dX10_check_56 : decode cX10_check 56 = .ok (.iload_n 3, 1) := by decide +kernel
theorem dX10_check_57 : decode cX10_check 57 = .ok (.if_icmp .le 7, 3) := by decide +kernel
theorem dX10_check_60 : decode cX10_check 60 = .ok (.iconst 1, 1) := by decide +kernel
theorem dX10_check_61 : decode cX10_check 61 = .ok (.goto 4, 3) := by decide +kernel
theorem dX10_check_64 : decode cX10_check 64 = .ok (.iconst (-1), 1) := by decide +kernel
theorem dX10_check_65 : decode cX10_check 65 = .ok (.ireturn, 1) := by decide +kernel
theorem dX10_isAsked_0 : decode cX10_isAsked 0 = .ok (.iload_n 1, 1) := by decide +kernel
theorem dX10_isAsked_1 : decode cX10_isAsked 1 = .ok (.iconst 0, 1) := by decide +kernel
theorem dX10_isAsked_2 : decode cX10_isAsked 2 = .ok (.bipush 99, 2) := by decide +kernel
theorem dX10_isAsked_4 : decode cX10_isAsked 4 = .ok (.invokestatic 46, 3) := by decide +kernel
theorem dX10_isAsked_7 : decode cX10_isAsked 7 = .ok (.ifCond .eq 29, 3) := by decide +kernel
theorem dX10_isAsked_10 : decode cX10_isAsked 10 = .ok (.iload_n 2, 1) := by decide +kernel
theorem dX10_isAsked_11 : decode cX10_isAsked 11 = .ok (.iconst 0, 1) := by decide +kernel
theorem dX10_isAsked_12 : decode cX10_isAsked 12 = .ok (.sipush 255, 3) := by decide +kernel
theorem dX10_isAsked_15 : decode cX10_isAsked 15 = .ok (.invokestatic 46, 3) := by decide +kernel
theorem dX10_isAsked_18 : decode cX10_isAsked 18 = .ok (.ifCond .eq 18, 3) := by decide +kernel
theorem dX10_isAsked_21 : decode cX10_isAsked 21 = .ok (.iload_n 3, 1) := by decide +kernel
theorem dX10_isAsked_22 : decode cX10_isAsked 22 = .ok (.iconst 0, 1) := by decide +kernel
theorem dX10_isAsked_23 : decode cX10_isAsked 23 = .ok (.sipush 255, 3) := by decide +kernel
theorem dX10_isAsked_26 : decode cX10_isAsked 26 = .ok (.invokestatic 46, 3) := by decide +kernel
theorem dX10_isAsked_29 : decode cX10_isAsked 29 = .ok (.ifCond .eq 7, 3) := by decide +kernel
theorem dX10_isAsked_32 : decode cX10_isAsked 32 = .ok (.iconst 1, 1) := by decide +kernel
theorem dX10_isAsked_33 : decode cX10_isAsked 33 = .ok (.goto 4, 3) := by decide +kernel
theorem dX10_isAsked_36 : decode cX10_isAsked 36 = .ok (.iconst 0, 1) := by decide +kernel
theorem dX10_isAsked_37 : decode cX10_isAsked 37 = .ok (.ireturn, 1) := by decide +kernel
theorem dX10_beside_0 : decode cX10_beside 0 = .ok (.iload_n 1, 1) := by decide +kernel
theorem dX10_beside_1 : decode cX10_beside 1 = .ok (.ifCond .ne 18, 3) := by decide +kernel
theorem dX10_beside_4 : decode cX10_beside 4 = .ok (.iload_n 0, 1) := by decide +kernel
theorem dX10_beside_5 : decode cX10_beside 5 = .ok (.bipush 16, 2) := by decide +kernel
theorem dX10_beside_7 : decode cX10_beside 7 = .ok (.if_icmp .lt 10, 3) := by decide +kernel
theorem dX10_beside_10 : decode cX10_beside 10 = .ok (.iload_n 0, 1) := by decide +kernel
theorem dX10_beside_11 : decode cX10_beside 11 = .ok (.bipush 16, 2) := by decide +kernel
theorem dX10_beside_13 : decode cX10_beside 13 = .ok (.isub, 1) := by decide +kernel
theorem dX10_beside_14 : decode cX10_beside 14 = .ok (.goto 4, 3) := by decide +kernel
theorem dX10_beside_17 : decode cX10_beside 17 = .ok (.iconst (-1), 1) := by decide +kernel
theorem dX10_beside_18 : decode cX10_beside 18 = .ok (.ireturn, 1) := by decide +kernel
theorem dX10_beside_19 : decode cX10_beside 19 = .ok (.iload_n 1, 1) := by decide +kernel
theorem dX10_beside_20 : decode cX10_beside 20 = .ok (.iconst 1, 1) := by decide +kernel
theorem dX10_beside_21 : decode cX10_beside 21 = .ok (.if_icmp .ne 18, 3) := by decide +kernel
theorem dX10_beside_24 : decode cX10_beside 24 = .ok (.iload_n 0, 1) := by decide +kernel
theorem dX10_beside_25 : decode cX10_beside 25 = .ok (.bipush 16, 2) := by decide +kernel
theorem dX10_beside_27 : decode cX10_beside 27 = .ok (.irem, 1) := by decide +kernel
theorem dX10_beside_28 : decode cX10_beside 28 = .ok (.ifCond .le 9, 3) := by decide +kernel
theorem dX10_beside_31 : decode cX10_beside 31 = .ok (.iload_n 0, 1) := by decide +kernel
theorem dX10_beside_32 : decode cX10_beside 32 = .ok (.iconst 1, 1) := by decide +kernel
theorem dX10_beside_33 : decode cX10_beside 33 = .ok (.isub, 1) := by decide +kernel
theorem dX10_beside_34 : decode cX10_beside 34 = .ok (.goto 4, 3) := by decide +kernel
theorem dX10_beside_37 : decode cX10_beside 37 = .ok (.iconst (-1), 1) := by decide +kernel
theorem dX10_beside_38 : decode cX10_beside 38 = .ok (.ireturn, 1) := by decide +kernel
theorem dX10_beside_39 : decode cX10_beside 39 = .ok (.iload_n 1, 1) := by decide +kernel
theorem dX10_beside_40 : decode cX10_beside 40 = .ok (.iconst 2, 1) := by decide +kernel
theorem dX10_beside_41 : decode cX10_beside 41 = .ok (.if_icmp .ne 20, 3) := by decide +kernel
theorem dX10_beside_44 : decode cX10_beside 44 = .ok (.iload_n 0, 1) := by decide +kernel
theorem dX10_beside_45 : decode cX10_beside 45 = .ok (.bipush 16, 2) := by decide +kernel
theorem dX10_beside_47 : decode cX10_beside 47 = .ok (.irem, 1) := by decide +kernel
theorem dX10_beside_48 : decode cX10_beside 48 = .ok (.bipush 15, 2) := by decide +kernel
theorem dX10_beside_50 : decode cX10_beside 50 = .ok (.if_icmp .ge 9, 3) := by decide +kernel
theorem dX10_beside_53 : decode cX10_beside 53 = .ok (.iload_n 0, 1) := by decide +kernel
theorem dX10_beside_54 : decode cX10_beside 54 = .ok (.iconst 1, 1) := by decide +kernel
theorem dX10_beside_55 : decode cX10_beside 55 = .ok (.iadd, 1) := by decide +kernel
theorem dX10_beside_56 : decode cX10_beside 56 = .ok (.goto 4, 3) := by decide +kernel
theorem dX10_beside_59 : decode cX10_beside 59 = .ok (.iconst (-1), 1) := by decide +kernel
theorem dX10_beside_60 : decode cX10_beside 60 = .ok (.ireturn, 1) := by decide +kernel
theorem dX10_beside_61 : decode cX10_beside 61 = .ok (.iload_n 0, 1) := by decide +kernel
theorem dX10_beside_62 : decode cX10_beside 62 = .ok (.sipush 240, 3) := by decide +kernel
theorem dX10_beside_65 : decode cX10_beside 65 = .ok (.if_icmp .ge 10, 3) := by decide +kernel
theorem dX10_beside_68 : decode cX10_beside 68 = .ok (.iload_n 0, 1) := by decide +kernel
theorem dX10_beside_69 : decode cX10_beside 69 = .ok (.bipush 16, 2) := by decide +kernel
theorem dX10_beside_71 : decode cX10_beside 71 = .ok (.iadd, 1) := by decide +kernel
theorem dX10_beside_72 : decode cX10_beside 72 = .ok (.goto 4, 3) := by decide +kernel
theorem dX10_beside_75 : decode cX10_beside 75 = .ok (.iconst (-1), 1) := by decide +kernel
theorem dX10_beside_76 : decode cX10_beside 76 = .ok (.ireturn, 1) := by decide +kernel
theorem dX10_floods_0 : decode cX10_floods 0 = .ok (.iconst 0, 1) := by decide +kernel
theorem dX10_floods_1 : decode cX10_floods 1 = .ok (.istore 4, 2) := by decide +kernel
theorem dX10_floods_3 : decode cX10_floods 3 = .ok (.iload 4, 2) := by decide +kernel
theorem dX10_floods_5 : decode cX10_floods 5 = .ok (.sipush 256, 3) := by decide +kernel
theorem dX10_floods_8 : decode cX10_floods 8 = .ok (.if_icmp .ge 17, 3) := by decide +kernel
theorem dX10_floods_11 : decode cX10_floods 11 = .ok (.aload_n 0, 1) := by decide +kernel
theorem dX10_floods_12 : decode cX10_floods 12 = .ok (.getfield 29, 3) := by decide +kernel
theorem dX10_floods_15 : decode cX10_floods 15 = .ok (.iload 4, 2) := by decide +kernel
theorem dX10_floods_17 : decode cX10_floods 17 = .ok (.iconst (-1), 1) := by decide +kernel
theorem dX10_floods_18 : decode cX10_floods 18 = .ok (.iastore, 1) := by decide +kernel
theorem dX10_floods_19 : decode cX10_floods 19 = .ok (.iinc 4 1, 3) := by decide +kernel
theorem dX10_floods_22 : decode cX10_floods 22 = .ok (.goto (-19), 3) := by decide +kernel
theorem dX10_floods_25 : decode cX10_floods 25 = .ok (.aload_n 0, 1) := by decide +kernel
theorem dX10_floods_26 : decode cX10_floods 26 = .ok (.getfield 26, 3) := by decide +kernel
theorem dX10_floods_29 : decode cX10_floods 29 = .ok (.iload_n 1, 1) := by decide +kernel
theorem dX10_floods_30 : decode cX10_floods 30 = .ok (.iaload, 1) := by decide +kernel
theorem dX10_floods_31 : decode cX10_floods 31 = .ok (.sipush (-30000), 3) := by decide +kernel
theorem dX10_floods_34 : decode cX10_floods 34 = .ok (.if_icmp .eq 13, 3) := by decide +kernel
theorem dX10_floods_37 : decode cX10_floods 37 = .ok (.aload_n 0, 1) := by decide +kernel
theorem dX10_floods_38 : decode cX10_floods 38 = .ok (.getfield 26, 3) := by decide +kernel
theorem dX10_floods_41 : decode cX10_floods 41 = .ok (.iload_n 1, 1) := by decide +kernel
theorem dX10_floods_42 : decode cX10_floods 42 = .ok (.iaload, 1) := by decide +kernel
theorem dX10_floods_43 : decode cX10_floods 43 = .ok (.iload_n 3, 1) := by decide +kernel
theorem dX10_floods_44 : decode cX10_floods 44 = .ok (.if_icmp .ge 5, 3) := by decide +kernel
theorem dX10_floods_47 : decode cX10_floods 47 = .ok (.iconst 0, 1) := by decide +kernel
theorem dX10_floods_48 : decode cX10_floods 48 = .ok (.ireturn, 1) := by decide +kernel
theorem dX10_floods_49 : decode cX10_floods 49 = .ok (.aload_n 0, 1) := by decide +kernel
theorem dX10_floods_50 : decode cX10_floods 50 = .ok (.getfield 29, 3) := by decide +kernel
theorem dX10_floods_53 : decode cX10_floods 53 = .ok (.iload_n 1, 1) := by decide +kernel
theorem dX10_floods_54 : decode cX10_floods 54 = .ok (.iconst 0, 1) := by decide +kernel
theorem dX10_floods_55 : decode cX10_floods 55 = .ok (.iastore, 1) := by decide +kernel
theorem dX10_floods_56 : decode cX10_floods 56 = .ok (.aload_n 0, 1) := by decide +kernel
theorem dX10_floods_57 : decode cX10_floods 57 = .ok (.getfield 32, 3) := by decide +kernel
theorem dX10_floods_60 : decode cX10_floods 60 = .ok (.iconst 0, 1) := by decide +kernel
theorem dX10_floods_61 : decode cX10_floods 61 = .ok (.iload_n 1, 1) := by decide +kernel
theorem dX10_floods_62 : decode cX10_floods 62 = .ok (.iastore, 1) := by decide +kernel
theorem dX10_floods_63 : decode cX10_floods 63 = .ok (.iconst 1, 1) := by decide +kernel
theorem dX10_floods_64 : decode cX10_floods 64 = .ok (.istore 4, 2) := by decide +kernel
theorem dX10_floods_66 : decode cX10_floods 66 = .ok (.iconst 0, 1) := by decide +kernel
theorem dX10_floods_67 : decode cX10_floods 67 = .ok (.istore 5, 2) := by decide +kernel
theorem dX10_floods_69 : decode cX10_floods 69 = .ok (.iload 5, 2) := by decide +kernel
theorem dX10_floods_71 : decode cX10_floods 71 = .ok (.iload 4, 2) := by decide +kernel
theorem dX10_floods_73 : decode cX10_floods 73 = .ok (.if_icmp .ge 112, 3) := by decide +kernel
theorem dX10_floods_76 : decode cX10_floods 76 = .ok (.aload_n 0, 1) := by decide +kernel
theorem dX10_floods_77 : decode cX10_floods 77 = .ok (.getfield 32, 3) := by decide +kernel
theorem dX10_floods_80 : decode cX10_floods 80 = .ok (.iload 5, 2) := by decide +kernel
theorem dX10_floods_82 : decode cX10_floods 82 = .ok (.iaload, 1) := by decide +kernel
theorem dX10_floods_83 : decode cX10_floods 83 = .ok (.istore 6, 2) := by decide +kernel
theorem dX10_floods_85 : decode cX10_floods 85 = .ok (.iconst 0, 1) := by decide +kernel
theorem dX10_floods_86 : decode cX10_floods 86 = .ok (.istore 7, 2) := by decide +kernel
theorem dX10_floods_88 : decode cX10_floods 88 = .ok (.iload 7, 2) := by decide +kernel
theorem dX10_floods_90 : decode cX10_floods 90 = .ok (.iconst 4, 1) := by decide +kernel
theorem dX10_floods_91 : decode cX10_floods 91 = .ok (.if_icmp .ge 88, 3) := by decide +kernel
theorem dX10_floods_94 : decode cX10_floods 94 = .ok (.iload 6, 2) := by decide +kernel
theorem dX10_floods_96 : decode cX10_floods 96 = .ok (.iload 7, 2) := by decide +kernel
theorem dX10_floods_98 : decode cX10_floods 98 = .ok (.invokestatic 160, 3) := by decide +kernel
theorem dX10_floods_101 : decode cX10_floods 101 = .ok (.istore 8, 2) := by decide +kernel
theorem dX10_floods_103 : decode cX10_floods 103 = .ok (.iload 8, 2) := by decide +kernel
theorem dX10_floods_105 : decode cX10_floods 105 = .ok (.ifCond .lt 68, 3) := by decide +kernel
theorem dX10_floods_108 : decode cX10_floods 108 = .ok (.aload_n 0, 1) := by decide +kernel
theorem dX10_floods_109 : decode cX10_floods 109 = .ok (.getfield 29, 3) := by decide +kernel
theorem dX10_floods_112 : decode cX10_floods 112 = .ok (.iload 8, 2) := by decide +kernel
theorem dX10_floods_114 : decode cX10_floods 114 = .ok (.iaload, 1) := by decide +kernel
theorem dX10_floods_115 : decode cX10_floods 115 = .ok (.ifCond .ge 58, 3) := by decide +kernel
theorem dX10_floods_118 : decode cX10_floods 118 = .ok (.aload_n 0, 1) := by decide +kernel
theorem dX10_floods_119 : decode cX10_floods 119 = .ok (.getfield 26, 3) := by decide +kernel
theorem dX10_floods_122 : decode cX10_floods 122 = .ok (.iload 8, 2) := by decide +kernel
theorem dX10_floods_124 : decode cX10_floods 124 = .ok (.iaload, 1) := by decide +kernel
theorem dX10_floods_125 : decode cX10_floods 125 = .ok (.sipush (-30000), 3) := by decide +kernel
theorem dX10_floods_128 : decode cX10_floods 128 = .ok (.if_icmp .eq 45, 3) := by decide +kernel
theorem dX10_floods_131 : decode cX10_floods 131 = .ok (.aload_n 0, 1) := by decide +kernel
theorem dX10_floods_132 : decode cX10_floods 132 = .ok (.getfield 26, 3) := by decide +kernel
theorem dX10_floods_135 : decode cX10_floods 135 = .ok (.iload 8, 2) := by decide +kernel
theorem dX10_floods_137 : decode cX10_floods 137 = .ok (.iaload, 1) := by decide +kernel
theorem dX10_floods_138 : decode cX10_floods 138 = .ok (.iload_n 3, 1) := by decide +kernel
theorem dX10_floods_139 : decode cX10_floods 139 = .ok (.if_icmp .ge 6, 3) := by decide +kernel
theorem dX10_floods_142 : decode cX10_floods 142 = .ok (.goto 31, 3) := by decide +kernel
theorem dX10_floods_145 : decode cX10_floods 145 = .ok (.aload_n 0, 1) := by decide +kernel
theorem dX10_floods_146 : decode cX10_floods 146 = .ok (.getfield 29, 3) := by decide +kernel
theorem dX10_floods_149 : decode cX10_floods 149 = .ok (.iload 8, 2) := by decide +kernel
theorem dX10_floods_151 : decode cX10_floods 151 = .ok (.aload_n 0, 1) := by decide +kernel
theorem dX10_floods_152 : decode cX10_floods 152 = .ok (.getfield 29, 3) := by decide +kernel
theorem dX10_floods_155 : decode cX10_floods 155 = .ok (.iload 6, 2) := by decide +kernel
theorem dX10_floods_157 : decode cX10_floods 157 = .ok (.iaload, 1) := by decide +kernel
theorem dX10_floods_158 : decode cX10_floods 158 = .ok (.iconst 1, 1) := by decide +kernel
theorem dX10_floods_159 : decode cX10_floods 159 = .ok (.iadd, 1) := by decide +kernel
theorem dX10_floods_160 : decode cX10_floods 160 = .ok (.iastore, 1) := by decide +kernel
theorem dX10_floods_161 : decode cX10_floods 161 = .ok (.aload_n 0, 1) := by decide +kernel
theorem dX10_floods_162 : decode cX10_floods 162 = .ok (.getfield 32, 3) := by decide +kernel
theorem dX10_floods_165 : decode cX10_floods 165 = .ok (.iload 4, 2) := by decide +kernel
theorem dX10_floods_167 : decode cX10_floods 167 = .ok (.iload 8, 2) := by decide +kernel
theorem dX10_floods_169 : decode cX10_floods 169 = .ok (.iastore, 1) := by decide +kernel
theorem dX10_floods_170 : decode cX10_floods 170 = .ok (.iinc 4 1, 3) := by decide +kernel
theorem dX10_floods_173 : decode cX10_floods 173 = .ok (.iinc 7 1, 3) := by decide +kernel
theorem dX10_floods_176 : decode cX10_floods 176 = .ok (.goto (-88), 3) := by decide +kernel
theorem dX10_floods_179 : decode cX10_floods 179 = .ok (.iinc 5 1, 3) := by decide +kernel
theorem dX10_floods_182 : decode cX10_floods 182 = .ok (.goto (-113), 3) := by decide +kernel
theorem dX10_floods_185 : decode cX10_floods 185 = .ok (.aload_n 0, 1) := by decide +kernel
theorem dX10_floods_186 : decode cX10_floods 186 = .ok (.getfield 29, 3) := by decide +kernel
theorem dX10_floods_189 : decode cX10_floods 189 = .ok (.iload_n 2, 1) := by decide +kernel
theorem dX10_floods_190 : decode cX10_floods 190 = .ok (.iaload, 1) := by decide +kernel
theorem dX10_floods_191 : decode cX10_floods 191 = .ok (.ifCond .lt 7, 3) := by decide +kernel
theorem dX10_floods_194 : decode cX10_floods 194 = .ok (.iconst 1, 1) := by decide +kernel
theorem dX10_floods_195 : decode cX10_floods 195 = .ok (.goto 4, 3) := by decide +kernel
theorem dX10_floods_198 : decode cX10_floods 198 = .ok (.iconst 0, 1) := by decide +kernel
theorem dX10_floods_199 : decode cX10_floods 199 = .ok (.ireturn, 1) := by decide +kernel
theorem dX10_depths_0 : decode cX10_depths 0 = .ok (.iconst 0, 1) := by decide +kernel
theorem dX10_depths_1 : decode cX10_depths 1 = .ok (.istore_n 2, 1) := by decide +kernel
theorem dX10_depths_2 : decode cX10_depths 2 = .ok (.iload_n 2, 1) := by decide +kernel
theorem dX10_depths_3 : decode cX10_depths 3 = .ok (.sipush 256, 3) := by decide +kernel
theorem dX10_depths_6 : decode cX10_depths 6 = .ok (.if_icmp .ge 21, 3) := by decide +kernel
theorem dX10_depths_9 : decode cX10_depths 9 = .ok (.aload_n 0, 1) := by decide +kernel
theorem dX10_depths_10 : decode cX10_depths 10 = .ok (.getfield 26, 3) := by decide +kernel
theorem dX10_depths_13 : decode cX10_depths 13 = .ok (.iload_n 2, 1) := by decide +kernel
theorem dX10_depths_14 : decode cX10_depths 14 = .ok (.aload_n 0, 1) := by decide +kernel
theorem dX10_depths_15 : decode cX10_depths 15 = .ok (.iload_n 1, 1) := by decide +kernel
theorem dX10_depths_16 : decode cX10_depths 16 = .ok (.iload_n 2, 1) := by decide +kernel
theorem dX10_depths_17 : decode cX10_depths 17 = .ok (.invokevirtual 157, 3) := by decide +kernel
theorem dX10_depths_20 : decode cX10_depths 20 = .ok (.iastore, 1) := by decide +kernel
theorem dX10_depths_21 : decode cX10_depths 21 = .ok (.iinc 2 1, 3) := by decide +kernel
theorem dX10_depths_24 : decode cX10_depths 24 = .ok (.goto (-22), 3) := by decide +kernel
theorem dX10_depths_27 : decode cX10_depths 27 = .ok (.return_, 1) := by decide +kernel
theorem dX10_channel_0 : decode cX10_channel 0 = .ok (.aload_n 0, 1) := by decide +kernel
theorem dX10_channel_1 : decode cX10_channel 1 = .ok (.iload_n 1, 1) := by decide +kernel
theorem dX10_channel_2 : decode cX10_channel 2 = .ok (.invokevirtual 163, 3) := by decide +kernel
theorem dX10_channel_5 : decode cX10_channel 5 = .ok (.sipush (-30000), 3) := by decide +kernel
theorem dX10_channel_8 : decode cX10_channel 8 = .ok (.istore 4, 2) := by decide +kernel
theorem dX10_channel_10 : decode cX10_channel 10 = .ok (.iconst 0, 1) := by decide +kernel
theorem dX10_channel_11 : decode cX10_channel 11 = .ok (.istore 5, 2) := by decide +kernel
theorem dX10_channel_13 : decode cX10_channel 13 = .ok (.iconst 0, 1) := by decide +kernel
theorem dX10_channel_14 : decode cX10_channel 14 = .ok (.istore 6, 2) := by decide +kernel
theorem dX10_channel_16 : decode cX10_channel 16 = .ok (.iload 6, 2) := by decide +kernel
theorem dX10_channel_18 : decode cX10_channel 18 = .ok (.sipush 256, 3) := by decide +kernel
theorem dX10_channel_21 : decode cX10_channel 21 = .ok (.if_icmp .ge 70, 3) := by decide +kernel
theorem dX10_channel_24 : decode cX10_channel 24 = .ok (.aload_n 0, 1) := by decide +kernel
theorem dX10_channel_25 : decode cX10_channel 25 = .ok (.getfield 26, 3) := by decide +kernel
theorem dX10_channel_28 : decode cX10_channel 28 = .ok (.iload 6, 2) := by decide +kernel
theorem dX10_channel_30 : decode cX10_channel 30 = .ok (.iaload, 1) := by decide +kernel
theorem dX10_channel_31 : decode cX10_channel 31 = .ok (.sipush (-30000), 3) := by decide +kernel
theorem dX10_channel_34 : decode cX10_channel 34 = .ok (.if_icmp .eq 51, 3) := by decide +kernel
theorem dX10_channel_37 : decode cX10_channel 37 = .ok (.iload 5, 2) := by decide +kernel
theorem dX10_channel_39 : decode cX10_channel 39 = .ok (.ifCond .eq 15, 3) := by decide +kernel
theorem dX10_channel_42 : decode cX10_channel 42 = .ok (.aload_n 0, 1) := by decide +kernel
theorem dX10_channel_43 : decode cX10_channel 43 = .ok (.getfield 26, 3) := by decide +kernel
theorem dX10_channel_46 : decode cX10_channel 46 = .ok (.iload 6, 2) := by decide +kernel
theorem dX10_channel_48 : decode cX10_channel 48 = .ok (.iaload, 1) := by decide +kernel
theorem dX10_channel_49 : decode cX10_channel 49 = .ok (.iload 4, 2) := by decide +kernel
theorem dX10_channel_51 : decode cX10_channel 51 = .ok (.if_icmp .le 34, 3) := by decide +kernel
theorem dX10_channel_54 : decode cX10_channel 54 = .ok (.aload_n 0, 1) := by decide +kernel
theorem dX10_channel_55 : decode cX10_channel 55 = .ok (.iload_n 3, 1) := by decide +kernel
theorem dX10_channel_56 : decode cX10_channel 56 = .ok (.iload_n 2, 1) := by decide +kernel
theorem dX10_channel_57 : decode cX10_channel 57 = .ok (.aload_n 0, 1) := by decide +kernel
theorem dX10_channel_58 : decode cX10_channel 58 = .ok (.getfield 26, 3) := by decide +kernel
theorem dX10_channel_61 : decode cX10_channel 61 = .ok (.iload 6, 2) := by decide +kernel
theorem dX10_channel_63 : decode cX10_channel 63 = .ok (.iaload, 1) := by decide +kernel
theorem dX10_channel_64 : decode cX10_channel 64 = .ok (.invokevirtual 167, 3) := by decide +kernel
theorem dX10_channel_67 : decode cX10_channel 67 = .ok (.ifCond .ne 6, 3) := by decide +kernel
theorem dX10_channel_70 : decode cX10_channel 70 = .ok (.goto 15, 3) := by decide +kernel
theorem dX10_channel_73 : decode cX10_channel 73 = .ok (.aload_n 0, 1) := by decide +kernel
theorem dX10_channel_74 : decode cX10_channel 74 = .ok (.getfield 26, 3) := by decide +kernel
theorem dX10_channel_77 : decode cX10_channel 77 = .ok (.iload 6, 2) := by decide +kernel
theorem dX10_channel_79 : decode cX10_channel 79 = .ok (.iaload, 1) := by decide +kernel
theorem dX10_channel_80 : decode cX10_channel 80 = .ok (.istore 4, 2) := by decide +kernel
theorem dX10_channel_82 : decode cX10_channel 82 = .ok (.iconst 1, 1) := by decide +kernel
theorem dX10_channel_83 : decode cX10_channel 83 = .ok (.istore 5, 2) := by decide +kernel
theorem dX10_channel_85 : decode cX10_channel 85 = .ok (.iinc 6 1, 3) := by decide +kernel
theorem dX10_channel_88 : decode cX10_channel 88 = .ok (.goto (-72), 3) := by decide +kernel
theorem dX10_channel_91 : decode cX10_channel 91 = .ok (.iload 5, 2) := by decide +kernel
theorem dX10_channel_93 : decode cX10_channel 93 = .ok (.ifCond .eq 12, 3) := by decide +kernel
theorem dX10_channel_96 : decode cX10_channel 96 = .ok (.aload_n 0, 1) := by decide +kernel
theorem dX10_channel_97 : decode cX10_channel 97 = .ok (.iload_n 3, 1) := by decide +kernel
theorem dX10_channel_98 : decode cX10_channel 98 = .ok (.iload_n 2, 1) := by decide +kernel
theorem dX10_channel_99 : decode cX10_channel 99 = .ok (.iload 4, 2) := by decide +kernel
theorem dX10_channel_101 : decode cX10_channel 101 = .ok (.invokevirtual 167, 3) := by decide +kernel
theorem dX10_channel_104 : decode cX10_channel 104 = .ok (.pop, 1) := by decide +kernel
theorem dX10_channel_105 : decode cX10_channel 105 = .ok (.iload 4, 2) := by decide +kernel
theorem dX10_channel_107 : decode cX10_channel 107 = .ok (.ireturn, 1) := by decide +kernel
theorem dX10_deepest_0 : decode cX10_deepest 0 = .ok (.aload_n 0, 1) := by decide +kernel
theorem dX10_deepest_1 : decode cX10_deepest 1 = .ok (.iload_n 1, 1) := by decide +kernel
theorem dX10_deepest_2 : decode cX10_deepest 2 = .ok (.iload_n 2, 1) := by decide +kernel
theorem dX10_deepest_3 : decode cX10_deepest 3 = .ok (.iload_n 3, 1) := by decide +kernel
theorem dX10_deepest_4 : decode cX10_deepest 4 = .ok (.invokevirtual 170, 3) := by decide +kernel
theorem dX10_deepest_7 : decode cX10_deepest 7 = .ok (.ifCond .eq 13, 3) := by decide +kernel
theorem dX10_deepest_10 : decode cX10_deepest 10 = .ok (.aload_n 0, 1) := by decide +kernel
theorem dX10_deepest_11 : decode cX10_deepest 11 = .ok (.iload_n 1, 1) := by decide +kernel
theorem dX10_deepest_12 : decode cX10_deepest 12 = .ok (.iload_n 2, 1) := by decide +kernel
theorem dX10_deepest_13 : decode cX10_deepest 13 = .ok (.iload_n 3, 1) := by decide +kernel
theorem dX10_deepest_14 : decode cX10_deepest 14 = .ok (.invokevirtual 173, 3) := by decide +kernel
theorem dX10_deepest_17 : decode cX10_deepest 17 = .ok (.goto 6, 3) := by decide +kernel
theorem dX10_deepest_20 : decode cX10_deepest 20 = .ok (.sipush (-30000), 3) := by decide +kernel
theorem dX10_deepest_23 : decode cX10_deepest 23 = .ok (.ireturn, 1) := by decide +kernel
theorem dX10_next_0 : decode cX10_next 0 = .ok (.iconst (-1), 1) := by decide +kernel
theorem dX10_next_1 : decode cX10_next 1 = .ok (.istore_n 2, 1) := by decide +kernel
theorem dX10_next_2 : decode cX10_next 2 = .ok (.iconst 0, 1) := by decide +kernel
theorem dX10_next_3 : decode cX10_next 3 = .ok (.istore_n 3, 1) := by decide +kernel
theorem dX10_next_4 : decode cX10_next 4 = .ok (.iload_n 3, 1) := by decide +kernel
theorem dX10_next_5 : decode cX10_next 5 = .ok (.iconst 4, 1) := by decide +kernel
theorem dX10_next_6 : decode cX10_next 6 = .ok (.if_icmp .ge 62, 3) := by decide +kernel
theorem dX10_next_9 : decode cX10_next 9 = .ok (.iload_n 1, 1) := by decide +kernel
theorem dX10_next_10 : decode cX10_next 10 = .ok (.iload_n 3, 1) := by decide +kernel
theorem dX10_next_11 : decode cX10_next 11 = .ok (.invokestatic 160, 3) := by decide +kernel
theorem dX10_next_14 : decode cX10_next 14 = .ok (.istore 4, 2) := by decide +kernel
theorem dX10_next_16 : decode cX10_next 16 = .ok (.iload 4, 2) := by decide +kernel
theorem dX10_next_18 : decode cX10_next 18 = .ok (.ifCond .lt 44, 3) := by decide +kernel
theorem dX10_next_21 : decode cX10_next 21 = .ok (.aload_n 0, 1) := by decide +kernel
theorem dX10_next_22 : decode cX10_next 22 = .ok (.getfield 29, 3) := by decide +kernel
theorem dX10_next_25 : decode cX10_next 25 = .ok (.iload 4, 2) := by decide +kernel
theorem dX10_next_27 : decode cX10_next 27 = .ok (.iaload, 1) := by decide +kernel
theorem dX10_next_28 : decode cX10_next 28 = .ok (.ifCond .lt 34, 3) := by decide +kernel
theorem dX10_next_31 : decode cX10_next 31 = .ok (.aload_n 0, 1) := by decide +kernel
theorem dX10_next_32 : decode cX10_next 32 = .ok (.getfield 29, 3) := by decide +kernel
theorem dX10_next_35 : decode cX10_next 35 = .ok (.iload 4, 2) := by decide +kernel
theorem dX10_next_37 : decode cX10_next 37 = .ok (.iaload, 1) := by decide +kernel
theorem dX10_next_38 : decode cX10_next 38 = .ok (.aload_n 0, 1) := by decide +kernel
theorem dX10_next_39 : decode cX10_next 39 = .ok (.getfield 29, 3) := by decide +kernel
theorem dX10_next_42 : decode cX10_next 42 = .ok (.iload_n 1, 1) := by decide +kernel
theorem dX10_next_43 : decode cX10_next 43 = .ok (.iaload, 1) := by decide +kernel
theorem dX10_next_44 : decode cX10_next 44 = .ok (.iconst 1, 1) := by decide +kernel
theorem dX10_next_45 : decode cX10_next 45 = .ok (.isub, 1) := by decide +kernel
theorem dX10_next_46 : decode cX10_next 46 = .ok (.if_icmp .ne 16, 3) := by decide +kernel
theorem dX10_next_49 : decode cX10_next 49 = .ok (.iload_n 2, 1) := by decide +kernel
theorem dX10_next_50 : decode cX10_next 50 = .ok (.ifCond .lt 9, 3) := by decide +kernel
theorem dX10_next_53 : decode cX10_next 53 = .ok (.iload 4, 2) := by decide +kernel
theorem dX10_next_55 : decode cX10_next 55 = .ok (.iload_n 2, 1) := by decide +kernel
theorem dX10_next_56 : decode cX10_next 56 = .ok (.if_icmp .ge 6, 3) := by decide +kernel
theorem dX10_next_59 : decode cX10_next 59 = .ok (.iload 4, 2) := by decide +kernel
theorem dX10_next_61 : decode cX10_next 61 = .ok (.istore_n 2, 1) := by decide +kernel
theorem dX10_next_62 : decode cX10_next 62 = .ok (.iinc 3 1, 3) := by decide +kernel
theorem dX10_next_65 : decode cX10_next 65 = .ok (.goto (-61), 3) := by decide +kernel
theorem dX10_next_68 : decode cX10_next 68 = .ok (.iload_n 2, 1) := by decide +kernel
theorem dX10_next_69 : decode cX10_next 69 = .ok (.ireturn, 1) := by decide +kernel
theorem dX10_way_0 : decode cX10_way 0 = .ok (.aload_n 0, 1) := by decide +kernel
theorem dX10_way_1 : decode cX10_way 1 = .ok (.iload_n 1, 1) := by decide +kernel
theorem dX10_way_2 : decode cX10_way 2 = .ok (.iload_n 2, 1) := by decide +kernel
theorem dX10_way_3 : decode cX10_way 3 = .ok (.iload_n 3, 1) := by decide +kernel
theorem dX10_way_4 : decode cX10_way 4 = .ok (.invokevirtual 170, 3) := by decide +kernel
theorem dX10_way_7 : decode cX10_way 7 = .ok (.ifCond .eq 32, 3) := by decide +kernel
theorem dX10_way_10 : decode cX10_way 10 = .ok (.iload 4, 2) := by decide +kernel
theorem dX10_way_12 : decode cX10_way 12 = .ok (.ifCond .lt 27, 3) := by decide +kernel
theorem dX10_way_15 : decode cX10_way 15 = .ok (.aload_n 0, 1) := by decide +kernel
theorem dX10_way_16 : decode cX10_way 16 = .ok (.iload_n 1, 1) := by decide +kernel
theorem dX10_way_17 : decode cX10_way 17 = .ok (.iload_n 2, 1) := by decide +kernel
theorem dX10_way_18 : decode cX10_way 18 = .ok (.iload_n 3, 1) := by decide +kernel
theorem dX10_way_19 : decode cX10_way 19 = .ok (.invokevirtual 173, 3) := by decide +kernel
theorem dX10_way_22 : decode cX10_way 22 = .ok (.sipush (-30000), 3) := by decide +kernel
theorem dX10_way_25 : decode cX10_way 25 = .ok (.if_icmp .eq 14, 3) := by decide +kernel
theorem dX10_way_28 : decode cX10_way 28 = .ok (.iload 4, 2) := by decide +kernel
theorem dX10_way_30 : decode cX10_way 30 = .ok (.aload_n 0, 1) := by decide +kernel
theorem dX10_way_31 : decode cX10_way 31 = .ok (.getfield 29, 3) := by decide +kernel
theorem dX10_way_34 : decode cX10_way 34 = .ok (.iload_n 2, 1) := by decide +kernel
theorem dX10_way_35 : decode cX10_way 35 = .ok (.iaload, 1) := by decide +kernel
theorem dX10_way_36 : decode cX10_way 36 = .ok (.if_icmp .le 5, 3) := by decide +kernel
theorem dX10_way_39 : decode cX10_way 39 = .ok (.iconst (-1), 1) := by decide +kernel
theorem dX10_way_40 : decode cX10_way 40 = .ok (.ireturn, 1) := by decide +kernel
theorem dX10_way_41 : decode cX10_way 41 = .ok (.iload_n 2, 1) := by decide +kernel
theorem dX10_way_42 : decode cX10_way 42 = .ok (.istore 5, 2) := by decide +kernel
theorem dX10_way_44 : decode cX10_way 44 = .ok (.iconst 0, 1) := by decide +kernel
theorem dX10_way_45 : decode cX10_way 45 = .ok (.istore 6, 2) := by decide +kernel
theorem dX10_way_47 : decode cX10_way 47 = .ok (.iload 6, 2) := by decide +kernel
theorem dX10_way_49 : decode cX10_way 49 = .ok (.iload 4, 2) := by decide +kernel
theorem dX10_way_51 : decode cX10_way 51 = .ok (.if_icmp .ge 17, 3) := by decide +kernel
theorem dX10_way_54 : decode cX10_way 54 = .ok (.aload_n 0, 1) := by decide +kernel
theorem dX10_way_55 : decode cX10_way 55 = .ok (.iload 5, 2) := by decide +kernel
theorem dX10_way_57 : decode cX10_way 57 = .ok (.invokevirtual 177, 3) := by decide +kernel
theorem dX10_way_60 : decode cX10_way 60 = .ok (.istore 5, 2) := by decide +kernel
theorem dX10_way_62 : decode cX10_way 62 = .ok (.iinc 6 1, 3) := by decide +kernel
theorem dX10_way_65 : decode cX10_way 65 = .ok (.goto (-18), 3) := by decide +kernel
theorem dX10_way_68 : decode cX10_way 68 = .ok (.iload 5, 2) := by decide +kernel
theorem dX10_way_70 : decode cX10_way 70 = .ok (.ireturn, 1) := by decide +kernel
theorem dX10_narrow_0 : decode cX10_narrow 0 = .ok (.aload_n 0, 1) := by decide +kernel
theorem dX10_narrow_1 : decode cX10_narrow 1 = .ok (.iload_n 1, 1) := by decide +kernel
theorem dX10_narrow_2 : decode cX10_narrow 2 = .ok (.iload_n 2, 1) := by decide +kernel
theorem dX10_narrow_3 : decode cX10_narrow 3 = .ok (.iload_n 3, 1) := by decide +kernel
theorem dX10_narrow_4 : decode cX10_narrow 4 = .ok (.invokevirtual 170, 3) := by decide +kernel
theorem dX10_narrow_7 : decode cX10_narrow 7 = .ok (.ifCond .ne 5, 3) := by decide +kernel
theorem dX10_narrow_10 : decode cX10_narrow 10 = .ok (.iconst (-1), 1) := by decide +kernel
theorem dX10_narrow_11 : decode cX10_narrow 11 = .ok (.ireturn, 1) := by decide +kernel
theorem dX10_narrow_12 : decode cX10_narrow 12 = .ok (.aload_n 0, 1) := by decide +kernel
theorem dX10_narrow_13 : decode cX10_narrow 13 = .ok (.iload_n 1, 1) := by decide +kernel
theorem dX10_narrow_14 : decode cX10_narrow 14 = .ok (.iload_n 2, 1) := by decide +kernel
theorem dX10_narrow_15 : decode cX10_narrow 15 = .ok (.iload_n 3, 1) := by decide +kernel
theorem dX10_narrow_16 : decode cX10_narrow 16 = .ok (.invokevirtual 173, 3) := by decide +kernel
theorem dX10_narrow_19 : decode cX10_narrow 19 = .ok (.istore 4, 2) := by decide +kernel
theorem dX10_narrow_21 : decode cX10_narrow 21 = .ok (.iload 4, 2) := by decide +kernel
theorem dX10_narrow_23 : decode cX10_narrow 23 = .ok (.sipush (-30000), 3) := by decide +kernel
theorem dX10_narrow_26 : decode cX10_narrow 26 = .ok (.if_icmp .ne 5, 3) := by decide +kernel
theorem dX10_narrow_29 : decode cX10_narrow 29 = .ok (.iconst (-1), 1) := by decide +kernel
theorem dX10_narrow_30 : decode cX10_narrow 30 = .ok (.ireturn, 1) := by decide +kernel
theorem dX10_narrow_31 : decode cX10_narrow 31 = .ok (.iload_n 2, 1) := by decide +kernel
theorem dX10_narrow_32 : decode cX10_narrow 32 = .ok (.istore 5, 2) := by decide +kernel
theorem dX10_narrow_34 : decode cX10_narrow 34 = .ok (.aload_n 0, 1) := by decide +kernel
theorem dX10_narrow_35 : decode cX10_narrow 35 = .ok (.getfield 26, 3) := by decide +kernel
