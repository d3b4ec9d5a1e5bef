theorem dX9_copy_8 : decode cX9_copy 8 = .ok (.invokestatic 94, 3) := by decide +kernel
theorem dX9_copy_11 : decode cX9_copy 11 = .ok (.ifCond .ne 5, 3) := by decide +kernel
theorem dX9_copy_14 : decode cX9_copy 14 = .ok (.iconst (-1), 1) := by decide +kernel
theorem dX9_copy_15 : decode cX9_copy 15 = .ok (.ireturn, 1) := by decide +kernel
theorem dX9_copy_16 : decode cX9_copy 16 = .ok (.iload 5, 2) := by decide +kernel
theorem dX9_copy_18 : decode cX9_copy 18 = .ok (.ifCond .ge 9, 3) := by decide +kernel
theorem dX9_copy_21 : decode cX9_copy 21 = .ok (.aload_n 0, 1) := by decide +kernel
theorem dX9_copy_22 : decode cX9_copy 22 = .ok (.iconst 5, 1) := by decide +kernel
theorem dX9_copy_23 : decode cX9_copy 23 = .ok (.invokevirtual 98, 3) := by decide +kernel
theorem dX9_copy_26 : decode cX9_copy 26 = .ok (.ireturn, 1) := by decide +kernel
theorem dX9_copy_27 : decode cX9_copy 27 = .ok (.aload_n 0, 1) := by decide +kernel
theorem dX9_copy_28 : decode cX9_copy 28 = .ok (.getfield 7, 3) := by decide +kernel
theorem dX9_copy_31 : decode cX9_copy 31 = .ok (.iload_n 1, 1) := by decide +kernel
theorem dX9_copy_32 : decode cX9_copy 32 = .ok (.iaload, 1) := by decide +kernel
theorem dX9_copy_33 : decode cX9_copy 33 = .ok (.ifCond .lt 12, 3) := by decide +kernel
theorem dX9_copy_36 : decode cX9_copy 36 = .ok (.aload_n 0, 1) := by decide +kernel
theorem dX9_copy_37 : decode cX9_copy 37 = .ok (.getfield 7, 3) := by decide +kernel
theorem dX9_copy_40 : decode cX9_copy 40 = .ok (.iload_n 3, 1) := by decide +kernel
theorem dX9_copy_41 : decode cX9_copy 41 = .ok (.iaload, 1) := by decide +kernel
theorem dX9_copy_42 : decode cX9_copy 42 = .ok (.ifCond .ge 9, 3) := by decide +kernel
theorem dX9_copy_45 : decode cX9_copy 45 = .ok (.aload_n 0, 1) := by decide +kernel
theorem dX9_copy_46 : decode cX9_copy 46 = .ok (.iconst 1, 1) := by decide +kernel
theorem dX9_copy_47 : decode cX9_copy 47 = .ok (.invokevirtual 98, 3) := by decide +kernel
theorem dX9_copy_50 : decode cX9_copy 50 = .ok (.ireturn, 1) := by decide +kernel
theorem dX9_copy_51 : decode cX9_copy 51 = .ok (.iload_n 2, 1) := by decide +kernel
theorem dX9_copy_52 : decode cX9_copy 52 = .ok (.ifCond .lt 42, 3) := by decide +kernel
theorem dX9_copy_55 : decode cX9_copy 55 = .ok (.iload 4, 2) := by decide +kernel
theorem dX9_copy_57 : decode cX9_copy 57 = .ok (.ifCond .lt 37, 3) := by decide +kernel
theorem dX9_copy_60 : decode cX9_copy 60 = .ok (.iload 5, 2) := by decide +kernel
theorem dX9_copy_62 : decode cX9_copy 62 = .ok (.bipush 40, 2) := by decide +kernel
theorem dX9_copy_64 : decode cX9_copy 64 = .ok (.if_icmp .gt 30, 3) := by decide +kernel
theorem dX9_copy_67 : decode cX9_copy 67 = .ok (.iload_n 2, 1) := by decide +kernel
theorem dX9_copy_68 : decode cX9_copy 68 = .ok (.aload_n 0, 1) := by decide +kernel
theorem dX9_copy_69 : decode cX9_copy 69 = .ok (.getfield 7, 3) := by decide +kernel
theorem dX9_copy_72 : decode cX9_copy 72 = .ok (.iload_n 1, 1) := by decide +kernel
theorem dX9_copy_73 : decode cX9_copy 73 = .ok (.iaload, 1) := by decide +kernel
theorem dX9_copy_74 : decode cX9_copy 74 = .ok (.iload 5, 2) := by decide +kernel
theorem dX9_copy_76 : decode cX9_copy 76 = .ok (.isub, 1) := by decide +kernel
theorem dX9_copy_77 : decode cX9_copy 77 = .ok (.if_icmp .gt 17, 3) := by decide +kernel
theorem dX9_copy_80 : decode cX9_copy 80 = .ok (.iload 4, 2) := by decide +kernel
theorem dX9_copy_82 : decode cX9_copy 82 = .ok (.aload_n 0, 1) := by decide +kernel
theorem dX9_copy_83 : decode cX9_copy 83 = .ok (.getfield 7, 3) := by decide +kernel
theorem dX9_copy_86 : decode cX9_copy 86 = .ok (.iload_n 3, 1) := by decide +kernel
theorem dX9_copy_87 : decode cX9_copy 87 = .ok (.iaload, 1) := by decide +kernel
theorem dX9_copy_88 : decode cX9_copy 88 = .ok (.iload 5, 2) := by decide +kernel
theorem dX9_copy_90 : decode cX9_copy 90 = .ok (.isub, 1) := by decide +kernel
theorem dX9_copy_91 : decode cX9_copy 91 = .ok (.if_icmp .le 9, 3) := by decide +kernel
theorem dX9_copy_94 : decode cX9_copy 94 = .ok (.aload_n 0, 1) := by decide +kernel
theorem dX9_copy_95 : decode cX9_copy 95 = .ok (.iconst 2, 1) := by decide +kernel
theorem dX9_copy_96 : decode cX9_copy 96 = .ok (.invokevirtual 98, 3) := by decide +kernel
theorem dX9_copy_99 : decode cX9_copy 99 = .ok (.ireturn, 1) := by decide +kernel
theorem dX9_copy_100 : decode cX9_copy 100 = .ok (.iload 4, 2) := by decide +kernel
theorem dX9_copy_102 : decode cX9_copy 102 = .ok (.iload_n 2, 1) := by decide +kernel
theorem dX9_copy_103 : decode cX9_copy 103 = .ok (.if_icmp .le 7, 3) := by decide +kernel
theorem dX9_copy_106 : decode cX9_copy 106 = .ok (.iconst 1, 1) := by decide +kernel
theorem dX9_copy_107 : decode cX9_copy 107 = .ok (.goto 4, 3) := by decide +kernel
theorem dX9_copy_110 : decode cX9_copy 110 = .ok (.iconst 0, 1) := by decide +kernel
theorem dX9_copy_111 : decode cX9_copy 111 = .ok (.istore 6, 2) := by decide +kernel
theorem dX9_copy_113 : decode cX9_copy 113 = .ok (.iconst 0, 1) := by decide +kernel
theorem dX9_copy_114 : decode cX9_copy 114 = .ok (.istore 7, 2) := by decide +kernel
theorem dX9_copy_116 : decode cX9_copy 116 = .ok (.iload 7, 2) := by decide +kernel
theorem dX9_copy_118 : decode cX9_copy 118 = .ok (.iload 5, 2) := by decide +kernel
theorem dX9_copy_120 : decode cX9_copy 120 = .ok (.if_icmp .ge 57, 3) := by decide +kernel
theorem dX9_copy_123 : decode cX9_copy 123 = .ok (.iload 6, 2) := by decide +kernel
theorem dX9_copy_125 : decode cX9_copy 125 = .ok (.ifCond .eq 13, 3) := by decide +kernel
theorem dX9_copy_128 : decode cX9_copy 128 = .ok (.iload 5, 2) := by decide +kernel
theorem dX9_copy_130 : decode cX9_copy 130 = .ok (.iconst 1, 1) := by decide +kernel
theorem dX9_copy_131 : decode cX9_copy 131 = .ok (.isub, 1) := by decide +kernel
theorem dX9_copy_132 : decode cX9_copy 132 = .ok (.iload 7, 2) := by decide +kernel
theorem dX9_copy_134 : decode cX9_copy 134 = .ok (.isub, 1) := by decide +kernel
theorem dX9_copy_135 : decode cX9_copy 135 = .ok (.goto 5, 3) := by decide +kernel
theorem dX9_copy_138 : decode cX9_copy 138 = .ok (.iload 7, 2) := by decide +kernel
theorem dX9_copy_140 : decode cX9_copy 140 = .ok (.istore 8, 2) := by decide +kernel
theorem dX9_copy_142 : decode cX9_copy 142 = .ok (.aload_n 0, 1) := by decide +kernel
theorem dX9_copy_143 : decode cX9_copy 143 = .ok (.getfield 13, 3) := by decide +kernel
theorem dX9_copy_146 : decode cX9_copy 146 = .ok (.bipush 40, 2) := by decide +kernel
theorem dX9_copy_148 : decode cX9_copy 148 = .ok (.iload_n 3, 1) := by decide +kernel
theorem dX9_copy_149 : decode cX9_copy 149 = .ok (.imul, 1) := by decide +kernel
theorem dX9_copy_150 : decode cX9_copy 150 = .ok (.iload 4, 2) := by decide +kernel
theorem dX9_copy_152 : decode cX9_copy 152 = .ok (.iadd, 1) := by decide +kernel
theorem dX9_copy_153 : decode cX9_copy 153 = .ok (.iload 8, 2) := by decide +kernel
theorem dX9_copy_155 : decode cX9_copy 155 = .ok (.iadd, 1) := by decide +kernel
theorem dX9_copy_156 : decode cX9_copy 156 = .ok (.aload_n 0, 1) := by decide +kernel
theorem dX9_copy_157 : decode cX9_copy 157 = .ok (.getfield 13, 3) := by decide +kernel
theorem dX9_copy_160 : decode cX9_copy 160 = .ok (.bipush 40, 2) := by decide +kernel
theorem dX9_copy_162 : decode cX9_copy 162 = .ok (.iload_n 1, 1) := by decide +kernel
theorem dX9_copy_163 : decode cX9_copy 163 = .ok (.imul, 1) := by decide +kernel
theorem dX9_copy_164 : decode cX9_copy 164 = .ok (.iload_n 2, 1) := by decide +kernel
theorem dX9_copy_165 : decode cX9_copy 165 = .ok (.iadd, 1) := by decide +kernel
theorem dX9_copy_166 : decode cX9_copy 166 = .ok (.iload 8, 2) := by decide +kernel
theorem dX9_copy_168 : decode cX9_copy 168 = .ok (.iadd, 1) := by decide +kernel
theorem dX9_copy_169 : decode cX9_copy 169 = .ok (.iaload, 1) := by decide +kernel
theorem dX9_copy_170 : decode cX9_copy 170 = .ok (.iastore, 1) := by decide +kernel
theorem dX9_copy_171 : decode cX9_copy 171 = .ok (.iinc 7 1, 3) := by decide +kernel
theorem dX9_copy_174 : decode cX9_copy 174 = .ok (.goto (-58), 3) := by decide +kernel
theorem dX9_copy_177 : decode cX9_copy 177 = .ok (.iconst 1, 1) := by decide +kernel
theorem dX9_copy_178 : decode cX9_copy 178 = .ok (.ireturn, 1) := by decide +kernel
theorem dX9_mean_0 : decode cX9_mean 0 = .ok (.iload_n 1, 1) := by decide +kernel
theorem dX9_mean_1 : decode cX9_mean 1 = .ok (.invokestatic 94, 3) := by decide +kernel
theorem dX9_mean_4 : decode cX9_mean 4 = .ok (.ifCond .ne 5, 3) := by decide +kernel
theorem dX9_mean_7 : decode cX9_mean 7 = .ok (.iconst (-1), 1) := by decide +kernel
theorem dX9_mean_8 : decode cX9_mean 8 = .ok (.ireturn, 1) := by decide +kernel
theorem dX9_mean_9 : decode cX9_mean 9 = .ok (.aload_n 0, 1) := by decide +kernel
theorem dX9_mean_10 : decode cX9_mean 10 = .ok (.getfield 7, 3) := by decide +kernel
theorem dX9_mean_13 : decode cX9_mean 13 = .ok (.iload_n 1, 1) := by decide +kernel
theorem dX9_mean_14 : decode cX9_mean 14 = .ok (.iaload, 1) := by decide +kernel
theorem dX9_mean_15 : decode cX9_mean 15 = .ok (.ifCond .ge 9, 3) := by decide +kernel
theorem dX9_mean_18 : decode cX9_mean 18 = .ok (.aload_n 0, 1) := by decide +kernel
theorem dX9_mean_19 : decode cX9_mean 19 = .ok (.iconst 1, 1) := by decide +kernel
theorem dX9_mean_20 : decode cX9_mean 20 = .ok (.invokevirtual 98, 3) := by decide +kernel
theorem dX9_mean_23 : decode cX9_mean 23 = .ok (.ireturn, 1) := by decide +kernel
theorem dX9_mean_24 : decode cX9_mean 24 = .ok (.aload_n 0, 1) := by decide +kernel
theorem dX9_mean_25 : decode cX9_mean 25 = .ok (.getfield 7, 3) := by decide +kernel
theorem dX9_mean_28 : decode cX9_mean 28 = .ok (.iload_n 1, 1) := by decide +kernel
theorem dX9_mean_29 : decode cX9_mean 29 = .ok (.iaload, 1) := by decide +kernel
theorem dX9_mean_30 : decode cX9_mean 30 = .ok (.ifCond .ne 9, 3) := by decide +kernel
theorem dX9_mean_33 : decode cX9_mean 33 = .ok (.aload_n 0, 1) := by decide +kernel
theorem dX9_mean_34 : decode cX9_mean 34 = .ok (.iconst 4, 1) := by decide +kernel
theorem dX9_mean_35 : decode cX9_mean 35 = .ok (.invokevirtual 98, 3) := by decide +kernel
theorem dX9_mean_38 : decode cX9_mean 38 = .ok (.ireturn, 1) := by decide +kernel
theorem dX9_mean_39 : decode cX9_mean 39 = .ok (.lconst 0, 1) := by decide +kernel
theorem dX9_mean_40 : decode cX9_mean 40 = .ok (.lstore_n 2, 1) := by decide +kernel
theorem dX9_mean_41 : decode cX9_mean 41 = .ok (.iconst 0, 1) := by decide +kernel
theorem dX9_mean_42 : decode cX9_mean 42 = .ok (.istore 4, 2) := by decide +kernel
theorem dX9_mean_44 : decode cX9_mean 44 = .ok (.iload 4, 2) := by decide +kernel
theorem dX9_mean_46 : decode cX9_mean 46 = .ok (.aload_n 0, 1) := by decide +kernel
theorem dX9_mean_47 : decode cX9_mean 47 = .ok (.getfield 7, 3) := by decide +kernel
theorem dX9_mean_50 : decode cX9_mean 50 = .ok (.iload_n 1, 1) := by decide +kernel
theorem dX9_mean_51 : decode cX9_mean 51 = .ok (.iaload, 1) := by decide +kernel
theorem dX9_mean_52 : decode cX9_mean 52 = .ok (.if_icmp .ge 25, 3) := by decide +kernel
theorem dX9_mean_55 : decode cX9_mean 55 = .ok (.lload_n 2, 1) := by decide +kernel
theorem dX9_mean_56 : decode cX9_mean 56 = .ok (.aload_n 0, 1) := by decide +kernel
theorem dX9_mean_57 : decode cX9_mean 57 = .ok (.getfield 13, 3) := by decide +kernel
theorem dX9_mean_60 : decode cX9_mean 60 = .ok (.bipush 40, 2) := by decide +kernel
theorem dX9_mean_62 : decode cX9_mean 62 = .ok (.iload_n 1, 1) := by decide +kernel
theorem dX9_mean_63 : decode cX9_mean 63 = .ok (.imul, 1) := by decide +kernel
theorem dX9_mean_64 : decode cX9_mean 64 = .ok (.iload 4, 2) := by decide +kernel
theorem dX9_mean_66 : decode cX9_mean 66 = .ok (.iadd, 1) := by decide +kernel
theorem dX9_mean_67 : decode cX9_mean 67 = .ok (.iaload, 1) := by decide +kernel
theorem dX9_mean_68 : decode cX9_mean 68 = .ok (.i2l, 1) := by decide +kernel
theorem dX9_mean_69 : decode cX9_mean 69 = .ok (.ladd, 1) := by decide +kernel
theorem dX9_mean_70 : decode cX9_mean 70 = .ok (.lstore_n 2, 1) := by decide +kernel
theorem dX9_mean_71 : decode cX9_mean 71 = .ok (.iinc 4 1, 3) := by decide +kernel
theorem dX9_mean_74 : decode cX9_mean 74 = .ok (.goto (-30), 3) := by decide +kernel
theorem dX9_mean_77 : decode cX9_mean 77 = .ok (.aload_n 0, 1) := by decide +kernel
theorem dX9_mean_78 : decode cX9_mean 78 = .ok (.lload_n 2, 1) := by decide +kernel
theorem dX9_mean_79 : decode cX9_mean 79 = .ok (.aload_n 0, 1) := by decide +kernel
theorem dX9_mean_80 : decode cX9_mean 80 = .ok (.getfield 7, 3) := by decide +kernel
theorem dX9_mean_83 : decode cX9_mean 83 = .ok (.iload_n 1, 1) := by decide +kernel
theorem dX9_mean_84 : decode cX9_mean 84 = .ok (.iaload, 1) := by decide +kernel
theorem dX9_mean_85 : decode cX9_mean 85 = .ok (.i2l, 1) := by decide +kernel
theorem dX9_mean_86 : decode cX9_mean 86 = .ok (.ldiv, 1) := by decide +kernel
theorem dX9_mean_87 : decode cX9_mean 87 = .ok (.l2i, 1) := by decide +kernel
theorem dX9_mean_88 : decode cX9_mean 88 = .ok (.iconst 1, 1) := by decide +kernel
theorem dX9_mean_89 : decode cX9_mean 89 = .ok (.invokevirtual 110, 3) := by decide +kernel
theorem dX9_mean_92 : decode cX9_mean 92 = .ok (.ireturn, 1) := by decide +kernel
theorem dX9_text_0 : decode cX9_text 0 = .ok (.iload_n 1, 1) := by decide +kernel
theorem dX9_text_1 : decode cX9_text 1 = .ok (.invokestatic 113, 3) := by decide +kernel
theorem dX9_text_4 : decode cX9_text 4 = .ok (.ifCond .eq 9, 3) := by decide +kernel
theorem dX9_text_7 : decode cX9_text 7 = .ok (.iload_n 2, 1) := by decide +kernel
theorem dX9_text_8 : decode cX9_text 8 = .ok (.bipush 60, 2) := by decide +kernel
theorem dX9_text_10 : decode cX9_text 10 = .ok (.if_icmp .le 5, 3) := by decide +kernel
theorem dX9_text_13 : decode cX9_text 13 = .ok (.iconst (-1), 1) := by decide +kernel
theorem dX9_text_14 : decode cX9_text 14 = .ok (.ireturn, 1) := by decide +kernel
theorem dX9_text_15 : decode cX9_text 15 = .ok (.iload_n 2, 1) := by decide +kernel
theorem dX9_text_16 : decode cX9_text 16 = .ok (.ifCond .ge 9, 3) := by decide +kernel
theorem dX9_text_19 : decode cX9_text 19 = .ok (.aload_n 0, 1) := by decide +kernel
theorem dX9_text_20 : decode cX9_text 20 = .ok (.iconst 5, 1) := by decide +kernel
theorem dX9_text_21 : decode cX9_text 21 = .ok (.invokevirtual 98, 3) := by decide +kernel
theorem dX9_text_24 : decode cX9_text 24 = .ok (.ireturn, 1) := by decide +kernel
theorem dX9_text_25 : decode cX9_text 25 = .ok (.aload_n 0, 1) := by decide +kernel
theorem dX9_text_26 : decode cX9_text 26 = .ok (.getfield 16, 3) := by decide +kernel
theorem dX9_text_29 : decode cX9_text 29 = .ok (.iload_n 1, 1) := by decide +kernel
theorem dX9_text_30 : decode cX9_text 30 = .ok (.iload_n 2, 1) := by decide +kernel
theorem dX9_text_31 : decode cX9_text 31 = .ok (.iastore, 1) := by decide +kernel
theorem dX9_text_32 : decode cX9_text 32 = .ok (.iconst 0, 1) := by decide +kernel
theorem dX9_text_33 : decode cX9_text 33 = .ok (.istore_n 3, 1) := by decide +kernel
theorem dX9_text_34 : decode cX9_text 34 = .ok (.iload_n 3, 1) := by decide +kernel
theorem dX9_text_35 : decode cX9_text 35 = .ok (.iload_n 2, 1) := by decide +kernel
theorem dX9_text_36 : decode cX9_text 36 = .ok (.if_icmp .ge 22, 3) := by decide +kernel
theorem dX9_text_39 : decode cX9_text 39 = .ok (.aload_n 0, 1) := by decide +kernel
theorem dX9_text_40 : decode cX9_text 40 = .ok (.getfield 19, 3) := by decide +kernel
theorem dX9_text_43 : decode cX9_text 43 = .ok (.bipush 60, 2) := by decide +kernel
theorem dX9_text_45 : decode cX9_text 45 = .ok (.iload_n 1, 1) := by decide +kernel
theorem dX9_text_46 : decode cX9_text 46 = .ok (.imul, 1) := by decide +kernel
theorem dX9_text_47 : decode cX9_text 47 = .ok (.iload_n 3, 1) := by decide +kernel
theorem dX9_text_48 : decode cX9_text 48 = .ok (.iadd, 1) := by decide +kernel
theorem dX9_text_49 : decode cX9_text 49 = .ok (.bipush 32, 2) := by decide +kernel
theorem dX9_text_51 : decode cX9_text 51 = .ok (.iastore, 1) := by decide +kernel
theorem dX9_text_52 : decode cX9_text 52 = .ok (.iinc 3 1, 3) := by decide +kernel
theorem dX9_text_55 : decode cX9_text 55 = .ok (.goto (-21), 3) := by decide +kernel
theorem dX9_text_58 : decode cX9_text 58 = .ok (.iload_n 2, 1) := by decide +kernel
theorem dX9_text_59 : decode cX9_text 59 = .ok (.ireturn, 1) := by decide +kernel
theorem dX9_put_0 : decode cX9_put 0 = .ok (.iload_n 1, 1) := by decide +kernel
theorem dX9_put_1 : decode cX9_put 1 = .ok (.invokestatic 113, 3) := by decide +kernel
theorem dX9_put_4 : decode cX9_put 4 = .ok (.ifCond .ne 5, 3) := by decide +kernel
theorem dX9_put_7 : decode cX9_put 7 = .ok (.iconst (-1), 1) := by decide +kernel
theorem dX9_put_8 : decode cX9_put 8 = .ok (.ireturn, 1) := by decide +kernel
theorem dX9_put_9 : decode cX9_put 9 = .ok (.aload_n 0, 1) := by decide +kernel
theorem dX9_put_10 : decode cX9_put 10 = .ok (.getfield 16, 3) := by decide +kernel
theorem dX9_put_13 : decode cX9_put 13 = .ok (.iload_n 1, 1) := by decide +kernel
theorem dX9_put_14 : decode cX9_put 14 = .ok (.iaload, 1) := by decide +kernel
theorem dX9_put_15 : decode cX9_put 15 = .ok (.ifCond .ge 9, 3) := by decide +kernel
theorem dX9_put_18 : decode cX9_put 18 = .ok (.aload_n 0, 1) := by decide +kernel
theorem dX9_put_19 : decode cX9_put 19 = .ok (.iconst 1, 1) := by decide +kernel
theorem dX9_put_20 : decode cX9_put 20 = .ok (.invokevirtual 98, 3) := by decide +kernel
theorem dX9_put_23 : decode cX9_put 23 = .ok (.ireturn, 1) := by decide +kernel
theorem dX9_put_24 : decode cX9_put 24 = .ok (.iload_n 2, 1) := by decide +kernel
theorem dX9_put_25 : decode cX9_put 25 = .ok (.iconst 0, 1) := by decide +kernel
theorem dX9_put_26 : decode cX9_put 26 = .ok (.aload_n 0, 1) := by decide +kernel
theorem dX9_put_27 : decode cX9_put 27 = .ok (.getfield 16, 3) := by decide +kernel
theorem dX9_put_30 : decode cX9_put 30 = .ok (.iload_n 1, 1) := by decide +kernel
theorem dX9_put_31 : decode cX9_put 31 = .ok (.iaload, 1) := by decide +kernel
theorem dX9_put_32 : decode cX9_put 32 = .ok (.iconst 1, 1) := by decide +kernel
theorem dX9_put_33 : decode cX9_put 33 = .ok (.isub, 1) := by decide +kernel
theorem dX9_put_34 : decode cX9_put 34 = .ok (.invokestatic 90, 3) := by decide +kernel
theorem dX9_put_37 : decode cX9_put 37 = .ok (.ifCond .ne 9, 3) := by decide +kernel
theorem dX9_put_40 : decode cX9_put 40 = .ok (.aload_n 0, 1) := by decide +kernel
theorem dX9_put_41 : decode cX9_put 41 = .ok (.iconst 2, 1) := by decide +kernel
theorem dX9_put_42 : decode cX9_put 42 = .ok (.invokevirtual 98, 3) := by decide +kernel
theorem dX9_put_45 : decode cX9_put 45 = .ok (.ireturn, 1) := by decide +kernel
theorem dX9_put_46 : decode cX9_put 46 = .ok (.aload_n 0, 1) := by decide +kernel
theorem dX9_put_47 : decode cX9_put 47 = .ok (.getfield 19, 3) := by decide +kernel
theorem dX9_put_50 : decode cX9_put 50 = .ok (.bipush 60, 2) := by decide +kernel
theorem dX9_put_52 : decode cX9_put 52 = .ok (.iload_n 1, 1) := by decide +kernel
theorem dX9_put_53 : decode cX9_put 53 = .ok (.imul, 1) := by decide +kernel
theorem dX9_put_54 : decode cX9_put 54 = .ok (.iload_n 2, 1) := by decide +kernel
theorem dX9_put_55 : decode cX9_put 55 = .ok (.iadd, 1) := by decide +kernel
theorem dX9_put_56 : decode cX9_put 56 = .ok (.iaload, 1) := by decide +kernel
theorem dX9_put_57 : decode cX9_put 57 = .ok (.istore 4, 2) := by decide +kernel
theorem dX9_put_59 : decode cX9_put 59 = .ok (.aload_n 0, 1) := by decide +kernel
theorem dX9_put_60 : decode cX9_put 60 = .ok (.getfield 19, 3) := by decide +kernel
theorem dX9_put_63 : decode cX9_put 63 = .ok (.bipush 60, 2) := by decide +kernel
theorem dX9_put_65 : decode cX9_put 65 = .ok (.iload_n 1, 1) := by decide +kernel
theorem dX9_put_66 : decode cX9_put 66 = .ok (.imul, 1) := by decide +kernel
theorem dX9_put_67 : decode cX9_put 67 = .ok (.iload_n 2, 1) := by decide +kernel
theorem dX9_put_68 : decode cX9_put 68 = .ok (.iadd, 1) := by decide +kernel
theorem dX9_put_69 : decode cX9_put 69 = .ok (.iload_n 3, 1) := by decide +kernel
theorem dX9_put_70 : decode cX9_put 70 = .ok (.bipush 24, 2) := by decide +kernel
theorem dX9_put_72 : decode cX9_put 72 = .ok (.ishl, 1) := by decide +kernel
theorem dX9_put_73 : decode cX9_put 73 = .ok (.bipush 24, 2) := by decide +kernel
theorem dX9_put_75 : decode cX9_put 75 = .ok (.ishr, 1) := by decide +kernel
theorem dX9_put_76 : decode cX9_put 76 = .ok (.iastore, 1) := by decide +kernel
theorem dX9_put_77 : decode cX9_put 77 = .ok (.iload 4, 2) := by decide +kernel
theorem dX9_put_79 : decode cX9_put 79 = .ok (.sipush 1000, 3) := by decide +kernel
theorem dX9_put_82 : decode cX9_put 82 = .ok (.iadd, 1) := by decide +kernel
theorem dX9_put_83 : decode cX9_put 83 = .ok (.ireturn, 1) := by decide +kernel
theorem dX9_isDocument_0 : decode cX9_isDocument 0 = .ok (.iload_n 0, 1) := by decide +kernel
theorem dX9_isDocument_1 : decode cX9_isDocument 1 = .ok (.iconst 0, 1) := by decide +kernel
theorem dX9_isDocument_2 : decode cX9_isDocument 2 = .ok (.iconst 1, 1) := by decide +kernel
theorem dX9_isDocument_3 : decode cX9_isDocument 3 = .ok (.invokestatic 90, 3) := by decide +kernel
theorem dX9_isDocument_6 : decode cX9_isDocument 6 = .ok (.ireturn, 1) := by decide +kernel
theorem dX9_many_0 : decode cX9_many 0 = .ok (.aload_n 0, 1) := by decide +kernel
theorem dX9_many_1 : decode cX9_many 1 = .ok (.getfield 22, 3) := by decide +kernel
theorem dX9_many_4 : decode cX9_many 4 = .ok (.bipush 25, 2) := by decide +kernel
theorem dX9_many_6 : decode cX9_many 6 = .ok (.iload_n 1, 1) := by decide +kernel
theorem dX9_many_7 : decode cX9_many 7 = .ok (.imul, 1) := by decide +kernel
theorem dX9_many_8 : decode cX9_many 8 = .ok (.iaload, 1) := by decide +kernel
theorem dX9_many_9 : decode cX9_many 9 = .ok (.ireturn, 1) := by decide +kernel
theorem dX9_isNode_0 : decode cX9_isNode 0 = .ok (.iload_n 1, 1) := by decide +kernel
theorem dX9_isNode_1 : decode cX9_isNode 1 = .ok (.invokestatic 116, 3) := by decide +kernel
theorem dX9_isNode_4 : decode cX9_isNode 4 = .ok (.ifCond .eq 22, 3) := by decide +kernel
theorem dX9_isNode_7 : decode cX9_isNode 7 = .ok (.iload_n 2, 1) := by decide +kernel
theorem dX9_isNode_8 : decode cX9_isNode 8 = .ok (.iconst 0, 1) := by decide +kernel
theorem dX9_isNode_9 : decode cX9_isNode 9 = .ok (.aload_n 0, 1) := by decide +kernel
theorem dX9_isNode_10 : decode cX9_isNode 10 = .ok (.iload_n 1, 1) := by decide +kernel
theorem dX9_isNode_11 : decode cX9_isNode 11 = .ok (.invokevirtual 119, 3) := by decide +kernel
theorem dX9_isNode_14 : decode cX9_isNode 14 = .ok (.iconst 1, 1) := by decide +kernel
theorem dX9_isNode_15 : decode cX9_isNode 15 = .ok (.isub, 1) := by decide +kernel
theorem dX9_isNode_16 : decode cX9_isNode 16 = .ok (.invokestatic 90, 3) := by decide +kernel
theorem dX9_isNode_19 : decode cX9_isNode 19 = .ok (.ifCond .eq 7, 3) := by decide +kernel
theorem dX9_isNode_22 : decode cX9_isNode 22 = .ok (.iconst 1, 1) := by decide +kernel
theorem dX9_isNode_23 : decode cX9_isNode 23 = .ok (.goto 4, 3) := by decide +kernel
theorem dX9_isNode_26 : decode cX9_isNode 26 = .ok (.iconst 0, 1) := by decide +kernel
theorem dX9_isNode_27 : decode cX9_isNode 27 = .ok (.ireturn, 1) := by decide +kernel
theorem dX9_codeOf_0 : decode cX9_codeOf 0 = .ok (.aload_n 0, 1) := by decide +kernel
theorem dX9_codeOf_1 : decode cX9_codeOf 1 = .ok (.getfield 22, 3) := by decide +kernel
theorem dX9_codeOf_4 : decode cX9_codeOf 4 = .ok (.bipush 25, 2) := by decide +kernel
theorem dX9_codeOf_6 : decode cX9_codeOf 6 = .ok (.iload_n 1, 1) := by decide +kernel
theorem dX9_codeOf_7 : decode cX9_codeOf 7 = .ok (.imul, 1) := by decide +kernel
theorem dX9_codeOf_8 : decode cX9_codeOf 8 = .ok (.iconst 1, 1) := by decide +kernel
theorem dX9_codeOf_9 : decode cX9_codeOf 9 = .ok (.iadd, 1) := by decide +kernel
theorem dX9_codeOf_10 : decode cX9_codeOf 10 = .ok (.iload_n 2, 1) := by decide +kernel
theorem dX9_codeOf_11 : decode cX9_codeOf 11 = .ok (.iadd, 1) := by decide +kernel
theorem dX9_codeOf_12 : decode cX9_codeOf 12 = .ok (.iaload, 1) := by decide +kernel
theorem dX9_codeOf_13 : decode cX9_codeOf 13 = .ok (.ireturn, 1) := by decide +kernel
theorem dX9_leftOf_0 : decode cX9_leftOf 0 = .ok (.aload_n 0, 1) := by decide +kernel
theorem dX9_leftOf_1 : decode cX9_leftOf 1 = .ok (.getfield 22, 3) := by decide +kernel
theorem dX9_leftOf_4 : decode cX9_leftOf 4 = .ok (.bipush 25, 2) := by decide +kernel
theorem dX9_leftOf_6 : decode cX9_leftOf 6 = .ok (.iload_n 1, 1) := by decide +kernel
theorem dX9_leftOf_7 : decode cX9_leftOf 7 = .ok (.imul, 1) := by decide +kernel
theorem dX9_leftOf_8 : decode cX9_leftOf 8 = .ok (.bipush 13, 2) := by decide +kernel
theorem dX9_leftOf_10 : decode cX9_leftOf 10 = .ok (.iadd, 1) := by decide +kernel
theorem dX9_leftOf_11 : decode cX9_leftOf 11 = .ok (.iload_n 2, 1) := by decide +kernel
theorem dX9_leftOf_12 : decode cX9_leftOf 12 = .ok (.iadd, 1) := by decide +kernel
theorem dX9_leftOf_13 : decode cX9_leftOf 13 = .ok (.iaload, 1) := by decide +kernel
theorem dX9_leftOf_14 : decode cX9_leftOf 14 = .ok (.ireturn, 1) := by decide +kernel
theorem dX9_isMark_0 : decode cX9_isMark 0 = .ok (.iload_n 0, 1) := by decide +kernel
theorem dX9_isMark_1 : decode cX9_isMark 1 = .ok (.bipush 97, 2) := by decide +kernel
theorem dX9_isMark_3 : decode cX9_isMark 3 = .ok (.bipush 114, 2) := by decide +kernel
theorem dX9_isMark_5 : decode cX9_isMark 5 = .ok (.invokestatic 90, 3) := by decide +kernel
theorem dX9_isMark_8 : decode cX9_isMark 8 = .ok (.ifCond .ne 25, 3) := by decide +kernel
theorem dX9_isMark_11 : decode cX9_isMark 11 = .ok (.iload_n 0, 1) := by decide +kernel
theorem dX9_isMark_12 : decode cX9_isMark 12 = .ok (.bipush 65, 2) := by decide +kernel
theorem dX9_isMark_14 : decode cX9_isMark 14 = .ok (.bipush 82, 2) := by decide +kernel
theorem dX9_isMark_16 : decode cX9_isMark 16 = .ok (.invokestatic 90, 3) := by decide +kernel
theorem dX9_isMark_19 : decode cX9_isMark 19 = .ok (.ifCond .ne 14, 3) := by decide +kernel
theorem dX9_isMark_22 : decode cX9_isMark 22 = .ok (.iload_n 0, 1) := by decide +kernel
theorem dX9_isMark_23 : decode cX9_isMark 23 = .ok (.bipush 48, 2) := by decide +kernel
theorem dX9_isMark_25 : decode cX9_isMark 25 = .ok (.bipush 57, 2) := by decide +kernel
theorem dX9_isMark_27 : decode cX9_isMark 27 = .ok (.invokestatic 90, 3) := by decide +kernel
theorem dX9_isMark_30 : decode cX9_isMark 30 = .ok (.ifCond .eq 7, 3) := by decide +kernel
theorem dX9_isMark_33 : decode cX9_isMark 33 = .ok (.iconst 1, 1) := by decide +kernel
theorem dX9_isMark_34 : decode cX9_isMark 34 = .ok (.goto 4, 3) := by decide +kernel
theorem dX9_isMark_37 : decode cX9_isMark 37 = .ok (.iconst 0, 1) := by decide +kernel
theorem dX9_isMark_38 : decode cX9_isMark 38 = .ok (.ireturn, 1) := by decide +kernel
theorem dX9_kindOf_0 : decode cX9_kindOf 0 = .ok (.iload_n 0, 1) := by decide +kernel
theorem dX9_kindOf_1 : decode cX9_kindOf 1 = .ok (.bipush 57, 2) := by decide +kernel
theorem dX9_kindOf_3 : decode cX9_kindOf 3 = .ok (.if_icmp .gt 5, 3) := by decide +kernel
theorem dX9_kindOf_6 : decode cX9_kindOf 6 = .ok (.iconst 2, 1) := by decide +kernel
theorem dX9_kindOf_7 : decode cX9_kindOf 7 = .ok (.ireturn, 1) := by decide +kernel
theorem dX9_kindOf_8 : decode cX9_kindOf 8 = .ok (.iload_n 0, 1) := by decide +kernel
theorem dX9_kindOf_9 : decode cX9_kindOf 9 = .ok (.bipush 82, 2) := by decide +kernel
theorem dX9_kindOf_11 : decode cX9_kindOf 11 = .ok (.if_icmp .gt 15, 3) := by decide +kernel
theorem dX9_kindOf_14 : decode cX9_kindOf 14 = .ok (.iload_n 0, 1) := by decide +kernel
theorem dX9_kindOf_15 : decode cX9_kindOf 15 = .ok (.bipush 73, 2) := by decide +kernel
theorem dX9_kindOf_17 : decode cX9_kindOf 17 = .ok (.if_icmp .gt 7, 3) := by decide +kernel
theorem dX9_kindOf_20 : decode cX9_kindOf 20 = .ok (.iconst 1, 1) := by decide +kernel
theorem dX9_kindOf_21 : decode cX9_kindOf 21 = .ok (.goto 4, 3) := by decide +kernel
theorem dX9_kindOf_24 : decode cX9_kindOf 24 = .ok (.iconst 3, 1) := by decide +kernel
theorem dX9_kindOf_25 : decode cX9_kindOf 25 = .ok (.ireturn, 1) := by decide +kernel
theorem dX9_kindOf_26 : decode cX9_kindOf 26 = .ok (.iload_n 0, 1) := by decide +kernel
theorem dX9_kindOf_27 : decode cX9_kindOf 27 = .ok (.bipush 105, 2) := by decide +kernel
theorem dX9_kindOf_29 : decode cX9_kindOf 29 = .ok (.if_icmp .gt 7, 3) := by decide +kernel
theorem dX9_kindOf_32 : decode cX9_kindOf 32 = .ok (.iconst 0, 1) := by decide +kernel
theorem dX9_kindOf_33 : decode cX9_kindOf 33 = .ok (.goto 4, 3) := by decide +kernel
theorem dX9_kindOf_36 : decode cX9_kindOf 36 = .ok (.iconst 4, 1) := by decide +kernel
theorem dX9_kindOf_37 : decode cX9_kindOf 37 = .ok (.ireturn, 1) := by decide +kernel
theorem dX9_isA_0 : decode cX9_isA 0 = .ok (.iload_n 0, 1) := by decide +kernel
theorem dX9_isA_1 : decode cX9_isA 1 = .ok (.iload_n 1, 1) := by decide +kernel
theorem dX9_isA_2 : decode cX9_isA 2 = .ok (.if_icmp .eq 23, 3) := by decide +kernel
theorem dX9_isA_5 : decode cX9_isA 5 = .ok (.iload_n 1, 1) := by decide +kernel
theorem dX9_isA_6 : decode cX9_isA 6 = .ok (.iconst 1, 1) := by decide +kernel
theorem dX9_isA_7 : decode cX9_isA 7 = .ok (.if_icmp .ne 8, 3) := by decide +kernel
theorem dX9_isA_10 : decode cX9_isA 10 = .ok (.iload_n 0, 1) := by decide +kernel
theorem dX9_isA_11 : decode cX9_isA 11 = .ok (.iconst 3, 1) := by decide +kernel
theorem dX9_isA_12 : decode cX9_isA 12 = .ok (.if_icmp .eq 13, 3) := by decide +kernel
theorem dX9_isA_15 : decode cX9_isA 15 = .ok (.iload_n 1, 1) := by decide +kernel
theorem dX9_isA_16 : decode cX9_isA 16 = .ok (.iconst 2, 1) := by decide +kernel
theorem dX9_isA_17 : decode cX9_isA 17 = .ok (.if_icmp .ne 12, 3) := by decide +kernel
theorem dX9_isA_20 : decode cX9_isA 20 = .ok (.iload_n 0, 1) := by decide +kernel
theorem dX9_isA_21 : decode cX9_isA 21 = .ok (.iconst 4, 1) := by decide +kernel
theorem dX9_isA_22 : decode cX9_isA 22 = .ok (.if_icmp .ne 7, 3) := by decide +kernel
theorem dX9_isA_25 : decode cX9_isA 25 = .ok (.iconst 1, 1) := by decide +kernel
theorem dX9_isA_26 : decode cX9_isA 26 = .ok (.goto 4, 3) := by decide +kernel
theorem dX9_isA_29 : decode cX9_isA 29 = .ok (.iconst 0, 1) := by decide +kernel
theorem dX9_isA_30 : decode cX9_isA 30 = .ok (.ireturn, 1) := by decide +kernel
theorem dX9_here_0 : decode cX9_here 0 = .ok (.aload_n 0, 1) := by decide +kernel
theorem dX9_here_1 : decode cX9_here 1 = .ok (.getfield 122, 3) := by decide +kernel
theorem dX9_here_4 : decode cX9_here 4 = .ok (.aload_n 0, 1) := by decide +kernel
theorem dX9_here_5 : decode cX9_here 5 = .ok (.getfield 16, 3) := by decide +kernel
theorem dX9_here_8 : decode cX9_here 8 = .ok (.iload_n 1, 1) := by decide +kernel
theorem dX9_here_9 : decode cX9_here 9 = .ok (.iaload, 1) := by decide +kernel
theorem dX9_here_10 : decode cX9_here 10 = .ok (.if_icmp .ge 35, 3) := by decide +kernel
theorem dX9_here_13 : decode cX9_here 13 = .ok (.aload_n 0, 1) := by decide +kernel
theorem dX9_here_14 : decode cX9_here 14 = .ok (.getfield 19, 3) := by decide +kernel
theorem dX9_here_17 : decode cX9_here 17 = .ok (.bipush 60, 2) := by decide +kernel
theorem dX9_here_19 : decode cX9_here 19 = .ok (.iload_n 1, 1) := by decide +kernel
theorem dX9_here_20 : decode cX9_here 20 = .ok (.imul, 1) := by decide +kernel
theorem dX9_here_21 : decode cX9_here 21 = .ok (.aload_n 0, 1) := by decide +kernel
theorem dX9_here_22 : decode cX9_here 22 = .ok (.getfield 122, 3) := by decide +kernel
theorem dX9_here_25 : decode cX9_here 25 = .ok (.iadd, 1) := by decide +kernel
theorem dX9_here_26 : decode cX9_here 26 = .ok (.iaload, 1) := by decide +kernel
theorem dX9_here_27 : decode cX9_here 27 = .ok (.bipush 32, 2) := by decide +kernel
theorem dX9_here_29 : decode cX9_here 29 = .ok (.if_icmp .ne 16, 3) := by decide +kernel
theorem dX9_here_32 : decode cX9_here 32 = .ok (.aload_n 0, 1) := by decide +kernel
theorem dX9_here_33 : decode cX9_here 33 = .ok (.dup, 1) := by decide +kernel
theorem dX9_here_34 : decode cX9_here 34 = .ok (.getfield 122, 3) := by decide +kernel
theorem dX9_here_37 : decode cX9_here 37 = .ok (.iconst 1, 1) := by decide +kernel
theorem dX9_here_38 : decode cX9_here 38 = .ok (.iadd, 1) := by decide +kernel
theorem dX9_here_39 : decode cX9_here 39 = .ok (.putfield 122, 3) := by decide +kernel
theorem dX9_here_42 : decode cX9_here 42 = .ok (.goto (-42), 3) := by decide +kernel
theorem dX9_here_45 : decode cX9_here 45 = .ok (.aload_n 0, 1) := by decide +kernel
theorem dX9_here_46 : decode cX9_here 46 = .ok (.getfield 122, 3) := by decide +kernel
theorem dX9_here_49 : decode cX9_here 49 = .ok (.aload_n 0, 1) := by decide +kernel
theorem dX9_here_50 : decode cX9_here 50 = .ok (.getfield 16, 3) := by decide +kernel
theorem dX9_here_53 : decode cX9_here 53 = .ok (.iload_n 1, 1) := by decide +kernel
theorem dX9_here_54 : decode cX9_here 54 = .ok (.iaload, 1) := by decide +kernel
theorem dX9_here_55 : decode cX9_here 55 = .ok (.if_icmp .ge 20, 3) := by decide +kernel
theorem dX9_here_58 : decode cX9_here 58 = .ok (.aload_n 0, 1) := by decide +kernel
theorem dX9_here_59 : decode cX9_here 59 = .ok (.getfield 19, 3) := by decide +kernel
theorem dX9_here_62 : decode cX9_here 62 = .ok (.bipush 60, 2) := by decide +kernel
theorem dX9_here_64 : decode cX9_here 64 = .ok (.iload_n 1, 1) := by decide +kernel
theorem dX9_here_65 : decode cX9_here 65 = .ok (.imul, 1) := by decide +kernel
theorem dX9_here_66 : decode cX9_here 66 = .ok (.aload_n 0, 1) := by decide +kernel
theorem dX9_here_67 : decode cX9_here 67 = .ok (.getfield 122, 3) := by decide +kernel
theorem dX9_here_70 : decode cX9_here 70 = .ok (.iadd, 1) := by decide +kernel
theorem dX9_here_71 : decode cX9_here 71 = .ok (.iaload, 1) := by decide +kernel
theorem dX9_here_72 : decode cX9_here 72 = .ok (.goto 6, 3) := by decide +kernel
theorem dX9_here_75 : decode cX9_here 75 = .ok (.sipush (-1000), 3) := by decide +kernel
theorem dX9_here_78 : decode cX9_here 78 = .ok (.ireturn, 1) := by decide +kernel
theorem dX9_closes_0 : decode cX9_closes 0 = .ok (.aload_n 0, 1) := by decide +kernel
theorem dX9_closes_1 : decode cX9_closes 1 = .ok (.getfield 38, 3) := by decide +kernel
theorem dX9_closes_4 : decode cX9_closes 4 = .ok (.aload_n 0, 1) := by decide +kernel
theorem dX9_closes_5 : decode cX9_closes 5 = .ok (.getfield 125, 3) := by decide +kernel
theorem dX9_closes_8 : decode cX9_closes 8 = .ok (.iload_n 1, 1) := by decide +kernel
theorem dX9_closes_9 : decode cX9_closes 9 = .ok (.iastore, 1) := by decide +kernel
theorem dX9_closes_10 : decode cX9_closes 10 = .ok (.aload_n 0, 1) := by decide +kernel
theorem dX9_closes_11 : decode cX9_closes 11 = .ok (.getfield 41, 3) := by decide +kernel
theorem dX9_closes_14 : decode cX9_closes 14 = .ok (.aload_n 0, 1) := by decide +kernel
theorem dX9_closes_15 : decode cX9_closes 15 = .ok (.getfield 125, 3) := by decide +kernel
theorem dX9_closes_18 : decode cX9_closes 18 = .ok (.iload_n 2, 1) := by decide +kernel
theorem dX9_closes_19 : decode cX9_closes 19 = .ok (.iastore, 1) := by decide +kernel
theorem dX9_closes_20 : decode cX9_closes 20 = .ok (.aload_n 0, 1) := by decide +kernel
theorem dX9_closes_21 : decode cX9_closes 21 = .ok (.dup, 1) := by decide +kernel
theorem dX9_closes_22 : decode cX9_closes 22 = .ok (.getfield 125, 3) := by decide +kernel
theorem dX9_closes_25 : decode cX9_closes 25 = .ok (.iconst 1, 1) := by decide +kernel
theorem dX9_closes_26 : decode cX9_closes 26 = .ok (.iadd, 1) := by decide +kernel
theorem dX9_closes_27 : decode cX9_closes 27 = .ok (.putfield 125, 3) := by decide +kernel
theorem dX9_closes_30 : decode cX9_closes 30 = .ok (.return_, 1) := by decide +kernel
theorem dX9_reading_0 : decode cX9_reading 0 = .ok (.iconst 0, 1) := by decide +kernel
theorem dX9_reading_1 : decode cX9_reading 1 = .ok (.istore_n 2, 1) := by decide +kernel
theorem dX9_reading_2 : decode cX9_reading 2 = .ok (.iconst 0, 1) := by decide +kernel
theorem dX9_reading_3 : decode cX9_reading 3 = .ok (.istore_n 3, 1) := by decide +kernel
theorem dX9_reading_4 : decode cX9_reading 4 = .ok (.iconst 0, 1) := by decide +kernel
theorem dX9_reading_5 : decode cX9_reading 5 = .ok (.istore 4, 2) := by decide +kernel
theorem dX9_reading_7 : decode cX9_reading 7 = .ok (.aload_n 0, 1) := by decide +kernel
theorem dX9_reading_8 : decode cX9_reading 8 = .ok (.iconst 0, 1) := by decide +kernel
theorem dX9_reading_9 : decode cX9_reading 9 = .ok (.putfield 122, 3) := by decide +kernel
theorem dX9_reading_12 : decode cX9_reading 12 = .ok (.aload_n 0, 1) := by decide +kernel
theorem dX9_reading_13 : decode cX9_reading 13 = .ok (.iconst 0, 1) := by decide +kernel
theorem dX9_reading_14 : decode cX9_reading 14 = .ok (.putfield 125, 3) := by decide +kernel
theorem dX9_reading_17 : decode cX9_reading 17 = .ok (.iconst 0, 1) := by decide +kernel
theorem dX9_reading_18 : decode cX9_reading 18 = .ok (.istore 5, 2) := by decide +kernel
theorem dX9_reading_20 : decode cX9_reading 20 = .ok (.aload_n 0, 1) := by decide +kernel
theorem dX9_reading_21 : decode cX9_reading 21 = .ok (.iload_n 1, 1) := by decide +kernel
theorem dX9_reading_22 : decode cX9_reading 22 = .ok (.invokevirtual 128, 3) := by decide +kernel
theorem dX9_reading_25 : decode cX9_reading 25 = .ok (.sipush (-1000), 3) := by decide +kernel
theorem dX9_reading_28 : decode cX9_reading 28 = .ok (.if_icmp .eq 209, 3) := by decide +kernel
theorem dX9_reading_31 : decode cX9_reading 31 = .ok (.aload_n 0, 1) := by decide +kernel
theorem dX9_reading_32 : decode cX9_reading 32 = .ok (.iload_n 1, 1) := by decide +kernel
theorem dX9_reading_33 : decode cX9_reading 33 = .ok (.invokevirtual 128, 3) := by decide +kernel
theorem dX9_reading_36 : decode cX9_reading 36 = .ok (.istore 6, 2) := by decide +kernel
theorem dX9_reading_38 : decode cX9_reading 38 = .ok (.iload 6, 2) := by decide +kernel
theorem dX9_reading_40 : decode cX9_reading 40 = .ok (.invokestatic 131, 3) := by decide +kernel
theorem dX9_reading_43 : decode cX9_reading 43 = .ok (.ifCond .eq 26, 3) := by decide +kernel
theorem dX9_reading_46 : decode cX9_reading 46 = .ok (.iload_n 3, 1) := by decide +kernel
theorem dX9_reading_47 : decode cX9_reading 47 = .ok (.bipush 12, 2) := by decide +kernel
theorem dX9_reading_49 : decode cX9_reading 49 = .ok (.if_icmp .ge 16, 3) := by decide +kernel
theorem dX9_reading_52 : decode cX9_reading 52 = .ok (.iload_n 2, 1) := by decide +kernel
theorem dX9_reading_53 : decode cX9_reading 53 = .ok (.ifCond .gt 8, 3) := by decide +kernel
theorem dX9_reading_56 : decode cX9_reading 56 = .ok (.iload 4, 2) := by decide +kernel
theorem dX9_reading_58 : decode cX9_reading 58 = .ok (.ifCond .ne 7, 3) := by decide +kernel
theorem dX9_reading_61 : decode cX9_reading 61 = .ok (.iconst 1, 1) := by decide +kernel
theorem dX9_reading_62 : decode cX9_reading 62 = .ok (.goto 50, 3) := by decide +kernel
theorem dX9_reading_65 : decode cX9_reading 65 = .ok (.iconst 0, 1) := by decide +kernel
theorem dX9_reading_66 : decode cX9_reading 66 = .ok (.goto 46, 3) := by decide +kernel
theorem dX9_reading_69 : decode cX9_reading 69 = .ok (.iload 6, 2) := by decide +kernel
theorem dX9_reading_71 : decode cX9_reading 71 = .ok (.bipush 40, 2) := by decide +kernel
theorem dX9_reading_73 : decode cX9_reading 73 = .ok (.if_icmp .ne 17, 3) := by decide +kernel
theorem dX9_reading_76 : decode cX9_reading 76 = .ok (.iload 4, 2) := by decide +kernel
theorem dX9_reading_78 : decode cX9_reading 78 = .ok (.iconst 1, 1) := by decide +kernel
theorem dX9_reading_79 : decode cX9_reading 79 = .ok (.if_icmp .ne 7, 3) := by decide +kernel
theorem dX9_reading_82 : decode cX9_reading 82 = .ok (.iconst 1, 1) := by decide +kernel
theorem dX9_reading_83 : decode cX9_reading 83 = .ok (.goto 29, 3) := by decide +kernel
theorem dX9_reading_86 : decode cX9_reading 86 = .ok (.iconst 0, 1) := by decide +kernel
theorem dX9_reading_87 : decode cX9_reading 87 = .ok (.goto 25, 3) := by decide +kernel
theorem dX9_reading_90 : decode cX9_reading 90 = .ok (.iload 6, 2) := by decide +kernel
theorem dX9_reading_92 : decode cX9_reading 92 = .ok (.bipush 41, 2) := by decide +kernel
theorem dX9_reading_94 : decode cX9_reading 94 = .ok (.if_icmp .ne 17, 3) := by decide +kernel
theorem dX9_reading_97 : decode cX9_reading 97 = .ok (.iload_n 2, 1) := by decide +kernel
theorem dX9_reading_98 : decode cX9_reading 98 = .ok (.ifCond .le 13, 3) := by decide +kernel
theorem dX9_reading_101 : decode cX9_reading 101 = .ok (.iload 4, 2) := by decide +kernel
theorem dX9_reading_103 : decode cX9_reading 103 = .ok (.iconst 2, 1) := by decide +kernel
theorem dX9_reading_104 : decode cX9_reading 104 = .ok (.if_icmp .eq 7, 3) := by decide +kernel
theorem dX9_reading_107 : decode cX9_reading 107 = .ok (.iconst 1, 1) := by decide +kernel
theorem dX9_reading_108 : decode cX9_reading 108 = .ok (.goto 4, 3) := by decide +kernel
theorem dX9_reading_111 : decode cX9_reading 111 = .ok (.iconst 0, 1) := by decide +kernel
theorem dX9_reading_112 : decode cX9_reading 112 = .ok (.istore 7, 2) := by decide +kernel
theorem dX9_reading_114 : decode cX9_reading 114 = .ok (.iload 7, 2) := by decide +kernel
theorem dX9_reading_116 : decode cX9_reading 116 = .ok (.ifCond .ne 8, 3) := by decide +kernel
theorem dX9_reading_119 : decode cX9_reading 119 = .ok (.aload_n 0, 1) := by decide +kernel
theorem dX9_reading_120 : decode cX9_reading 120 = .ok (.getfield 122, 3) := by decide +kernel
theorem dX9_reading_123 : decode cX9_reading 123 = .ok (.ireturn, 1) := by decide +kernel
theorem dX9_reading_124 : decode cX9_reading 124 = .ok (.iload 4, 2) := by decide +kernel
theorem dX9_reading_126 : decode cX9_reading 126 = .ok (.iconst 1, 1) := by decide +kernel
theorem dX9_reading_127 : decode cX9_reading 127 = .ok (.if_icmp .ne 20, 3) := by decide +kernel
theorem dX9_reading_130 : decode cX9_reading 130 = .ok (.iload 6, 2) := by decide +kernel
theorem dX9_reading_132 : decode cX9_reading 132 = .ok (.bipush 40, 2) := by decide +kernel
theorem dX9_reading_134 : decode cX9_reading 134 = .ok (.if_icmp .eq 13, 3) := by decide +kernel
theorem dX9_reading_137 : decode cX9_reading 137 = .ok (.aload_n 0, 1) := by decide +kernel
theorem dX9_reading_138 : decode cX9_reading 138 = .ok (.iload 5, 2) := by decide +kernel
theorem dX9_reading_140 : decode cX9_reading 140 = .ok (.aload_n 0, 1) := by decide +kernel
theorem dX9_reading_141 : decode cX9_reading 141 = .ok (.getfield 125, 3) := by decide +kernel
theorem dX9_reading_144 : decode cX9_reading 144 = .ok (.invokevirtual 134, 3) := by decide +kernel
theorem dX9_reading_147 : decode cX9_reading 147 = .ok (.iload 6, 2) := by decide +kernel
theorem dX9_reading_149 : decode cX9_reading 149 = .ok (.invokestatic 131, 3) := by decide +kernel
theorem dX9_reading_152 : decode cX9_reading 152 = .ok (.ifCond .eq 16, 3) := by decide +kernel
theorem dX9_reading_155 : decode cX9_reading 155 = .ok (.iload 6, 2) := by decide +kernel
theorem dX9_reading_157 : decode cX9_reading 157 = .ok (.istore 5, 2) := by decide +kernel
theorem dX9_reading_159 : decode cX9_reading 159 = .ok (.iinc 3 1, 3) := by decide +kernel
theorem dX9_reading_162 : decode cX9_reading 162 = .ok (.iconst 1, 1) := by decide +kernel
theorem dX9_reading_163 : decode cX9_reading 163 = .ok (.istore 4, 2) := by decide +kernel
theorem dX9_reading_165 : decode cX9_reading 165 = .ok (.goto 59, 3) := by decide +kernel
theorem dX9_reading_168 : decode cX9_reading 168 = .ok (.iload 6, 2) := by decide +kernel
theorem dX9_reading_170 : decode cX9_reading 170 = .ok (.bipush 40, 2) := by decide +kernel
theorem dX9_reading_172 : decode cX9_reading 172 = .ok (.if_icmp .ne 30, 3) := by decide +kernel
theorem dX9_reading_175 : decode cX9_reading 175 = .ok (.aload_n 0, 1) := by decide +kernel
theorem dX9_reading_176 : decode cX9_reading 176 = .ok (.getfield 44, 3) := by decide +kernel
theorem dX9_reading_179 : decode cX9_reading 179 = .ok (.iload_n 2, 1) := by decide +kernel
theorem dX9_reading_180 : decode cX9_reading 180 = .ok (.iload 5, 2) := by decide +kernel
theorem dX9_reading_182 : decode cX9_reading 182 = .ok (.iastore, 1) := by decide +kernel
theorem dX9_reading_183 : decode cX9_reading 183 = .ok (.aload_n 0, 1) := by decide +kernel
theorem dX9_reading_184 : decode cX9_reading 184 = .ok (.getfield 47, 3) := by decide +kernel
theorem dX9_reading_187 : decode cX9_reading 187 = .ok (.iload_n 2, 1) := by decide +kernel
theorem dX9_reading_188 : decode cX9_reading 188 = .ok (.aload_n 0, 1) := by decide +kernel
theorem dX9_reading_189 : decode cX9_reading 189 = .ok (.getfield 125, 3) := by decide +kernel
theorem dX9_reading_192 : decode cX9_reading 192 = .ok (.iastore, 1) := by decide +kernel
theorem dX9_reading_193 : decode cX9_reading 193 = .ok (.iinc 2 1, 3) := by decide +kernel
theorem dX9_reading_196 : decode cX9_reading 196 = .ok (.iconst 2, 1) := by decide +kernel
theorem dX9_reading_197 : decode cX9_reading 197 = .ok (.istore 4, 2) := by decide +kernel
theorem dX9_reading_199 : decode cX9_reading 199 = .ok (.goto 25, 3) := by decide +kernel
theorem dX9_reading_202 : decode cX9_reading 202 = .ok (.iinc 2 (-1), 3) := by decide +kernel
theorem dX9_reading_205 : decode cX9_reading 205 = .ok (.aload_n 0, 1) := by decide +kernel
theorem dX9_reading_206 : decode cX9_reading 206 = .ok (.aload_n 0, 1) := by decide +kernel
theorem dX9_reading_207 : decode cX9_reading 207 = .ok (.getfield 44, 3) := by decide +kernel
theorem dX9_reading_210 : decode cX9_reading 210 = .ok (.iload_n 2, 1) := by decide +kernel
theorem dX9_reading_211 : decode cX9_reading 211 = .ok (.iaload, 1) := by decide +kernel
theorem dX9_reading_212 : decode cX9_reading 212 = .ok (.aload_n 0, 1) := by decide +kernel
theorem dX9_reading_213 : decode cX9_reading 213 = .ok (.getfield 47, 3) := by decide +kernel
theorem dX9_reading_216 : decode cX9_reading 216 = .ok (.iload_n 2, 1) := by decide +kernel
theorem dX9_reading_217 : decode cX9_reading 217 = .ok (.iaload, 1) := by decide +kernel
theorem dX9_reading_218 : decode cX9_reading 218 = .ok (.invokevirtual 134, 3) := by decide +kernel
theorem dX9_reading_221 : decode cX9_reading 221 = .ok (.iconst 3, 1) := by decide +kernel
theorem dX9_reading_222 : decode cX9_reading 222 = .ok (.istore 4, 2) := by decide +kernel
theorem dX9_reading_224 : decode cX9_reading 224 = .ok (.aload_n 0, 1) := by decide +kernel
theorem dX9_reading_225 : decode cX9_reading 225 = .ok (.dup, 1) := by decide +kernel
theorem dX9_reading_226 : decode cX9_reading 226 = .ok (.getfield 122, 3) := by decide +kernel
theorem dX9_reading_229 : decode cX9_reading 229 = .ok (.iconst 1, 1) := by decide +kernel
theorem dX9_reading_230 : decode cX9_reading 230 = .ok (.iadd, 1) := by decide +kernel
theorem dX9_reading_231 : decode cX9_reading 231 = .ok (.putfield 122, 3) := by decide +kernel
theorem dX9_reading_234 : decode cX9_reading 234 = .ok (.goto (-214), 3) := by decide +kernel
theorem dX9_reading_237 : decode cX9_reading 237 = .ok (.iload 4, 2) := by decide +kernel
theorem dX9_reading_239 : decode cX9_reading 239 = .ok (.iconst 1, 1) := by decide +kernel
theorem dX9_reading_240 : decode cX9_reading 240 = .ok (.if_icmp .ne 13, 3) := by decide +kernel
theorem dX9_reading_243 : decode cX9_reading 243 = .ok (.aload_n 0, 1) := by decide +kernel
theorem dX9_reading_244 : decode cX9_reading 244 = .ok (.iload 5, 2) := by decide +kernel
theorem dX9_reading_246 : decode cX9_reading 246 = .ok (.aload_n 0, 1) := by decide +kernel
theorem dX9_reading_247 : decode cX9_reading 247 = .ok (.getfield 125, 3) := by decide +kernel
theorem dX9_reading_250 : decode cX9_reading 250 = .ok (.invokevirtual 134, 3) := by decide +kernel
theorem dX9_reading_253 : decode cX9_reading 253 = .ok (.iload_n 2, 1) := by decide +kernel
theorem dX9_reading_254 : decode cX9_reading 254 = .ok (.ifCond .gt 8, 3) := by decide +kernel
theorem dX9_reading_257 : decode cX9_reading 257 = .ok (.iload 4, 2) := by decide +kernel
theorem dX9_reading_259 : decode cX9_reading 259 = .ok (.ifCond .ne 12, 3) := by decide +kernel
theorem dX9_reading_262 : decode cX9_reading 262 = .ok (.aload_n 0, 1) := by decide +kernel
theorem dX9_reading_263 : decode cX9_reading 263 = .ok (.getfield 16, 3) := by decide +kernel
theorem dX9_reading_266 : decode cX9_reading 266 = .ok (.iload_n 1, 1) := by decide +kernel
theorem dX9_reading_267 : decode cX9_reading 267 = .ok (.iaload, 1) := by decide +kernel
theorem dX9_reading_268 : decode cX9_reading 268 = .ok (.goto 5, 3) := by decide +kernel
theorem dX9_reading_271 : decode cX9_reading 271 = .ok (.bipush (-9), 2) := by decide +kernel
theorem dX9_reading_273 : decode cX9_reading 273 = .ok (.ireturn, 1) := by decide +kernel
theorem dX9_fault_0 : decode cX9_fault 0 = .ok (.iload_n 1, 1) := by decide +kernel
theorem dX9_fault_1 : decode cX9_fault 1 = .ok (.invokestatic 113, 3) := by decide +kernel
theorem dX9_fault_4 : decode cX9_fault 4 = .ok (.ifCond .ne 5, 3) := by decide +kernel
theorem dX9_fault_7 : decode cX9_fault 7 = .ok (.iconst (-1), 1) := by decide +kernel
theorem dX9_fault_8 : decode cX9_fault 8 = .ok (.ireturn, 1) := by decide +kernel
theorem dX9_fault_9 : decode cX9_fault 9 = .ok (.aload_n 0, 1) := by decide +kernel
theorem dX9_fault_10 : decode cX9_fault 10 = .ok (.getfield 16, 3) := by decide +kernel
theorem dX9_fault_13 : decode cX9_fault 13 = .ok (.iload_n 1, 1) := by decide +kernel
theorem dX9_fault_14 : decode cX9_fault 14 = .ok (.iaload, 1) := by decide +kernel
theorem dX9_fault_15 : decode cX9_fault 15 = .ok (.ifCond .ge 11, 3) := by decide +kernel
theorem dX9_fault_18 : decode cX9_fault 18 = .ok (.aload_n 0, 1) := by decide +kernel
theorem dX9_fault_19 : decode cX9_fault 19 = .ok (.iconst 1, 1) := by decide +kernel
theorem dX9_fault_20 : decode cX9_fault 20 = .ok (.invokevirtual 98, 3) := by decide +kernel
theorem dX9_fault_23 : decode cX9_fault 23 = .ok (.goto 8, 3) := by decide +kernel
theorem dX9_fault_26 : decode cX9_fault 26 = .ok (.aload_n 0, 1) := by decide +kernel
theorem dX9_fault_27 : decode cX9_fault 27 = .ok (.iload_n 1, 1) := by decide +kernel
theorem dX9_fault_28 : decode cX9_fault 28 = .ok (.invokevirtual 137, 3) := by decide +kernel
theorem dX9_fault_31 : decode cX9_fault 31 = .ok (.ireturn, 1) := by decide +kernel
theorem dX9_document_0 : decode cX9_document 0 = .ok (.iload_n 1, 1) := by decide +kernel
theorem dX9_document_1 : decode cX9_document 1 = .ok (.invokestatic 116, 3) := by decide +kernel
theorem dX9_document_4 : decode cX9_document 4 = .ok (.ifCond .eq 10, 3) := by decide +kernel
theorem dX9_document_7 : decode cX9_document 7 = .ok (.iload_n 2, 1) := by decide +kernel
theorem dX9_document_8 : decode cX9_document 8 = .ok (.invokestatic 113, 3) := by decide +kernel
theorem dX9_document_11 : decode cX9_document 11 = .ok (.ifCond .ne 5, 3) := by decide +kernel
theorem dX9_document_14 : decode cX9_document 14 = .ok (.iconst (-1), 1) := by decide +kernel
theorem dX9_document_15 : decode cX9_document 15 = .ok (.ireturn, 1) := by decide +kernel
theorem dX9_document_16 : decode cX9_document 16 = .ok (.aload_n 0, 1) := by decide +kernel
theorem dX9_document_17 : decode cX9_document 17 = .ok (.getfield 16, 3) := by decide +kernel
theorem dX9_document_20 : decode cX9_document 20 = .ok (.iload_n 2, 1) := by decide +kernel
theorem dX9_document_21 : decode cX9_document 21 = .ok (.iaload, 1) := by decide +kernel
theorem dX9_document_22 : decode cX9_document 22 = .ok (.ifCond .ge 9, 3) := by decide +kernel
theorem dX9_document_25 : decode cX9_document 25 = .ok (.aload_n 0, 1) := by decide +kernel
theorem dX9_document_26 : decode cX9_document 26 = .ok (.iconst 1, 1) := by decide +kernel
theorem dX9_document_27 : decode cX9_document 27 = .ok (.invokevirtual 98, 3) := by decide +kernel
theorem dX9_document_30 : decode cX9_document 30 = .ok (.ireturn, 1) := by decide +kernel
theorem dX9_document_31 : decode cX9_document 31 = .ok (.aload_n 0, 1) := by decide +kernel
theorem dX9_document_32 : decode cX9_document 32 = .ok (.iload_n 2, 1) := by decide +kernel
theorem dX9_document_33 : decode cX9_document 33 = .ok (.invokevirtual 137, 3) := by decide +kernel
theorem dX9_document_36 : decode cX9_document 36 = .ok (.bipush (-9), 2) := by decide +kernel
theorem dX9_document_38 : decode cX9_document 38 = .ok (.if_icmp .eq 6, 3) := by decide +kernel
theorem dX9_document_41 : decode cX9_document 41 = .ok (.bipush (-4), 2) := by decide +kernel
theorem dX9_document_43 : decode cX9_document 43 = .ok (.ireturn, 1) := by decide +kernel
theorem dX9_document_44 : decode cX9_document 44 = .ok (.aload_n 0, 1) := by decide +kernel
theorem dX9_document_45 : decode cX9_document 45 = .ok (.getfield 22, 3) := by decide +kernel
theorem dX9_document_48 : decode cX9_document 48 = .ok (.bipush 25, 2) := by decide +kernel
theorem dX9_document_50 : decode cX9_document 50 = .ok (.iload_n 1, 1) := by decide +kernel
theorem dX9_document_51 : decode cX9_document 51 = .ok (.imul, 1) := by decide +kernel
theorem dX9_document_52 : decode cX9_document 52 = .ok (.aload_n 0, 1) := by decide +kernel
theorem dX9_document_53 : decode cX9_document 53 = .ok (.getfield 125, 3) := by decide +kernel
theorem dX9_document_56 : decode cX9_document 56 = .ok (.iastore, 1) := by decide +kernel
theorem dX9_document_57 : decode cX9_document 57 = .ok (.aload_n 0, 1) := by decide +kernel
theorem dX9_document_58 : decode cX9_document 58 = .ok (.getfield 38, 3) := by decide +kernel
theorem dX9_document_61 : decode cX9_document 61 = .ok (.iconst 0, 1) := by decide +kernel
theorem dX9_document_62 : decode cX9_document 62 = .ok (.aload_n 0, 1) := by decide +kernel
theorem dX9_document_63 : decode cX9_document 63 = .ok (.getfield 22, 3) := by decide +kernel
theorem dX9_document_66 : decode cX9_document 66 = .ok (.bipush 25, 2) := by decide +kernel
theorem dX9_document_68 : decode cX9_document 68 = .ok (.iload_n 1, 1) := by decide +kernel
theorem dX9_document_69 : decode cX9_document 69 = .ok (.imul, 1) := by decide +kernel
theorem dX9_document_70 : decode cX9_document 70 = .ok (.iconst 1, 1) := by decide +kernel
theorem dX9_document_71 : decode cX9_document 71 = .ok (.iadd, 1) := by decide +kernel
theorem dX9_document_72 : decode cX9_document 72 = .ok (.aload_n 0, 1) := by decide +kernel
theorem dX9_document_73 : decode cX9_document 73 = .ok (.getfield 125, 3) := by decide +kernel
theorem dX9_document_76 : decode cX9_document 76 = .ok (.invokestatic 140, 3) := by decide +kernel
theorem dX9_document_79 : decode cX9_document 79 = .ok (.aload_n 0, 1) := by decide +kernel
theorem dX9_document_80 : decode cX9_document 80 = .ok (.getfield 41, 3) := by decide +kernel
theorem dX9_document_83 : decode cX9_document 83 = .ok (.iconst 0, 1) := by decide +kernel
theorem dX9_document_84 : decode cX9_document 84 = .ok (.aload_n 0, 1) := by decide +kernel
theorem dX9_document_85 : decode cX9_document 85 = .ok (.getfield 22, 3) := by decide +kernel
theorem dX9_document_88 : decode cX9_document 88 = .ok (.bipush 25, 2) := by decide +kernel
theorem dX9_document_90 : decode cX9_document 90 = .ok (.iload_n 1, 1) := by decide +kernel
theorem dX9_document_91 : decode cX9_document 91 = .ok (.imul, 1) := by decide +kernel
theorem dX9_document_92 : decode cX9_document 92 = .ok (.bipush 13, 2) := by decide +kernel
theorem dX9_document_94 : decode cX9_document 94 = .ok (.iadd, 1) := by decide +kernel
theorem dX9_document_95 : decode cX9_document 95 = .ok (.aload_n 0, 1) := by decide +kernel
theorem dX9_document_96 : decode cX9_document 96 = .ok (.getfield 125, 3) := by decide +kernel
theorem dX9_document_99 : decode cX9_document 99 = .ok (.invokestatic 140, 3) := by decide +kernel
theorem dX9_document_102 : decode cX9_document 102 = .ok (.aload_n 0, 1) := by decide +kernel
theorem dX9_document_103 : decode cX9_document 103 = .ok (.iconst 0, 1) := by decide +kernel
theorem dX9_document_104 : decode cX9_document 104 = .ok (.putfield 144, 3) := by decide +kernel
theorem dX9_document_107 : decode cX9_document 107 = .ok (.iconst 0, 1) := by decide +kernel
theorem dX9_document_108 : decode cX9_document 108 = .ok (.istore_n 3, 1) := by decide +kernel
theorem dX9_document_109 : decode cX9_document 109 = .ok (.iload_n 3, 1) := by decide +kernel
theorem dX9_document_110 : decode cX9_document 110 = .ok (.iconst 3, 1) := by decide +kernel
theorem dX9_document_111 : decode cX9_document 111 = .ok (.if_icmp .ge 16, 3) := by decide +kernel
theorem dX9_document_114 : decode cX9_document 114 = .ok (.aload_n 0, 1) := by decide +kernel
theorem dX9_document_115 : decode cX9_document 115 = .ok (.getfield 31, 3) := by decide +kernel
theorem dX9_document_118 : decode cX9_document 118 = .ok (.iload_n 3, 1) := by decide +kernel
theorem dX9_document_119 : decode cX9_document 119 = .ok (.iconst 0, 1) := by decide +kernel
theorem dX9_document_120 : decode cX9_document 120 = .ok (.bastore, 1) := by decide +kernel
theorem dX9_document_121 : decode cX9_document 121 = .ok (.iinc 3 1, 3) := by decide +kernel
theorem dX9_document_124 : decode cX9_document 124 = .ok (.goto (-15), 3) := by decide +kernel
theorem dX9_document_127 : decode cX9_document 127 = .ok (.aload_n 0, 1) := by decide +kernel
theorem dX9_document_128 : decode cX9_document 128 = .ok (.getfield 125, 3) := by decide +kernel
theorem dX9_document_131 : decode cX9_document 131 = .ok (.ireturn, 1) := by decide +kernel
theorem dX9_writes_0 : decode cX9_writes 0 = .ok (.aload_n 0, 1) := by decide +kernel
theorem dX9_writes_1 : decode cX9_writes 1 = .ok (.getfield 50, 3) := by decide +kernel
theorem dX9_writes_4 : decode cX9_writes 4 = .ok (.aload_n 0, 1) := by decide +kernel
theorem dX9_writes_5 : decode cX9_writes 5 = .ok (.getfield 147, 3) := by decide +kernel
theorem dX9_writes_8 : decode cX9_writes 8 = .ok (.iload_n 1, 1) := by decide +kernel
theorem dX9_writes_9 : decode cX9_writes 9 = .ok (.iastore, 1) := by decide +kernel
theorem dX9_writes_10 : decode cX9_writes 10 = .ok (.aload_n 0, 1) := by decide +kernel
theorem dX9_writes_11 : decode cX9_writes 11 = .ok (.dup, 1) := by decide +kernel
theorem dX9_writes_12 : decode cX9_writes 12 = .ok (.getfield 147, 3) := by decide +kernel
theorem dX9_writes_15 : decode cX9_writes 15 = .ok (.iconst 1, 1) := by decide +kernel
theorem dX9_writes_16 : decode cX9_writes 16 = .ok (.iadd, 1) := by decide +kernel
theorem dX9_writes_17 : decode cX9_writes 17 = .ok (.putfield 147, 3) := by decide +kernel
theorem dX9_writes_20 : decode cX9_writes 20 = .ok (.return_, 1) := by decide +kernel
theorem dX9_has_0 : decode cX9_has 0 = .ok (.iload_n 0, 1) := by decide +kernel
theorem dX9_has_1 : decode cX9_has 1 = .ok (.iload_n 1, 1) := by decide +kernel
theorem dX9_has_2 : decode cX9_has 2 = .ok (.ishr, 1) := by decide +kernel
theorem dX9_has_3 : decode cX9_has 3 = .ok (.iconst 1, 1) := by decide +kernel
theorem dX9_has_4 : decode cX9_has 4 = .ok (.iand, 1) := by decide +kernel
theorem dX9_has_5 : decode cX9_has 5 = .ok (.iconst 1, 1) := by decide +kernel
theorem dX9_has_6 : decode cX9_has 6 = .ok (.if_icmp .ne 7, 3) := by decide +kernel
theorem dX9_has_9 : decode cX9_has 9 = .ok (.iconst 1, 1) := by decide +kernel
theorem dX9_has_10 : decode cX9_has 10 = .ok (.goto 4, 3) := by decide +kernel
theorem dX9_has_13 : decode cX9_has 13 = .ok (.iconst 0, 1) := by decide +kernel
theorem dX9_has_14 : decode cX9_has 14 = .ok (.ireturn, 1) := by decide +kernel
theorem dX9_firstFrom_0 : decode cX9_firstFrom 0 = .ok (.bipush (-9), 2) := by decide +kernel
theorem dX9_firstFrom_2 : decode cX9_firstFrom 2 = .ok (.istore 5, 2) := by decide +kernel
theorem dX9_firstFrom_4 : decode cX9_firstFrom 4 = .ok (.iload_n 3, 1) := by decide +kernel
theorem dX9_firstFrom_5 : decode cX9_firstFrom 5 = .ok (.istore 6, 2) := by decide +kernel
theorem dX9_firstFrom_7 : decode cX9_firstFrom 7 = .ok (.iload 6, 2) := by decide +kernel
theorem dX9_firstFrom_9 : decode cX9_firstFrom 9 = .ok (.iload 4, 2) := by decide +kernel
theorem dX9_firstFrom_11 : decode cX9_firstFrom 11 = .ok (.if_icmp .gt 98, 3) := by decide +kernel
theorem dX9_firstFrom_14 : decode cX9_firstFrom 14 = .ok (.iload_n 2, 1) := by decide +kernel
theorem dX9_firstFrom_15 : decode cX9_firstFrom 15 = .ok (.iload 6, 2) := by decide +kernel
theorem dX9_firstFrom_17 : decode cX9_firstFrom 17 = .ok (.invokestatic 150, 3) := by decide +kernel
theorem dX9_firstFrom_20 : decode cX9_firstFrom 20 = .ok (.ifCond .eq 18, 3) := by decide +kernel
theorem dX9_firstFrom_23 : decode cX9_firstFrom 23 = .ok (.aload_n 0, 1) := by decide +kernel
theorem dX9_firstFrom_24 : decode cX9_firstFrom 24 = .ok (.iload_n 1, 1) := by decide +kernel
theorem dX9_firstFrom_25 : decode cX9_firstFrom 25 = .ok (.iload 6, 2) := by decide +kernel
theorem dX9_firstFrom_27 : decode cX9_firstFrom 27 = .ok (.invokevirtual 154, 3) := by decide +kernel
theorem dX9_firstFrom_30 : decode cX9_firstFrom 30 = .ok (.iload_n 3, 1) := by decide +kernel
theorem dX9_firstFrom_31 : decode cX9_firstFrom 31 = .ok (.if_icmp .lt 7, 3) := by decide +kernel
theorem dX9_firstFrom_34 : decode cX9_firstFrom 34 = .ok (.iconst 1, 1) := by decide +kernel
theorem dX9_firstFrom_35 : decode cX9_firstFrom 35 = .ok (.goto 4, 3) := by decide +kernel
theorem dX9_firstFrom_38 : decode cX9_firstFrom 38 = .ok (.iconst 0, 1) := by decide +kernel
theorem dX9_firstFrom_39 : decode cX9_firstFrom 39 = .ok (.istore 7, 2) := by decide +kernel
