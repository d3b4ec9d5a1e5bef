theorem dX8_shake_82 : decode cX8_shake 82 = .ok (.goto 45, 3) := by decide +kernel
theorem dX8_shake_85 : decode cX8_shake 85 = .ok (.iload 4, 2) := by decide +kernel
theorem dX8_shake_87 : decode cX8_shake 87 = .ok (.bipush 6, 2) := by decide +kernel
theorem dX8_shake_89 : decode cX8_shake 89 = .ok (.if_icmp .ne 34, 3) := by decide +kernel
theorem dX8_shake_92 : decode cX8_shake 92 = .ok (.aload_n 2, 1) := by decide +kernel
theorem dX8_shake_93 : decode cX8_shake 93 = .ok (.getfield 142, 3) := by decide +kernel
theorem dX8_shake_96 : decode cX8_shake 96 = .ok (.bipush 12, 2) := by decide +kernel
theorem dX8_shake_98 : decode cX8_shake 98 = .ok (.if_icmp .ge 29, 3) := by decide +kernel
theorem dX8_shake_101 : decode cX8_shake 101 = .ok (.aload_n 2, 1) := by decide +kernel
theorem dX8_shake_102 : decode cX8_shake 102 = .ok (.iload_n 3, 1) := by decide +kernel
theorem dX8_shake_103 : decode cX8_shake 103 = .ok (.iconst 0, 1) := by decide +kernel
theorem dX8_shake_104 : decode cX8_shake 104 = .ok (.iconst 0, 1) := by decide +kernel
theorem dX8_shake_105 : decode cX8_shake 105 = .ok (.bipush 48, 2) := by decide +kernel
theorem dX8_shake_107 : decode cX8_shake 107 = .ok (.iload_n 1, 1) := by decide +kernel
theorem dX8_shake_108 : decode cX8_shake 108 = .ok (.sipush 1024, 3) := by decide +kernel
theorem dX8_shake_111 : decode cX8_shake 111 = .ok (.idiv, 1) := by decide +kernel
theorem dX8_shake_112 : decode cX8_shake 112 = .ok (.bipush 10, 2) := by decide +kernel
theorem dX8_shake_114 : decode cX8_shake 114 = .ok (.irem, 1) := by decide +kernel
theorem dX8_shake_115 : decode cX8_shake 115 = .ok (.iadd, 1) := by decide +kernel
theorem dX8_shake_116 : decode cX8_shake 116 = .ok (.invokevirtual 247, 3) := by decide +kernel
theorem dX8_shake_119 : decode cX8_shake 119 = .ok (.pop, 1) := by decide +kernel
theorem dX8_shake_120 : decode cX8_shake 120 = .ok (.goto 7, 3) := by decide +kernel
theorem dX8_shake_123 : decode cX8_shake 123 = .ok (.aload_n 0, 1) := by decide +kernel
theorem dX8_shake_124 : decode cX8_shake 124 = .ok (.invokevirtual 254, 3) := by decide +kernel
theorem dX8_shake_127 : decode cX8_shake 127 = .ok (.return_, 1) := by decide +kernel
theorem dX8_property_0 : decode cX8_property 0 = .ok (.iload_n 3, 1) := by decide +kernel
theorem dX8_property_1 : decode cX8_property 1 = .ok (.tableswitch 126 0 7 #[47, 54, 64, 70, 76, 82, 97, 112], 47) := by decide +kernel
theorem dX8_property_48 : decode cX8_property 48 = .ok (.aload_n 1, 1) := by decide +kernel
theorem dX8_property_49 : decode cX8_property 49 = .ok (.getfield 156, 3) := by decide +kernel
theorem dX8_property_52 : decode cX8_property 52 = .ok (.iload_n 2, 1) := by decide +kernel
theorem dX8_property_53 : decode cX8_property 53 = .ok (.iaload, 1) := by decide +kernel
theorem dX8_property_54 : decode cX8_property 54 = .ok (.ireturn, 1) := by decide +kernel
theorem dX8_property_55 : decode cX8_property 55 = .ok (.aload_n 1, 1) := by decide +kernel
theorem dX8_property_56 : decode cX8_property 56 = .ok (.getfield 156, 3) := by decide +kernel
theorem dX8_property_59 : decode cX8_property 59 = .ok (.iload_n 2, 1) := by decide +kernel
theorem dX8_property_60 : decode cX8_property 60 = .ok (.iaload, 1) := by decide +kernel
theorem dX8_property_61 : decode cX8_property 61 = .ok (.invokestatic 159, 3) := by decide +kernel
theorem dX8_property_64 : decode cX8_property 64 = .ok (.ireturn, 1) := by decide +kernel
theorem dX8_property_65 : decode cX8_property 65 = .ok (.aload_n 1, 1) := by decide +kernel
theorem dX8_property_66 : decode cX8_property 66 = .ok (.iload_n 2, 1) := by decide +kernel
theorem dX8_property_67 : decode cX8_property 67 = .ok (.invokevirtual 300, 3) := by decide +kernel
theorem dX8_property_70 : decode cX8_property 70 = .ok (.ireturn, 1) := by decide +kernel
theorem dX8_property_71 : decode cX8_property 71 = .ok (.aload_n 1, 1) := by decide +kernel
theorem dX8_property_72 : decode cX8_property 72 = .ok (.iload_n 2, 1) := by decide +kernel
theorem dX8_property_73 : decode cX8_property 73 = .ok (.invokevirtual 244, 3) := by decide +kernel
theorem dX8_property_76 : decode cX8_property 76 = .ok (.ireturn, 1) := by decide +kernel
theorem dX8_property_77 : decode cX8_property 77 = .ok (.aload_n 1, 1) := by decide +kernel
theorem dX8_property_78 : decode cX8_property 78 = .ok (.iload_n 2, 1) := by decide +kernel
theorem dX8_property_79 : decode cX8_property 79 = .ok (.invokevirtual 303, 3) := by decide +kernel
theorem dX8_property_82 : decode cX8_property 82 = .ok (.ireturn, 1) := by decide +kernel
theorem dX8_property_83 : decode cX8_property 83 = .ok (.aload_n 1, 1) := by decide +kernel
theorem dX8_property_84 : decode cX8_property 84 = .ok (.iload_n 2, 1) := by decide +kernel
theorem dX8_property_85 : decode cX8_property 85 = .ok (.iconst 0, 1) := by decide +kernel
theorem dX8_property_86 : decode cX8_property 86 = .ok (.invokevirtual 306, 3) := by decide +kernel
theorem dX8_property_89 : decode cX8_property 89 = .ok (.ifCond .eq 7, 3) := by decide +kernel
theorem dX8_property_92 : decode cX8_property 92 = .ok (.iconst 1, 1) := by decide +kernel
theorem dX8_property_93 : decode cX8_property 93 = .ok (.goto 4, 3) := by decide +kernel
theorem dX8_property_96 : decode cX8_property 96 = .ok (.iconst 0, 1) := by decide +kernel
theorem dX8_property_97 : decode cX8_property 97 = .ok (.ireturn, 1) := by decide +kernel
theorem dX8_property_98 : decode cX8_property 98 = .ok (.aload_n 1, 1) := by decide +kernel
theorem dX8_property_99 : decode cX8_property 99 = .ok (.iload_n 2, 1) := by decide +kernel
theorem dX8_property_100 : decode cX8_property 100 = .ok (.iconst 1, 1) := by decide +kernel
theorem dX8_property_101 : decode cX8_property 101 = .ok (.invokevirtual 306, 3) := by decide +kernel
theorem dX8_property_104 : decode cX8_property 104 = .ok (.ifCond .eq 7, 3) := by decide +kernel
theorem dX8_property_107 : decode cX8_property 107 = .ok (.iconst 1, 1) := by decide +kernel
theorem dX8_property_108 : decode cX8_property 108 = .ok (.goto 4, 3) := by decide +kernel
theorem dX8_property_111 : decode cX8_property 111 = .ok (.iconst 0, 1) := by decide +kernel
theorem dX8_property_112 : decode cX8_property 112 = .ok (.ireturn, 1) := by decide +kernel
theorem dX8_property_113 : decode cX8_property 113 = .ok (.aload_n 0, 1) := by decide +kernel
theorem dX8_property_114 : decode cX8_property 114 = .ok (.getfield 32, 3) := by decide +kernel
theorem dX8_property_117 : decode cX8_property 117 = .ok (.aload_n 1, 1) := by decide +kernel
theorem dX8_property_118 : decode cX8_property 118 = .ok (.getfield 156, 3) := by decide +kernel
theorem dX8_property_121 : decode cX8_property 121 = .ok (.iload_n 2, 1) := by decide +kernel
theorem dX8_property_122 : decode cX8_property 122 = .ok (.iaload, 1) := by decide +kernel
theorem dX8_property_123 : decode cX8_property 123 = .ok (.invokevirtual 309, 3) := by decide +kernel
theorem dX8_property_126 : decode cX8_property 126 = .ok (.ireturn, 1) := by decide +kernel
theorem dX8_property_127 : decode cX8_property 127 = .ok (.aload_n 0, 1) := by decide +kernel
theorem dX8_property_128 : decode cX8_property 128 = .ok (.getfield 32, 3) := by decide +kernel
theorem dX8_property_131 : decode cX8_property 131 = .ok (.aload_n 1, 1) := by decide +kernel
theorem dX8_property_132 : decode cX8_property 132 = .ok (.getfield 156, 3) := by decide +kernel
theorem dX8_property_135 : decode cX8_property 135 = .ok (.iload_n 2, 1) := by decide +kernel
theorem dX8_property_136 : decode cX8_property 136 = .ok (.iaload, 1) := by decide +kernel
theorem dX8_property_137 : decode cX8_property 137 = .ok (.invokevirtual 312, 3) := by decide +kernel
theorem dX8_property_140 : decode cX8_property 140 = .ok (.ireturn, 1) := by decide +kernel
theorem dX8_number_0 : decode cX8_number 0 = .ok (.iload_n 1, 1) := by decide +kernel
theorem dX8_number_1 : decode cX8_number 1 = .ok (.tableswitch 213 0 12 #[67, 78, 89, 111, 136, 158, 170, 182, 182, 182, 195, 203, 208], 67) := by decide +kernel
theorem dX8_number_68 : decode cX8_number 68 = .ok (.aload_n 0, 1) := by decide +kernel
theorem dX8_number_69 : decode cX8_number 69 = .ok (.getfield 32, 3) := by decide +kernel
theorem dX8_number_72 : decode cX8_number 72 = .ok (.getfield 216, 3) := by decide +kernel
theorem dX8_number_75 : decode cX8_number 75 = .ok (.getfield 142, 3) := by decide +kernel
theorem dX8_number_78 : decode cX8_number 78 = .ok (.ireturn, 1) := by decide +kernel
theorem dX8_number_79 : decode cX8_number 79 = .ok (.aload_n 0, 1) := by decide +kernel
theorem dX8_number_80 : decode cX8_number 80 = .ok (.getfield 32, 3) := by decide +kernel
theorem dX8_number_83 : decode cX8_number 83 = .ok (.getfield 222, 3) := by decide +kernel
theorem dX8_number_86 : decode cX8_number 86 = .ok (.getfield 142, 3) := by decide +kernel
theorem dX8_number_89 : decode cX8_number 89 = .ok (.ireturn, 1) := by decide +kernel
theorem dX8_number_90 : decode cX8_number 90 = .ok (.aload_n 0, 1) := by decide +kernel
theorem dX8_number_91 : decode cX8_number 91 = .ok (.getfield 32, 3) := by decide +kernel
theorem dX8_number_94 : decode cX8_number 94 = .ok (.invokevirtual 174, 3) := by decide +kernel
theorem dX8_number_97 : decode cX8_number 97 = .ok (.ifCond .eq 13, 3) := by decide +kernel
theorem dX8_number_100 : decode cX8_number 100 = .ok (.aload_n 0, 1) := by decide +kernel
theorem dX8_number_101 : decode cX8_number 101 = .ok (.getfield 24, 3) := by decide +kernel
theorem dX8_number_104 : decode cX8_number 104 = .ok (.invokevirtual 181, 3) := by decide +kernel
theorem dX8_number_107 : decode cX8_number 107 = .ok (.goto 4, 3) := by decide +kernel
theorem dX8_number_110 : decode cX8_number 110 = .ok (.iconst (-1), 1) := by decide +kernel
theorem dX8_number_111 : decode cX8_number 111 = .ok (.ireturn, 1) := by decide +kernel
theorem dX8_number_112 : decode cX8_number 112 = .ok (.aload_n 0, 1) := by decide +kernel
theorem dX8_number_113 : decode cX8_number 113 = .ok (.getfield 32, 3) := by decide +kernel
theorem dX8_number_116 : decode cX8_number 116 = .ok (.invokevirtual 174, 3) := by decide +kernel
theorem dX8_number_119 : decode cX8_number 119 = .ok (.ifCond .eq 16, 3) := by decide +kernel
theorem dX8_number_122 : decode cX8_number 122 = .ok (.aload_n 0, 1) := by decide +kernel
theorem dX8_number_123 : decode cX8_number 123 = .ok (.getfield 24, 3) := by decide +kernel
theorem dX8_number_126 : decode cX8_number 126 = .ok (.getfield 196, 3) := by decide +kernel
theorem dX8_number_129 : decode cX8_number 129 = .ok (.getfield 200, 3) := by decide +kernel
theorem dX8_number_132 : decode cX8_number 132 = .ok (.goto 4, 3) := by decide +kernel
theorem dX8_number_135 : decode cX8_number 135 = .ok (.iconst (-1), 1) := by decide +kernel
theorem dX8_number_136 : decode cX8_number 136 = .ok (.ireturn, 1) := by decide +kernel
theorem dX8_number_137 : decode cX8_number 137 = .ok (.aload_n 0, 1) := by decide +kernel
theorem dX8_number_138 : decode cX8_number 138 = .ok (.getfield 32, 3) := by decide +kernel
theorem dX8_number_141 : decode cX8_number 141 = .ok (.invokevirtual 174, 3) := by decide +kernel
theorem dX8_number_144 : decode cX8_number 144 = .ok (.ifCond .eq 13, 3) := by decide +kernel
theorem dX8_number_147 : decode cX8_number 147 = .ok (.aload_n 0, 1) := by decide +kernel
theorem dX8_number_148 : decode cX8_number 148 = .ok (.getfield 24, 3) := by decide +kernel
theorem dX8_number_151 : decode cX8_number 151 = .ok (.getfield 315, 3) := by decide +kernel
theorem dX8_number_154 : decode cX8_number 154 = .ok (.goto 4, 3) := by decide +kernel
theorem dX8_number_157 : decode cX8_number 157 = .ok (.iconst (-1), 1) := by decide +kernel
theorem dX8_number_158 : decode cX8_number 158 = .ok (.ireturn, 1) := by decide +kernel
theorem dX8_number_159 : decode cX8_number 159 = .ok (.aload_n 0, 1) := by decide +kernel
theorem dX8_number_160 : decode cX8_number 160 = .ok (.getfield 32, 3) := by decide +kernel
theorem dX8_number_163 : decode cX8_number 163 = .ok (.getfield 216, 3) := by decide +kernel
theorem dX8_number_166 : decode cX8_number 166 = .ok (.iconst 0, 1) := by decide +kernel
theorem dX8_number_167 : decode cX8_number 167 = .ok (.invokevirtual 219, 3) := by decide +kernel
theorem dX8_number_170 : decode cX8_number 170 = .ok (.ireturn, 1) := by decide +kernel
theorem dX8_number_171 : decode cX8_number 171 = .ok (.aload_n 0, 1) := by decide +kernel
theorem dX8_number_172 : decode cX8_number 172 = .ok (.getfield 32, 3) := by decide +kernel
theorem dX8_number_175 : decode cX8_number 175 = .ok (.getfield 222, 3) := by decide +kernel
theorem dX8_number_178 : decode cX8_number 178 = .ok (.iconst 0, 1) := by decide +kernel
theorem dX8_number_179 : decode cX8_number 179 = .ok (.invokevirtual 219, 3) := by decide +kernel
theorem dX8_number_182 : decode cX8_number 182 = .ok (.ireturn, 1) := by decide +kernel
theorem dX8_number_183 : decode cX8_number 183 = .ok (.aload_n 0, 1) := by decide +kernel
theorem dX8_number_184 : decode cX8_number 184 = .ok (.getfield 32, 3) := by decide +kernel
theorem dX8_number_187 : decode cX8_number 187 = .ok (.getfield 251, 3) := by decide +kernel
theorem dX8_number_190 : decode cX8_number 190 = .ok (.iload_n 1, 1) := by decide +kernel
theorem dX8_number_191 : decode cX8_number 191 = .ok (.bipush 7, 2) := by decide +kernel
theorem dX8_number_193 : decode cX8_number 193 = .ok (.isub, 1) := by decide +kernel
theorem dX8_number_194 : decode cX8_number 194 = .ok (.iaload, 1) := by decide +kernel
theorem dX8_number_195 : decode cX8_number 195 = .ok (.ireturn, 1) := by decide +kernel
theorem dX8_number_196 : decode cX8_number 196 = .ok (.aload_n 0, 1) := by decide +kernel
theorem dX8_number_197 : decode cX8_number 197 = .ok (.getfield 38, 3) := by decide +kernel
theorem dX8_number_200 : decode cX8_number 200 = .ok (.getfield 139, 3) := by decide +kernel
theorem dX8_number_203 : decode cX8_number 203 = .ok (.ireturn, 1) := by decide +kernel
theorem dX8_number_204 : decode cX8_number 204 = .ok (.aload_n 0, 1) := by decide +kernel
theorem dX8_number_205 : decode cX8_number 205 = .ok (.invokevirtual 318, 3) := by decide +kernel
theorem dX8_number_208 : decode cX8_number 208 = .ok (.ireturn, 1) := by decide +kernel
theorem dX8_number_209 : decode cX8_number 209 = .ok (.aload_n 0, 1) := by decide +kernel
theorem dX8_number_210 : decode cX8_number 210 = .ok (.invokevirtual 321, 3) := by decide +kernel
theorem dX8_number_213 : decode cX8_number 213 = .ok (.ireturn, 1) := by decide +kernel
theorem dX8_number_214 : decode cX8_number 214 = .ok (.aload_n 0, 1) := by decide +kernel
theorem dX8_number_215 : decode cX8_number 215 = .ok (.invokevirtual 324, 3) := by decide +kernel
theorem dX8_number_218 : decode cX8_number 218 = .ok (.ireturn, 1) := by decide +kernel
theorem dX8_rowsThere_0 : decode cX8_rowsThere 0 = .ok (.iconst 0, 1) := by decide +kernel
theorem dX8_rowsThere_1 : decode cX8_rowsThere 1 = .ok (.istore_n 1, 1) := by decide +kernel
theorem dX8_rowsThere_2 : decode cX8_rowsThere 2 = .ok (.iconst 0, 1) := by decide +kernel
theorem dX8_rowsThere_3 : decode cX8_rowsThere 3 = .ok (.istore_n 2, 1) := by decide +kernel
theorem dX8_rowsThere_4 : decode cX8_rowsThere 4 = .ok (.iload_n 2, 1) := by decide +kernel
theorem dX8_rowsThere_5 : decode cX8_rowsThere 5 = .ok (.bipush 6, 2) := by decide +kernel
theorem dX8_rowsThere_7 : decode cX8_rowsThere 7 = .ok (.if_icmp .ge 24, 3) := by decide +kernel
theorem dX8_rowsThere_10 : decode cX8_rowsThere 10 = .ok (.aload_n 0, 1) := by decide +kernel
theorem dX8_rowsThere_11 : decode cX8_rowsThere 11 = .ok (.getfield 11, 3) := by decide +kernel
theorem dX8_rowsThere_14 : decode cX8_rowsThere 14 = .ok (.iload_n 2, 1) := by decide +kernel
theorem dX8_rowsThere_15 : decode cX8_rowsThere 15 = .ok (.aaload, 1) := by decide +kernel
theorem dX8_rowsThere_16 : decode cX8_rowsThere 16 = .ok (.getfield 84, 3) := by decide +kernel
theorem dX8_rowsThere_19 : decode cX8_rowsThere 19 = .ok (.ifCond .lt 6, 3) := by decide +kernel
theorem dX8_rowsThere_22 : decode cX8_rowsThere 22 = .ok (.iinc 1 1, 3) := by decide +kernel
theorem dX8_rowsThere_25 : decode cX8_rowsThere 25 = .ok (.iinc 2 1, 3) := by decide +kernel
theorem dX8_rowsThere_28 : decode cX8_rowsThere 28 = .ok (.goto (-24), 3) := by decide +kernel
theorem dX8_rowsThere_31 : decode cX8_rowsThere 31 = .ok (.iload_n 1, 1) := by decide +kernel
theorem dX8_rowsThere_32 : decode cX8_rowsThere 32 = .ok (.ireturn, 1) := by decide +kernel
theorem dX8_textsThere_0 : decode cX8_textsThere 0 = .ok (.iconst 0, 1) := by decide +kernel
theorem dX8_textsThere_1 : decode cX8_textsThere 1 = .ok (.istore_n 1, 1) := by decide +kernel
theorem dX8_textsThere_2 : decode cX8_textsThere 2 = .ok (.iconst 0, 1) := by decide +kernel
theorem dX8_textsThere_3 : decode cX8_textsThere 3 = .ok (.istore_n 2, 1) := by decide +kernel
theorem dX8_textsThere_4 : decode cX8_textsThere 4 = .ok (.iload_n 2, 1) := by decide +kernel
theorem dX8_textsThere_5 : decode cX8_textsThere 5 = .ok (.iconst 4, 1) := by decide +kernel
theorem dX8_textsThere_6 : decode cX8_textsThere 6 = .ok (.if_icmp .ge 24, 3) := by decide +kernel
theorem dX8_textsThere_9 : decode cX8_textsThere 9 = .ok (.aload_n 0, 1) := by decide +kernel
theorem dX8_textsThere_10 : decode cX8_textsThere 10 = .ok (.getfield 17, 3) := by decide +kernel
theorem dX8_textsThere_13 : decode cX8_textsThere 13 = .ok (.iload_n 2, 1) := by decide +kernel
theorem dX8_textsThere_14 : decode cX8_textsThere 14 = .ok (.aaload, 1) := by decide +kernel
theorem dX8_textsThere_15 : decode cX8_textsThere 15 = .ok (.getfield 111, 3) := by decide +kernel
theorem dX8_textsThere_18 : decode cX8_textsThere 18 = .ok (.ifCond .lt 6, 3) := by decide +kernel
theorem dX8_textsThere_21 : decode cX8_textsThere 21 = .ok (.iinc 1 1, 3) := by decide +kernel
theorem dX8_textsThere_24 : decode cX8_textsThere 24 = .ok (.iinc 2 1, 3) := by decide +kernel
theorem dX8_textsThere_27 : decode cX8_textsThere 27 = .ok (.goto (-23), 3) := by decide +kernel
theorem dX8_textsThere_30 : decode cX8_textsThere 30 = .ok (.iload_n 1, 1) := by decide +kernel
theorem dX8_textsThere_31 : decode cX8_textsThere 31 = .ok (.ireturn, 1) := by decide +kernel
theorem dX8_placesTaken_0 : decode cX8_placesTaken 0 = .ok (.iconst 0, 1) := by decide +kernel
theorem dX8_placesTaken_1 : decode cX8_placesTaken 1 = .ok (.istore_n 1, 1) := by decide +kernel
theorem dX8_placesTaken_2 : decode cX8_placesTaken 2 = .ok (.iconst 0, 1) := by decide +kernel
theorem dX8_placesTaken_3 : decode cX8_placesTaken 3 = .ok (.istore_n 2, 1) := by decide +kernel
theorem dX8_placesTaken_4 : decode cX8_placesTaken 4 = .ok (.iload_n 2, 1) := by decide +kernel
theorem dX8_placesTaken_5 : decode cX8_placesTaken 5 = .ok (.iconst 3, 1) := by decide +kernel
theorem dX8_placesTaken_6 : decode cX8_placesTaken 6 = .ok (.if_icmp .ge 24, 3) := by decide +kernel
theorem dX8_placesTaken_9 : decode cX8_placesTaken 9 = .ok (.aload_n 0, 1) := by decide +kernel
theorem dX8_placesTaken_10 : decode cX8_placesTaken 10 = .ok (.getfield 42, 3) := by decide +kernel
theorem dX8_placesTaken_13 : decode cX8_placesTaken 13 = .ok (.iload_n 2, 1) := by decide +kernel
theorem dX8_placesTaken_14 : decode cX8_placesTaken 14 = .ok (.aaload, 1) := by decide +kernel
theorem dX8_placesTaken_15 : decode cX8_placesTaken 15 = .ok (.getfield 139, 3) := by decide +kernel
theorem dX8_placesTaken_18 : decode cX8_placesTaken 18 = .ok (.ifCond .lt 6, 3) := by decide +kernel
theorem dX8_placesTaken_21 : decode cX8_placesTaken 21 = .ok (.iinc 1 1, 3) := by decide +kernel
theorem dX8_placesTaken_24 : decode cX8_placesTaken 24 = .ok (.iinc 2 1, 3) := by decide +kernel
theorem dX8_placesTaken_27 : decode cX8_placesTaken 27 = .ok (.goto (-23), 3) := by decide +kernel
theorem dX8_placesTaken_30 : decode cX8_placesTaken 30 = .ok (.iload_n 1, 1) := by decide +kernel
theorem dX8_placesTaken_31 : decode cX8_placesTaken 31 = .ok (.ireturn, 1) := by decide +kernel
theorem dX8_digestOfTree_0 : decode cX8_digestOfTree 0 = .ok (.aload_n 0, 1) := by decide +kernel
theorem dX8_digestOfTree_1 : decode cX8_digestOfTree 1 = .ok (.getfield 32, 3) := by decide +kernel
theorem dX8_digestOfTree_4 : decode cX8_digestOfTree 4 = .ok (.iload_n 3, 1) := by decide +kernel
theorem dX8_digestOfTree_5 : decode cX8_digestOfTree 5 = .ok (.invokevirtual 123, 3) := by decide +kernel
theorem dX8_digestOfTree_8 : decode cX8_digestOfTree 8 = .ok (.astore 4, 2) := by decide +kernel
theorem dX8_digestOfTree_10 : decode cX8_digestOfTree 10 = .ok (.lload_n 1, 1) := by decide +kernel
theorem dX8_digestOfTree_11 : decode cX8_digestOfTree 11 = .ok (.lstore 5, 2) := by decide +kernel
theorem dX8_digestOfTree_13 : decode cX8_digestOfTree 13 = .ok (.iconst 0, 1) := by decide +kernel
theorem dX8_digestOfTree_14 : decode cX8_digestOfTree 14 = .ok (.istore 7, 2) := by decide +kernel
theorem dX8_digestOfTree_16 : decode cX8_digestOfTree 16 = .ok (.iload 7, 2) := by decide +kernel
theorem dX8_digestOfTree_18 : decode cX8_digestOfTree 18 = .ok (.aload 4, 2) := by decide +kernel
theorem dX8_digestOfTree_20 : decode cX8_digestOfTree 20 = .ok (.getfield 142, 3) := by decide +kernel
theorem dX8_digestOfTree_23 : decode cX8_digestOfTree 23 = .ok (.if_icmp .ge 95, 3) := by decide +kernel
theorem dX8_digestOfTree_26 : decode cX8_digestOfTree 26 = .ok (.ldc2_w 283, 3) := by decide +kernel
theorem dX8_digestOfTree_29 : decode cX8_digestOfTree 29 = .ok (.lload 5, 2) := by decide +kernel
theorem dX8_digestOfTree_31 : decode cX8_digestOfTree 31 = .ok (.lmul, 1) := by decide +kernel
theorem dX8_digestOfTree_32 : decode cX8_digestOfTree 32 = .ok (.aload 4, 2) := by decide +kernel
theorem dX8_digestOfTree_34 : decode cX8_digestOfTree 34 = .ok (.getfield 156, 3) := by decide +kernel
theorem dX8_digestOfTree_37 : decode cX8_digestOfTree 37 = .ok (.iload 7, 2) := by decide +kernel
theorem dX8_digestOfTree_39 : decode cX8_digestOfTree 39 = .ok (.iaload, 1) := by decide +kernel
theorem dX8_digestOfTree_40 : decode cX8_digestOfTree 40 = .ok (.i2l, 1) := by decide +kernel
theorem dX8_digestOfTree_41 : decode cX8_digestOfTree 41 = .ok (.ladd, 1) := by decide +kernel
theorem dX8_digestOfTree_42 : decode cX8_digestOfTree 42 = .ok (.lstore 5, 2) := by decide +kernel
theorem dX8_digestOfTree_44 : decode cX8_digestOfTree 44 = .ok (.ldc2_w 283, 3) := by decide +kernel
theorem dX8_digestOfTree_47 : decode cX8_digestOfTree 47 = .ok (.lload 5, 2) := by decide +kernel
theorem dX8_digestOfTree_49 : decode cX8_digestOfTree 49 = .ok (.lmul, 1) := by decide +kernel
theorem dX8_digestOfTree_50 : decode cX8_digestOfTree 50 = .ok (.aload 4, 2) := by decide +kernel
theorem dX8_digestOfTree_52 : decode cX8_digestOfTree 52 = .ok (.iload 7, 2) := by decide +kernel
theorem dX8_digestOfTree_54 : decode cX8_digestOfTree 54 = .ok (.invokevirtual 300, 3) := by decide +kernel
theorem dX8_digestOfTree_57 : decode cX8_digestOfTree 57 = .ok (.i2l, 1) := by decide +kernel
theorem dX8_digestOfTree_58 : decode cX8_digestOfTree 58 = .ok (.ladd, 1) := by decide +kernel
theorem dX8_digestOfTree_59 : decode cX8_digestOfTree 59 = .ok (.lstore 5, 2) := by decide +kernel
theorem dX8_digestOfTree_61 : decode cX8_digestOfTree 61 = .ok (.ldc2_w 283, 3) := by decide +kernel
theorem dX8_digestOfTree_64 : decode cX8_digestOfTree 64 = .ok (.lload 5, 2) := by decide +kernel
theorem dX8_digestOfTree_66 : decode cX8_digestOfTree 66 = .ok (.lmul, 1) := by decide +kernel
theorem dX8_digestOfTree_67 : decode cX8_digestOfTree 67 = .ok (.aload 4, 2) := by decide +kernel
theorem dX8_digestOfTree_69 : decode cX8_digestOfTree 69 = .ok (.iload 7, 2) := by decide +kernel
theorem dX8_digestOfTree_71 : decode cX8_digestOfTree 71 = .ok (.invokevirtual 303, 3) := by decide +kernel
theorem dX8_digestOfTree_74 : decode cX8_digestOfTree 74 = .ok (.i2l, 1) := by decide +kernel
theorem dX8_digestOfTree_75 : decode cX8_digestOfTree 75 = .ok (.ladd, 1) := by decide +kernel
theorem dX8_digestOfTree_76 : decode cX8_digestOfTree 76 = .ok (.lstore 5, 2) := by decide +kernel
theorem dX8_digestOfTree_78 : decode cX8_digestOfTree 78 = .ok (.ldc2_w 283, 3) := by decide +kernel
theorem dX8_digestOfTree_81 : decode cX8_digestOfTree 81 = .ok (.lload 5, 2) := by decide +kernel
theorem dX8_digestOfTree_83 : decode cX8_digestOfTree 83 = .ok (.lmul, 1) := by decide +kernel
theorem dX8_digestOfTree_84 : decode cX8_digestOfTree 84 = .ok (.aload_n 0, 1) := by decide +kernel
theorem dX8_digestOfTree_85 : decode cX8_digestOfTree 85 = .ok (.getfield 32, 3) := by decide +kernel
theorem dX8_digestOfTree_88 : decode cX8_digestOfTree 88 = .ok (.invokevirtual 174, 3) := by decide +kernel
theorem dX8_digestOfTree_91 : decode cX8_digestOfTree 91 = .ok (.ifCond .eq 16, 3) := by decide +kernel
theorem dX8_digestOfTree_94 : decode cX8_digestOfTree 94 = .ok (.aload_n 0, 1) := by decide +kernel
theorem dX8_digestOfTree_95 : decode cX8_digestOfTree 95 = .ok (.getfield 24, 3) := by decide +kernel
theorem dX8_digestOfTree_98 : decode cX8_digestOfTree 98 = .ok (.iload_n 3, 1) := by decide +kernel
theorem dX8_digestOfTree_99 : decode cX8_digestOfTree 99 = .ok (.iload 7, 2) := by decide +kernel
theorem dX8_digestOfTree_101 : decode cX8_digestOfTree 101 = .ok (.invokevirtual 192, 3) := by decide +kernel
theorem dX8_digestOfTree_104 : decode cX8_digestOfTree 104 = .ok (.goto 4, 3) := by decide +kernel
theorem dX8_digestOfTree_107 : decode cX8_digestOfTree 107 = .ok (.iconst (-1), 1) := by decide +kernel
theorem dX8_digestOfTree_108 : decode cX8_digestOfTree 108 = .ok (.i2l, 1) := by decide +kernel
theorem dX8_digestOfTree_109 : decode cX8_digestOfTree 109 = .ok (.ladd, 1) := by decide +kernel
theorem dX8_digestOfTree_110 : decode cX8_digestOfTree 110 = .ok (.lstore 5, 2) := by decide +kernel
theorem dX8_digestOfTree_112 : decode cX8_digestOfTree 112 = .ok (.iinc 7 1, 3) := by decide +kernel
theorem dX8_digestOfTree_115 : decode cX8_digestOfTree 115 = .ok (.goto (-99), 3) := by decide +kernel
theorem dX8_digestOfTree_118 : decode cX8_digestOfTree 118 = .ok (.lload 5, 2) := by decide +kernel
theorem dX8_digestOfTree_120 : decode cX8_digestOfTree 120 = .ok (.lreturn, 1) := by decide +kernel
theorem dX8_kindOf_0 : decode cX8_kindOf 0 = .ok (.iload_n 0, 1) := by decide +kernel
theorem dX8_kindOf_1 : decode cX8_kindOf 1 = .ok (.bipush 97, 2) := by decide +kernel
theorem dX8_kindOf_3 : decode cX8_kindOf 3 = .ok (.if_icmp .lt 11, 3) := by decide +kernel
theorem dX8_kindOf_6 : decode cX8_kindOf 6 = .ok (.iload_n 0, 1) := by decide +kernel
theorem dX8_kindOf_7 : decode cX8_kindOf 7 = .ok (.bipush 105, 2) := by decide +kernel
theorem dX8_kindOf_9 : decode cX8_kindOf 9 = .ok (.if_icmp .gt 5, 3) := by decide +kernel
theorem dX8_kindOf_12 : decode cX8_kindOf 12 = .ok (.iconst 0, 1) := by decide +kernel
theorem dX8_kindOf_13 : decode cX8_kindOf 13 = .ok (.ireturn, 1) := by decide +kernel
theorem dX8_kindOf_14 : decode cX8_kindOf 14 = .ok (.iload_n 0, 1) := by decide +kernel
theorem dX8_kindOf_15 : decode cX8_kindOf 15 = .ok (.bipush 65, 2) := by decide +kernel
theorem dX8_kindOf_17 : decode cX8_kindOf 17 = .ok (.if_icmp .lt 11, 3) := by decide +kernel
theorem dX8_kindOf_20 : decode cX8_kindOf 20 = .ok (.iload_n 0, 1) := by decide +kernel
theorem dX8_kindOf_21 : decode cX8_kindOf 21 = .ok (.bipush 73, 2) := by decide +kernel
theorem dX8_kindOf_23 : decode cX8_kindOf 23 = .ok (.if_icmp .gt 5, 3) := by decide +kernel
theorem dX8_kindOf_26 : decode cX8_kindOf 26 = .ok (.iconst 1, 1) := by decide +kernel
theorem dX8_kindOf_27 : decode cX8_kindOf 27 = .ok (.ireturn, 1) := by decide +kernel
theorem dX8_kindOf_28 : decode cX8_kindOf 28 = .ok (.iload_n 0, 1) := by decide +kernel
theorem dX8_kindOf_29 : decode cX8_kindOf 29 = .ok (.bipush 48, 2) := by decide +kernel
theorem dX8_kindOf_31 : decode cX8_kindOf 31 = .ok (.if_icmp .lt 11, 3) := by decide +kernel
theorem dX8_kindOf_34 : decode cX8_kindOf 34 = .ok (.iload_n 0, 1) := by decide +kernel
theorem dX8_kindOf_35 : decode cX8_kindOf 35 = .ok (.bipush 57, 2) := by decide +kernel
theorem dX8_kindOf_37 : decode cX8_kindOf 37 = .ok (.if_icmp .gt 5, 3) := by decide +kernel
theorem dX8_kindOf_40 : decode cX8_kindOf 40 = .ok (.iconst 2, 1) := by decide +kernel
theorem dX8_kindOf_41 : decode cX8_kindOf 41 = .ok (.ireturn, 1) := by decide +kernel
theorem dX8_kindOf_42 : decode cX8_kindOf 42 = .ok (.iload_n 0, 1) := by decide +kernel
theorem dX8_kindOf_43 : decode cX8_kindOf 43 = .ok (.bipush 74, 2) := by decide +kernel
theorem dX8_kindOf_45 : decode cX8_kindOf 45 = .ok (.if_icmp .lt 11, 3) := by decide +kernel
theorem dX8_kindOf_48 : decode cX8_kindOf 48 = .ok (.iload_n 0, 1) := by decide +kernel
theorem dX8_kindOf_49 : decode cX8_kindOf 49 = .ok (.bipush 82, 2) := by decide +kernel
theorem dX8_kindOf_51 : decode cX8_kindOf 51 = .ok (.if_icmp .gt 5, 3) := by decide +kernel
theorem dX8_kindOf_54 : decode cX8_kindOf 54 = .ok (.iconst 3, 1) := by decide +kernel
theorem dX8_kindOf_55 : decode cX8_kindOf 55 = .ok (.ireturn, 1) := by decide +kernel
theorem dX8_kindOf_56 : decode cX8_kindOf 56 = .ok (.iload_n 0, 1) := by decide +kernel
theorem dX8_kindOf_57 : decode cX8_kindOf 57 = .ok (.bipush 106, 2) := by decide +kernel
theorem dX8_kindOf_59 : decode cX8_kindOf 59 = .ok (.if_icmp .lt 11, 3) := by decide +kernel
theorem dX8_kindOf_62 : decode cX8_kindOf 62 = .ok (.iload_n 0, 1) := by decide +kernel
theorem dX8_kindOf_63 : decode cX8_kindOf 63 = .ok (.bipush 114, 2) := by decide +kernel
theorem dX8_kindOf_65 : decode cX8_kindOf 65 = .ok (.if_icmp .gt 5, 3) := by decide +kernel
theorem dX8_kindOf_68 : decode cX8_kindOf 68 = .ok (.iconst 4, 1) := by decide +kernel
theorem dX8_kindOf_69 : decode cX8_kindOf 69 = .ok (.ireturn, 1) := by decide +kernel
theorem dX8_kindOf_70 : decode cX8_kindOf 70 = .ok (.iconst (-1), 1) := by decide +kernel
theorem dX8_kindOf_71 : decode cX8_kindOf 71 = .ok (.ireturn, 1) := by decide +kernel
theorem dX8_isOf_0 : decode cX8_isOf 0 = .ok (.iload_n 0, 1) := by decide +kernel
theorem dX8_isOf_1 : decode cX8_isOf 1 = .ok (.iload_n 1, 1) := by decide +kernel
theorem dX8_isOf_2 : decode cX8_isOf 2 = .ok (.if_icmp .eq 23, 3) := by decide +kernel
theorem dX8_isOf_5 : decode cX8_isOf 5 = .ok (.iload_n 0, 1) := by decide +kernel
theorem dX8_isOf_6 : decode cX8_isOf 6 = .ok (.iconst 3, 1) := by decide +kernel
theorem dX8_isOf_7 : decode cX8_isOf 7 = .ok (.if_icmp .ne 8, 3) := by decide +kernel
theorem dX8_isOf_10 : decode cX8_isOf 10 = .ok (.iload_n 1, 1) := by decide +kernel
theorem dX8_isOf_11 : decode cX8_isOf 11 = .ok (.iconst 1, 1) := by decide +kernel
theorem dX8_isOf_12 : decode cX8_isOf 12 = .ok (.if_icmp .eq 13, 3) := by decide +kernel
theorem dX8_isOf_15 : decode cX8_isOf 15 = .ok (.iload_n 0, 1) := by decide +kernel
theorem dX8_isOf_16 : decode cX8_isOf 16 = .ok (.iconst 4, 1) := by decide +kernel
theorem dX8_isOf_17 : decode cX8_isOf 17 = .ok (.if_icmp .ne 12, 3) := by decide +kernel
theorem dX8_isOf_20 : decode cX8_isOf 20 = .ok (.iload_n 1, 1) := by decide +kernel
theorem dX8_isOf_21 : decode cX8_isOf 21 = .ok (.iconst 2, 1) := by decide +kernel
theorem dX8_isOf_22 : decode cX8_isOf 22 = .ok (.if_icmp .ne 7, 3) := by decide +kernel
theorem dX8_isOf_25 : decode cX8_isOf 25 = .ok (.iconst 1, 1) := by decide +kernel
theorem dX8_isOf_26 : decode cX8_isOf 26 = .ok (.goto 4, 3) := by decide +kernel
theorem dX8_isOf_29 : decode cX8_isOf 29 = .ok (.iconst 0, 1) := by decide +kernel
theorem dX8_isOf_30 : decode cX8_isOf 30 = .ok (.ireturn, 1) := by decide +kernel
theorem dX8_weightOf_0 : decode cX8_weightOf 0 = .ok (.iload_n 0, 1) := by decide +kernel
theorem dX8_weightOf_1 : decode cX8_weightOf 1 = .ok (.invokestatic 159, 3) := by decide +kernel
theorem dX8_weightOf_4 : decode cX8_weightOf 4 = .ok (.istore_n 1, 1) := by decide +kernel
theorem dX8_weightOf_5 : decode cX8_weightOf 5 = .ok (.iload_n 1, 1) := by decide +kernel
theorem dX8_weightOf_6 : decode cX8_weightOf 6 = .ok (.iconst 3, 1) := by decide +kernel
theorem dX8_weightOf_7 : decode cX8_weightOf 7 = .ok (.if_icmp .ne 5, 3) := by decide +kernel
theorem dX8_weightOf_10 : decode cX8_weightOf 10 = .ok (.iconst 3, 1) := by decide +kernel
theorem dX8_weightOf_11 : decode cX8_weightOf 11 = .ok (.ireturn, 1) := by decide +kernel
theorem dX8_weightOf_12 : decode cX8_weightOf 12 = .ok (.iload_n 1, 1) := by decide +kernel
theorem dX8_weightOf_13 : decode cX8_weightOf 13 = .ok (.iconst 1, 1) := by decide +kernel
theorem dX8_weightOf_14 : decode cX8_weightOf 14 = .ok (.if_icmp .ne 7, 3) := by decide +kernel
theorem dX8_weightOf_17 : decode cX8_weightOf 17 = .ok (.iconst 2, 1) := by decide +kernel
theorem dX8_weightOf_18 : decode cX8_weightOf 18 = .ok (.goto 4, 3) := by decide +kernel
theorem dX8_weightOf_21 : decode cX8_weightOf 21 = .ok (.iconst 1, 1) := by decide +kernel
theorem dX8_weightOf_22 : decode cX8_weightOf 22 = .ok (.ireturn, 1) := by decide +kernel
theorem dX9_init_0 : decode cX9_init 0 = .ok (.aload_n 0, 1) := by decide +kernel
theorem dX9_init_1 : decode cX9_init 1 = .ok (.invokespecial 1, 3) := by decide +kernel
theorem dX9_init_4 : decode cX9_init 4 = .ok (.aload_n 0, 1) := by decide +kernel
theorem dX9_init_5 : decode cX9_init 5 = .ok (.bipush 6, 2) := by decide +kernel
theorem dX9_init_7 : decode cX9_init 7 = .ok (.newarray .int, 2) := by decide +kernel
theorem dX9_init_9 : decode cX9_init 9 = .ok (.putfield 7, 3) := by decide +kernel
theorem dX9_init_12 : decode cX9_init 12 = .ok (.aload_n 0, 1) := by decide +kernel
theorem dX9_init_13 : decode cX9_init 13 = .ok (.sipush 240, 3) := by decide +kernel
theorem dX9_init_16 : decode cX9_init 16 = .ok (.newarray .int, 2) := by decide +kernel
theorem dX9_init_18 : decode cX9_init 18 = .ok (.putfield 13, 3) := by decide +kernel
theorem dX9_init_21 : decode cX9_init 21 = .ok (.aload_n 0, 1) := by decide +kernel
theorem dX9_init_22 : decode cX9_init 22 = .ok (.iconst 4, 1) := by decide +kernel
theorem dX9_init_23 : decode cX9_init 23 = .ok (.newarray .int, 2) := by decide +kernel
theorem dX9_init_25 : decode cX9_init 25 = .ok (.putfield 16, 3) := by decide +kernel
theorem dX9_init_28 : decode cX9_init 28 = .ok (.aload_n 0, 1) := by decide +kernel
theorem dX9_init_29 : decode cX9_init 29 = .ok (.sipush 240, 3) := by decide +kernel
theorem dX9_init_32 : decode cX9_init 32 = .ok (.newarray .int, 2) := by decide +kernel
theorem dX9_init_34 : decode cX9_init 34 = .ok (.putfield 19, 3) := by decide +kernel
theorem dX9_init_37 : decode cX9_init 37 = .ok (.aload_n 0, 1) := by decide +kernel
theorem dX9_init_38 : decode cX9_init 38 = .ok (.bipush 53, 2) := by decide +kernel
theorem dX9_init_40 : decode cX9_init 40 = .ok (.newarray .int, 2) := by decide +kernel
theorem dX9_init_42 : decode cX9_init 42 = .ok (.putfield 22, 3) := by decide +kernel
theorem dX9_init_45 : decode cX9_init 45 = .ok (.aload_n 0, 1) := by decide +kernel
theorem dX9_init_46 : decode cX9_init 46 = .ok (.sipush 2120, 3) := by decide +kernel
theorem dX9_init_49 : decode cX9_init 49 = .ok (.newarray .int, 2) := by decide +kernel
theorem dX9_init_51 : decode cX9_init 51 = .ok (.putfield 25, 3) := by decide +kernel
theorem dX9_init_54 : decode cX9_init 54 = .ok (.aload_n 0, 1) := by decide +kernel
theorem dX9_init_55 : decode cX9_init 55 = .ok (.sipush 6522, 3) := by decide +kernel
theorem dX9_init_58 : decode cX9_init 58 = .ok (.newarray .int, 2) := by decide +kernel
theorem dX9_init_60 : decode cX9_init 60 = .ok (.putfield 28, 3) := by decide +kernel
theorem dX9_init_63 : decode cX9_init 63 = .ok (.aload_n 0, 1) := by decide +kernel
theorem dX9_init_64 : decode cX9_init 64 = .ok (.iconst 3, 1) := by decide +kernel
theorem dX9_init_65 : decode cX9_init 65 = .ok (.newarray .boolean, 2) := by decide +kernel
theorem dX9_init_67 : decode cX9_init 67 = .ok (.putfield 31, 3) := by decide +kernel
theorem dX9_init_70 : decode cX9_init 70 = .ok (.aload_n 0, 1) := by decide +kernel
theorem dX9_init_71 : decode cX9_init 71 = .ok (.bipush 6, 2) := by decide +kernel
theorem dX9_init_73 : decode cX9_init 73 = .ok (.newarray .int, 2) := by decide +kernel
theorem dX9_init_75 : decode cX9_init 75 = .ok (.putfield 35, 3) := by decide +kernel
theorem dX9_init_78 : decode cX9_init 78 = .ok (.aload_n 0, 1) := by decide +kernel
theorem dX9_init_79 : decode cX9_init 79 = .ok (.bipush 12, 2) := by decide +kernel
theorem dX9_init_81 : decode cX9_init 81 = .ok (.newarray .int, 2) := by decide +kernel
theorem dX9_init_83 : decode cX9_init 83 = .ok (.putfield 38, 3) := by decide +kernel
theorem dX9_init_86 : decode cX9_init 86 = .ok (.aload_n 0, 1) := by decide +kernel
theorem dX9_init_87 : decode cX9_init 87 = .ok (.bipush 12, 2) := by decide +kernel
theorem dX9_init_89 : decode cX9_init 89 = .ok (.newarray .int, 2) := by decide +kernel
theorem dX9_init_91 : decode cX9_init 91 = .ok (.putfield 41, 3) := by decide +kernel
theorem dX9_init_94 : decode cX9_init 94 = .ok (.aload_n 0, 1) := by decide +kernel
theorem dX9_init_95 : decode cX9_init 95 = .ok (.bipush 12, 2) := by decide +kernel
theorem dX9_init_97 : decode cX9_init 97 = .ok (.newarray .int, 2) := by decide +kernel
theorem dX9_init_99 : decode cX9_init 99 = .ok (.putfield 44, 3) := by decide +kernel
theorem dX9_init_102 : decode cX9_init 102 = .ok (.aload_n 0, 1) := by decide +kernel
theorem dX9_init_103 : decode cX9_init 103 = .ok (.bipush 12, 2) := by decide +kernel
theorem dX9_init_105 : decode cX9_init 105 = .ok (.newarray .int, 2) := by decide +kernel
theorem dX9_init_107 : decode cX9_init 107 = .ok (.putfield 47, 3) := by decide +kernel
theorem dX9_init_110 : decode cX9_init 110 = .ok (.aload_n 0, 1) := by decide +kernel
theorem dX9_init_111 : decode cX9_init 111 = .ok (.bipush 60, 2) := by decide +kernel
theorem dX9_init_113 : decode cX9_init 113 = .ok (.newarray .int, 2) := by decide +kernel
theorem dX9_init_115 : decode cX9_init 115 = .ok (.putfield 50, 3) := by decide +kernel
theorem dX9_init_118 : decode cX9_init 118 = .ok (.aload_n 0, 1) := by decide +kernel
theorem dX9_init_119 : decode cX9_init 119 = .ok (.bipush 12, 2) := by decide +kernel
theorem dX9_init_121 : decode cX9_init 121 = .ok (.newarray .int, 2) := by decide +kernel
theorem dX9_init_123 : decode cX9_init 123 = .ok (.putfield 53, 3) := by decide +kernel
theorem dX9_init_126 : decode cX9_init 126 = .ok (.aload_n 0, 1) := by decide +kernel
theorem dX9_init_127 : decode cX9_init 127 = .ok (.bipush 13, 2) := by decide +kernel
theorem dX9_init_129 : decode cX9_init 129 = .ok (.newarray .int, 2) := by decide +kernel
theorem dX9_init_131 : decode cX9_init 131 = .ok (.putfield 56, 3) := by decide +kernel
theorem dX9_init_134 : decode cX9_init 134 = .ok (.aload_n 0, 1) := by decide +kernel
theorem dX9_init_135 : decode cX9_init 135 = .ok (.bipush 12, 2) := by decide +kernel
theorem dX9_init_137 : decode cX9_init 137 = .ok (.newarray .int, 2) := by decide +kernel
theorem dX9_init_139 : decode cX9_init 139 = .ok (.putfield 59, 3) := by decide +kernel
theorem dX9_init_142 : decode cX9_init 142 = .ok (.aload_n 0, 1) := by decide +kernel
theorem dX9_init_143 : decode cX9_init 143 = .ok (.bipush 12, 2) := by decide +kernel
theorem dX9_init_145 : decode cX9_init 145 = .ok (.newarray .int, 2) := by decide +kernel
theorem dX9_init_147 : decode cX9_init 147 = .ok (.putfield 62, 3) := by decide +kernel
theorem dX9_init_150 : decode cX9_init 150 = .ok (.aload_n 0, 1) := by decide +kernel
theorem dX9_init_151 : decode cX9_init 151 = .ok (.sipush 144, 3) := by decide +kernel
theorem dX9_init_154 : decode cX9_init 154 = .ok (.newarray .int, 2) := by decide +kernel
theorem dX9_init_156 : decode cX9_init 156 = .ok (.putfield 65, 3) := by decide +kernel
theorem dX9_init_159 : decode cX9_init 159 = .ok (.aload_n 0, 1) := by decide +kernel
theorem dX9_init_160 : decode cX9_init 160 = .ok (.sipush 144, 3) := by decide +kernel
theorem dX9_init_163 : decode cX9_init 163 = .ok (.newarray .int, 2) := by decide +kernel
theorem dX9_init_165 : decode cX9_init 165 = .ok (.putfield 68, 3) := by decide +kernel
theorem dX9_init_168 : decode cX9_init 168 = .ok (.aload_n 0, 1) := by decide +kernel
theorem dX9_init_169 : decode cX9_init 169 = .ok (.sipush 169, 3) := by decide +kernel
theorem dX9_init_172 : decode cX9_init 172 = .ok (.newarray .int, 2) := by decide +kernel
theorem dX9_init_174 : decode cX9_init 174 = .ok (.putfield 71, 3) := by decide +kernel
theorem dX9_init_177 : decode cX9_init 177 = .ok (.aload_n 0, 1) := by decide +kernel
theorem dX9_init_178 : decode cX9_init 178 = .ok (.bipush 12, 2) := by decide +kernel
theorem dX9_init_180 : decode cX9_init 180 = .ok (.newarray .int, 2) := by decide +kernel
theorem dX9_init_182 : decode cX9_init 182 = .ok (.putfield 74, 3) := by decide +kernel
theorem dX9_init_185 : decode cX9_init 185 = .ok (.aload_n 0, 1) := by decide +kernel
theorem dX9_init_186 : decode cX9_init 186 = .ok (.bipush 12, 2) := by decide +kernel
theorem dX9_init_188 : decode cX9_init 188 = .ok (.newarray .int, 2) := by decide +kernel
theorem dX9_init_190 : decode cX9_init 190 = .ok (.putfield 77, 3) := by decide +kernel
theorem dX9_init_193 : decode cX9_init 193 = .ok (.aload_n 0, 1) := by decide +kernel
theorem dX9_init_194 : decode cX9_init 194 = .ok (.bipush 108, 2) := by decide +kernel
theorem dX9_init_196 : decode cX9_init 196 = .ok (.newarray .int, 2) := by decide +kernel
theorem dX9_init_198 : decode cX9_init 198 = .ok (.putfield 80, 3) := by decide +kernel
theorem dX9_init_201 : decode cX9_init 201 = .ok (.iconst 0, 1) := by decide +kernel
theorem dX9_init_202 : decode cX9_init 202 = .ok (.istore_n 1, 1) := by decide +kernel
theorem dX9_init_203 : decode cX9_init 203 = .ok (.iload_n 1, 1) := by decide +kernel
theorem dX9_init_204 : decode cX9_init 204 = .ok (.bipush 6, 2) := by decide +kernel
theorem dX9_init_206 : decode cX9_init 206 = .ok (.if_icmp .ge 16, 3) := by decide +kernel
theorem dX9_init_209 : decode cX9_init 209 = .ok (.aload_n 0, 1) := by decide +kernel
theorem dX9_init_210 : decode cX9_init 210 = .ok (.getfield 7, 3) := by decide +kernel
theorem dX9_init_213 : decode cX9_init 213 = .ok (.iload_n 1, 1) := by decide +kernel
theorem dX9_init_214 : decode cX9_init 214 = .ok (.iconst (-1), 1) := by decide +kernel
theorem dX9_init_215 : decode cX9_init 215 = .ok (.iastore, 1) := by decide +kernel
theorem dX9_init_216 : decode cX9_init 216 = .ok (.iinc 1 1, 3) := by decide +kernel
theorem dX9_init_219 : decode cX9_init 219 = .ok (.goto (-16), 3) := by decide +kernel
theorem dX9_init_222 : decode cX9_init 222 = .ok (.iconst 0, 1) := by decide +kernel
theorem dX9_init_223 : decode cX9_init 223 = .ok (.istore_n 1, 1) := by decide +kernel
theorem dX9_init_224 : decode cX9_init 224 = .ok (.iload_n 1, 1) := by decide +kernel
theorem dX9_init_225 : decode cX9_init 225 = .ok (.iconst 4, 1) := by decide +kernel
theorem dX9_init_226 : decode cX9_init 226 = .ok (.if_icmp .ge 16, 3) := by decide +kernel
theorem dX9_init_229 : decode cX9_init 229 = .ok (.aload_n 0, 1) := by decide +kernel
theorem dX9_init_230 : decode cX9_init 230 = .ok (.getfield 16, 3) := by decide +kernel
theorem dX9_init_233 : decode cX9_init 233 = .ok (.iload_n 1, 1) := by decide +kernel
theorem dX9_init_234 : decode cX9_init 234 = .ok (.iconst (-1), 1) := by decide +kernel
theorem dX9_init_235 : decode cX9_init 235 = .ok (.iastore, 1) := by decide +kernel
theorem dX9_init_236 : decode cX9_init 236 = .ok (.iinc 1 1, 3) := by decide +kernel
theorem dX9_init_239 : decode cX9_init 239 = .ok (.goto (-15), 3) := by decide +kernel
theorem dX9_init_242 : decode cX9_init 242 = .ok (.iconst 0, 1) := by decide +kernel
theorem dX9_init_243 : decode cX9_init 243 = .ok (.istore_n 1, 1) := by decide +kernel
theorem dX9_init_244 : decode cX9_init 244 = .ok (.iload_n 1, 1) := by decide +kernel
theorem dX9_init_245 : decode cX9_init 245 = .ok (.iconst 3, 1) := by decide +kernel
theorem dX9_init_246 : decode cX9_init 246 = .ok (.if_icmp .ge 19, 3) := by decide +kernel
theorem dX9_init_249 : decode cX9_init 249 = .ok (.aload_n 0, 1) := by decide +kernel
theorem dX9_init_250 : decode cX9_init 250 = .ok (.getfield 22, 3) := by decide +kernel
theorem dX9_init_253 : decode cX9_init 253 = .ok (.bipush 50, 2) := by decide +kernel
theorem dX9_init_255 : decode cX9_init 255 = .ok (.iload_n 1, 1) := by decide +kernel
theorem dX9_init_256 : decode cX9_init 256 = .ok (.iadd, 1) := by decide +kernel
theorem dX9_init_257 : decode cX9_init 257 = .ok (.iconst 1, 1) := by decide +kernel
theorem dX9_init_258 : decode cX9_init 258 = .ok (.iastore, 1) := by decide +kernel
theorem dX9_init_259 : decode cX9_init 259 = .ok (.iinc 1 1, 3) := by decide +kernel
theorem dX9_init_262 : decode cX9_init 262 = .ok (.goto (-18), 3) := by decide +kernel
theorem dX9_init_265 : decode cX9_init 265 = .ok (.return_, 1) := by decide +kernel
theorem dX9_in_0 : decode cX9_in 0 = .ok (.iload_n 0, 1) := by decide +kernel
theorem dX9_in_1 : decode cX9_in 1 = .ok (.iload_n 1, 1) := by decide +kernel
theorem dX9_in_2 : decode cX9_in 2 = .ok (.if_icmp .lt 12, 3) := by decide +kernel
theorem dX9_in_5 : decode cX9_in 5 = .ok (.iload_n 0, 1) := by decide +kernel
theorem dX9_in_6 : decode cX9_in 6 = .ok (.iload_n 2, 1) := by decide +kernel
theorem dX9_in_7 : decode cX9_in 7 = .ok (.if_icmp .gt 7, 3) := by decide +kernel
theorem dX9_in_10 : decode cX9_in 10 = .ok (.iconst 1, 1) := by decide +kernel
theorem dX9_in_11 : decode cX9_in 11 = .ok (.goto 4, 3) := by decide +kernel
theorem dX9_in_14 : decode cX9_in 14 = .ok (.iconst 0, 1) := by decide +kernel
theorem dX9_in_15 : decode cX9_in 15 = .ok (.ireturn, 1) := by decide +kernel
theorem dX9_bring_0 : decode cX9_bring 0 = .ok (.iconst 0, 1) := by decide +kernel
theorem dX9_bring_1 : decode cX9_bring 1 = .ok (.istore 5, 2) := by decide +kernel
theorem dX9_bring_3 : decode cX9_bring 3 = .ok (.iload 5, 2) := by decide +kernel
theorem dX9_bring_5 : decode cX9_bring 5 = .ok (.iload 4, 2) := by decide +kernel
theorem dX9_bring_7 : decode cX9_bring 7 = .ok (.if_icmp .ge 21, 3) := by decide +kernel
theorem dX9_bring_10 : decode cX9_bring 10 = .ok (.aload_n 2, 1) := by decide +kernel
theorem dX9_bring_11 : decode cX9_bring 11 = .ok (.iload_n 3, 1) := by decide +kernel
theorem dX9_bring_12 : decode cX9_bring 12 = .ok (.iload 5, 2) := by decide +kernel
theorem dX9_bring_14 : decode cX9_bring 14 = .ok (.iadd, 1) := by decide +kernel
theorem dX9_bring_15 : decode cX9_bring 15 = .ok (.aload_n 0, 1) := by decide +kernel
theorem dX9_bring_16 : decode cX9_bring 16 = .ok (.iload_n 1, 1) := by decide +kernel
theorem dX9_bring_17 : decode cX9_bring 17 = .ok (.iload 5, 2) := by decide +kernel
theorem dX9_bring_19 : decode cX9_bring 19 = .ok (.iadd, 1) := by decide +kernel
theorem dX9_bring_20 : decode cX9_bring 20 = .ok (.iaload, 1) := by decide +kernel
theorem dX9_bring_21 : decode cX9_bring 21 = .ok (.iastore, 1) := by decide +kernel
theorem dX9_bring_22 : decode cX9_bring 22 = .ok (.iinc 5 1, 3) := by decide +kernel
theorem dX9_bring_25 : decode cX9_bring 25 = .ok (.goto (-22), 3) := by decide +kernel
theorem dX9_bring_28 : decode cX9_bring 28 = .ok (.return_, 1) := by decide +kernel
theorem dX9_found_0 : decode cX9_found 0 = .ok (.aload_n 0, 1) := by decide +kernel
theorem dX9_found_1 : decode cX9_found 1 = .ok (.iload_n 1, 1) := by decide +kernel
theorem dX9_found_2 : decode cX9_found 2 = .ok (.putfield 83, 3) := by decide +kernel
theorem dX9_found_5 : decode cX9_found 5 = .ok (.aload_n 0, 1) := by decide +kernel
theorem dX9_found_6 : decode cX9_found 6 = .ok (.getfield 35, 3) := by decide +kernel
theorem dX9_found_9 : decode cX9_found 9 = .ok (.iload_n 1, 1) := by decide +kernel
theorem dX9_found_10 : decode cX9_found 10 = .ok (.dup2, 1) := by decide +kernel
theorem dX9_found_11 : decode cX9_found 11 = .ok (.iaload, 1) := by decide +kernel
theorem dX9_found_12 : decode cX9_found 12 = .ok (.iconst 1, 1) := by decide +kernel
theorem dX9_found_13 : decode cX9_found 13 = .ok (.iadd, 1) := by decide +kernel
theorem dX9_found_14 : decode cX9_found 14 = .ok (.iastore, 1) := by decide +kernel
theorem dX9_found_15 : decode cX9_found 15 = .ok (.bipush (-3), 2) := by decide +kernel
theorem dX9_found_17 : decode cX9_found 17 = .ok (.ireturn, 1) := by decide +kernel
theorem dX9_tells_0 : decode cX9_tells 0 = .ok (.aload_n 0, 1) := by decide +kernel
theorem dX9_tells_1 : decode cX9_tells 1 = .ok (.iload_n 1, 1) := by decide +kernel
theorem dX9_tells_2 : decode cX9_tells 2 = .ok (.putfield 87, 3) := by decide +kernel
theorem dX9_tells_5 : decode cX9_tells 5 = .ok (.iload_n 2, 1) := by decide +kernel
theorem dX9_tells_6 : decode cX9_tells 6 = .ok (.ireturn, 1) := by decide +kernel
theorem dX9_isRow_0 : decode cX9_isRow 0 = .ok (.iload_n 0, 1) := by decide +kernel
theorem dX9_isRow_1 : decode cX9_isRow 1 = .ok (.iconst 0, 1) := by decide +kernel
theorem dX9_isRow_2 : decode cX9_isRow 2 = .ok (.iconst 5, 1) := by decide +kernel
theorem dX9_isRow_3 : decode cX9_isRow 3 = .ok (.invokestatic 90, 3) := by decide +kernel
theorem dX9_isRow_6 : decode cX9_isRow 6 = .ok (.ireturn, 1) := by decide +kernel
theorem dX9_isText_0 : decode cX9_isText 0 = .ok (.iload_n 0, 1) := by decide +kernel
theorem dX9_isText_1 : decode cX9_isText 1 = .ok (.iconst 0, 1) := by decide +kernel
theorem dX9_isText_2 : decode cX9_isText 2 = .ok (.iconst 3, 1) := by decide +kernel
theorem dX9_isText_3 : decode cX9_isText 3 = .ok (.invokestatic 90, 3) := by decide +kernel
theorem dX9_isText_6 : decode cX9_isText 6 = .ok (.ireturn, 1) := by decide +kernel
theorem dX9_makesRow_0 : decode cX9_makesRow 0 = .ok (.aload_n 0, 1) := by decide +kernel
theorem dX9_makesRow_1 : decode cX9_makesRow 1 = .ok (.getfield 7, 3) := by decide +kernel
theorem dX9_makesRow_4 : decode cX9_makesRow 4 = .ok (.iload_n 1, 1) := by decide +kernel
theorem dX9_makesRow_5 : decode cX9_makesRow 5 = .ok (.iload_n 2, 1) := by decide +kernel
theorem dX9_makesRow_6 : decode cX9_makesRow 6 = .ok (.iastore, 1) := by decide +kernel
theorem dX9_makesRow_7 : decode cX9_makesRow 7 = .ok (.iconst 0, 1) := by decide +kernel
theorem dX9_makesRow_8 : decode cX9_makesRow 8 = .ok (.istore_n 3, 1) := by decide +kernel
theorem dX9_makesRow_9 : decode cX9_makesRow 9 = .ok (.iload_n 3, 1) := by decide +kernel
theorem dX9_makesRow_10 : decode cX9_makesRow 10 = .ok (.iload_n 2, 1) := by decide +kernel
theorem dX9_makesRow_11 : decode cX9_makesRow 11 = .ok (.if_icmp .ge 21, 3) := by decide +kernel
theorem dX9_makesRow_14 : decode cX9_makesRow 14 = .ok (.aload_n 0, 1) := by decide +kernel
theorem dX9_makesRow_15 : decode cX9_makesRow 15 = .ok (.getfield 13, 3) := by decide +kernel
theorem dX9_makesRow_18 : decode cX9_makesRow 18 = .ok (.bipush 40, 2) := by decide +kernel
theorem dX9_makesRow_20 : decode cX9_makesRow 20 = .ok (.iload_n 1, 1) := by decide +kernel
theorem dX9_makesRow_21 : decode cX9_makesRow 21 = .ok (.imul, 1) := by decide +kernel
theorem dX9_makesRow_22 : decode cX9_makesRow 22 = .ok (.iload_n 3, 1) := by decide +kernel
theorem dX9_makesRow_23 : decode cX9_makesRow 23 = .ok (.iadd, 1) := by decide +kernel
theorem dX9_makesRow_24 : decode cX9_makesRow 24 = .ok (.iconst 0, 1) := by decide +kernel
theorem dX9_makesRow_25 : decode cX9_makesRow 25 = .ok (.iastore, 1) := by decide +kernel
theorem dX9_makesRow_26 : decode cX9_makesRow 26 = .ok (.iinc 3 1, 3) := by decide +kernel
theorem dX9_makesRow_29 : decode cX9_makesRow 29 = .ok (.goto (-20), 3) := by decide +kernel
theorem dX9_makesRow_32 : decode cX9_makesRow 32 = .ok (.return_, 1) := by decide +kernel
theorem dX9_row_0 : decode cX9_row 0 = .ok (.iload_n 1, 1) := by decide +kernel
theorem dX9_row_1 : decode cX9_row 1 = .ok (.invokestatic 94, 3) := by decide +kernel
theorem dX9_row_4 : decode cX9_row 4 = .ok (.ifCond .eq 9, 3) := by decide +kernel
theorem dX9_row_7 : decode cX9_row 7 = .ok (.iload_n 2, 1) := by decide +kernel
theorem dX9_row_8 : decode cX9_row 8 = .ok (.bipush 40, 2) := by decide +kernel
theorem dX9_row_10 : decode cX9_row 10 = .ok (.if_icmp .le 5, 3) := by decide +kernel
theorem dX9_row_13 : decode cX9_row 13 = .ok (.iconst (-1), 1) := by decide +kernel
theorem dX9_row_14 : decode cX9_row 14 = .ok (.ireturn, 1) := by decide +kernel
theorem dX9_row_15 : decode cX9_row 15 = .ok (.iload_n 2, 1) := by decide +kernel
theorem dX9_row_16 : decode cX9_row 16 = .ok (.ifCond .ge 9, 3) := by decide +kernel
theorem dX9_row_19 : decode cX9_row 19 = .ok (.aload_n 0, 1) := by decide +kernel
theorem dX9_row_20 : decode cX9_row 20 = .ok (.iconst 5, 1) := by decide +kernel
theorem dX9_row_21 : decode cX9_row 21 = .ok (.invokevirtual 98, 3) := by decide +kernel
theorem dX9_row_24 : decode cX9_row 24 = .ok (.ireturn, 1) := by decide +kernel
theorem dX9_row_25 : decode cX9_row 25 = .ok (.aload_n 0, 1) := by decide +kernel
theorem dX9_row_26 : decode cX9_row 26 = .ok (.iload_n 1, 1) := by decide +kernel
theorem dX9_row_27 : decode cX9_row 27 = .ok (.iload_n 2, 1) := by decide +kernel
theorem dX9_row_28 : decode cX9_row 28 = .ok (.invokevirtual 102, 3) := by decide +kernel
theorem dX9_row_31 : decode cX9_row 31 = .ok (.iload_n 2, 1) := by decide +kernel
theorem dX9_row_32 : decode cX9_row 32 = .ok (.ireturn, 1) := by decide +kernel
theorem dX9_placeOf_0 : decode cX9_placeOf 0 = .ok (.aload_n 0, 1) := by decide +kernel
theorem dX9_placeOf_1 : decode cX9_placeOf 1 = .ok (.getfield 7, 3) := by decide +kernel
theorem dX9_placeOf_4 : decode cX9_placeOf 4 = .ok (.iload_n 1, 1) := by decide +kernel
theorem dX9_placeOf_5 : decode cX9_placeOf 5 = .ok (.iaload, 1) := by decide +kernel
theorem dX9_placeOf_6 : decode cX9_placeOf 6 = .ok (.ifCond .ge 7, 3) := by decide +kernel
theorem dX9_placeOf_9 : decode cX9_placeOf 9 = .ok (.iconst 1, 1) := by decide +kernel
theorem dX9_placeOf_10 : decode cX9_placeOf 10 = .ok (.goto 24, 3) := by decide +kernel
theorem dX9_placeOf_13 : decode cX9_placeOf 13 = .ok (.iload_n 2, 1) := by decide +kernel
theorem dX9_placeOf_14 : decode cX9_placeOf 14 = .ok (.iconst 0, 1) := by decide +kernel
theorem dX9_placeOf_15 : decode cX9_placeOf 15 = .ok (.aload_n 0, 1) := by decide +kernel
theorem dX9_placeOf_16 : decode cX9_placeOf 16 = .ok (.getfield 7, 3) := by decide +kernel
theorem dX9_placeOf_19 : decode cX9_placeOf 19 = .ok (.iload_n 1, 1) := by decide +kernel
theorem dX9_placeOf_20 : decode cX9_placeOf 20 = .ok (.iaload, 1) := by decide +kernel
theorem dX9_placeOf_21 : decode cX9_placeOf 21 = .ok (.iconst 1, 1) := by decide +kernel
theorem dX9_placeOf_22 : decode cX9_placeOf 22 = .ok (.isub, 1) := by decide +kernel
theorem dX9_placeOf_23 : decode cX9_placeOf 23 = .ok (.invokestatic 90, 3) := by decide +kernel
theorem dX9_placeOf_26 : decode cX9_placeOf 26 = .ok (.ifCond .eq 7, 3) := by decide +kernel
theorem dX9_placeOf_29 : decode cX9_placeOf 29 = .ok (.iconst 0, 1) := by decide +kernel
theorem dX9_placeOf_30 : decode cX9_placeOf 30 = .ok (.goto 4, 3) := by decide +kernel
theorem dX9_placeOf_33 : decode cX9_placeOf 33 = .ok (.iconst 2, 1) := by decide +kernel
theorem dX9_placeOf_34 : decode cX9_placeOf 34 = .ok (.ireturn, 1) := by decide +kernel
theorem dX9_lay_0 : decode cX9_lay 0 = .ok (.iload_n 1, 1) := by decide +kernel
theorem dX9_lay_1 : decode cX9_lay 1 = .ok (.invokestatic 94, 3) := by decide +kernel
theorem dX9_lay_4 : decode cX9_lay 4 = .ok (.ifCond .ne 5, 3) := by decide +kernel
theorem dX9_lay_7 : decode cX9_lay 7 = .ok (.iconst (-1), 1) := by decide +kernel
theorem dX9_lay_8 : decode cX9_lay 8 = .ok (.ireturn, 1) := by decide +kernel
theorem dX9_lay_9 : decode cX9_lay 9 = .ok (.aload_n 0, 1) := by decide +kernel
theorem dX9_lay_10 : decode cX9_lay 10 = .ok (.iload_n 1, 1) := by decide +kernel
theorem dX9_lay_11 : decode cX9_lay 11 = .ok (.iload_n 2, 1) := by decide +kernel
theorem dX9_lay_12 : decode cX9_lay 12 = .ok (.invokevirtual 106, 3) := by decide +kernel
theorem dX9_lay_15 : decode cX9_lay 15 = .ok (.istore 4, 2) := by decide +kernel
theorem dX9_lay_17 : decode cX9_lay 17 = .ok (.iload 4, 2) := by decide +kernel
theorem dX9_lay_19 : decode cX9_lay 19 = .ok (.ifCond .eq 10, 3) := by decide +kernel
theorem dX9_lay_22 : decode cX9_lay 22 = .ok (.aload_n 0, 1) := by decide +kernel
theorem dX9_lay_23 : decode cX9_lay 23 = .ok (.iload 4, 2) := by decide +kernel
theorem dX9_lay_25 : decode cX9_lay 25 = .ok (.invokevirtual 98, 3) := by decide +kernel
theorem dX9_lay_28 : decode cX9_lay 28 = .ok (.ireturn, 1) := by decide +kernel
theorem dX9_lay_29 : decode cX9_lay 29 = .ok (.aload_n 0, 1) := by decide +kernel
theorem dX9_lay_30 : decode cX9_lay 30 = .ok (.getfield 13, 3) := by decide +kernel
theorem dX9_lay_33 : decode cX9_lay 33 = .ok (.bipush 40, 2) := by decide +kernel
theorem dX9_lay_35 : decode cX9_lay 35 = .ok (.iload_n 1, 1) := by decide +kernel
theorem dX9_lay_36 : decode cX9_lay 36 = .ok (.imul, 1) := by decide +kernel
theorem dX9_lay_37 : decode cX9_lay 37 = .ok (.iload_n 2, 1) := by decide +kernel
theorem dX9_lay_38 : decode cX9_lay 38 = .ok (.iadd, 1) := by decide +kernel
theorem dX9_lay_39 : decode cX9_lay 39 = .ok (.iaload, 1) := by decide +kernel
theorem dX9_lay_40 : decode cX9_lay 40 = .ok (.istore 5, 2) := by decide +kernel
theorem dX9_lay_42 : decode cX9_lay 42 = .ok (.aload_n 0, 1) := by decide +kernel
theorem dX9_lay_43 : decode cX9_lay 43 = .ok (.getfield 13, 3) := by decide +kernel
theorem dX9_lay_46 : decode cX9_lay 46 = .ok (.bipush 40, 2) := by decide +kernel
theorem dX9_lay_48 : decode cX9_lay 48 = .ok (.iload_n 1, 1) := by decide +kernel
theorem dX9_lay_49 : decode cX9_lay 49 = .ok (.imul, 1) := by decide +kernel
theorem dX9_lay_50 : decode cX9_lay 50 = .ok (.iload_n 2, 1) := by decide +kernel
theorem dX9_lay_51 : decode cX9_lay 51 = .ok (.iadd, 1) := by decide +kernel
theorem dX9_lay_52 : decode cX9_lay 52 = .ok (.iload_n 3, 1) := by decide +kernel
theorem dX9_lay_53 : decode cX9_lay 53 = .ok (.iastore, 1) := by decide +kernel
theorem dX9_lay_54 : decode cX9_lay 54 = .ok (.aload_n 0, 1) := by decide +kernel
theorem dX9_lay_55 : decode cX9_lay 55 = .ok (.iload 5, 2) := by decide +kernel
theorem dX9_lay_57 : decode cX9_lay 57 = .ok (.iconst 1, 1) := by decide +kernel
theorem dX9_lay_58 : decode cX9_lay 58 = .ok (.invokevirtual 110, 3) := by decide +kernel
theorem dX9_lay_61 : decode cX9_lay 61 = .ok (.ireturn, 1) := by decide +kernel
theorem dX9_at_0 : decode cX9_at 0 = .ok (.iload_n 1, 1) := by decide +kernel
theorem dX9_at_1 : decode cX9_at 1 = .ok (.invokestatic 94, 3) := by decide +kernel
theorem dX9_at_4 : decode cX9_at 4 = .ok (.ifCond .ne 5, 3) := by decide +kernel
theorem dX9_at_7 : decode cX9_at 7 = .ok (.iconst (-1), 1) := by decide +kernel
theorem dX9_at_8 : decode cX9_at 8 = .ok (.ireturn, 1) := by decide +kernel
theorem dX9_at_9 : decode cX9_at 9 = .ok (.aload_n 0, 1) := by decide +kernel
theorem dX9_at_10 : decode cX9_at 10 = .ok (.iload_n 1, 1) := by decide +kernel
theorem dX9_at_11 : decode cX9_at 11 = .ok (.iload_n 2, 1) := by decide +kernel
theorem dX9_at_12 : decode cX9_at 12 = .ok (.invokevirtual 106, 3) := by decide +kernel
theorem dX9_at_15 : decode cX9_at 15 = .ok (.istore_n 3, 1) := by decide +kernel
theorem dX9_at_16 : decode cX9_at 16 = .ok (.iload_n 3, 1) := by decide +kernel
theorem dX9_at_17 : decode cX9_at 17 = .ok (.ifCond .eq 11, 3) := by decide +kernel
theorem dX9_at_20 : decode cX9_at 20 = .ok (.aload_n 0, 1) := by decide +kernel
theorem dX9_at_21 : decode cX9_at 21 = .ok (.iload_n 3, 1) := by decide +kernel
theorem dX9_at_22 : decode cX9_at 22 = .ok (.invokevirtual 98, 3) := by decide +kernel
theorem dX9_at_25 : decode cX9_at 25 = .ok (.goto 19, 3) := by decide +kernel
theorem dX9_at_28 : decode cX9_at 28 = .ok (.aload_n 0, 1) := by decide +kernel
theorem dX9_at_29 : decode cX9_at 29 = .ok (.aload_n 0, 1) := by decide +kernel
theorem dX9_at_30 : decode cX9_at 30 = .ok (.getfield 13, 3) := by decide +kernel
theorem dX9_at_33 : decode cX9_at 33 = .ok (.bipush 40, 2) := by decide +kernel
theorem dX9_at_35 : decode cX9_at 35 = .ok (.iload_n 1, 1) := by decide +kernel
theorem dX9_at_36 : decode cX9_at 36 = .ok (.imul, 1) := by decide +kernel
theorem dX9_at_37 : decode cX9_at 37 = .ok (.iload_n 2, 1) := by decide +kernel
theorem dX9_at_38 : decode cX9_at 38 = .ok (.iadd, 1) := by decide +kernel
theorem dX9_at_39 : decode cX9_at 39 = .ok (.iaload, 1) := by decide +kernel
theorem dX9_at_40 : decode cX9_at 40 = .ok (.iconst 1, 1) := by decide +kernel
theorem dX9_at_41 : decode cX9_at 41 = .ok (.invokevirtual 110, 3) := by decide +kernel
theorem dX9_at_44 : decode cX9_at 44 = .ok (.ireturn, 1) := by decide +kernel
theorem dX9_tear_0 : decode cX9_tear 0 = .ok (.iload_n 1, 1) := by decide +kernel
theorem dX9_tear_1 : decode cX9_tear 1 = .ok (.invokestatic 94, 3) := by decide +kernel
theorem dX9_tear_4 : decode cX9_tear 4 = .ok (.ifCond .ne 5, 3) := by decide +kernel
theorem dX9_tear_7 : decode cX9_tear 7 = .ok (.iconst (-1), 1) := by decide +kernel
theorem dX9_tear_8 : decode cX9_tear 8 = .ok (.ireturn, 1) := by decide +kernel
theorem dX9_tear_9 : decode cX9_tear 9 = .ok (.aload_n 0, 1) := by decide +kernel
theorem dX9_tear_10 : decode cX9_tear 10 = .ok (.getfield 7, 3) := by decide +kernel
theorem dX9_tear_13 : decode cX9_tear 13 = .ok (.iload_n 1, 1) := by decide +kernel
theorem dX9_tear_14 : decode cX9_tear 14 = .ok (.iaload, 1) := by decide +kernel
theorem dX9_tear_15 : decode cX9_tear 15 = .ok (.ifCond .ge 9, 3) := by decide +kernel
theorem dX9_tear_18 : decode cX9_tear 18 = .ok (.aload_n 0, 1) := by decide +kernel
theorem dX9_tear_19 : decode cX9_tear 19 = .ok (.iconst 1, 1) := by decide +kernel
theorem dX9_tear_20 : decode cX9_tear 20 = .ok (.invokevirtual 98, 3) := by decide +kernel
theorem dX9_tear_23 : decode cX9_tear 23 = .ok (.ireturn, 1) := by decide +kernel
theorem dX9_tear_24 : decode cX9_tear 24 = .ok (.aload_n 0, 1) := by decide +kernel
theorem dX9_tear_25 : decode cX9_tear 25 = .ok (.getfield 7, 3) := by decide +kernel
theorem dX9_tear_28 : decode cX9_tear 28 = .ok (.iload_n 1, 1) := by decide +kernel
theorem dX9_tear_29 : decode cX9_tear 29 = .ok (.iconst (-1), 1) := by decide +kernel
theorem dX9_tear_30 : decode cX9_tear 30 = .ok (.iastore, 1) := by decide +kernel
theorem dX9_tear_31 : decode cX9_tear 31 = .ok (.iconst 1, 1) := by decide +kernel
theorem dX9_tear_32 : decode cX9_tear 32 = .ok (.ireturn, 1) := by decide +kernel
theorem dX9_copy_0 : decode cX9_copy 0 = .ok (.iload_n 1, 1) := by decide +kernel
theorem dX9_copy_1 : decode cX9_copy 1 = .ok (.invokestatic 94, 3) := by decide +kernel
theorem dX9_copy_4 : decode cX9_copy 4 = .ok (.ifCond .eq 10, 3) := by decide +kernel
theorem dX9_copy_7 : decode cX9_copy 7 = .ok (.iload_n 3, 1) := by decide +kernel
