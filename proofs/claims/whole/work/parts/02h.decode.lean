theorem dX9_firstFrom_41 : decode cX9_firstFrom 41 = .ok (.iload 5, 2) := by decide +kernel
theorem dX9_firstFrom_43 : decode cX9_firstFrom 43 = .ok (.bipush (-9), 2) := by decide +kernel
theorem dX9_firstFrom_45 : decode cX9_firstFrom 45 = .ok (.if_icmp .eq 32, 3) := by decide +kernel
theorem dX9_firstFrom_48 : decode cX9_firstFrom 48 = .ok (.aload_n 0, 1) := by decide +kernel
theorem dX9_firstFrom_49 : decode cX9_firstFrom 49 = .ok (.iload_n 1, 1) := by decide +kernel
theorem dX9_firstFrom_50 : decode cX9_firstFrom 50 = .ok (.iload 6, 2) := by decide +kernel
theorem dX9_firstFrom_52 : decode cX9_firstFrom 52 = .ok (.invokevirtual 154, 3) := by decide +kernel
theorem dX9_firstFrom_55 : decode cX9_firstFrom 55 = .ok (.aload_n 0, 1) := by decide +kernel
theorem dX9_firstFrom_56 : decode cX9_firstFrom 56 = .ok (.iload_n 1, 1) := by decide +kernel
theorem dX9_firstFrom_57 : decode cX9_firstFrom 57 = .ok (.iload 5, 2) := by decide +kernel
theorem dX9_firstFrom_59 : decode cX9_firstFrom 59 = .ok (.invokevirtual 154, 3) := by decide +kernel
theorem dX9_firstFrom_62 : decode cX9_firstFrom 62 = .ok (.if_icmp .le 15, 3) := by decide +kernel
theorem dX9_firstFrom_65 : decode cX9_firstFrom 65 = .ok (.aload_n 0, 1) := by decide +kernel
theorem dX9_firstFrom_66 : decode cX9_firstFrom 66 = .ok (.iload_n 1, 1) := by decide +kernel
theorem dX9_firstFrom_67 : decode cX9_firstFrom 67 = .ok (.iload 6, 2) := by decide +kernel
theorem dX9_firstFrom_69 : decode cX9_firstFrom 69 = .ok (.invokevirtual 154, 3) := by decide +kernel
theorem dX9_firstFrom_72 : decode cX9_firstFrom 72 = .ok (.iload 5, 2) := by decide +kernel
theorem dX9_firstFrom_74 : decode cX9_firstFrom 74 = .ok (.if_icmp .gt 7, 3) := by decide +kernel
theorem dX9_firstFrom_77 : decode cX9_firstFrom 77 = .ok (.iconst 1, 1) := by decide +kernel
theorem dX9_firstFrom_78 : decode cX9_firstFrom 78 = .ok (.goto 4, 3) := by decide +kernel
theorem dX9_firstFrom_81 : decode cX9_firstFrom 81 = .ok (.iconst 0, 1) := by decide +kernel
theorem dX9_firstFrom_82 : decode cX9_firstFrom 82 = .ok (.istore 8, 2) := by decide +kernel
theorem dX9_firstFrom_84 : decode cX9_firstFrom 84 = .ok (.iload 7, 2) := by decide +kernel
theorem dX9_firstFrom_86 : decode cX9_firstFrom 86 = .ok (.ifCond .eq 13, 3) := by decide +kernel
theorem dX9_firstFrom_89 : decode cX9_firstFrom 89 = .ok (.iload 8, 2) := by decide +kernel
theorem dX9_firstFrom_91 : decode cX9_firstFrom 91 = .ok (.ifCond .eq 8, 3) := by decide +kernel
theorem dX9_firstFrom_94 : decode cX9_firstFrom 94 = .ok (.iload 6, 2) := by decide +kernel
theorem dX9_firstFrom_96 : decode cX9_firstFrom 96 = .ok (.goto 5, 3) := by decide +kernel
theorem dX9_firstFrom_99 : decode cX9_firstFrom 99 = .ok (.iload 5, 2) := by decide +kernel
theorem dX9_firstFrom_101 : decode cX9_firstFrom 101 = .ok (.istore 5, 2) := by decide +kernel
theorem dX9_firstFrom_103 : decode cX9_firstFrom 103 = .ok (.iinc 6 1, 3) := by decide +kernel
theorem dX9_firstFrom_106 : decode cX9_firstFrom 106 = .ok (.goto (-99), 3) := by decide +kernel
theorem dX9_firstFrom_109 : decode cX9_firstFrom 109 = .ok (.iload 5, 2) := by decide +kernel
theorem dX9_firstFrom_111 : decode cX9_firstFrom 111 = .ok (.ireturn, 1) := by decide +kernel
theorem dX9_writesAll_0 : decode cX9_writesAll 0 = .ok (.iconst 0, 1) := by decide +kernel
theorem dX9_writesAll_1 : decode cX9_writesAll 1 = .ok (.istore_n 3, 1) := by decide +kernel
theorem dX9_writesAll_2 : decode cX9_writesAll 2 = .ok (.iconst 0, 1) := by decide +kernel
theorem dX9_writesAll_3 : decode cX9_writesAll 3 = .ok (.istore 4, 2) := by decide +kernel
theorem dX9_writesAll_5 : decode cX9_writesAll 5 = .ok (.aload_n 0, 1) := by decide +kernel
theorem dX9_writesAll_6 : decode cX9_writesAll 6 = .ok (.iconst 0, 1) := by decide +kernel
theorem dX9_writesAll_7 : decode cX9_writesAll 7 = .ok (.putfield 147, 3) := by decide +kernel
theorem dX9_writesAll_10 : decode cX9_writesAll 10 = .ok (.aload_n 0, 1) := by decide +kernel
theorem dX9_writesAll_11 : decode cX9_writesAll 11 = .ok (.getfield 56, 3) := by decide +kernel
theorem dX9_writesAll_14 : decode cX9_writesAll 14 = .ok (.iconst 0, 1) := by decide +kernel
theorem dX9_writesAll_15 : decode cX9_writesAll 15 = .ok (.aload_n 0, 1) := by decide +kernel
theorem dX9_writesAll_16 : decode cX9_writesAll 16 = .ok (.iload_n 1, 1) := by decide +kernel
theorem dX9_writesAll_17 : decode cX9_writesAll 17 = .ok (.invokevirtual 119, 3) := by decide +kernel
theorem dX9_writesAll_20 : decode cX9_writesAll 20 = .ok (.iconst 1, 1) := by decide +kernel
theorem dX9_writesAll_21 : decode cX9_writesAll 21 = .ok (.isub, 1) := by decide +kernel
theorem dX9_writesAll_22 : decode cX9_writesAll 22 = .ok (.iastore, 1) := by decide +kernel
theorem dX9_writesAll_23 : decode cX9_writesAll 23 = .ok (.iload_n 3, 1) := by decide +kernel
theorem dX9_writesAll_24 : decode cX9_writesAll 24 = .ok (.ifCond .lt 117, 3) := by decide +kernel
theorem dX9_writesAll_27 : decode cX9_writesAll 27 = .ok (.aload_n 0, 1) := by decide +kernel
theorem dX9_writesAll_28 : decode cX9_writesAll 28 = .ok (.iload_n 1, 1) := by decide +kernel
theorem dX9_writesAll_29 : decode cX9_writesAll 29 = .ok (.iload_n 2, 1) := by decide +kernel
theorem dX9_writesAll_30 : decode cX9_writesAll 30 = .ok (.iload 4, 2) := by decide +kernel
theorem dX9_writesAll_32 : decode cX9_writesAll 32 = .ok (.aload_n 0, 1) := by decide +kernel
theorem dX9_writesAll_33 : decode cX9_writesAll 33 = .ok (.getfield 56, 3) := by decide +kernel
theorem dX9_writesAll_36 : decode cX9_writesAll 36 = .ok (.iload_n 3, 1) := by decide +kernel
theorem dX9_writesAll_37 : decode cX9_writesAll 37 = .ok (.iaload, 1) := by decide +kernel
theorem dX9_writesAll_38 : decode cX9_writesAll 38 = .ok (.invokevirtual 157, 3) := by decide +kernel
theorem dX9_writesAll_41 : decode cX9_writesAll 41 = .ok (.istore 5, 2) := by decide +kernel
theorem dX9_writesAll_43 : decode cX9_writesAll 43 = .ok (.iload 5, 2) := by decide +kernel
theorem dX9_writesAll_45 : decode cX9_writesAll 45 = .ok (.bipush (-9), 2) := by decide +kernel
theorem dX9_writesAll_47 : decode cX9_writesAll 47 = .ok (.if_icmp .ne 32, 3) := by decide +kernel
theorem dX9_writesAll_50 : decode cX9_writesAll 50 = .ok (.aload_n 0, 1) := by decide +kernel
theorem dX9_writesAll_51 : decode cX9_writesAll 51 = .ok (.getfield 56, 3) := by decide +kernel
theorem dX9_writesAll_54 : decode cX9_writesAll 54 = .ok (.iload_n 3, 1) := by decide +kernel
theorem dX9_writesAll_55 : decode cX9_writesAll 55 = .ok (.iaload, 1) := by decide +kernel
theorem dX9_writesAll_56 : decode cX9_writesAll 56 = .ok (.iconst 1, 1) := by decide +kernel
theorem dX9_writesAll_57 : decode cX9_writesAll 57 = .ok (.iadd, 1) := by decide +kernel
theorem dX9_writesAll_58 : decode cX9_writesAll 58 = .ok (.istore 4, 2) := by decide +kernel
theorem dX9_writesAll_60 : decode cX9_writesAll 60 = .ok (.iinc 3 (-1), 3) := by decide +kernel
theorem dX9_writesAll_63 : decode cX9_writesAll 63 = .ok (.iload_n 3, 1) := by decide +kernel
theorem dX9_writesAll_64 : decode cX9_writesAll 64 = .ok (.ifCond .lt 74, 3) := by decide +kernel
theorem dX9_writesAll_67 : decode cX9_writesAll 67 = .ok (.aload_n 0, 1) := by decide +kernel
theorem dX9_writesAll_68 : decode cX9_writesAll 68 = .ok (.bipush 41, 2) := by decide +kernel
theorem dX9_writesAll_70 : decode cX9_writesAll 70 = .ok (.invokevirtual 161, 3) := by decide +kernel
theorem dX9_writesAll_73 : decode cX9_writesAll 73 = .ok (.iinc 4 1, 3) := by decide +kernel
theorem dX9_writesAll_76 : decode cX9_writesAll 76 = .ok (.goto 62, 3) := by decide +kernel
theorem dX9_writesAll_79 : decode cX9_writesAll 79 = .ok (.aload_n 0, 1) := by decide +kernel
theorem dX9_writesAll_80 : decode cX9_writesAll 80 = .ok (.aload_n 0, 1) := by decide +kernel
theorem dX9_writesAll_81 : decode cX9_writesAll 81 = .ok (.getfield 53, 3) := by decide +kernel
theorem dX9_writesAll_84 : decode cX9_writesAll 84 = .ok (.iload 5, 2) := by decide +kernel
theorem dX9_writesAll_86 : decode cX9_writesAll 86 = .ok (.iaload, 1) := by decide +kernel
theorem dX9_writesAll_87 : decode cX9_writesAll 87 = .ok (.invokevirtual 161, 3) := by decide +kernel
theorem dX9_writesAll_90 : decode cX9_writesAll 90 = .ok (.aload_n 0, 1) := by decide +kernel
theorem dX9_writesAll_91 : decode cX9_writesAll 91 = .ok (.iload_n 1, 1) := by decide +kernel
theorem dX9_writesAll_92 : decode cX9_writesAll 92 = .ok (.iload_n 2, 1) := by decide +kernel
theorem dX9_writesAll_93 : decode cX9_writesAll 93 = .ok (.iload 5, 2) := by decide +kernel
theorem dX9_writesAll_95 : decode cX9_writesAll 95 = .ok (.invokevirtual 165, 3) := by decide +kernel
theorem dX9_writesAll_98 : decode cX9_writesAll 98 = .ok (.ifCond .le 34, 3) := by decide +kernel
theorem dX9_writesAll_101 : decode cX9_writesAll 101 = .ok (.aload_n 0, 1) := by decide +kernel
theorem dX9_writesAll_102 : decode cX9_writesAll 102 = .ok (.bipush 40, 2) := by decide +kernel
theorem dX9_writesAll_104 : decode cX9_writesAll 104 = .ok (.invokevirtual 161, 3) := by decide +kernel
theorem dX9_writesAll_107 : decode cX9_writesAll 107 = .ok (.aload_n 0, 1) := by decide +kernel
theorem dX9_writesAll_108 : decode cX9_writesAll 108 = .ok (.iload_n 1, 1) := by decide +kernel
theorem dX9_writesAll_109 : decode cX9_writesAll 109 = .ok (.iload 5, 2) := by decide +kernel
theorem dX9_writesAll_111 : decode cX9_writesAll 111 = .ok (.invokevirtual 154, 3) := by decide +kernel
theorem dX9_writesAll_114 : decode cX9_writesAll 114 = .ok (.istore 4, 2) := by decide +kernel
theorem dX9_writesAll_116 : decode cX9_writesAll 116 = .ok (.iinc 3 1, 3) := by decide +kernel
theorem dX9_writesAll_119 : decode cX9_writesAll 119 = .ok (.aload_n 0, 1) := by decide +kernel
theorem dX9_writesAll_120 : decode cX9_writesAll 120 = .ok (.getfield 56, 3) := by decide +kernel
theorem dX9_writesAll_123 : decode cX9_writesAll 123 = .ok (.iload_n 3, 1) := by decide +kernel
theorem dX9_writesAll_124 : decode cX9_writesAll 124 = .ok (.iload 5, 2) := by decide +kernel
theorem dX9_writesAll_126 : decode cX9_writesAll 126 = .ok (.iconst 1, 1) := by decide +kernel
theorem dX9_writesAll_127 : decode cX9_writesAll 127 = .ok (.isub, 1) := by decide +kernel
theorem dX9_writesAll_128 : decode cX9_writesAll 128 = .ok (.iastore, 1) := by decide +kernel
theorem dX9_writesAll_129 : decode cX9_writesAll 129 = .ok (.goto 9, 3) := by decide +kernel
theorem dX9_writesAll_132 : decode cX9_writesAll 132 = .ok (.iload 5, 2) := by decide +kernel
theorem dX9_writesAll_134 : decode cX9_writesAll 134 = .ok (.iconst 1, 1) := by decide +kernel
theorem dX9_writesAll_135 : decode cX9_writesAll 135 = .ok (.iadd, 1) := by decide +kernel
theorem dX9_writesAll_136 : decode cX9_writesAll 136 = .ok (.istore 4, 2) := by decide +kernel
theorem dX9_writesAll_138 : decode cX9_writesAll 138 = .ok (.goto (-115), 3) := by decide +kernel
theorem dX9_writesAll_141 : decode cX9_writesAll 141 = .ok (.return_, 1) := by decide +kernel
theorem dX9_beneath_0 : decode cX9_beneath 0 = .ok (.iconst 0, 1) := by decide +kernel
theorem dX9_beneath_1 : decode cX9_beneath 1 = .ok (.istore 4, 2) := by decide +kernel
theorem dX9_beneath_3 : decode cX9_beneath 3 = .ok (.aload_n 0, 1) := by decide +kernel
theorem dX9_beneath_4 : decode cX9_beneath 4 = .ok (.iload_n 1, 1) := by decide +kernel
theorem dX9_beneath_5 : decode cX9_beneath 5 = .ok (.iload_n 3, 1) := by decide +kernel
theorem dX9_beneath_6 : decode cX9_beneath 6 = .ok (.invokevirtual 154, 3) := by decide +kernel
theorem dX9_beneath_9 : decode cX9_beneath 9 = .ok (.istore 5, 2) := by decide +kernel
theorem dX9_beneath_11 : decode cX9_beneath 11 = .ok (.iload 5, 2) := by decide +kernel
theorem dX9_beneath_13 : decode cX9_beneath 13 = .ok (.iload_n 3, 1) := by decide +kernel
theorem dX9_beneath_14 : decode cX9_beneath 14 = .ok (.if_icmp .ge 28, 3) := by decide +kernel
theorem dX9_beneath_17 : decode cX9_beneath 17 = .ok (.iload 4, 2) := by decide +kernel
theorem dX9_beneath_19 : decode cX9_beneath 19 = .ok (.iload_n 2, 1) := by decide +kernel
theorem dX9_beneath_20 : decode cX9_beneath 20 = .ok (.iload 5, 2) := by decide +kernel
theorem dX9_beneath_22 : decode cX9_beneath 22 = .ok (.invokestatic 150, 3) := by decide +kernel
theorem dX9_beneath_25 : decode cX9_beneath 25 = .ok (.ifCond .eq 7, 3) := by decide +kernel
theorem dX9_beneath_28 : decode cX9_beneath 28 = .ok (.iconst 1, 1) := by decide +kernel
theorem dX9_beneath_29 : decode cX9_beneath 29 = .ok (.goto 4, 3) := by decide +kernel
theorem dX9_beneath_32 : decode cX9_beneath 32 = .ok (.iconst 0, 1) := by decide +kernel
theorem dX9_beneath_33 : decode cX9_beneath 33 = .ok (.iadd, 1) := by decide +kernel
theorem dX9_beneath_34 : decode cX9_beneath 34 = .ok (.istore 4, 2) := by decide +kernel
theorem dX9_beneath_36 : decode cX9_beneath 36 = .ok (.iinc 5 1, 3) := by decide +kernel
theorem dX9_beneath_39 : decode cX9_beneath 39 = .ok (.goto (-28), 3) := by decide +kernel
theorem dX9_beneath_42 : decode cX9_beneath 42 = .ok (.iload 4, 2) := by decide +kernel
theorem dX9_beneath_44 : decode cX9_beneath 44 = .ok (.ireturn, 1) := by decide +kernel
theorem dX9_toText_0 : decode cX9_toText 0 = .ok (.aload_n 0, 1) := by decide +kernel
theorem dX9_toText_1 : decode cX9_toText 1 = .ok (.getfield 16, 3) := by decide +kernel
theorem dX9_toText_4 : decode cX9_toText 4 = .ok (.iload_n 1, 1) := by decide +kernel
theorem dX9_toText_5 : decode cX9_toText 5 = .ok (.aload_n 0, 1) := by decide +kernel
theorem dX9_toText_6 : decode cX9_toText 6 = .ok (.getfield 147, 3) := by decide +kernel
theorem dX9_toText_9 : decode cX9_toText 9 = .ok (.iastore, 1) := by decide +kernel
theorem dX9_toText_10 : decode cX9_toText 10 = .ok (.aload_n 0, 1) := by decide +kernel
theorem dX9_toText_11 : decode cX9_toText 11 = .ok (.getfield 50, 3) := by decide +kernel
theorem dX9_toText_14 : decode cX9_toText 14 = .ok (.iconst 0, 1) := by decide +kernel
theorem dX9_toText_15 : decode cX9_toText 15 = .ok (.aload_n 0, 1) := by decide +kernel
theorem dX9_toText_16 : decode cX9_toText 16 = .ok (.getfield 19, 3) := by decide +kernel
theorem dX9_toText_19 : decode cX9_toText 19 = .ok (.bipush 60, 2) := by decide +kernel
theorem dX9_toText_21 : decode cX9_toText 21 = .ok (.iload_n 1, 1) := by decide +kernel
theorem dX9_toText_22 : decode cX9_toText 22 = .ok (.imul, 1) := by decide +kernel
theorem dX9_toText_23 : decode cX9_toText 23 = .ok (.aload_n 0, 1) := by decide +kernel
theorem dX9_toText_24 : decode cX9_toText 24 = .ok (.getfield 147, 3) := by decide +kernel
theorem dX9_toText_27 : decode cX9_toText 27 = .ok (.invokestatic 140, 3) := by decide +kernel
theorem dX9_toText_30 : decode cX9_toText 30 = .ok (.aload_n 0, 1) := by decide +kernel
theorem dX9_toText_31 : decode cX9_toText 31 = .ok (.getfield 147, 3) := by decide +kernel
theorem dX9_toText_34 : decode cX9_toText 34 = .ok (.ireturn, 1) := by decide +kernel
theorem dX9_write_0 : decode cX9_write 0 = .ok (.iload_n 1, 1) := by decide +kernel
theorem dX9_write_1 : decode cX9_write 1 = .ok (.invokestatic 116, 3) := by decide +kernel
theorem dX9_write_4 : decode cX9_write 4 = .ok (.ifCond .eq 10, 3) := by decide +kernel
theorem dX9_write_7 : decode cX9_write 7 = .ok (.iload_n 2, 1) := by decide +kernel
theorem dX9_write_8 : decode cX9_write 8 = .ok (.invokestatic 113, 3) := by decide +kernel
theorem dX9_write_11 : decode cX9_write 11 = .ok (.ifCond .ne 5, 3) := by decide +kernel
theorem dX9_write_14 : decode cX9_write 14 = .ok (.iconst (-1), 1) := by decide +kernel
theorem dX9_write_15 : decode cX9_write 15 = .ok (.ireturn, 1) := by decide +kernel
theorem dX9_write_16 : decode cX9_write 16 = .ok (.aload_n 0, 1) := by decide +kernel
theorem dX9_write_17 : decode cX9_write 17 = .ok (.iload_n 1, 1) := by decide +kernel
theorem dX9_write_18 : decode cX9_write 18 = .ok (.invokevirtual 119, 3) := by decide +kernel
theorem dX9_write_21 : decode cX9_write 21 = .ok (.ifCond .ne 6, 3) := by decide +kernel
theorem dX9_write_24 : decode cX9_write 24 = .ok (.bipush (-4), 2) := by decide +kernel
theorem dX9_write_26 : decode cX9_write 26 = .ok (.ireturn, 1) := by decide +kernel
theorem dX9_write_27 : decode cX9_write 27 = .ok (.iconst 0, 1) := by decide +kernel
theorem dX9_write_28 : decode cX9_write 28 = .ok (.istore_n 3, 1) := by decide +kernel
theorem dX9_write_29 : decode cX9_write 29 = .ok (.iload_n 3, 1) := by decide +kernel
theorem dX9_write_30 : decode cX9_write 30 = .ok (.aload_n 0, 1) := by decide +kernel
theorem dX9_write_31 : decode cX9_write 31 = .ok (.iload_n 1, 1) := by decide +kernel
theorem dX9_write_32 : decode cX9_write 32 = .ok (.invokevirtual 119, 3) := by decide +kernel
theorem dX9_write_35 : decode cX9_write 35 = .ok (.if_icmp .ge 21, 3) := by decide +kernel
theorem dX9_write_38 : decode cX9_write 38 = .ok (.aload_n 0, 1) := by decide +kernel
theorem dX9_write_39 : decode cX9_write 39 = .ok (.getfield 53, 3) := by decide +kernel
theorem dX9_write_42 : decode cX9_write 42 = .ok (.iload_n 3, 1) := by decide +kernel
theorem dX9_write_43 : decode cX9_write 43 = .ok (.aload_n 0, 1) := by decide +kernel
theorem dX9_write_44 : decode cX9_write 44 = .ok (.iload_n 1, 1) := by decide +kernel
theorem dX9_write_45 : decode cX9_write 45 = .ok (.iload_n 3, 1) := by decide +kernel
theorem dX9_write_46 : decode cX9_write 46 = .ok (.invokevirtual 169, 3) := by decide +kernel
theorem dX9_write_49 : decode cX9_write 49 = .ok (.iastore, 1) := by decide +kernel
theorem dX9_write_50 : decode cX9_write 50 = .ok (.iinc 3 1, 3) := by decide +kernel
theorem dX9_write_53 : decode cX9_write 53 = .ok (.goto (-24), 3) := by decide +kernel
theorem dX9_write_56 : decode cX9_write 56 = .ok (.aload_n 0, 1) := by decide +kernel
theorem dX9_write_57 : decode cX9_write 57 = .ok (.iload_n 1, 1) := by decide +kernel
theorem dX9_write_58 : decode cX9_write 58 = .ok (.iconst 1, 1) := by decide +kernel
theorem dX9_write_59 : decode cX9_write 59 = .ok (.aload_n 0, 1) := by decide +kernel
theorem dX9_write_60 : decode cX9_write 60 = .ok (.iload_n 1, 1) := by decide +kernel
theorem dX9_write_61 : decode cX9_write 61 = .ok (.invokevirtual 119, 3) := by decide +kernel
theorem dX9_write_64 : decode cX9_write 64 = .ok (.ishl, 1) := by decide +kernel
theorem dX9_write_65 : decode cX9_write 65 = .ok (.iconst 1, 1) := by decide +kernel
theorem dX9_write_66 : decode cX9_write 66 = .ok (.isub, 1) := by decide +kernel
theorem dX9_write_67 : decode cX9_write 67 = .ok (.invokevirtual 172, 3) := by decide +kernel
theorem dX9_write_70 : decode cX9_write 70 = .ok (.aload_n 0, 1) := by decide +kernel
theorem dX9_write_71 : decode cX9_write 71 = .ok (.iload_n 2, 1) := by decide +kernel
theorem dX9_write_72 : decode cX9_write 72 = .ok (.invokevirtual 175, 3) := by decide +kernel
theorem dX9_write_75 : decode cX9_write 75 = .ok (.ireturn, 1) := by decide +kernel
theorem dX9_above_0 : decode cX9_above 0 = .ok (.iload_n 2, 1) := by decide +kernel
theorem dX9_above_1 : decode cX9_above 1 = .ok (.iconst 1, 1) := by decide +kernel
theorem dX9_above_2 : decode cX9_above 2 = .ok (.iadd, 1) := by decide +kernel
theorem dX9_above_3 : decode cX9_above 3 = .ok (.istore_n 3, 1) := by decide +kernel
theorem dX9_above_4 : decode cX9_above 4 = .ok (.iload_n 3, 1) := by decide +kernel
theorem dX9_above_5 : decode cX9_above 5 = .ok (.aload_n 0, 1) := by decide +kernel
theorem dX9_above_6 : decode cX9_above 6 = .ok (.iload_n 1, 1) := by decide +kernel
theorem dX9_above_7 : decode cX9_above 7 = .ok (.invokevirtual 119, 3) := by decide +kernel
theorem dX9_above_10 : decode cX9_above 10 = .ok (.if_icmp .ge 19, 3) := by decide +kernel
theorem dX9_above_13 : decode cX9_above 13 = .ok (.aload_n 0, 1) := by decide +kernel
theorem dX9_above_14 : decode cX9_above 14 = .ok (.iload_n 1, 1) := by decide +kernel
theorem dX9_above_15 : decode cX9_above 15 = .ok (.iload_n 3, 1) := by decide +kernel
theorem dX9_above_16 : decode cX9_above 16 = .ok (.invokevirtual 154, 3) := by decide +kernel
theorem dX9_above_19 : decode cX9_above 19 = .ok (.iload_n 2, 1) := by decide +kernel
theorem dX9_above_20 : decode cX9_above 20 = .ok (.if_icmp .le 9, 3) := by decide +kernel
theorem dX9_above_23 : decode cX9_above 23 = .ok (.iinc 3 1, 3) := by decide +kernel
theorem dX9_above_26 : decode cX9_above 26 = .ok (.goto (-22), 3) := by decide +kernel
theorem dX9_above_29 : decode cX9_above 29 = .ok (.iload_n 3, 1) := by decide +kernel
theorem dX9_above_30 : decode cX9_above 30 = .ok (.aload_n 0, 1) := by decide +kernel
theorem dX9_above_31 : decode cX9_above 31 = .ok (.iload_n 1, 1) := by decide +kernel
theorem dX9_above_32 : decode cX9_above 32 = .ok (.invokevirtual 119, 3) := by decide +kernel
theorem dX9_above_35 : decode cX9_above 35 = .ok (.if_icmp .ge 7, 3) := by decide +kernel
theorem dX9_above_38 : decode cX9_above 38 = .ok (.iload_n 3, 1) := by decide +kernel
theorem dX9_above_39 : decode cX9_above 39 = .ok (.goto 5, 3) := by decide +kernel
theorem dX9_above_42 : decode cX9_above 42 = .ok (.bipush (-9), 2) := by decide +kernel
theorem dX9_above_44 : decode cX9_above 44 = .ok (.ireturn, 1) := by decide +kernel
theorem dX9_rightBeneath_0 : decode cX9_rightBeneath 0 = .ok (.iconst 0, 1) := by decide +kernel
theorem dX9_rightBeneath_1 : decode cX9_rightBeneath 1 = .ok (.istore_n 3, 1) := by decide +kernel
theorem dX9_rightBeneath_2 : decode cX9_rightBeneath 2 = .ok (.aload_n 0, 1) := by decide +kernel
theorem dX9_rightBeneath_3 : decode cX9_rightBeneath 3 = .ok (.iload_n 1, 1) := by decide +kernel
theorem dX9_rightBeneath_4 : decode cX9_rightBeneath 4 = .ok (.iload_n 2, 1) := by decide +kernel
theorem dX9_rightBeneath_5 : decode cX9_rightBeneath 5 = .ok (.invokevirtual 154, 3) := by decide +kernel
theorem dX9_rightBeneath_8 : decode cX9_rightBeneath 8 = .ok (.istore 4, 2) := by decide +kernel
theorem dX9_rightBeneath_10 : decode cX9_rightBeneath 10 = .ok (.iload 4, 2) := by decide +kernel
theorem dX9_rightBeneath_12 : decode cX9_rightBeneath 12 = .ok (.iload_n 2, 1) := by decide +kernel
theorem dX9_rightBeneath_13 : decode cX9_rightBeneath 13 = .ok (.if_icmp .ge 28, 3) := by decide +kernel
theorem dX9_rightBeneath_16 : decode cX9_rightBeneath 16 = .ok (.iload_n 3, 1) := by decide +kernel
theorem dX9_rightBeneath_17 : decode cX9_rightBeneath 17 = .ok (.aload_n 0, 1) := by decide +kernel
theorem dX9_rightBeneath_18 : decode cX9_rightBeneath 18 = .ok (.iload_n 1, 1) := by decide +kernel
theorem dX9_rightBeneath_19 : decode cX9_rightBeneath 19 = .ok (.iload 4, 2) := by decide +kernel
theorem dX9_rightBeneath_21 : decode cX9_rightBeneath 21 = .ok (.invokevirtual 178, 3) := by decide +kernel
theorem dX9_rightBeneath_24 : decode cX9_rightBeneath 24 = .ok (.iload_n 2, 1) := by decide +kernel
theorem dX9_rightBeneath_25 : decode cX9_rightBeneath 25 = .ok (.if_icmp .ne 7, 3) := by decide +kernel
theorem dX9_rightBeneath_28 : decode cX9_rightBeneath 28 = .ok (.iconst 1, 1) := by decide +kernel
theorem dX9_rightBeneath_29 : decode cX9_rightBeneath 29 = .ok (.goto 4, 3) := by decide +kernel
theorem dX9_rightBeneath_32 : decode cX9_rightBeneath 32 = .ok (.iconst 0, 1) := by decide +kernel
theorem dX9_rightBeneath_33 : decode cX9_rightBeneath 33 = .ok (.iadd, 1) := by decide +kernel
theorem dX9_rightBeneath_34 : decode cX9_rightBeneath 34 = .ok (.istore_n 3, 1) := by decide +kernel
theorem dX9_rightBeneath_35 : decode cX9_rightBeneath 35 = .ok (.iinc 4 1, 3) := by decide +kernel
theorem dX9_rightBeneath_38 : decode cX9_rightBeneath 38 = .ok (.goto (-28), 3) := by decide +kernel
theorem dX9_rightBeneath_41 : decode cX9_rightBeneath 41 = .ok (.iload_n 3, 1) := by decide +kernel
theorem dX9_rightBeneath_42 : decode cX9_rightBeneath 42 = .ok (.ireturn, 1) := by decide +kernel
theorem dX9_isKey_0 : decode cX9_isKey 0 = .ok (.aload_n 0, 1) := by decide +kernel
theorem dX9_isKey_1 : decode cX9_isKey 1 = .ok (.iload_n 1, 1) := by decide +kernel
theorem dX9_isKey_2 : decode cX9_isKey 2 = .ok (.iload_n 2, 1) := by decide +kernel
theorem dX9_isKey_3 : decode cX9_isKey 3 = .ok (.invokevirtual 178, 3) := by decide +kernel
theorem dX9_isKey_6 : decode cX9_isKey 6 = .ok (.istore 4, 2) := by decide +kernel
theorem dX9_isKey_8 : decode cX9_isKey 8 = .ok (.iload 4, 2) := by decide +kernel
theorem dX9_isKey_10 : decode cX9_isKey 10 = .ok (.bipush (-9), 2) := by decide +kernel
theorem dX9_isKey_12 : decode cX9_isKey 12 = .ok (.if_icmp .eq 34, 3) := by decide +kernel
theorem dX9_isKey_15 : decode cX9_isKey 15 = .ok (.iload_n 3, 1) := by decide +kernel
theorem dX9_isKey_16 : decode cX9_isKey 16 = .ok (.ifCond .ne 22, 3) := by decide +kernel
theorem dX9_isKey_19 : decode cX9_isKey 19 = .ok (.aload_n 0, 1) := by decide +kernel
theorem dX9_isKey_20 : decode cX9_isKey 20 = .ok (.iload_n 1, 1) := by decide +kernel
theorem dX9_isKey_21 : decode cX9_isKey 21 = .ok (.iload_n 2, 1) := by decide +kernel
theorem dX9_isKey_22 : decode cX9_isKey 22 = .ok (.invokevirtual 154, 3) := by decide +kernel
theorem dX9_isKey_25 : decode cX9_isKey 25 = .ok (.aload_n 0, 1) := by decide +kernel
theorem dX9_isKey_26 : decode cX9_isKey 26 = .ok (.iload_n 1, 1) := by decide +kernel
theorem dX9_isKey_27 : decode cX9_isKey 27 = .ok (.iload 4, 2) := by decide +kernel
theorem dX9_isKey_29 : decode cX9_isKey 29 = .ok (.invokevirtual 154, 3) := by decide +kernel
theorem dX9_isKey_32 : decode cX9_isKey 32 = .ok (.if_icmp .le 18, 3) := by decide +kernel
theorem dX9_isKey_35 : decode cX9_isKey 35 = .ok (.goto 11, 3) := by decide +kernel
theorem dX9_isKey_38 : decode cX9_isKey 38 = .ok (.iload_n 2, 1) := by decide +kernel
theorem dX9_isKey_39 : decode cX9_isKey 39 = .ok (.iload 4, 2) := by decide +kernel
theorem dX9_isKey_41 : decode cX9_isKey 41 = .ok (.iconst 1, 1) := by decide +kernel
theorem dX9_isKey_42 : decode cX9_isKey 42 = .ok (.isub, 1) := by decide +kernel
theorem dX9_isKey_43 : decode cX9_isKey 43 = .ok (.if_icmp .ge 7, 3) := by decide +kernel
theorem dX9_isKey_46 : decode cX9_isKey 46 = .ok (.iconst 1, 1) := by decide +kernel
theorem dX9_isKey_47 : decode cX9_isKey 47 = .ok (.goto 4, 3) := by decide +kernel
theorem dX9_isKey_50 : decode cX9_isKey 50 = .ok (.iconst 0, 1) := by decide +kernel
theorem dX9_isKey_51 : decode cX9_isKey 51 = .ok (.ireturn, 1) := by decide +kernel
theorem dX9_weight_0 : decode cX9_weight 0 = .ok (.iload_n 0, 1) := by decide +kernel
theorem dX9_weight_1 : decode cX9_weight 1 = .ok (.invokestatic 181, 3) := by decide +kernel
theorem dX9_weight_4 : decode cX9_weight 4 = .ok (.istore_n 1, 1) := by decide +kernel
theorem dX9_weight_5 : decode cX9_weight 5 = .ok (.iload_n 1, 1) := by decide +kernel
theorem dX9_weight_6 : decode cX9_weight 6 = .ok (.iconst 3, 1) := by decide +kernel
theorem dX9_weight_7 : decode cX9_weight 7 = .ok (.if_icmp .ne 7, 3) := by decide +kernel
theorem dX9_weight_10 : decode cX9_weight 10 = .ok (.iconst 3, 1) := by decide +kernel
theorem dX9_weight_11 : decode cX9_weight 11 = .ok (.goto 13, 3) := by decide +kernel
theorem dX9_weight_14 : decode cX9_weight 14 = .ok (.iload_n 1, 1) := by decide +kernel
theorem dX9_weight_15 : decode cX9_weight 15 = .ok (.iconst 1, 1) := by decide +kernel
theorem dX9_weight_16 : decode cX9_weight 16 = .ok (.if_icmp .ne 7, 3) := by decide +kernel
theorem dX9_weight_19 : decode cX9_weight 19 = .ok (.iconst 2, 1) := by decide +kernel
theorem dX9_weight_20 : decode cX9_weight 20 = .ok (.goto 4, 3) := by decide +kernel
theorem dX9_weight_23 : decode cX9_weight 23 = .ok (.iconst 1, 1) := by decide +kernel
theorem dX9_weight_24 : decode cX9_weight 24 = .ok (.ireturn, 1) := by decide +kernel
theorem dX9_node_0 : decode cX9_node 0 = .ok (.aload_n 0, 1) := by decide +kernel
theorem dX9_node_1 : decode cX9_node 1 = .ok (.iload_n 1, 1) := by decide +kernel
theorem dX9_node_2 : decode cX9_node 2 = .ok (.iload_n 2, 1) := by decide +kernel
theorem dX9_node_3 : decode cX9_node 3 = .ok (.invokevirtual 184, 3) := by decide +kernel
theorem dX9_node_6 : decode cX9_node 6 = .ok (.ifCond .eq 13, 3) := by decide +kernel
theorem dX9_node_9 : decode cX9_node 9 = .ok (.iload_n 3, 1) := by decide +kernel
theorem dX9_node_10 : decode cX9_node 10 = .ok (.iconst 0, 1) := by decide +kernel
theorem dX9_node_11 : decode cX9_node 11 = .ok (.bipush 8, 2) := by decide +kernel
theorem dX9_node_13 : decode cX9_node 13 = .ok (.invokestatic 90, 3) := by decide +kernel
theorem dX9_node_16 : decode cX9_node 16 = .ok (.ifCond .ne 5, 3) := by decide +kernel
theorem dX9_node_19 : decode cX9_node 19 = .ok (.iconst (-1), 1) := by decide +kernel
theorem dX9_node_20 : decode cX9_node 20 = .ok (.ireturn, 1) := by decide +kernel
theorem dX9_node_21 : decode cX9_node 21 = .ok (.iload_n 3, 1) := by decide +kernel
theorem dX9_node_22 : decode cX9_node 22 = .ok (.tableswitch 128 0 6 #[42, 54, 69, 81, 93, 105, 105], 42) := by decide +kernel
theorem dX9_node_64 : decode cX9_node 64 = .ok (.aload_n 0, 1) := by decide +kernel
theorem dX9_node_65 : decode cX9_node 65 = .ok (.aload_n 0, 1) := by decide +kernel
theorem dX9_node_66 : decode cX9_node 66 = .ok (.iload_n 1, 1) := by decide +kernel
theorem dX9_node_67 : decode cX9_node 67 = .ok (.iload_n 2, 1) := by decide +kernel
theorem dX9_node_68 : decode cX9_node 68 = .ok (.invokevirtual 169, 3) := by decide +kernel
theorem dX9_node_71 : decode cX9_node 71 = .ok (.iconst 1, 1) := by decide +kernel
theorem dX9_node_72 : decode cX9_node 72 = .ok (.invokevirtual 110, 3) := by decide +kernel
theorem dX9_node_75 : decode cX9_node 75 = .ok (.ireturn, 1) := by decide +kernel
theorem dX9_node_76 : decode cX9_node 76 = .ok (.aload_n 0, 1) := by decide +kernel
theorem dX9_node_77 : decode cX9_node 77 = .ok (.aload_n 0, 1) := by decide +kernel
theorem dX9_node_78 : decode cX9_node 78 = .ok (.iload_n 1, 1) := by decide +kernel
theorem dX9_node_79 : decode cX9_node 79 = .ok (.iload_n 2, 1) := by decide +kernel
theorem dX9_node_80 : decode cX9_node 80 = .ok (.invokevirtual 169, 3) := by decide +kernel
theorem dX9_node_83 : decode cX9_node 83 = .ok (.invokestatic 181, 3) := by decide +kernel
theorem dX9_node_86 : decode cX9_node 86 = .ok (.iconst 1, 1) := by decide +kernel
theorem dX9_node_87 : decode cX9_node 87 = .ok (.invokevirtual 110, 3) := by decide +kernel
theorem dX9_node_90 : decode cX9_node 90 = .ok (.ireturn, 1) := by decide +kernel
theorem dX9_node_91 : decode cX9_node 91 = .ok (.aload_n 0, 1) := by decide +kernel
theorem dX9_node_92 : decode cX9_node 92 = .ok (.aload_n 0, 1) := by decide +kernel
theorem dX9_node_93 : decode cX9_node 93 = .ok (.iload_n 1, 1) := by decide +kernel
theorem dX9_node_94 : decode cX9_node 94 = .ok (.iload_n 2, 1) := by decide +kernel
theorem dX9_node_95 : decode cX9_node 95 = .ok (.invokevirtual 154, 3) := by decide +kernel
theorem dX9_node_98 : decode cX9_node 98 = .ok (.iconst 1, 1) := by decide +kernel
theorem dX9_node_99 : decode cX9_node 99 = .ok (.invokevirtual 110, 3) := by decide +kernel
theorem dX9_node_102 : decode cX9_node 102 = .ok (.ireturn, 1) := by decide +kernel
theorem dX9_node_103 : decode cX9_node 103 = .ok (.aload_n 0, 1) := by decide +kernel
theorem dX9_node_104 : decode cX9_node 104 = .ok (.aload_n 0, 1) := by decide +kernel
theorem dX9_node_105 : decode cX9_node 105 = .ok (.iload_n 1, 1) := by decide +kernel
theorem dX9_node_106 : decode cX9_node 106 = .ok (.iload_n 2, 1) := by decide +kernel
theorem dX9_node_107 : decode cX9_node 107 = .ok (.invokevirtual 187, 3) := by decide +kernel
theorem dX9_node_110 : decode cX9_node 110 = .ok (.iconst 1, 1) := by decide +kernel
theorem dX9_node_111 : decode cX9_node 111 = .ok (.invokevirtual 110, 3) := by decide +kernel
theorem dX9_node_114 : decode cX9_node 114 = .ok (.ireturn, 1) := by decide +kernel
theorem dX9_node_115 : decode cX9_node 115 = .ok (.aload_n 0, 1) := by decide +kernel
theorem dX9_node_116 : decode cX9_node 116 = .ok (.aload_n 0, 1) := by decide +kernel
theorem dX9_node_117 : decode cX9_node 117 = .ok (.iload_n 1, 1) := by decide +kernel
theorem dX9_node_118 : decode cX9_node 118 = .ok (.iload_n 2, 1) := by decide +kernel
theorem dX9_node_119 : decode cX9_node 119 = .ok (.invokevirtual 178, 3) := by decide +kernel
theorem dX9_node_122 : decode cX9_node 122 = .ok (.iconst 1, 1) := by decide +kernel
theorem dX9_node_123 : decode cX9_node 123 = .ok (.invokevirtual 110, 3) := by decide +kernel
theorem dX9_node_126 : decode cX9_node 126 = .ok (.ireturn, 1) := by decide +kernel
theorem dX9_node_127 : decode cX9_node 127 = .ok (.aload_n 0, 1) := by decide +kernel
theorem dX9_node_128 : decode cX9_node 128 = .ok (.aload_n 0, 1) := by decide +kernel
theorem dX9_node_129 : decode cX9_node 129 = .ok (.iload_n 1, 1) := by decide +kernel
theorem dX9_node_130 : decode cX9_node 130 = .ok (.iload_n 2, 1) := by decide +kernel
theorem dX9_node_131 : decode cX9_node 131 = .ok (.iload_n 3, 1) := by decide +kernel
theorem dX9_node_132 : decode cX9_node 132 = .ok (.iconst 5, 1) := by decide +kernel
theorem dX9_node_133 : decode cX9_node 133 = .ok (.isub, 1) := by decide +kernel
theorem dX9_node_134 : decode cX9_node 134 = .ok (.invokevirtual 190, 3) := by decide +kernel
theorem dX9_node_137 : decode cX9_node 137 = .ok (.ifCond .eq 7, 3) := by decide +kernel
theorem dX9_node_140 : decode cX9_node 140 = .ok (.iconst 1, 1) := by decide +kernel
theorem dX9_node_141 : decode cX9_node 141 = .ok (.goto 4, 3) := by decide +kernel
theorem dX9_node_144 : decode cX9_node 144 = .ok (.iconst 0, 1) := by decide +kernel
theorem dX9_node_145 : decode cX9_node 145 = .ok (.iconst 1, 1) := by decide +kernel
theorem dX9_node_146 : decode cX9_node 146 = .ok (.invokevirtual 110, 3) := by decide +kernel
theorem dX9_node_149 : decode cX9_node 149 = .ok (.ireturn, 1) := by decide +kernel
theorem dX9_node_150 : decode cX9_node 150 = .ok (.aload_n 0, 1) := by decide +kernel
theorem dX9_node_151 : decode cX9_node 151 = .ok (.aload_n 0, 1) := by decide +kernel
theorem dX9_node_152 : decode cX9_node 152 = .ok (.getfield 22, 3) := by decide +kernel
theorem dX9_node_155 : decode cX9_node 155 = .ok (.bipush 50, 2) := by decide +kernel
theorem dX9_node_157 : decode cX9_node 157 = .ok (.iload_n 3, 1) := by decide +kernel
theorem dX9_node_158 : decode cX9_node 158 = .ok (.iadd, 1) := by decide +kernel
theorem dX9_node_159 : decode cX9_node 159 = .ok (.bipush 7, 2) := by decide +kernel
theorem dX9_node_161 : decode cX9_node 161 = .ok (.isub, 1) := by decide +kernel
theorem dX9_node_162 : decode cX9_node 162 = .ok (.iaload, 1) := by decide +kernel
theorem dX9_node_163 : decode cX9_node 163 = .ok (.aload_n 0, 1) := by decide +kernel
theorem dX9_node_164 : decode cX9_node 164 = .ok (.iload_n 1, 1) := by decide +kernel
theorem dX9_node_165 : decode cX9_node 165 = .ok (.iload_n 2, 1) := by decide +kernel
theorem dX9_node_166 : decode cX9_node 166 = .ok (.invokevirtual 169, 3) := by decide +kernel
theorem dX9_node_169 : decode cX9_node 169 = .ok (.invokestatic 193, 3) := by decide +kernel
theorem dX9_node_172 : decode cX9_node 172 = .ok (.imul, 1) := by decide +kernel
theorem dX9_node_173 : decode cX9_node 173 = .ok (.iconst 1, 1) := by decide +kernel
theorem dX9_node_174 : decode cX9_node 174 = .ok (.invokevirtual 110, 3) := by decide +kernel
theorem dX9_node_177 : decode cX9_node 177 = .ok (.ireturn, 1) := by decide +kernel
theorem dX9_headsBeneath_0 : decode cX9_headsBeneath 0 = .ok (.iconst 0, 1) := by decide +kernel
theorem dX9_headsBeneath_1 : decode cX9_headsBeneath 1 = .ok (.istore_n 3, 1) := by decide +kernel
theorem dX9_headsBeneath_2 : decode cX9_headsBeneath 2 = .ok (.aload_n 0, 1) := by decide +kernel
theorem dX9_headsBeneath_3 : decode cX9_headsBeneath 3 = .ok (.iload_n 1, 1) := by decide +kernel
theorem dX9_headsBeneath_4 : decode cX9_headsBeneath 4 = .ok (.iload_n 2, 1) := by decide +kernel
theorem dX9_headsBeneath_5 : decode cX9_headsBeneath 5 = .ok (.invokevirtual 154, 3) := by decide +kernel
theorem dX9_headsBeneath_8 : decode cX9_headsBeneath 8 = .ok (.istore 4, 2) := by decide +kernel
theorem dX9_headsBeneath_10 : decode cX9_headsBeneath 10 = .ok (.iload 4, 2) := by decide +kernel
theorem dX9_headsBeneath_12 : decode cX9_headsBeneath 12 = .ok (.iload_n 2, 1) := by decide +kernel
theorem dX9_headsBeneath_13 : decode cX9_headsBeneath 13 = .ok (.if_icmp .ge 34, 3) := by decide +kernel
theorem dX9_headsBeneath_16 : decode cX9_headsBeneath 16 = .ok (.iload_n 3, 1) := by decide +kernel
theorem dX9_headsBeneath_17 : decode cX9_headsBeneath 17 = .ok (.aload_n 0, 1) := by decide +kernel
theorem dX9_headsBeneath_18 : decode cX9_headsBeneath 18 = .ok (.iload_n 1, 1) := by decide +kernel
theorem dX9_headsBeneath_19 : decode cX9_headsBeneath 19 = .ok (.iload 4, 2) := by decide +kernel
theorem dX9_headsBeneath_21 : decode cX9_headsBeneath 21 = .ok (.invokevirtual 169, 3) := by decide +kernel
theorem dX9_headsBeneath_24 : decode cX9_headsBeneath 24 = .ok (.invokestatic 181, 3) := by decide +kernel
theorem dX9_headsBeneath_27 : decode cX9_headsBeneath 27 = .ok (.iconst 1, 1) := by decide +kernel
theorem dX9_headsBeneath_28 : decode cX9_headsBeneath 28 = .ok (.invokestatic 196, 3) := by decide +kernel
theorem dX9_headsBeneath_31 : decode cX9_headsBeneath 31 = .ok (.ifCond .eq 7, 3) := by decide +kernel
theorem dX9_headsBeneath_34 : decode cX9_headsBeneath 34 = .ok (.iconst 1, 1) := by decide +kernel
theorem dX9_headsBeneath_35 : decode cX9_headsBeneath 35 = .ok (.goto 4, 3) := by decide +kernel
theorem dX9_headsBeneath_38 : decode cX9_headsBeneath 38 = .ok (.iconst 0, 1) := by decide +kernel
theorem dX9_headsBeneath_39 : decode cX9_headsBeneath 39 = .ok (.iadd, 1) := by decide +kernel
theorem dX9_headsBeneath_40 : decode cX9_headsBeneath 40 = .ok (.istore_n 3, 1) := by decide +kernel
theorem dX9_headsBeneath_41 : decode cX9_headsBeneath 41 = .ok (.iinc 4 1, 3) := by decide +kernel
theorem dX9_headsBeneath_44 : decode cX9_headsBeneath 44 = .ok (.goto (-34), 3) := by decide +kernel
theorem dX9_headsBeneath_47 : decode cX9_headsBeneath 47 = .ok (.iload_n 3, 1) := by decide +kernel
theorem dX9_headsBeneath_48 : decode cX9_headsBeneath 48 = .ok (.ireturn, 1) := by decide +kernel
theorem dX9_alikeIn_0 : decode cX9_alikeIn 0 = .ok (.iconst 0, 1) := by decide +kernel
theorem dX9_alikeIn_1 : decode cX9_alikeIn 1 = .ok (.istore_n 3, 1) := by decide +kernel
theorem dX9_alikeIn_2 : decode cX9_alikeIn 2 = .ok (.iconst 0, 1) := by decide +kernel
theorem dX9_alikeIn_3 : decode cX9_alikeIn 3 = .ok (.istore 4, 2) := by decide +kernel
theorem dX9_alikeIn_5 : decode cX9_alikeIn 5 = .ok (.iload 4, 2) := by decide +kernel
theorem dX9_alikeIn_7 : decode cX9_alikeIn 7 = .ok (.aload_n 0, 1) := by decide +kernel
theorem dX9_alikeIn_8 : decode cX9_alikeIn 8 = .ok (.iload_n 1, 1) := by decide +kernel
theorem dX9_alikeIn_9 : decode cX9_alikeIn 9 = .ok (.invokevirtual 119, 3) := by decide +kernel
theorem dX9_alikeIn_12 : decode cX9_alikeIn 12 = .ok (.if_icmp .ge 28, 3) := by decide +kernel
theorem dX9_alikeIn_15 : decode cX9_alikeIn 15 = .ok (.iload_n 3, 1) := by decide +kernel
theorem dX9_alikeIn_16 : decode cX9_alikeIn 16 = .ok (.aload_n 0, 1) := by decide +kernel
theorem dX9_alikeIn_17 : decode cX9_alikeIn 17 = .ok (.iload_n 1, 1) := by decide +kernel
theorem dX9_alikeIn_18 : decode cX9_alikeIn 18 = .ok (.iload 4, 2) := by decide +kernel
theorem dX9_alikeIn_20 : decode cX9_alikeIn 20 = .ok (.invokevirtual 169, 3) := by decide +kernel
theorem dX9_alikeIn_23 : decode cX9_alikeIn 23 = .ok (.iload_n 2, 1) := by decide +kernel
theorem dX9_alikeIn_24 : decode cX9_alikeIn 24 = .ok (.if_icmp .ne 7, 3) := by decide +kernel
theorem dX9_alikeIn_27 : decode cX9_alikeIn 27 = .ok (.iconst 1, 1) := by decide +kernel
theorem dX9_alikeIn_28 : decode cX9_alikeIn 28 = .ok (.goto 4, 3) := by decide +kernel
theorem dX9_alikeIn_31 : decode cX9_alikeIn 31 = .ok (.iconst 0, 1) := by decide +kernel
theorem dX9_alikeIn_32 : decode cX9_alikeIn 32 = .ok (.iadd, 1) := by decide +kernel
theorem dX9_alikeIn_33 : decode cX9_alikeIn 33 = .ok (.istore_n 3, 1) := by decide +kernel
theorem dX9_alikeIn_34 : decode cX9_alikeIn 34 = .ok (.iinc 4 1, 3) := by decide +kernel
theorem dX9_alikeIn_37 : decode cX9_alikeIn 37 = .ok (.goto (-32), 3) := by decide +kernel
theorem dX9_alikeIn_40 : decode cX9_alikeIn 40 = .ok (.iload_n 3, 1) := by decide +kernel
theorem dX9_alikeIn_41 : decode cX9_alikeIn 41 = .ok (.ireturn, 1) := by decide +kernel
theorem dX9_deepOf_0 : decode cX9_deepOf 0 = .ok (.iconst 0, 1) := by decide +kernel
theorem dX9_deepOf_1 : decode cX9_deepOf 1 = .ok (.istore_n 3, 1) := by decide +kernel
theorem dX9_deepOf_2 : decode cX9_deepOf 2 = .ok (.aload_n 0, 1) := by decide +kernel
theorem dX9_deepOf_3 : decode cX9_deepOf 3 = .ok (.iload_n 1, 1) := by decide +kernel
theorem dX9_deepOf_4 : decode cX9_deepOf 4 = .ok (.iload_n 2, 1) := by decide +kernel
theorem dX9_deepOf_5 : decode cX9_deepOf 5 = .ok (.invokevirtual 178, 3) := by decide +kernel
theorem dX9_deepOf_8 : decode cX9_deepOf 8 = .ok (.istore 4, 2) := by decide +kernel
theorem dX9_deepOf_10 : decode cX9_deepOf 10 = .ok (.iload 4, 2) := by decide +kernel
theorem dX9_deepOf_12 : decode cX9_deepOf 12 = .ok (.bipush (-9), 2) := by decide +kernel
theorem dX9_deepOf_14 : decode cX9_deepOf 14 = .ok (.if_icmp .eq 18, 3) := by decide +kernel
theorem dX9_deepOf_17 : decode cX9_deepOf 17 = .ok (.iinc 3 1, 3) := by decide +kernel
theorem dX9_deepOf_20 : decode cX9_deepOf 20 = .ok (.aload_n 0, 1) := by decide +kernel
theorem dX9_deepOf_21 : decode cX9_deepOf 21 = .ok (.iload_n 1, 1) := by decide +kernel
theorem dX9_deepOf_22 : decode cX9_deepOf 22 = .ok (.iload 4, 2) := by decide +kernel
theorem dX9_deepOf_24 : decode cX9_deepOf 24 = .ok (.invokevirtual 178, 3) := by decide +kernel
theorem dX9_deepOf_27 : decode cX9_deepOf 27 = .ok (.istore 4, 2) := by decide +kernel
theorem dX9_deepOf_29 : decode cX9_deepOf 29 = .ok (.goto (-19), 3) := by decide +kernel
theorem dX9_deepOf_32 : decode cX9_deepOf 32 = .ok (.iload_n 3, 1) := by decide +kernel
theorem dX9_deepOf_33 : decode cX9_deepOf 33 = .ok (.ireturn, 1) := by decide +kernel
theorem dX9_mark_0 : decode cX9_mark 0 = .ok (.aload_n 0, 1) := by decide +kernel
theorem dX9_mark_1 : decode cX9_mark 1 = .ok (.iload_n 1, 1) := by decide +kernel
theorem dX9_mark_2 : decode cX9_mark 2 = .ok (.iload_n 2, 1) := by decide +kernel
theorem dX9_mark_3 : decode cX9_mark 3 = .ok (.invokevirtual 184, 3) := by decide +kernel
theorem dX9_mark_6 : decode cX9_mark 6 = .ok (.ifCond .eq 12, 3) := by decide +kernel
theorem dX9_mark_9 : decode cX9_mark 9 = .ok (.iload_n 3, 1) := by decide +kernel
theorem dX9_mark_10 : decode cX9_mark 10 = .ok (.iconst 1, 1) := by decide +kernel
theorem dX9_mark_11 : decode cX9_mark 11 = .ok (.iconst 4, 1) := by decide +kernel
theorem dX9_mark_12 : decode cX9_mark 12 = .ok (.invokestatic 90, 3) := by decide +kernel
theorem dX9_mark_15 : decode cX9_mark 15 = .ok (.ifCond .ne 5, 3) := by decide +kernel
theorem dX9_mark_18 : decode cX9_mark 18 = .ok (.iconst (-1), 1) := by decide +kernel
theorem dX9_mark_19 : decode cX9_mark 19 = .ok (.ireturn, 1) := by decide +kernel
theorem dX9_mark_20 : decode cX9_mark 20 = .ok (.aload_n 0, 1) := by decide +kernel
theorem dX9_mark_21 : decode cX9_mark 21 = .ok (.iload_n 1, 1) := by decide +kernel
theorem dX9_mark_22 : decode cX9_mark 22 = .ok (.iload_n 2, 1) := by decide +kernel
theorem dX9_mark_23 : decode cX9_mark 23 = .ok (.invokevirtual 169, 3) := by decide +kernel
theorem dX9_mark_26 : decode cX9_mark 26 = .ok (.invokestatic 181, 3) := by decide +kernel
theorem dX9_mark_29 : decode cX9_mark 29 = .ok (.iload_n 3, 1) := by decide +kernel
theorem dX9_mark_30 : decode cX9_mark 30 = .ok (.invokestatic 196, 3) := by decide +kernel
theorem dX9_mark_33 : decode cX9_mark 33 = .ok (.ifCond .ne 9, 3) := by decide +kernel
theorem dX9_mark_36 : decode cX9_mark 36 = .ok (.aload_n 0, 1) := by decide +kernel
theorem dX9_mark_37 : decode cX9_mark 37 = .ok (.iconst 3, 1) := by decide +kernel
theorem dX9_mark_38 : decode cX9_mark 38 = .ok (.invokevirtual 98, 3) := by decide +kernel
theorem dX9_mark_41 : decode cX9_mark 41 = .ok (.ireturn, 1) := by decide +kernel
theorem dX9_mark_42 : decode cX9_mark 42 = .ok (.iload_n 3, 1) := by decide +kernel
theorem dX9_mark_43 : decode cX9_mark 43 = .ok (.tableswitch 68 1 3 #[25, 37, 56], 25) := by decide +kernel
theorem dX9_mark_68 : decode cX9_mark 68 = .ok (.aload_n 0, 1) := by decide +kernel
theorem dX9_mark_69 : decode cX9_mark 69 = .ok (.aload_n 0, 1) := by decide +kernel
theorem dX9_mark_70 : decode cX9_mark 70 = .ok (.iload_n 1, 1) := by decide +kernel
theorem dX9_mark_71 : decode cX9_mark 71 = .ok (.iload_n 2, 1) := by decide +kernel
theorem dX9_mark_72 : decode cX9_mark 72 = .ok (.invokevirtual 199, 3) := by decide +kernel
theorem dX9_mark_75 : decode cX9_mark 75 = .ok (.iconst 1, 1) := by decide +kernel
theorem dX9_mark_76 : decode cX9_mark 76 = .ok (.invokevirtual 110, 3) := by decide +kernel
theorem dX9_mark_79 : decode cX9_mark 79 = .ok (.ireturn, 1) := by decide +kernel
theorem dX9_mark_80 : decode cX9_mark 80 = .ok (.aload_n 0, 1) := by decide +kernel
theorem dX9_mark_81 : decode cX9_mark 81 = .ok (.aload_n 0, 1) := by decide +kernel
theorem dX9_mark_82 : decode cX9_mark 82 = .ok (.iconst 1, 1) := by decide +kernel
theorem dX9_mark_83 : decode cX9_mark 83 = .ok (.iload_n 1, 1) := by decide +kernel
theorem dX9_mark_84 : decode cX9_mark 84 = .ok (.isub, 1) := by decide +kernel
theorem dX9_mark_85 : decode cX9_mark 85 = .ok (.aload_n 0, 1) := by decide +kernel
theorem dX9_mark_86 : decode cX9_mark 86 = .ok (.iload_n 1, 1) := by decide +kernel
theorem dX9_mark_87 : decode cX9_mark 87 = .ok (.iload_n 2, 1) := by decide +kernel
theorem dX9_mark_88 : decode cX9_mark 88 = .ok (.invokevirtual 169, 3) := by decide +kernel
theorem dX9_mark_91 : decode cX9_mark 91 = .ok (.invokevirtual 202, 3) := by decide +kernel
theorem dX9_mark_94 : decode cX9_mark 94 = .ok (.iconst 1, 1) := by decide +kernel
theorem dX9_mark_95 : decode cX9_mark 95 = .ok (.invokevirtual 110, 3) := by decide +kernel
theorem dX9_mark_98 : decode cX9_mark 98 = .ok (.ireturn, 1) := by decide +kernel
theorem dX9_mark_99 : decode cX9_mark 99 = .ok (.aload_n 0, 1) := by decide +kernel
theorem dX9_mark_100 : decode cX9_mark 100 = .ok (.aload_n 0, 1) := by decide +kernel
theorem dX9_mark_101 : decode cX9_mark 101 = .ok (.iload_n 1, 1) := by decide +kernel
theorem dX9_mark_102 : decode cX9_mark 102 = .ok (.iload_n 2, 1) := by decide +kernel
theorem dX9_mark_103 : decode cX9_mark 103 = .ok (.invokevirtual 205, 3) := by decide +kernel
theorem dX9_mark_106 : decode cX9_mark 106 = .ok (.iconst 1, 1) := by decide +kernel
theorem dX9_mark_107 : decode cX9_mark 107 = .ok (.invokevirtual 110, 3) := by decide +kernel
theorem dX9_mark_110 : decode cX9_mark 110 = .ok (.ireturn, 1) := by decide +kernel
theorem dX9_mark_111 : decode cX9_mark 111 = .ok (.aload_n 0, 1) := by decide +kernel
theorem dX9_mark_112 : decode cX9_mark 112 = .ok (.aload_n 0, 1) := by decide +kernel
theorem dX9_mark_113 : decode cX9_mark 113 = .ok (.iload_n 1, 1) := by decide +kernel
theorem dX9_mark_114 : decode cX9_mark 114 = .ok (.invokevirtual 119, 3) := by decide +kernel
theorem dX9_mark_117 : decode cX9_mark 117 = .ok (.iconst 1, 1) := by decide +kernel
theorem dX9_mark_118 : decode cX9_mark 118 = .ok (.isub, 1) := by decide +kernel
theorem dX9_mark_119 : decode cX9_mark 119 = .ok (.iload_n 2, 1) := by decide +kernel
theorem dX9_mark_120 : decode cX9_mark 120 = .ok (.isub, 1) := by decide +kernel
theorem dX9_mark_121 : decode cX9_mark 121 = .ok (.iconst 1, 1) := by decide +kernel
theorem dX9_mark_122 : decode cX9_mark 122 = .ok (.invokevirtual 110, 3) := by decide +kernel
theorem dX9_mark_125 : decode cX9_mark 125 = .ok (.ireturn, 1) := by decide +kernel
theorem dX9_changeOf_0 : decode cX9_changeOf 0 = .ok (.iload_n 1, 1) := by decide +kernel
theorem dX9_changeOf_1 : decode cX9_changeOf 1 = .ok (.invokestatic 181, 3) := by decide +kernel
theorem dX9_changeOf_4 : decode cX9_changeOf 4 = .ok (.istore_n 3, 1) := by decide +kernel
theorem dX9_changeOf_5 : decode cX9_changeOf 5 = .ok (.iload_n 1, 1) := by decide +kernel
theorem dX9_changeOf_6 : decode cX9_changeOf 6 = .ok (.iload_n 2, 1) := by decide +kernel
theorem dX9_changeOf_7 : decode cX9_changeOf 7 = .ok (.if_icmp .ne 5, 3) := by decide +kernel
theorem dX9_changeOf_10 : decode cX9_changeOf 10 = .ok (.iconst 0, 1) := by decide +kernel
theorem dX9_changeOf_11 : decode cX9_changeOf 11 = .ok (.ireturn, 1) := by decide +kernel
theorem dX9_changeOf_12 : decode cX9_changeOf 12 = .ok (.iload_n 3, 1) := by decide +kernel
theorem dX9_changeOf_13 : decode cX9_changeOf 13 = .ok (.iconst 2, 1) := by decide +kernel
theorem dX9_changeOf_14 : decode cX9_changeOf 14 = .ok (.if_icmp .ne 48, 3) := by decide +kernel
theorem dX9_changeOf_17 : decode cX9_changeOf 17 = .ok (.iload_n 2, 1) := by decide +kernel
theorem dX9_changeOf_18 : decode cX9_changeOf 18 = .ok (.invokestatic 181, 3) := by decide +kernel
theorem dX9_changeOf_21 : decode cX9_changeOf 21 = .ok (.iconst 2, 1) := by decide +kernel
theorem dX9_changeOf_22 : decode cX9_changeOf 22 = .ok (.if_icmp .ne 40, 3) := by decide +kernel
theorem dX9_changeOf_25 : decode cX9_changeOf 25 = .ok (.iload_n 1, 1) := by decide +kernel
theorem dX9_changeOf_26 : decode cX9_changeOf 26 = .ok (.iload_n 2, 1) := by decide +kernel
theorem dX9_changeOf_27 : decode cX9_changeOf 27 = .ok (.if_icmp .le 9, 3) := by decide +kernel
theorem dX9_changeOf_30 : decode cX9_changeOf 30 = .ok (.iload_n 1, 1) := by decide +kernel
theorem dX9_changeOf_31 : decode cX9_changeOf 31 = .ok (.iload_n 2, 1) := by decide +kernel
theorem dX9_changeOf_32 : decode cX9_changeOf 32 = .ok (.isub, 1) := by decide +kernel
theorem dX9_changeOf_33 : decode cX9_changeOf 33 = .ok (.goto 6, 3) := by decide +kernel
theorem dX9_changeOf_36 : decode cX9_changeOf 36 = .ok (.iload_n 2, 1) := by decide +kernel
theorem dX9_changeOf_37 : decode cX9_changeOf 37 = .ok (.iload_n 1, 1) := by decide +kernel
theorem dX9_changeOf_38 : decode cX9_changeOf 38 = .ok (.isub, 1) := by decide +kernel
theorem dX9_changeOf_39 : decode cX9_changeOf 39 = .ok (.istore 4, 2) := by decide +kernel
theorem dX9_changeOf_41 : decode cX9_changeOf 41 = .ok (.aload_n 0, 1) := by decide +kernel
theorem dX9_changeOf_42 : decode cX9_changeOf 42 = .ok (.getfield 22, 3) := by decide +kernel
theorem dX9_changeOf_45 : decode cX9_changeOf 45 = .ok (.bipush 52, 2) := by decide +kernel
theorem dX9_changeOf_47 : decode cX9_changeOf 47 = .ok (.iaload, 1) := by decide +kernel
theorem dX9_changeOf_48 : decode cX9_changeOf 48 = .ok (.iload 4, 2) := by decide +kernel
theorem dX9_changeOf_50 : decode cX9_changeOf 50 = .ok (.iconst 3, 1) := by decide +kernel
theorem dX9_changeOf_51 : decode cX9_changeOf 51 = .ok (.if_icmp .le 7, 3) := by decide +kernel
theorem dX9_changeOf_54 : decode cX9_changeOf 54 = .ok (.iconst 3, 1) := by decide +kernel
theorem dX9_changeOf_55 : decode cX9_changeOf 55 = .ok (.goto 5, 3) := by decide +kernel
theorem dX9_changeOf_58 : decode cX9_changeOf 58 = .ok (.iload 4, 2) := by decide +kernel
theorem dX9_changeOf_60 : decode cX9_changeOf 60 = .ok (.imul, 1) := by decide +kernel
theorem dX9_changeOf_61 : decode cX9_changeOf 61 = .ok (.ireturn, 1) := by decide +kernel
theorem dX9_changeOf_62 : decode cX9_changeOf 62 = .ok (.iload_n 3, 1) := by decide +kernel
theorem dX9_changeOf_63 : decode cX9_changeOf 63 = .ok (.iload_n 2, 1) := by decide +kernel
theorem dX9_changeOf_64 : decode cX9_changeOf 64 = .ok (.invokestatic 181, 3) := by decide +kernel
theorem dX9_changeOf_67 : decode cX9_changeOf 67 = .ok (.if_icmp .ne 13, 3) := by decide +kernel
theorem dX9_changeOf_70 : decode cX9_changeOf 70 = .ok (.aload_n 0, 1) := by decide +kernel
theorem dX9_changeOf_71 : decode cX9_changeOf 71 = .ok (.getfield 22, 3) := by decide +kernel
theorem dX9_changeOf_74 : decode cX9_changeOf 74 = .ok (.bipush 52, 2) := by decide +kernel
theorem dX9_changeOf_76 : decode cX9_changeOf 76 = .ok (.iaload, 1) := by decide +kernel
theorem dX9_changeOf_77 : decode cX9_changeOf 77 = .ok (.goto 12, 3) := by decide +kernel
theorem dX9_changeOf_80 : decode cX9_changeOf 80 = .ok (.iconst 2, 1) := by decide +kernel
theorem dX9_changeOf_81 : decode cX9_changeOf 81 = .ok (.aload_n 0, 1) := by decide +kernel
theorem dX9_changeOf_82 : decode cX9_changeOf 82 = .ok (.getfield 22, 3) := by decide +kernel
theorem dX9_changeOf_85 : decode cX9_changeOf 85 = .ok (.bipush 52, 2) := by decide +kernel
theorem dX9_changeOf_87 : decode cX9_changeOf 87 = .ok (.iaload, 1) := by decide +kernel
theorem dX9_changeOf_88 : decode cX9_changeOf 88 = .ok (.imul, 1) := by decide +kernel
theorem dX9_changeOf_89 : decode cX9_changeOf 89 = .ok (.ireturn, 1) := by decide +kernel
theorem dX9_laysPrices_0 : decode cX9_laysPrices 0 = .ok (.iconst 0, 1) := by decide +kernel
theorem dX9_laysPrices_1 : decode cX9_laysPrices 1 = .ok (.istore_n 1, 1) := by decide +kernel
theorem dX9_laysPrices_2 : decode cX9_laysPrices 2 = .ok (.iload_n 1, 1) := by decide +kernel
theorem dX9_laysPrices_3 : decode cX9_laysPrices 3 = .ok (.aload_n 0, 1) := by decide +kernel
theorem dX9_laysPrices_4 : decode cX9_laysPrices 4 = .ok (.iconst 0, 1) := by decide +kernel
theorem dX9_laysPrices_5 : decode cX9_laysPrices 5 = .ok (.invokevirtual 119, 3) := by decide +kernel
theorem dX9_laysPrices_8 : decode cX9_laysPrices 8 = .ok (.if_icmp .ge 99, 3) := by decide +kernel
theorem dX9_laysPrices_11 : decode cX9_laysPrices 11 = .ok (.aload_n 0, 1) := by decide +kernel
theorem dX9_laysPrices_12 : decode cX9_laysPrices 12 = .ok (.getfield 59, 3) := by decide +kernel
theorem dX9_laysPrices_15 : decode cX9_laysPrices 15 = .ok (.iload_n 1, 1) := by decide +kernel
theorem dX9_laysPrices_16 : decode cX9_laysPrices 16 = .ok (.aload_n 0, 1) := by decide +kernel
theorem dX9_laysPrices_17 : decode cX9_laysPrices 17 = .ok (.getfield 22, 3) := by decide +kernel
theorem dX9_laysPrices_20 : decode cX9_laysPrices 20 = .ok (.bipush 51, 2) := by decide +kernel
theorem dX9_laysPrices_22 : decode cX9_laysPrices 22 = .ok (.iaload, 1) := by decide +kernel
theorem dX9_laysPrices_23 : decode cX9_laysPrices 23 = .ok (.aload_n 0, 1) := by decide +kernel
theorem dX9_laysPrices_24 : decode cX9_laysPrices 24 = .ok (.iconst 0, 1) := by decide +kernel
theorem dX9_laysPrices_25 : decode cX9_laysPrices 25 = .ok (.iload_n 1, 1) := by decide +kernel
theorem dX9_laysPrices_26 : decode cX9_laysPrices 26 = .ok (.invokevirtual 169, 3) := by decide +kernel
theorem dX9_laysPrices_29 : decode cX9_laysPrices 29 = .ok (.invokestatic 193, 3) := by decide +kernel
theorem dX9_laysPrices_32 : decode cX9_laysPrices 32 = .ok (.imul, 1) := by decide +kernel
theorem dX9_laysPrices_33 : decode cX9_laysPrices 33 = .ok (.iastore, 1) := by decide +kernel
theorem dX9_laysPrices_34 : decode cX9_laysPrices 34 = .ok (.iconst 0, 1) := by decide +kernel
theorem dX9_laysPrices_35 : decode cX9_laysPrices 35 = .ok (.istore_n 2, 1) := by decide +kernel
theorem dX9_laysPrices_36 : decode cX9_laysPrices 36 = .ok (.iload_n 2, 1) := by decide +kernel
theorem dX9_laysPrices_37 : decode cX9_laysPrices 37 = .ok (.aload_n 0, 1) := by decide +kernel
theorem dX9_laysPrices_38 : decode cX9_laysPrices 38 = .ok (.iconst 1, 1) := by decide +kernel
theorem dX9_laysPrices_39 : decode cX9_laysPrices 39 = .ok (.invokevirtual 119, 3) := by decide +kernel
theorem dX9_laysPrices_42 : decode cX9_laysPrices 42 = .ok (.if_icmp .ge 59, 3) := by decide +kernel
theorem dX9_laysPrices_45 : decode cX9_laysPrices 45 = .ok (.aload_n 0, 1) := by decide +kernel
theorem dX9_laysPrices_46 : decode cX9_laysPrices 46 = .ok (.getfield 62, 3) := by decide +kernel
theorem dX9_laysPrices_49 : decode cX9_laysPrices 49 = .ok (.iload_n 2, 1) := by decide +kernel
theorem dX9_laysPrices_50 : decode cX9_laysPrices 50 = .ok (.aload_n 0, 1) := by decide +kernel
theorem dX9_laysPrices_51 : decode cX9_laysPrices 51 = .ok (.getfield 22, 3) := by decide +kernel
theorem dX9_laysPrices_54 : decode cX9_laysPrices 54 = .ok (.bipush 50, 2) := by decide +kernel
theorem dX9_laysPrices_56 : decode cX9_laysPrices 56 = .ok (.iaload, 1) := by decide +kernel
theorem dX9_laysPrices_57 : decode cX9_laysPrices 57 = .ok (.aload_n 0, 1) := by decide +kernel
theorem dX9_laysPrices_58 : decode cX9_laysPrices 58 = .ok (.iconst 1, 1) := by decide +kernel
theorem dX9_laysPrices_59 : decode cX9_laysPrices 59 = .ok (.iload_n 2, 1) := by decide +kernel
theorem dX9_laysPrices_60 : decode cX9_laysPrices 60 = .ok (.invokevirtual 169, 3) := by decide +kernel
theorem dX9_laysPrices_63 : decode cX9_laysPrices 63 = .ok (.invokestatic 193, 3) := by decide +kernel
theorem dX9_laysPrices_66 : decode cX9_laysPrices 66 = .ok (.imul, 1) := by decide +kernel
theorem dX9_laysPrices_67 : decode cX9_laysPrices 67 = .ok (.iastore, 1) := by decide +kernel
theorem dX9_laysPrices_68 : decode cX9_laysPrices 68 = .ok (.aload_n 0, 1) := by decide +kernel
theorem dX9_laysPrices_69 : decode cX9_laysPrices 69 = .ok (.getfield 65, 3) := by decide +kernel
theorem dX9_laysPrices_72 : decode cX9_laysPrices 72 = .ok (.bipush 12, 2) := by decide +kernel
theorem dX9_laysPrices_74 : decode cX9_laysPrices 74 = .ok (.iload_n 1, 1) := by decide +kernel
theorem dX9_laysPrices_75 : decode cX9_laysPrices 75 = .ok (.imul, 1) := by decide +kernel
theorem dX9_laysPrices_76 : decode cX9_laysPrices 76 = .ok (.iload_n 2, 1) := by decide +kernel
theorem dX9_laysPrices_77 : decode cX9_laysPrices 77 = .ok (.iadd, 1) := by decide +kernel
theorem dX9_laysPrices_78 : decode cX9_laysPrices 78 = .ok (.aload_n 0, 1) := by decide +kernel
theorem dX9_laysPrices_79 : decode cX9_laysPrices 79 = .ok (.aload_n 0, 1) := by decide +kernel
theorem dX9_laysPrices_80 : decode cX9_laysPrices 80 = .ok (.iconst 0, 1) := by decide +kernel
theorem dX9_laysPrices_81 : decode cX9_laysPrices 81 = .ok (.iload_n 1, 1) := by decide +kernel
theorem dX9_laysPrices_82 : decode cX9_laysPrices 82 = .ok (.invokevirtual 169, 3) := by decide +kernel
theorem dX9_laysPrices_85 : decode cX9_laysPrices 85 = .ok (.aload_n 0, 1) := by decide +kernel
theorem dX9_laysPrices_86 : decode cX9_laysPrices 86 = .ok (.iconst 1, 1) := by decide +kernel
theorem dX9_laysPrices_87 : decode cX9_laysPrices 87 = .ok (.iload_n 2, 1) := by decide +kernel
theorem dX9_laysPrices_88 : decode cX9_laysPrices 88 = .ok (.invokevirtual 169, 3) := by decide +kernel
theorem dX9_laysPrices_91 : decode cX9_laysPrices 91 = .ok (.invokevirtual 208, 3) := by decide +kernel
theorem dX9_laysPrices_94 : decode cX9_laysPrices 94 = .ok (.iastore, 1) := by decide +kernel
theorem dX9_laysPrices_95 : decode cX9_laysPrices 95 = .ok (.iinc 2 1, 3) := by decide +kernel
theorem dX9_laysPrices_98 : decode cX9_laysPrices 98 = .ok (.goto (-62), 3) := by decide +kernel
theorem dX9_laysPrices_101 : decode cX9_laysPrices 101 = .ok (.iinc 1 1, 3) := by decide +kernel
theorem dX9_laysPrices_104 : decode cX9_laysPrices 104 = .ok (.goto (-102), 3) := by decide +kernel
theorem dX9_laysPrices_107 : decode cX9_laysPrices 107 = .ok (.return_, 1) := by decide +kernel
theorem dX9_lesser_0 : decode cX9_lesser 0 = .ok (.iload_n 0, 1) := by decide +kernel
theorem dX9_lesser_1 : decode cX9_lesser 1 = .ok (.iload_n 1, 1) := by decide +kernel
theorem dX9_lesser_2 : decode cX9_lesser 2 = .ok (.if_icmp .ge 7, 3) := by decide +kernel
theorem dX9_lesser_5 : decode cX9_lesser 5 = .ok (.iload_n 0, 1) := by decide +kernel
theorem dX9_lesser_6 : decode cX9_lesser 6 = .ok (.goto 4, 3) := by decide +kernel
theorem dX9_lesser_9 : decode cX9_lesser 9 = .ok (.iload_n 1, 1) := by decide +kernel
theorem dX9_lesser_10 : decode cX9_lesser 10 = .ok (.ireturn, 1) := by decide +kernel
theorem dX9_laysForest_0 : decode cX9_laysForest 0 = .ok (.aload_n 0, 1) := by decide +kernel
theorem dX9_laysForest_1 : decode cX9_laysForest 1 = .ok (.iconst 0, 1) := by decide +kernel
theorem dX9_laysForest_2 : decode cX9_laysForest 2 = .ok (.iload_n 1, 1) := by decide +kernel
theorem dX9_laysForest_3 : decode cX9_laysForest 3 = .ok (.invokevirtual 154, 3) := by decide +kernel
theorem dX9_laysForest_6 : decode cX9_laysForest 6 = .ok (.istore_n 3, 1) := by decide +kernel
theorem dX9_laysForest_7 : decode cX9_laysForest 7 = .ok (.aload_n 0, 1) := by decide +kernel
theorem dX9_laysForest_8 : decode cX9_laysForest 8 = .ok (.iconst 1, 1) := by decide +kernel
theorem dX9_laysForest_9 : decode cX9_laysForest 9 = .ok (.iload_n 2, 1) := by decide +kernel
theorem dX9_laysForest_10 : decode cX9_laysForest 10 = .ok (.invokevirtual 154, 3) := by decide +kernel
theorem dX9_laysForest_13 : decode cX9_laysForest 13 = .ok (.istore 4, 2) := by decide +kernel
theorem dX9_laysForest_15 : decode cX9_laysForest 15 = .ok (.bipush 13, 2) := by decide +kernel
theorem dX9_laysForest_17 : decode cX9_laysForest 17 = .ok (.istore 5, 2) := by decide +kernel
theorem dX9_laysForest_19 : decode cX9_laysForest 19 = .ok (.aload_n 0, 1) := by decide +kernel
theorem dX9_laysForest_20 : decode cX9_laysForest 20 = .ok (.getfield 71, 3) := by decide +kernel
theorem dX9_laysForest_23 : decode cX9_laysForest 23 = .ok (.iconst 0, 1) := by decide +kernel
theorem dX9_laysForest_24 : decode cX9_laysForest 24 = .ok (.iconst 0, 1) := by decide +kernel
theorem dX9_laysForest_25 : decode cX9_laysForest 25 = .ok (.iastore, 1) := by decide +kernel
theorem dX9_laysForest_26 : decode cX9_laysForest 26 = .ok (.iload_n 3, 1) := by decide +kernel
theorem dX9_laysForest_27 : decode cX9_laysForest 27 = .ok (.istore 6, 2) := by decide +kernel
theorem dX9_laysForest_29 : decode cX9_laysForest 29 = .ok (.iload 6, 2) := by decide +kernel
theorem dX9_laysForest_31 : decode cX9_laysForest 31 = .ok (.iload_n 1, 1) := by decide +kernel
theorem dX9_laysForest_32 : decode cX9_laysForest 32 = .ok (.if_icmp .gt 43, 3) := by decide +kernel
theorem dX9_laysForest_35 : decode cX9_laysForest 35 = .ok (.aload_n 0, 1) := by decide +kernel
theorem dX9_laysForest_36 : decode cX9_laysForest 36 = .ok (.getfield 71, 3) := by decide +kernel
theorem dX9_laysForest_39 : decode cX9_laysForest 39 = .ok (.iload 5, 2) := by decide +kernel
theorem dX9_laysForest_41 : decode cX9_laysForest 41 = .ok (.iload 6, 2) := by decide +kernel
theorem dX9_laysForest_43 : decode cX9_laysForest 43 = .ok (.iload_n 3, 1) := by decide +kernel
theorem dX9_laysForest_44 : decode cX9_laysForest 44 = .ok (.isub, 1) := by decide +kernel
theorem dX9_laysForest_45 : decode cX9_laysForest 45 = .ok (.iconst 1, 1) := by decide +kernel
theorem dX9_laysForest_46 : decode cX9_laysForest 46 = .ok (.iadd, 1) := by decide +kernel
theorem dX9_laysForest_47 : decode cX9_laysForest 47 = .ok (.imul, 1) := by decide +kernel
theorem dX9_laysForest_48 : decode cX9_laysForest 48 = .ok (.aload_n 0, 1) := by decide +kernel
theorem dX9_laysForest_49 : decode cX9_laysForest 49 = .ok (.getfield 71, 3) := by decide +kernel
theorem dX9_laysForest_52 : decode cX9_laysForest 52 = .ok (.iload 5, 2) := by decide +kernel
theorem dX9_laysForest_54 : decode cX9_laysForest 54 = .ok (.iload 6, 2) := by decide +kernel
theorem dX9_laysForest_56 : decode cX9_laysForest 56 = .ok (.iload_n 3, 1) := by decide +kernel
theorem dX9_laysForest_57 : decode cX9_laysForest 57 = .ok (.isub, 1) := by decide +kernel
theorem dX9_laysForest_58 : decode cX9_laysForest 58 = .ok (.imul, 1) := by decide +kernel
theorem dX9_laysForest_59 : decode cX9_laysForest 59 = .ok (.iaload, 1) := by decide +kernel
theorem dX9_laysForest_60 : decode cX9_laysForest 60 = .ok (.aload_n 0, 1) := by decide +kernel
theorem dX9_laysForest_61 : decode cX9_laysForest 61 = .ok (.getfield 59, 3) := by decide +kernel
theorem dX9_laysForest_64 : decode cX9_laysForest 64 = .ok (.iload 6, 2) := by decide +kernel
theorem dX9_laysForest_66 : decode cX9_laysForest 66 = .ok (.iaload, 1) := by decide +kernel
theorem dX9_laysForest_67 : decode cX9_laysForest 67 = .ok (.iadd, 1) := by decide +kernel
theorem dX9_laysForest_68 : decode cX9_laysForest 68 = .ok (.iastore, 1) := by decide +kernel
theorem dX9_laysForest_69 : decode cX9_laysForest 69 = .ok (.iinc 6 1, 3) := by decide +kernel
theorem dX9_laysForest_72 : decode cX9_laysForest 72 = .ok (.goto (-43), 3) := by decide +kernel
theorem dX9_laysForest_75 : decode cX9_laysForest 75 = .ok (.iload 4, 2) := by decide +kernel
