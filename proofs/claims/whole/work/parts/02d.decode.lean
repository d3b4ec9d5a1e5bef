theorem dX8_init_164 : decode cX8_init 164 = .ok (.getfield 42, 3) := by decide +kernel
theorem dX8_init_167 : decode cX8_init 167 = .ok (.iload_n 1, 1) := by decide +kernel
theorem dX8_init_168 : decode cX8_init 168 = .ok (.new 33, 3) := by decide +kernel
theorem dX8_init_171 : decode cX8_init 171 = .ok (.dup, 1) := by decide +kernel
theorem dX8_init_172 : decode cX8_init 172 = .ok (.iconst (-1), 1) := by decide +kernel
theorem dX8_init_173 : decode cX8_init 173 = .ok (.invokespecial 35, 3) := by decide +kernel
theorem dX8_init_176 : decode cX8_init 176 = .ok (.aastore, 1) := by decide +kernel
theorem dX8_init_177 : decode cX8_init 177 = .ok (.iinc 1 1, 3) := by decide +kernel
theorem dX8_init_180 : decode cX8_init 180 = .ok (.goto (-22), 3) := by decide +kernel
theorem dX8_init_183 : decode cX8_init 183 = .ok (.return_, 1) := by decide +kernel
theorem dX8_row_0 : decode cX8_row 0 = .ok (.iload_n 1, 1) := by decide +kernel
theorem dX8_row_1 : decode cX8_row 1 = .ok (.invokestatic 73, 3) := by decide +kernel
theorem dX8_row_4 : decode cX8_row 4 = .ok (.ifCond .ne 9, 3) := by decide +kernel
theorem dX8_row_7 : decode cX8_row 7 = .ok (.iload_n 2, 1) := by decide +kernel
theorem dX8_row_8 : decode cX8_row 8 = .ok (.bipush 40, 2) := by decide +kernel
theorem dX8_row_10 : decode cX8_row 10 = .ok (.if_icmp .le 5, 3) := by decide +kernel
theorem dX8_row_13 : decode cX8_row 13 = .ok (.iconst (-1), 1) := by decide +kernel
theorem dX8_row_14 : decode cX8_row 14 = .ok (.ireturn, 1) := by decide +kernel
theorem dX8_row_15 : decode cX8_row 15 = .ok (.iload_n 2, 1) := by decide +kernel
theorem dX8_row_16 : decode cX8_row 16 = .ok (.ifCond .ge 9, 3) := by decide +kernel
theorem dX8_row_19 : decode cX8_row 19 = .ok (.aload_n 0, 1) := by decide +kernel
theorem dX8_row_20 : decode cX8_row 20 = .ok (.iconst 5, 1) := by decide +kernel
theorem dX8_row_21 : decode cX8_row 21 = .ok (.invokevirtual 77, 3) := by decide +kernel
theorem dX8_row_24 : decode cX8_row 24 = .ok (.ireturn, 1) := by decide +kernel
theorem dX8_row_25 : decode cX8_row 25 = .ok (.aload_n 0, 1) := by decide +kernel
theorem dX8_row_26 : decode cX8_row 26 = .ok (.getfield 11, 3) := by decide +kernel
theorem dX8_row_29 : decode cX8_row 29 = .ok (.iload_n 1, 1) := by decide +kernel
theorem dX8_row_30 : decode cX8_row 30 = .ok (.aaload, 1) := by decide +kernel
theorem dX8_row_31 : decode cX8_row 31 = .ok (.iload_n 2, 1) := by decide +kernel
theorem dX8_row_32 : decode cX8_row 32 = .ok (.invokevirtual 81, 3) := by decide +kernel
theorem dX8_row_35 : decode cX8_row 35 = .ok (.iload_n 2, 1) := by decide +kernel
theorem dX8_row_36 : decode cX8_row 36 = .ok (.ireturn, 1) := by decide +kernel
theorem dX8_lay_0 : decode cX8_lay 0 = .ok (.iload_n 1, 1) := by decide +kernel
theorem dX8_lay_1 : decode cX8_lay 1 = .ok (.invokestatic 73, 3) := by decide +kernel
theorem dX8_lay_4 : decode cX8_lay 4 = .ok (.ifCond .eq 5, 3) := by decide +kernel
theorem dX8_lay_7 : decode cX8_lay 7 = .ok (.iconst (-1), 1) := by decide +kernel
theorem dX8_lay_8 : decode cX8_lay 8 = .ok (.ireturn, 1) := by decide +kernel
theorem dX8_lay_9 : decode cX8_lay 9 = .ok (.aload_n 0, 1) := by decide +kernel
theorem dX8_lay_10 : decode cX8_lay 10 = .ok (.getfield 11, 3) := by decide +kernel
theorem dX8_lay_13 : decode cX8_lay 13 = .ok (.iload_n 1, 1) := by decide +kernel
theorem dX8_lay_14 : decode cX8_lay 14 = .ok (.aaload, 1) := by decide +kernel
theorem dX8_lay_15 : decode cX8_lay 15 = .ok (.astore 4, 2) := by decide +kernel
theorem dX8_lay_17 : decode cX8_lay 17 = .ok (.aload 4, 2) := by decide +kernel
theorem dX8_lay_19 : decode cX8_lay 19 = .ok (.getfield 84, 3) := by decide +kernel
theorem dX8_lay_22 : decode cX8_lay 22 = .ok (.ifCond .ge 9, 3) := by decide +kernel
theorem dX8_lay_25 : decode cX8_lay 25 = .ok (.aload_n 0, 1) := by decide +kernel
theorem dX8_lay_26 : decode cX8_lay 26 = .ok (.iconst 1, 1) := by decide +kernel
theorem dX8_lay_27 : decode cX8_lay 27 = .ok (.invokevirtual 77, 3) := by decide +kernel
theorem dX8_lay_30 : decode cX8_lay 30 = .ok (.ireturn, 1) := by decide +kernel
theorem dX8_lay_31 : decode cX8_lay 31 = .ok (.iload_n 2, 1) := by decide +kernel
theorem dX8_lay_32 : decode cX8_lay 32 = .ok (.ifCond .lt 12, 3) := by decide +kernel
theorem dX8_lay_35 : decode cX8_lay 35 = .ok (.iload_n 2, 1) := by decide +kernel
theorem dX8_lay_36 : decode cX8_lay 36 = .ok (.aload 4, 2) := by decide +kernel
theorem dX8_lay_38 : decode cX8_lay 38 = .ok (.getfield 84, 3) := by decide +kernel
theorem dX8_lay_41 : decode cX8_lay 41 = .ok (.if_icmp .lt 9, 3) := by decide +kernel
theorem dX8_lay_44 : decode cX8_lay 44 = .ok (.aload_n 0, 1) := by decide +kernel
theorem dX8_lay_45 : decode cX8_lay 45 = .ok (.iconst 2, 1) := by decide +kernel
theorem dX8_lay_46 : decode cX8_lay 46 = .ok (.invokevirtual 77, 3) := by decide +kernel
theorem dX8_lay_49 : decode cX8_lay 49 = .ok (.ireturn, 1) := by decide +kernel
theorem dX8_lay_50 : decode cX8_lay 50 = .ok (.aload 4, 2) := by decide +kernel
theorem dX8_lay_52 : decode cX8_lay 52 = .ok (.getfield 87, 3) := by decide +kernel
theorem dX8_lay_55 : decode cX8_lay 55 = .ok (.iload_n 2, 1) := by decide +kernel
theorem dX8_lay_56 : decode cX8_lay 56 = .ok (.iaload, 1) := by decide +kernel
theorem dX8_lay_57 : decode cX8_lay 57 = .ok (.istore 5, 2) := by decide +kernel
theorem dX8_lay_59 : decode cX8_lay 59 = .ok (.aload 4, 2) := by decide +kernel
theorem dX8_lay_61 : decode cX8_lay 61 = .ok (.getfield 87, 3) := by decide +kernel
theorem dX8_lay_64 : decode cX8_lay 64 = .ok (.iload_n 2, 1) := by decide +kernel
theorem dX8_lay_65 : decode cX8_lay 65 = .ok (.iload_n 3, 1) := by decide +kernel
theorem dX8_lay_66 : decode cX8_lay 66 = .ok (.iastore, 1) := by decide +kernel
theorem dX8_lay_67 : decode cX8_lay 67 = .ok (.aload_n 0, 1) := by decide +kernel
theorem dX8_lay_68 : decode cX8_lay 68 = .ok (.iload 5, 2) := by decide +kernel
theorem dX8_lay_70 : decode cX8_lay 70 = .ok (.invokevirtual 90, 3) := by decide +kernel
theorem dX8_lay_73 : decode cX8_lay 73 = .ok (.ireturn, 1) := by decide +kernel
theorem dX8_at_0 : decode cX8_at 0 = .ok (.iload_n 1, 1) := by decide +kernel
theorem dX8_at_1 : decode cX8_at 1 = .ok (.invokestatic 73, 3) := by decide +kernel
theorem dX8_at_4 : decode cX8_at 4 = .ok (.ifCond .eq 5, 3) := by decide +kernel
theorem dX8_at_7 : decode cX8_at 7 = .ok (.iconst (-1), 1) := by decide +kernel
theorem dX8_at_8 : decode cX8_at 8 = .ok (.ireturn, 1) := by decide +kernel
theorem dX8_at_9 : decode cX8_at 9 = .ok (.aload_n 0, 1) := by decide +kernel
theorem dX8_at_10 : decode cX8_at 10 = .ok (.getfield 11, 3) := by decide +kernel
theorem dX8_at_13 : decode cX8_at 13 = .ok (.iload_n 1, 1) := by decide +kernel
theorem dX8_at_14 : decode cX8_at 14 = .ok (.aaload, 1) := by decide +kernel
theorem dX8_at_15 : decode cX8_at 15 = .ok (.astore_n 3, 1) := by decide +kernel
theorem dX8_at_16 : decode cX8_at 16 = .ok (.aload_n 3, 1) := by decide +kernel
theorem dX8_at_17 : decode cX8_at 17 = .ok (.getfield 84, 3) := by decide +kernel
theorem dX8_at_20 : decode cX8_at 20 = .ok (.ifCond .ge 9, 3) := by decide +kernel
theorem dX8_at_23 : decode cX8_at 23 = .ok (.aload_n 0, 1) := by decide +kernel
theorem dX8_at_24 : decode cX8_at 24 = .ok (.iconst 1, 1) := by decide +kernel
theorem dX8_at_25 : decode cX8_at 25 = .ok (.invokevirtual 77, 3) := by decide +kernel
theorem dX8_at_28 : decode cX8_at 28 = .ok (.ireturn, 1) := by decide +kernel
theorem dX8_at_29 : decode cX8_at 29 = .ok (.iload_n 2, 1) := by decide +kernel
theorem dX8_at_30 : decode cX8_at 30 = .ok (.ifCond .lt 11, 3) := by decide +kernel
theorem dX8_at_33 : decode cX8_at 33 = .ok (.iload_n 2, 1) := by decide +kernel
theorem dX8_at_34 : decode cX8_at 34 = .ok (.aload_n 3, 1) := by decide +kernel
theorem dX8_at_35 : decode cX8_at 35 = .ok (.getfield 84, 3) := by decide +kernel
theorem dX8_at_38 : decode cX8_at 38 = .ok (.if_icmp .lt 9, 3) := by decide +kernel
theorem dX8_at_41 : decode cX8_at 41 = .ok (.aload_n 0, 1) := by decide +kernel
theorem dX8_at_42 : decode cX8_at 42 = .ok (.iconst 2, 1) := by decide +kernel
theorem dX8_at_43 : decode cX8_at 43 = .ok (.invokevirtual 77, 3) := by decide +kernel
theorem dX8_at_46 : decode cX8_at 46 = .ok (.ireturn, 1) := by decide +kernel
theorem dX8_at_47 : decode cX8_at 47 = .ok (.aload_n 0, 1) := by decide +kernel
theorem dX8_at_48 : decode cX8_at 48 = .ok (.aload_n 3, 1) := by decide +kernel
theorem dX8_at_49 : decode cX8_at 49 = .ok (.getfield 87, 3) := by decide +kernel
theorem dX8_at_52 : decode cX8_at 52 = .ok (.iload_n 2, 1) := by decide +kernel
theorem dX8_at_53 : decode cX8_at 53 = .ok (.iaload, 1) := by decide +kernel
theorem dX8_at_54 : decode cX8_at 54 = .ok (.invokevirtual 90, 3) := by decide +kernel
theorem dX8_at_57 : decode cX8_at 57 = .ok (.ireturn, 1) := by decide +kernel
theorem dX8_tear_0 : decode cX8_tear 0 = .ok (.iload_n 1, 1) := by decide +kernel
theorem dX8_tear_1 : decode cX8_tear 1 = .ok (.invokestatic 73, 3) := by decide +kernel
theorem dX8_tear_4 : decode cX8_tear 4 = .ok (.ifCond .eq 5, 3) := by decide +kernel
theorem dX8_tear_7 : decode cX8_tear 7 = .ok (.iconst (-1), 1) := by decide +kernel
theorem dX8_tear_8 : decode cX8_tear 8 = .ok (.ireturn, 1) := by decide +kernel
theorem dX8_tear_9 : decode cX8_tear 9 = .ok (.aload_n 0, 1) := by decide +kernel
theorem dX8_tear_10 : decode cX8_tear 10 = .ok (.getfield 11, 3) := by decide +kernel
theorem dX8_tear_13 : decode cX8_tear 13 = .ok (.iload_n 1, 1) := by decide +kernel
theorem dX8_tear_14 : decode cX8_tear 14 = .ok (.aaload, 1) := by decide +kernel
theorem dX8_tear_15 : decode cX8_tear 15 = .ok (.getfield 84, 3) := by decide +kernel
theorem dX8_tear_18 : decode cX8_tear 18 = .ok (.ifCond .ge 9, 3) := by decide +kernel
theorem dX8_tear_21 : decode cX8_tear 21 = .ok (.aload_n 0, 1) := by decide +kernel
theorem dX8_tear_22 : decode cX8_tear 22 = .ok (.iconst 1, 1) := by decide +kernel
theorem dX8_tear_23 : decode cX8_tear 23 = .ok (.invokevirtual 77, 3) := by decide +kernel
theorem dX8_tear_26 : decode cX8_tear 26 = .ok (.ireturn, 1) := by decide +kernel
theorem dX8_tear_27 : decode cX8_tear 27 = .ok (.aload_n 0, 1) := by decide +kernel
theorem dX8_tear_28 : decode cX8_tear 28 = .ok (.getfield 11, 3) := by decide +kernel
theorem dX8_tear_31 : decode cX8_tear 31 = .ok (.iload_n 1, 1) := by decide +kernel
theorem dX8_tear_32 : decode cX8_tear 32 = .ok (.aaload, 1) := by decide +kernel
theorem dX8_tear_33 : decode cX8_tear 33 = .ok (.iconst (-1), 1) := by decide +kernel
theorem dX8_tear_34 : decode cX8_tear 34 = .ok (.putfield 84, 3) := by decide +kernel
theorem dX8_tear_37 : decode cX8_tear 37 = .ok (.iconst 1, 1) := by decide +kernel
theorem dX8_tear_38 : decode cX8_tear 38 = .ok (.ireturn, 1) := by decide +kernel
theorem dX8_copy_0 : decode cX8_copy 0 = .ok (.iload_n 1, 1) := by decide +kernel
theorem dX8_copy_1 : decode cX8_copy 1 = .ok (.invokestatic 73, 3) := by decide +kernel
theorem dX8_copy_4 : decode cX8_copy 4 = .ok (.ifCond .ne 10, 3) := by decide +kernel
theorem dX8_copy_7 : decode cX8_copy 7 = .ok (.iload_n 3, 1) := by decide +kernel
theorem dX8_copy_8 : decode cX8_copy 8 = .ok (.invokestatic 73, 3) := by decide +kernel
theorem dX8_copy_11 : decode cX8_copy 11 = .ok (.ifCond .eq 5, 3) := by decide +kernel
theorem dX8_copy_14 : decode cX8_copy 14 = .ok (.iconst (-1), 1) := by decide +kernel
theorem dX8_copy_15 : decode cX8_copy 15 = .ok (.ireturn, 1) := by decide +kernel
theorem dX8_copy_16 : decode cX8_copy 16 = .ok (.iload 5, 2) := by decide +kernel
theorem dX8_copy_18 : decode cX8_copy 18 = .ok (.ifCond .ge 9, 3) := by decide +kernel
theorem dX8_copy_21 : decode cX8_copy 21 = .ok (.aload_n 0, 1) := by decide +kernel
theorem dX8_copy_22 : decode cX8_copy 22 = .ok (.iconst 5, 1) := by decide +kernel
theorem dX8_copy_23 : decode cX8_copy 23 = .ok (.invokevirtual 77, 3) := by decide +kernel
theorem dX8_copy_26 : decode cX8_copy 26 = .ok (.ireturn, 1) := by decide +kernel
theorem dX8_copy_27 : decode cX8_copy 27 = .ok (.aload_n 0, 1) := by decide +kernel
theorem dX8_copy_28 : decode cX8_copy 28 = .ok (.getfield 11, 3) := by decide +kernel
theorem dX8_copy_31 : decode cX8_copy 31 = .ok (.iload_n 1, 1) := by decide +kernel
theorem dX8_copy_32 : decode cX8_copy 32 = .ok (.aaload, 1) := by decide +kernel
theorem dX8_copy_33 : decode cX8_copy 33 = .ok (.getfield 84, 3) := by decide +kernel
theorem dX8_copy_36 : decode cX8_copy 36 = .ok (.ifCond .lt 15, 3) := by decide +kernel
theorem dX8_copy_39 : decode cX8_copy 39 = .ok (.aload_n 0, 1) := by decide +kernel
theorem dX8_copy_40 : decode cX8_copy 40 = .ok (.getfield 11, 3) := by decide +kernel
theorem dX8_copy_43 : decode cX8_copy 43 = .ok (.iload_n 3, 1) := by decide +kernel
theorem dX8_copy_44 : decode cX8_copy 44 = .ok (.aaload, 1) := by decide +kernel
theorem dX8_copy_45 : decode cX8_copy 45 = .ok (.getfield 84, 3) := by decide +kernel
theorem dX8_copy_48 : decode cX8_copy 48 = .ok (.ifCond .ge 9, 3) := by decide +kernel
theorem dX8_copy_51 : decode cX8_copy 51 = .ok (.aload_n 0, 1) := by decide +kernel
theorem dX8_copy_52 : decode cX8_copy 52 = .ok (.iconst 1, 1) := by decide +kernel
theorem dX8_copy_53 : decode cX8_copy 53 = .ok (.invokevirtual 77, 3) := by decide +kernel
theorem dX8_copy_56 : decode cX8_copy 56 = .ok (.ireturn, 1) := by decide +kernel
theorem dX8_copy_57 : decode cX8_copy 57 = .ok (.aload_n 0, 1) := by decide +kernel
theorem dX8_copy_58 : decode cX8_copy 58 = .ok (.getfield 11, 3) := by decide +kernel
theorem dX8_copy_61 : decode cX8_copy 61 = .ok (.iload_n 1, 1) := by decide +kernel
theorem dX8_copy_62 : decode cX8_copy 62 = .ok (.aaload, 1) := by decide +kernel
theorem dX8_copy_63 : decode cX8_copy 63 = .ok (.iload_n 2, 1) := by decide +kernel
theorem dX8_copy_64 : decode cX8_copy 64 = .ok (.iload 5, 2) := by decide +kernel
theorem dX8_copy_66 : decode cX8_copy 66 = .ok (.invokevirtual 93, 3) := by decide +kernel
theorem dX8_copy_69 : decode cX8_copy 69 = .ok (.ifCond .ne 19, 3) := by decide +kernel
theorem dX8_copy_72 : decode cX8_copy 72 = .ok (.aload_n 0, 1) := by decide +kernel
theorem dX8_copy_73 : decode cX8_copy 73 = .ok (.getfield 11, 3) := by decide +kernel
theorem dX8_copy_76 : decode cX8_copy 76 = .ok (.iload_n 3, 1) := by decide +kernel
theorem dX8_copy_77 : decode cX8_copy 77 = .ok (.aaload, 1) := by decide +kernel
theorem dX8_copy_78 : decode cX8_copy 78 = .ok (.iload 4, 2) := by decide +kernel
theorem dX8_copy_80 : decode cX8_copy 80 = .ok (.iload 5, 2) := by decide +kernel
theorem dX8_copy_82 : decode cX8_copy 82 = .ok (.invokevirtual 93, 3) := by decide +kernel
theorem dX8_copy_85 : decode cX8_copy 85 = .ok (.ifCond .eq 9, 3) := by decide +kernel
theorem dX8_copy_88 : decode cX8_copy 88 = .ok (.aload_n 0, 1) := by decide +kernel
theorem dX8_copy_89 : decode cX8_copy 89 = .ok (.iconst 2, 1) := by decide +kernel
theorem dX8_copy_90 : decode cX8_copy 90 = .ok (.invokevirtual 77, 3) := by decide +kernel
theorem dX8_copy_93 : decode cX8_copy 93 = .ok (.ireturn, 1) := by decide +kernel
theorem dX8_copy_94 : decode cX8_copy 94 = .ok (.aload_n 0, 1) := by decide +kernel
theorem dX8_copy_95 : decode cX8_copy 95 = .ok (.getfield 11, 3) := by decide +kernel
theorem dX8_copy_98 : decode cX8_copy 98 = .ok (.iload_n 1, 1) := by decide +kernel
theorem dX8_copy_99 : decode cX8_copy 99 = .ok (.aaload, 1) := by decide +kernel
theorem dX8_copy_100 : decode cX8_copy 100 = .ok (.getfield 87, 3) := by decide +kernel
theorem dX8_copy_103 : decode cX8_copy 103 = .ok (.iload_n 2, 1) := by decide +kernel
theorem dX8_copy_104 : decode cX8_copy 104 = .ok (.aload_n 0, 1) := by decide +kernel
theorem dX8_copy_105 : decode cX8_copy 105 = .ok (.getfield 11, 3) := by decide +kernel
theorem dX8_copy_108 : decode cX8_copy 108 = .ok (.iload_n 3, 1) := by decide +kernel
theorem dX8_copy_109 : decode cX8_copy 109 = .ok (.aaload, 1) := by decide +kernel
theorem dX8_copy_110 : decode cX8_copy 110 = .ok (.getfield 87, 3) := by decide +kernel
theorem dX8_copy_113 : decode cX8_copy 113 = .ok (.iload 4, 2) := by decide +kernel
theorem dX8_copy_115 : decode cX8_copy 115 = .ok (.iload 5, 2) := by decide +kernel
theorem dX8_copy_117 : decode cX8_copy 117 = .ok (.invokestatic 97, 3) := by decide +kernel
theorem dX8_copy_120 : decode cX8_copy 120 = .ok (.iconst 1, 1) := by decide +kernel
theorem dX8_copy_121 : decode cX8_copy 121 = .ok (.ireturn, 1) := by decide +kernel
theorem dX8_mean_0 : decode cX8_mean 0 = .ok (.iload_n 1, 1) := by decide +kernel
theorem dX8_mean_1 : decode cX8_mean 1 = .ok (.invokestatic 73, 3) := by decide +kernel
theorem dX8_mean_4 : decode cX8_mean 4 = .ok (.ifCond .eq 5, 3) := by decide +kernel
theorem dX8_mean_7 : decode cX8_mean 7 = .ok (.iconst (-1), 1) := by decide +kernel
theorem dX8_mean_8 : decode cX8_mean 8 = .ok (.ireturn, 1) := by decide +kernel
theorem dX8_mean_9 : decode cX8_mean 9 = .ok (.aload_n 0, 1) := by decide +kernel
theorem dX8_mean_10 : decode cX8_mean 10 = .ok (.getfield 11, 3) := by decide +kernel
theorem dX8_mean_13 : decode cX8_mean 13 = .ok (.iload_n 1, 1) := by decide +kernel
theorem dX8_mean_14 : decode cX8_mean 14 = .ok (.aaload, 1) := by decide +kernel
theorem dX8_mean_15 : decode cX8_mean 15 = .ok (.astore_n 2, 1) := by decide +kernel
theorem dX8_mean_16 : decode cX8_mean 16 = .ok (.aload_n 2, 1) := by decide +kernel
theorem dX8_mean_17 : decode cX8_mean 17 = .ok (.getfield 84, 3) := by decide +kernel
theorem dX8_mean_20 : decode cX8_mean 20 = .ok (.ifCond .ge 9, 3) := by decide +kernel
theorem dX8_mean_23 : decode cX8_mean 23 = .ok (.aload_n 0, 1) := by decide +kernel
theorem dX8_mean_24 : decode cX8_mean 24 = .ok (.iconst 1, 1) := by decide +kernel
theorem dX8_mean_25 : decode cX8_mean 25 = .ok (.invokevirtual 77, 3) := by decide +kernel
theorem dX8_mean_28 : decode cX8_mean 28 = .ok (.ireturn, 1) := by decide +kernel
theorem dX8_mean_29 : decode cX8_mean 29 = .ok (.aload_n 2, 1) := by decide +kernel
theorem dX8_mean_30 : decode cX8_mean 30 = .ok (.getfield 84, 3) := by decide +kernel
theorem dX8_mean_33 : decode cX8_mean 33 = .ok (.ifCond .ne 9, 3) := by decide +kernel
theorem dX8_mean_36 : decode cX8_mean 36 = .ok (.aload_n 0, 1) := by decide +kernel
theorem dX8_mean_37 : decode cX8_mean 37 = .ok (.iconst 4, 1) := by decide +kernel
theorem dX8_mean_38 : decode cX8_mean 38 = .ok (.invokevirtual 77, 3) := by decide +kernel
theorem dX8_mean_41 : decode cX8_mean 41 = .ok (.ireturn, 1) := by decide +kernel
theorem dX8_mean_42 : decode cX8_mean 42 = .ok (.aload_n 0, 1) := by decide +kernel
theorem dX8_mean_43 : decode cX8_mean 43 = .ok (.aload_n 2, 1) := by decide +kernel
theorem dX8_mean_44 : decode cX8_mean 44 = .ok (.invokevirtual 103, 3) := by decide +kernel
theorem dX8_mean_47 : decode cX8_mean 47 = .ok (.aload_n 2, 1) := by decide +kernel
theorem dX8_mean_48 : decode cX8_mean 48 = .ok (.getfield 84, 3) := by decide +kernel
theorem dX8_mean_51 : decode cX8_mean 51 = .ok (.i2l, 1) := by decide +kernel
theorem dX8_mean_52 : decode cX8_mean 52 = .ok (.ldiv, 1) := by decide +kernel
theorem dX8_mean_53 : decode cX8_mean 53 = .ok (.l2i, 1) := by decide +kernel
theorem dX8_mean_54 : decode cX8_mean 54 = .ok (.invokevirtual 90, 3) := by decide +kernel
theorem dX8_mean_57 : decode cX8_mean 57 = .ok (.ireturn, 1) := by decide +kernel
theorem dX8_text_0 : decode cX8_text 0 = .ok (.iload_n 1, 1) := by decide +kernel
theorem dX8_text_1 : decode cX8_text 1 = .ok (.invokestatic 107, 3) := by decide +kernel
theorem dX8_text_4 : decode cX8_text 4 = .ok (.ifCond .ne 9, 3) := by decide +kernel
theorem dX8_text_7 : decode cX8_text 7 = .ok (.iload_n 2, 1) := by decide +kernel
theorem dX8_text_8 : decode cX8_text 8 = .ok (.bipush 60, 2) := by decide +kernel
theorem dX8_text_10 : decode cX8_text 10 = .ok (.if_icmp .le 5, 3) := by decide +kernel
theorem dX8_text_13 : decode cX8_text 13 = .ok (.iconst (-1), 1) := by decide +kernel
theorem dX8_text_14 : decode cX8_text 14 = .ok (.ireturn, 1) := by decide +kernel
theorem dX8_text_15 : decode cX8_text 15 = .ok (.iload_n 2, 1) := by decide +kernel
theorem dX8_text_16 : decode cX8_text 16 = .ok (.ifCond .ge 9, 3) := by decide +kernel
theorem dX8_text_19 : decode cX8_text 19 = .ok (.aload_n 0, 1) := by decide +kernel
theorem dX8_text_20 : decode cX8_text 20 = .ok (.iconst 5, 1) := by decide +kernel
theorem dX8_text_21 : decode cX8_text 21 = .ok (.invokevirtual 77, 3) := by decide +kernel
theorem dX8_text_24 : decode cX8_text 24 = .ok (.ireturn, 1) := by decide +kernel
theorem dX8_text_25 : decode cX8_text 25 = .ok (.aload_n 0, 1) := by decide +kernel
theorem dX8_text_26 : decode cX8_text 26 = .ok (.getfield 17, 3) := by decide +kernel
theorem dX8_text_29 : decode cX8_text 29 = .ok (.iload_n 1, 1) := by decide +kernel
theorem dX8_text_30 : decode cX8_text 30 = .ok (.aaload, 1) := by decide +kernel
theorem dX8_text_31 : decode cX8_text 31 = .ok (.iload_n 2, 1) := by decide +kernel
theorem dX8_text_32 : decode cX8_text 32 = .ok (.invokevirtual 110, 3) := by decide +kernel
theorem dX8_text_35 : decode cX8_text 35 = .ok (.iload_n 2, 1) := by decide +kernel
theorem dX8_text_36 : decode cX8_text 36 = .ok (.ireturn, 1) := by decide +kernel
theorem dX8_put_0 : decode cX8_put 0 = .ok (.iload_n 1, 1) := by decide +kernel
theorem dX8_put_1 : decode cX8_put 1 = .ok (.invokestatic 107, 3) := by decide +kernel
theorem dX8_put_4 : decode cX8_put 4 = .ok (.ifCond .eq 5, 3) := by decide +kernel
theorem dX8_put_7 : decode cX8_put 7 = .ok (.iconst (-1), 1) := by decide +kernel
theorem dX8_put_8 : decode cX8_put 8 = .ok (.ireturn, 1) := by decide +kernel
theorem dX8_put_9 : decode cX8_put 9 = .ok (.aload_n 0, 1) := by decide +kernel
theorem dX8_put_10 : decode cX8_put 10 = .ok (.getfield 17, 3) := by decide +kernel
theorem dX8_put_13 : decode cX8_put 13 = .ok (.iload_n 1, 1) := by decide +kernel
theorem dX8_put_14 : decode cX8_put 14 = .ok (.aaload, 1) := by decide +kernel
theorem dX8_put_15 : decode cX8_put 15 = .ok (.astore 4, 2) := by decide +kernel
theorem dX8_put_17 : decode cX8_put 17 = .ok (.aload 4, 2) := by decide +kernel
theorem dX8_put_19 : decode cX8_put 19 = .ok (.getfield 111, 3) := by decide +kernel
theorem dX8_put_22 : decode cX8_put 22 = .ok (.ifCond .ge 9, 3) := by decide +kernel
theorem dX8_put_25 : decode cX8_put 25 = .ok (.aload_n 0, 1) := by decide +kernel
theorem dX8_put_26 : decode cX8_put 26 = .ok (.iconst 1, 1) := by decide +kernel
theorem dX8_put_27 : decode cX8_put 27 = .ok (.invokevirtual 77, 3) := by decide +kernel
theorem dX8_put_30 : decode cX8_put 30 = .ok (.ireturn, 1) := by decide +kernel
theorem dX8_put_31 : decode cX8_put 31 = .ok (.iload_n 2, 1) := by decide +kernel
theorem dX8_put_32 : decode cX8_put 32 = .ok (.ifCond .lt 12, 3) := by decide +kernel
theorem dX8_put_35 : decode cX8_put 35 = .ok (.iload_n 2, 1) := by decide +kernel
theorem dX8_put_36 : decode cX8_put 36 = .ok (.aload 4, 2) := by decide +kernel
theorem dX8_put_38 : decode cX8_put 38 = .ok (.getfield 111, 3) := by decide +kernel
theorem dX8_put_41 : decode cX8_put 41 = .ok (.if_icmp .lt 9, 3) := by decide +kernel
theorem dX8_put_44 : decode cX8_put 44 = .ok (.aload_n 0, 1) := by decide +kernel
theorem dX8_put_45 : decode cX8_put 45 = .ok (.iconst 2, 1) := by decide +kernel
theorem dX8_put_46 : decode cX8_put 46 = .ok (.invokevirtual 77, 3) := by decide +kernel
theorem dX8_put_49 : decode cX8_put 49 = .ok (.ireturn, 1) := by decide +kernel
theorem dX8_put_50 : decode cX8_put 50 = .ok (.aload 4, 2) := by decide +kernel
theorem dX8_put_52 : decode cX8_put 52 = .ok (.getfield 112, 3) := by decide +kernel
theorem dX8_put_55 : decode cX8_put 55 = .ok (.iload_n 2, 1) := by decide +kernel
theorem dX8_put_56 : decode cX8_put 56 = .ok (.baload, 1) := by decide +kernel
theorem dX8_put_57 : decode cX8_put 57 = .ok (.istore 5, 2) := by decide +kernel
theorem dX8_put_59 : decode cX8_put 59 = .ok (.aload 4, 2) := by decide +kernel
theorem dX8_put_61 : decode cX8_put 61 = .ok (.getfield 112, 3) := by decide +kernel
theorem dX8_put_64 : decode cX8_put 64 = .ok (.iload_n 2, 1) := by decide +kernel
theorem dX8_put_65 : decode cX8_put 65 = .ok (.iload_n 3, 1) := by decide +kernel
theorem dX8_put_66 : decode cX8_put 66 = .ok (.i2b, 1) := by decide +kernel
theorem dX8_put_67 : decode cX8_put 67 = .ok (.bastore, 1) := by decide +kernel
theorem dX8_put_68 : decode cX8_put 68 = .ok (.iload 5, 2) := by decide +kernel
theorem dX8_put_70 : decode cX8_put 70 = .ok (.sipush 1000, 3) := by decide +kernel
theorem dX8_put_73 : decode cX8_put 73 = .ok (.iadd, 1) := by decide +kernel
theorem dX8_put_74 : decode cX8_put 74 = .ok (.ireturn, 1) := by decide +kernel
theorem dX8_fault_0 : decode cX8_fault 0 = .ok (.iload_n 1, 1) := by decide +kernel
theorem dX8_fault_1 : decode cX8_fault 1 = .ok (.invokestatic 107, 3) := by decide +kernel
theorem dX8_fault_4 : decode cX8_fault 4 = .ok (.ifCond .eq 5, 3) := by decide +kernel
theorem dX8_fault_7 : decode cX8_fault 7 = .ok (.iconst (-1), 1) := by decide +kernel
theorem dX8_fault_8 : decode cX8_fault 8 = .ok (.ireturn, 1) := by decide +kernel
theorem dX8_fault_9 : decode cX8_fault 9 = .ok (.aload_n 0, 1) := by decide +kernel
theorem dX8_fault_10 : decode cX8_fault 10 = .ok (.getfield 17, 3) := by decide +kernel
theorem dX8_fault_13 : decode cX8_fault 13 = .ok (.iload_n 1, 1) := by decide +kernel
theorem dX8_fault_14 : decode cX8_fault 14 = .ok (.aaload, 1) := by decide +kernel
theorem dX8_fault_15 : decode cX8_fault 15 = .ok (.getfield 111, 3) := by decide +kernel
theorem dX8_fault_18 : decode cX8_fault 18 = .ok (.ifCond .ge 9, 3) := by decide +kernel
theorem dX8_fault_21 : decode cX8_fault 21 = .ok (.aload_n 0, 1) := by decide +kernel
theorem dX8_fault_22 : decode cX8_fault 22 = .ok (.iconst 1, 1) := by decide +kernel
theorem dX8_fault_23 : decode cX8_fault 23 = .ok (.invokevirtual 77, 3) := by decide +kernel
theorem dX8_fault_26 : decode cX8_fault 26 = .ok (.ireturn, 1) := by decide +kernel
theorem dX8_fault_27 : decode cX8_fault 27 = .ok (.aload_n 0, 1) := by decide +kernel
theorem dX8_fault_28 : decode cX8_fault 28 = .ok (.getfield 49, 3) := by decide +kernel
theorem dX8_fault_31 : decode cX8_fault 31 = .ok (.aload_n 0, 1) := by decide +kernel
theorem dX8_fault_32 : decode cX8_fault 32 = .ok (.getfield 17, 3) := by decide +kernel
theorem dX8_fault_35 : decode cX8_fault 35 = .ok (.iload_n 1, 1) := by decide +kernel
theorem dX8_fault_36 : decode cX8_fault 36 = .ok (.aaload, 1) := by decide +kernel
theorem dX8_fault_37 : decode cX8_fault 37 = .ok (.invokevirtual 116, 3) := by decide +kernel
theorem dX8_fault_40 : decode cX8_fault 40 = .ok (.ireturn, 1) := by decide +kernel
theorem dX8_document_0 : decode cX8_document 0 = .ok (.iload_n 1, 1) := by decide +kernel
theorem dX8_document_1 : decode cX8_document 1 = .ok (.invokestatic 120, 3) := by decide +kernel
theorem dX8_document_4 : decode cX8_document 4 = .ok (.ifCond .ne 10, 3) := by decide +kernel
theorem dX8_document_7 : decode cX8_document 7 = .ok (.iload_n 2, 1) := by decide +kernel
theorem dX8_document_8 : decode cX8_document 8 = .ok (.invokestatic 107, 3) := by decide +kernel
theorem dX8_document_11 : decode cX8_document 11 = .ok (.ifCond .eq 5, 3) := by decide +kernel
theorem dX8_document_14 : decode cX8_document 14 = .ok (.iconst (-1), 1) := by decide +kernel
theorem dX8_document_15 : decode cX8_document 15 = .ok (.ireturn, 1) := by decide +kernel
theorem dX8_document_16 : decode cX8_document 16 = .ok (.aload_n 0, 1) := by decide +kernel
theorem dX8_document_17 : decode cX8_document 17 = .ok (.getfield 17, 3) := by decide +kernel
theorem dX8_document_20 : decode cX8_document 20 = .ok (.iload_n 2, 1) := by decide +kernel
theorem dX8_document_21 : decode cX8_document 21 = .ok (.aaload, 1) := by decide +kernel
theorem dX8_document_22 : decode cX8_document 22 = .ok (.getfield 111, 3) := by decide +kernel
theorem dX8_document_25 : decode cX8_document 25 = .ok (.ifCond .ge 9, 3) := by decide +kernel
theorem dX8_document_28 : decode cX8_document 28 = .ok (.aload_n 0, 1) := by decide +kernel
theorem dX8_document_29 : decode cX8_document 29 = .ok (.iconst 1, 1) := by decide +kernel
theorem dX8_document_30 : decode cX8_document 30 = .ok (.invokevirtual 77, 3) := by decide +kernel
theorem dX8_document_33 : decode cX8_document 33 = .ok (.ireturn, 1) := by decide +kernel
theorem dX8_document_34 : decode cX8_document 34 = .ok (.aload_n 0, 1) := by decide +kernel
theorem dX8_document_35 : decode cX8_document 35 = .ok (.getfield 49, 3) := by decide +kernel
theorem dX8_document_38 : decode cX8_document 38 = .ok (.aload_n 0, 1) := by decide +kernel
theorem dX8_document_39 : decode cX8_document 39 = .ok (.getfield 17, 3) := by decide +kernel
theorem dX8_document_42 : decode cX8_document 42 = .ok (.iload_n 2, 1) := by decide +kernel
theorem dX8_document_43 : decode cX8_document 43 = .ok (.aaload, 1) := by decide +kernel
theorem dX8_document_44 : decode cX8_document 44 = .ok (.invokevirtual 116, 3) := by decide +kernel
theorem dX8_document_47 : decode cX8_document 47 = .ok (.bipush (-9), 2) := by decide +kernel
theorem dX8_document_49 : decode cX8_document 49 = .ok (.if_icmp .eq 6, 3) := by decide +kernel
theorem dX8_document_52 : decode cX8_document 52 = .ok (.bipush (-4), 2) := by decide +kernel
theorem dX8_document_54 : decode cX8_document 54 = .ok (.ireturn, 1) := by decide +kernel
theorem dX8_document_55 : decode cX8_document 55 = .ok (.aload_n 0, 1) := by decide +kernel
theorem dX8_document_56 : decode cX8_document 56 = .ok (.getfield 32, 3) := by decide +kernel
theorem dX8_document_59 : decode cX8_document 59 = .ok (.iload_n 1, 1) := by decide +kernel
theorem dX8_document_60 : decode cX8_document 60 = .ok (.invokevirtual 123, 3) := by decide +kernel
theorem dX8_document_63 : decode cX8_document 63 = .ok (.aload_n 0, 1) := by decide +kernel
theorem dX8_document_64 : decode cX8_document 64 = .ok (.getfield 49, 3) := by decide +kernel
theorem dX8_document_67 : decode cX8_document 67 = .ok (.getfield 129, 3) := by decide +kernel
theorem dX8_document_70 : decode cX8_document 70 = .ok (.invokevirtual 131, 3) := by decide +kernel
theorem dX8_document_73 : decode cX8_document 73 = .ok (.aload_n 0, 1) := by decide +kernel
theorem dX8_document_74 : decode cX8_document 74 = .ok (.getfield 24, 3) := by decide +kernel
theorem dX8_document_77 : decode cX8_document 77 = .ok (.iconst 1, 1) := by decide +kernel
theorem dX8_document_78 : decode cX8_document 78 = .ok (.putfield 135, 3) := by decide +kernel
theorem dX8_document_81 : decode cX8_document 81 = .ok (.aload_n 0, 1) := by decide +kernel
theorem dX8_document_82 : decode cX8_document 82 = .ok (.getfield 38, 3) := by decide +kernel
theorem dX8_document_85 : decode cX8_document 85 = .ok (.iconst 0, 1) := by decide +kernel
theorem dX8_document_86 : decode cX8_document 86 = .ok (.putfield 139, 3) := by decide +kernel
theorem dX8_document_89 : decode cX8_document 89 = .ok (.iconst 0, 1) := by decide +kernel
theorem dX8_document_90 : decode cX8_document 90 = .ok (.istore_n 3, 1) := by decide +kernel
theorem dX8_document_91 : decode cX8_document 91 = .ok (.iload_n 3, 1) := by decide +kernel
theorem dX8_document_92 : decode cX8_document 92 = .ok (.iconst 3, 1) := by decide +kernel
theorem dX8_document_93 : decode cX8_document 93 = .ok (.if_icmp .ge 19, 3) := by decide +kernel
theorem dX8_document_96 : decode cX8_document 96 = .ok (.aload_n 0, 1) := by decide +kernel
theorem dX8_document_97 : decode cX8_document 97 = .ok (.getfield 42, 3) := by decide +kernel
theorem dX8_document_100 : decode cX8_document 100 = .ok (.iload_n 3, 1) := by decide +kernel
theorem dX8_document_101 : decode cX8_document 101 = .ok (.aaload, 1) := by decide +kernel
theorem dX8_document_102 : decode cX8_document 102 = .ok (.iconst (-1), 1) := by decide +kernel
theorem dX8_document_103 : decode cX8_document 103 = .ok (.putfield 139, 3) := by decide +kernel
theorem dX8_document_106 : decode cX8_document 106 = .ok (.iinc 3 1, 3) := by decide +kernel
theorem dX8_document_109 : decode cX8_document 109 = .ok (.goto (-18), 3) := by decide +kernel
theorem dX8_document_112 : decode cX8_document 112 = .ok (.aload_n 0, 1) := by decide +kernel
theorem dX8_document_113 : decode cX8_document 113 = .ok (.getfield 32, 3) := by decide +kernel
theorem dX8_document_116 : decode cX8_document 116 = .ok (.iload_n 1, 1) := by decide +kernel
theorem dX8_document_117 : decode cX8_document 117 = .ok (.invokevirtual 123, 3) := by decide +kernel
theorem dX8_document_120 : decode cX8_document 120 = .ok (.getfield 142, 3) := by decide +kernel
theorem dX8_document_123 : decode cX8_document 123 = .ok (.ireturn, 1) := by decide +kernel
theorem dX8_write_0 : decode cX8_write 0 = .ok (.iload_n 1, 1) := by decide +kernel
theorem dX8_write_1 : decode cX8_write 1 = .ok (.invokestatic 120, 3) := by decide +kernel
theorem dX8_write_4 : decode cX8_write 4 = .ok (.ifCond .ne 10, 3) := by decide +kernel
theorem dX8_write_7 : decode cX8_write 7 = .ok (.iload_n 2, 1) := by decide +kernel
theorem dX8_write_8 : decode cX8_write 8 = .ok (.invokestatic 107, 3) := by decide +kernel
theorem dX8_write_11 : decode cX8_write 11 = .ok (.ifCond .eq 5, 3) := by decide +kernel
theorem dX8_write_14 : decode cX8_write 14 = .ok (.iconst (-1), 1) := by decide +kernel
theorem dX8_write_15 : decode cX8_write 15 = .ok (.ireturn, 1) := by decide +kernel
theorem dX8_write_16 : decode cX8_write 16 = .ok (.aload_n 0, 1) := by decide +kernel
theorem dX8_write_17 : decode cX8_write 17 = .ok (.getfield 32, 3) := by decide +kernel
theorem dX8_write_20 : decode cX8_write 20 = .ok (.iload_n 1, 1) := by decide +kernel
theorem dX8_write_21 : decode cX8_write 21 = .ok (.invokevirtual 123, 3) := by decide +kernel
theorem dX8_write_24 : decode cX8_write 24 = .ok (.getfield 142, 3) := by decide +kernel
theorem dX8_write_27 : decode cX8_write 27 = .ok (.ifCond .ne 6, 3) := by decide +kernel
theorem dX8_write_30 : decode cX8_write 30 = .ok (.bipush (-4), 2) := by decide +kernel
theorem dX8_write_32 : decode cX8_write 32 = .ok (.ireturn, 1) := by decide +kernel
theorem dX8_write_33 : decode cX8_write 33 = .ok (.aload_n 0, 1) := by decide +kernel
theorem dX8_write_34 : decode cX8_write 34 = .ok (.getfield 17, 3) := by decide +kernel
theorem dX8_write_37 : decode cX8_write 37 = .ok (.iload_n 2, 1) := by decide +kernel
theorem dX8_write_38 : decode cX8_write 38 = .ok (.aaload, 1) := by decide +kernel
theorem dX8_write_39 : decode cX8_write 39 = .ok (.aload_n 0, 1) := by decide +kernel
theorem dX8_write_40 : decode cX8_write 40 = .ok (.getfield 32, 3) := by decide +kernel
theorem dX8_write_43 : decode cX8_write 43 = .ok (.iload_n 1, 1) := by decide +kernel
theorem dX8_write_44 : decode cX8_write 44 = .ok (.invokevirtual 123, 3) := by decide +kernel
theorem dX8_write_47 : decode cX8_write 47 = .ok (.invokevirtual 145, 3) := by decide +kernel
theorem dX8_write_50 : decode cX8_write 50 = .ok (.ireturn, 1) := by decide +kernel
theorem dX8_node_0 : decode cX8_node 0 = .ok (.aload_n 0, 1) := by decide +kernel
theorem dX8_node_1 : decode cX8_node 1 = .ok (.iload_n 1, 1) := by decide +kernel
theorem dX8_node_2 : decode cX8_node 2 = .ok (.iload_n 2, 1) := by decide +kernel
theorem dX8_node_3 : decode cX8_node 3 = .ok (.invokevirtual 149, 3) := by decide +kernel
theorem dX8_node_6 : decode cX8_node 6 = .ok (.ifCond .ne 13, 3) := by decide +kernel
theorem dX8_node_9 : decode cX8_node 9 = .ok (.iload_n 3, 1) := by decide +kernel
theorem dX8_node_10 : decode cX8_node 10 = .ok (.ifCond .lt 9, 3) := by decide +kernel
theorem dX8_node_13 : decode cX8_node 13 = .ok (.iload_n 3, 1) := by decide +kernel
theorem dX8_node_14 : decode cX8_node 14 = .ok (.bipush 8, 2) := by decide +kernel
theorem dX8_node_16 : decode cX8_node 16 = .ok (.if_icmp .le 5, 3) := by decide +kernel
theorem dX8_node_19 : decode cX8_node 19 = .ok (.iconst (-1), 1) := by decide +kernel
theorem dX8_node_20 : decode cX8_node 20 = .ok (.ireturn, 1) := by decide +kernel
theorem dX8_node_21 : decode cX8_node 21 = .ok (.aload_n 0, 1) := by decide +kernel
theorem dX8_node_22 : decode cX8_node 22 = .ok (.aload_n 0, 1) := by decide +kernel
theorem dX8_node_23 : decode cX8_node 23 = .ok (.aload_n 0, 1) := by decide +kernel
theorem dX8_node_24 : decode cX8_node 24 = .ok (.getfield 32, 3) := by decide +kernel
theorem dX8_node_27 : decode cX8_node 27 = .ok (.iload_n 1, 1) := by decide +kernel
theorem dX8_node_28 : decode cX8_node 28 = .ok (.invokevirtual 123, 3) := by decide +kernel
theorem dX8_node_31 : decode cX8_node 31 = .ok (.iload_n 2, 1) := by decide +kernel
theorem dX8_node_32 : decode cX8_node 32 = .ok (.iload_n 3, 1) := by decide +kernel
theorem dX8_node_33 : decode cX8_node 33 = .ok (.invokevirtual 152, 3) := by decide +kernel
theorem dX8_node_36 : decode cX8_node 36 = .ok (.invokevirtual 90, 3) := by decide +kernel
theorem dX8_node_39 : decode cX8_node 39 = .ok (.ireturn, 1) := by decide +kernel
theorem dX8_mark_0 : decode cX8_mark 0 = .ok (.aload_n 0, 1) := by decide +kernel
theorem dX8_mark_1 : decode cX8_mark 1 = .ok (.iload_n 1, 1) := by decide +kernel
theorem dX8_mark_2 : decode cX8_mark 2 = .ok (.iload_n 2, 1) := by decide +kernel
theorem dX8_mark_3 : decode cX8_mark 3 = .ok (.invokevirtual 149, 3) := by decide +kernel
theorem dX8_mark_6 : decode cX8_mark 6 = .ok (.ifCond .ne 13, 3) := by decide +kernel
theorem dX8_mark_9 : decode cX8_mark 9 = .ok (.iload_n 3, 1) := by decide +kernel
theorem dX8_mark_10 : decode cX8_mark 10 = .ok (.iconst 1, 1) := by decide +kernel
theorem dX8_mark_11 : decode cX8_mark 11 = .ok (.if_icmp .lt 8, 3) := by decide +kernel
theorem dX8_mark_14 : decode cX8_mark 14 = .ok (.iload_n 3, 1) := by decide +kernel
theorem dX8_mark_15 : decode cX8_mark 15 = .ok (.iconst 4, 1) := by decide +kernel
theorem dX8_mark_16 : decode cX8_mark 16 = .ok (.if_icmp .le 5, 3) := by decide +kernel
theorem dX8_mark_19 : decode cX8_mark 19 = .ok (.iconst (-1), 1) := by decide +kernel
theorem dX8_mark_20 : decode cX8_mark 20 = .ok (.ireturn, 1) := by decide +kernel
theorem dX8_mark_21 : decode cX8_mark 21 = .ok (.aload_n 0, 1) := by decide +kernel
theorem dX8_mark_22 : decode cX8_mark 22 = .ok (.getfield 32, 3) := by decide +kernel
theorem dX8_mark_25 : decode cX8_mark 25 = .ok (.iload_n 1, 1) := by decide +kernel
theorem dX8_mark_26 : decode cX8_mark 26 = .ok (.invokevirtual 123, 3) := by decide +kernel
theorem dX8_mark_29 : decode cX8_mark 29 = .ok (.astore 4, 2) := by decide +kernel
theorem dX8_mark_31 : decode cX8_mark 31 = .ok (.aload 4, 2) := by decide +kernel
theorem dX8_mark_33 : decode cX8_mark 33 = .ok (.getfield 156, 3) := by decide +kernel
theorem dX8_mark_36 : decode cX8_mark 36 = .ok (.iload_n 2, 1) := by decide +kernel
theorem dX8_mark_37 : decode cX8_mark 37 = .ok (.iaload, 1) := by decide +kernel
theorem dX8_mark_38 : decode cX8_mark 38 = .ok (.invokestatic 159, 3) := by decide +kernel
theorem dX8_mark_41 : decode cX8_mark 41 = .ok (.iload_n 3, 1) := by decide +kernel
theorem dX8_mark_42 : decode cX8_mark 42 = .ok (.invokestatic 162, 3) := by decide +kernel
theorem dX8_mark_45 : decode cX8_mark 45 = .ok (.ifCond .ne 9, 3) := by decide +kernel
theorem dX8_mark_48 : decode cX8_mark 48 = .ok (.aload_n 0, 1) := by decide +kernel
theorem dX8_mark_49 : decode cX8_mark 49 = .ok (.iconst 3, 1) := by decide +kernel
theorem dX8_mark_50 : decode cX8_mark 50 = .ok (.invokevirtual 77, 3) := by decide +kernel
theorem dX8_mark_53 : decode cX8_mark 53 = .ok (.ireturn, 1) := by decide +kernel
theorem dX8_mark_54 : decode cX8_mark 54 = .ok (.iload_n 3, 1) := by decide +kernel
theorem dX8_mark_55 : decode cX8_mark 55 = .ok (.tableswitch 72 1 3 #[25, 36, 61], 25) := by decide +kernel
theorem dX8_mark_80 : decode cX8_mark 80 = .ok (.aload_n 0, 1) := by decide +kernel
theorem dX8_mark_81 : decode cX8_mark 81 = .ok (.aload 4, 2) := by decide +kernel
theorem dX8_mark_83 : decode cX8_mark 83 = .ok (.iload_n 2, 1) := by decide +kernel
theorem dX8_mark_84 : decode cX8_mark 84 = .ok (.invokevirtual 165, 3) := by decide +kernel
theorem dX8_mark_87 : decode cX8_mark 87 = .ok (.invokevirtual 90, 3) := by decide +kernel
theorem dX8_mark_90 : decode cX8_mark 90 = .ok (.ireturn, 1) := by decide +kernel
theorem dX8_mark_91 : decode cX8_mark 91 = .ok (.aload_n 0, 1) := by decide +kernel
theorem dX8_mark_92 : decode cX8_mark 92 = .ok (.aload_n 0, 1) := by decide +kernel
theorem dX8_mark_93 : decode cX8_mark 93 = .ok (.getfield 32, 3) := by decide +kernel
theorem dX8_mark_96 : decode cX8_mark 96 = .ok (.iconst 1, 1) := by decide +kernel
theorem dX8_mark_97 : decode cX8_mark 97 = .ok (.iload_n 1, 1) := by decide +kernel
theorem dX8_mark_98 : decode cX8_mark 98 = .ok (.isub, 1) := by decide +kernel
theorem dX8_mark_99 : decode cX8_mark 99 = .ok (.invokevirtual 123, 3) := by decide +kernel
theorem dX8_mark_102 : decode cX8_mark 102 = .ok (.aload 4, 2) := by decide +kernel
theorem dX8_mark_104 : decode cX8_mark 104 = .ok (.getfield 156, 3) := by decide +kernel
theorem dX8_mark_107 : decode cX8_mark 107 = .ok (.iload_n 2, 1) := by decide +kernel
theorem dX8_mark_108 : decode cX8_mark 108 = .ok (.iaload, 1) := by decide +kernel
theorem dX8_mark_109 : decode cX8_mark 109 = .ok (.invokevirtual 168, 3) := by decide +kernel
theorem dX8_mark_112 : decode cX8_mark 112 = .ok (.invokevirtual 90, 3) := by decide +kernel
theorem dX8_mark_115 : decode cX8_mark 115 = .ok (.ireturn, 1) := by decide +kernel
theorem dX8_mark_116 : decode cX8_mark 116 = .ok (.aload_n 0, 1) := by decide +kernel
theorem dX8_mark_117 : decode cX8_mark 117 = .ok (.aload 4, 2) := by decide +kernel
theorem dX8_mark_119 : decode cX8_mark 119 = .ok (.iload_n 2, 1) := by decide +kernel
theorem dX8_mark_120 : decode cX8_mark 120 = .ok (.invokevirtual 171, 3) := by decide +kernel
theorem dX8_mark_123 : decode cX8_mark 123 = .ok (.invokevirtual 90, 3) := by decide +kernel
theorem dX8_mark_126 : decode cX8_mark 126 = .ok (.ireturn, 1) := by decide +kernel
theorem dX8_mark_127 : decode cX8_mark 127 = .ok (.aload_n 0, 1) := by decide +kernel
theorem dX8_mark_128 : decode cX8_mark 128 = .ok (.aload 4, 2) := by decide +kernel
theorem dX8_mark_130 : decode cX8_mark 130 = .ok (.getfield 142, 3) := by decide +kernel
theorem dX8_mark_133 : decode cX8_mark 133 = .ok (.iconst 1, 1) := by decide +kernel
theorem dX8_mark_134 : decode cX8_mark 134 = .ok (.isub, 1) := by decide +kernel
theorem dX8_mark_135 : decode cX8_mark 135 = .ok (.iload_n 2, 1) := by decide +kernel
theorem dX8_mark_136 : decode cX8_mark 136 = .ok (.isub, 1) := by decide +kernel
theorem dX8_mark_137 : decode cX8_mark 137 = .ok (.invokevirtual 90, 3) := by decide +kernel
theorem dX8_mark_140 : decode cX8_mark 140 = .ok (.ireturn, 1) := by decide +kernel
theorem dX8_least_0 : decode cX8_least 0 = .ok (.aload_n 0, 1) := by decide +kernel
theorem dX8_least_1 : decode cX8_least 1 = .ok (.getfield 32, 3) := by decide +kernel
theorem dX8_least_4 : decode cX8_least 4 = .ok (.invokevirtual 174, 3) := by decide +kernel
theorem dX8_least_7 : decode cX8_least 7 = .ok (.ifCond .ne 6, 3) := by decide +kernel
theorem dX8_least_10 : decode cX8_least 10 = .ok (.bipush (-4), 2) := by decide +kernel
theorem dX8_least_12 : decode cX8_least 12 = .ok (.ireturn, 1) := by decide +kernel
theorem dX8_least_13 : decode cX8_least 13 = .ok (.aload_n 0, 1) := by decide +kernel
theorem dX8_least_14 : decode cX8_least 14 = .ok (.getfield 24, 3) := by decide +kernel
theorem dX8_least_17 : decode cX8_least 17 = .ok (.invokevirtual 178, 3) := by decide +kernel
theorem dX8_least_20 : decode cX8_least 20 = .ok (.aload_n 0, 1) := by decide +kernel
theorem dX8_least_21 : decode cX8_least 21 = .ok (.getfield 24, 3) := by decide +kernel
theorem dX8_least_24 : decode cX8_least 24 = .ok (.invokevirtual 181, 3) := by decide +kernel
theorem dX8_least_27 : decode cX8_least 27 = .ok (.ireturn, 1) := by decide +kernel
theorem dX8_cost_0 : decode cX8_cost 0 = .ok (.aload_n 0, 1) := by decide +kernel
theorem dX8_cost_1 : decode cX8_cost 1 = .ok (.iconst 0, 1) := by decide +kernel
theorem dX8_cost_2 : decode cX8_cost 2 = .ok (.iload_n 1, 1) := by decide +kernel
theorem dX8_cost_3 : decode cX8_cost 3 = .ok (.invokevirtual 149, 3) := by decide +kernel
theorem dX8_cost_6 : decode cX8_cost 6 = .ok (.ifCond .ne 12, 3) := by decide +kernel
theorem dX8_cost_9 : decode cX8_cost 9 = .ok (.aload_n 0, 1) := by decide +kernel
theorem dX8_cost_10 : decode cX8_cost 10 = .ok (.iconst 1, 1) := by decide +kernel
theorem dX8_cost_11 : decode cX8_cost 11 = .ok (.iload_n 2, 1) := by decide +kernel
theorem dX8_cost_12 : decode cX8_cost 12 = .ok (.invokevirtual 149, 3) := by decide +kernel
theorem dX8_cost_15 : decode cX8_cost 15 = .ok (.ifCond .eq 5, 3) := by decide +kernel
theorem dX8_cost_18 : decode cX8_cost 18 = .ok (.iconst (-1), 1) := by decide +kernel
theorem dX8_cost_19 : decode cX8_cost 19 = .ok (.ireturn, 1) := by decide +kernel
theorem dX8_cost_20 : decode cX8_cost 20 = .ok (.aload_n 0, 1) := by decide +kernel
theorem dX8_cost_21 : decode cX8_cost 21 = .ok (.getfield 24, 3) := by decide +kernel
theorem dX8_cost_24 : decode cX8_cost 24 = .ok (.invokevirtual 178, 3) := by decide +kernel
theorem dX8_cost_27 : decode cX8_cost 27 = .ok (.aload_n 0, 1) := by decide +kernel
theorem dX8_cost_28 : decode cX8_cost 28 = .ok (.aload_n 0, 1) := by decide +kernel
theorem dX8_cost_29 : decode cX8_cost 29 = .ok (.getfield 24, 3) := by decide +kernel
theorem dX8_cost_32 : decode cX8_cost 32 = .ok (.getfield 185, 3) := by decide +kernel
theorem dX8_cost_35 : decode cX8_cost 35 = .ok (.iload_n 1, 1) := by decide +kernel
theorem dX8_cost_36 : decode cX8_cost 36 = .ok (.aaload, 1) := by decide +kernel
theorem dX8_cost_37 : decode cX8_cost 37 = .ok (.iload_n 2, 1) := by decide +kernel
theorem dX8_cost_38 : decode cX8_cost 38 = .ok (.iaload, 1) := by decide +kernel
theorem dX8_cost_39 : decode cX8_cost 39 = .ok (.putfield 68, 3) := by decide +kernel
theorem dX8_cost_42 : decode cX8_cost 42 = .ok (.aload_n 0, 1) := by decide +kernel
theorem dX8_cost_43 : decode cX8_cost 43 = .ok (.getfield 24, 3) := by decide +kernel
theorem dX8_cost_46 : decode cX8_cost 46 = .ok (.getfield 189, 3) := by decide +kernel
theorem dX8_cost_49 : decode cX8_cost 49 = .ok (.iload_n 1, 1) := by decide +kernel
theorem dX8_cost_50 : decode cX8_cost 50 = .ok (.aaload, 1) := by decide +kernel
theorem dX8_cost_51 : decode cX8_cost 51 = .ok (.iload_n 2, 1) := by decide +kernel
theorem dX8_cost_52 : decode cX8_cost 52 = .ok (.iaload, 1) := by decide +kernel
theorem dX8_cost_53 : decode cX8_cost 53 = .ok (.ireturn, 1) := by decide +kernel
theorem dX8_partner_0 : decode cX8_partner 0 = .ok (.aload_n 0, 1) := by decide +kernel
theorem dX8_partner_1 : decode cX8_partner 1 = .ok (.iload_n 1, 1) := by decide +kernel
theorem dX8_partner_2 : decode cX8_partner 2 = .ok (.iload_n 2, 1) := by decide +kernel
theorem dX8_partner_3 : decode cX8_partner 3 = .ok (.invokevirtual 149, 3) := by decide +kernel
theorem dX8_partner_6 : decode cX8_partner 6 = .ok (.ifCond .eq 5, 3) := by decide +kernel
theorem dX8_partner_9 : decode cX8_partner 9 = .ok (.iconst (-1), 1) := by decide +kernel
theorem dX8_partner_10 : decode cX8_partner 10 = .ok (.ireturn, 1) := by decide +kernel
theorem dX8_partner_11 : decode cX8_partner 11 = .ok (.aload_n 0, 1) := by decide +kernel
theorem dX8_partner_12 : decode cX8_partner 12 = .ok (.getfield 32, 3) := by decide +kernel
theorem dX8_partner_15 : decode cX8_partner 15 = .ok (.invokevirtual 174, 3) := by decide +kernel
theorem dX8_partner_18 : decode cX8_partner 18 = .ok (.ifCond .ne 6, 3) := by decide +kernel
theorem dX8_partner_21 : decode cX8_partner 21 = .ok (.bipush (-4), 2) := by decide +kernel
theorem dX8_partner_23 : decode cX8_partner 23 = .ok (.ireturn, 1) := by decide +kernel
theorem dX8_partner_24 : decode cX8_partner 24 = .ok (.aload_n 0, 1) := by decide +kernel
theorem dX8_partner_25 : decode cX8_partner 25 = .ok (.getfield 24, 3) := by decide +kernel
theorem dX8_partner_28 : decode cX8_partner 28 = .ok (.invokevirtual 178, 3) := by decide +kernel
theorem dX8_partner_31 : decode cX8_partner 31 = .ok (.aload_n 0, 1) := by decide +kernel
theorem dX8_partner_32 : decode cX8_partner 32 = .ok (.getfield 24, 3) := by decide +kernel
theorem dX8_partner_35 : decode cX8_partner 35 = .ok (.iload_n 1, 1) := by decide +kernel
theorem dX8_partner_36 : decode cX8_partner 36 = .ok (.iload_n 2, 1) := by decide +kernel
theorem dX8_partner_37 : decode cX8_partner 37 = .ok (.invokevirtual 192, 3) := by decide +kernel
theorem dX8_partner_40 : decode cX8_partner 40 = .ok (.ireturn, 1) := by decide +kernel
theorem dX8_step_0 : decode cX8_step 0 = .ok (.iload_n 1, 1) := by decide +kernel
theorem dX8_step_1 : decode cX8_step 1 = .ok (.ifCond .lt 12, 3) := by decide +kernel
theorem dX8_step_4 : decode cX8_step 4 = .ok (.iload_n 2, 1) := by decide +kernel
theorem dX8_step_5 : decode cX8_step 5 = .ok (.ifCond .lt 8, 3) := by decide +kernel
theorem dX8_step_8 : decode cX8_step 8 = .ok (.iload_n 2, 1) := by decide +kernel
theorem dX8_step_9 : decode cX8_step 9 = .ok (.iconst 2, 1) := by decide +kernel
theorem dX8_step_10 : decode cX8_step 10 = .ok (.if_icmp .le 5, 3) := by decide +kernel
theorem dX8_step_13 : decode cX8_step 13 = .ok (.iconst (-1), 1) := by decide +kernel
theorem dX8_step_14 : decode cX8_step 14 = .ok (.ireturn, 1) := by decide +kernel
theorem dX8_step_15 : decode cX8_step 15 = .ok (.aload_n 0, 1) := by decide +kernel
theorem dX8_step_16 : decode cX8_step 16 = .ok (.getfield 32, 3) := by decide +kernel
theorem dX8_step_19 : decode cX8_step 19 = .ok (.invokevirtual 174, 3) := by decide +kernel
theorem dX8_step_22 : decode cX8_step 22 = .ok (.ifCond .ne 6, 3) := by decide +kernel
theorem dX8_step_25 : decode cX8_step 25 = .ok (.bipush (-4), 2) := by decide +kernel
theorem dX8_step_27 : decode cX8_step 27 = .ok (.ireturn, 1) := by decide +kernel
theorem dX8_step_28 : decode cX8_step 28 = .ok (.aload_n 0, 1) := by decide +kernel
theorem dX8_step_29 : decode cX8_step 29 = .ok (.getfield 24, 3) := by decide +kernel
theorem dX8_step_32 : decode cX8_step 32 = .ok (.invokevirtual 178, 3) := by decide +kernel
theorem dX8_step_35 : decode cX8_step 35 = .ok (.aload_n 0, 1) := by decide +kernel
theorem dX8_step_36 : decode cX8_step 36 = .ok (.getfield 24, 3) := by decide +kernel
theorem dX8_step_39 : decode cX8_step 39 = .ok (.getfield 196, 3) := by decide +kernel
theorem dX8_step_42 : decode cX8_step 42 = .ok (.astore_n 3, 1) := by decide +kernel
theorem dX8_step_43 : decode cX8_step 43 = .ok (.iload_n 1, 1) := by decide +kernel
theorem dX8_step_44 : decode cX8_step 44 = .ok (.aload_n 3, 1) := by decide +kernel
theorem dX8_step_45 : decode cX8_step 45 = .ok (.getfield 200, 3) := by decide +kernel
theorem dX8_step_48 : decode cX8_step 48 = .ok (.if_icmp .lt 6, 3) := by decide +kernel
theorem dX8_step_51 : decode cX8_step 51 = .ok (.bipush (-9), 2) := by decide +kernel
theorem dX8_step_53 : decode cX8_step 53 = .ok (.ireturn, 1) := by decide +kernel
theorem dX8_step_54 : decode cX8_step 54 = .ok (.iload_n 2, 1) := by decide +kernel
theorem dX8_step_55 : decode cX8_step 55 = .ok (.lookupswitch 47 #[(0, 25), (1, 36)], 25) := by decide +kernel
theorem dX8_step_80 : decode cX8_step 80 = .ok (.aload_n 0, 1) := by decide +kernel
theorem dX8_step_81 : decode cX8_step 81 = .ok (.aload_n 3, 1) := by decide +kernel
theorem dX8_step_82 : decode cX8_step 82 = .ok (.getfield 203, 3) := by decide +kernel
theorem dX8_step_85 : decode cX8_step 85 = .ok (.iload_n 1, 1) := by decide +kernel
theorem dX8_step_86 : decode cX8_step 86 = .ok (.iaload, 1) := by decide +kernel
theorem dX8_step_87 : decode cX8_step 87 = .ok (.invokevirtual 90, 3) := by decide +kernel
theorem dX8_step_90 : decode cX8_step 90 = .ok (.ireturn, 1) := by decide +kernel
theorem dX8_step_91 : decode cX8_step 91 = .ok (.aload_n 0, 1) := by decide +kernel
theorem dX8_step_92 : decode cX8_step 92 = .ok (.aload_n 3, 1) := by decide +kernel
theorem dX8_step_93 : decode cX8_step 93 = .ok (.getfield 206, 3) := by decide +kernel
theorem dX8_step_96 : decode cX8_step 96 = .ok (.iload_n 1, 1) := by decide +kernel
theorem dX8_step_97 : decode cX8_step 97 = .ok (.iaload, 1) := by decide +kernel
theorem dX8_step_98 : decode cX8_step 98 = .ok (.invokevirtual 90, 3) := by decide +kernel
theorem dX8_step_101 : decode cX8_step 101 = .ok (.ireturn, 1) := by decide +kernel
theorem dX8_step_102 : decode cX8_step 102 = .ok (.aload_n 0, 1) := by decide +kernel
theorem dX8_step_103 : decode cX8_step 103 = .ok (.aload_n 3, 1) := by decide +kernel
theorem dX8_step_104 : decode cX8_step 104 = .ok (.getfield 209, 3) := by decide +kernel
theorem dX8_step_107 : decode cX8_step 107 = .ok (.iload_n 1, 1) := by decide +kernel
theorem dX8_step_108 : decode cX8_step 108 = .ok (.iaload, 1) := by decide +kernel
theorem dX8_step_109 : decode cX8_step 109 = .ok (.invokevirtual 90, 3) := by decide +kernel
theorem dX8_step_112 : decode cX8_step 112 = .ok (.ireturn, 1) := by decide +kernel
theorem dX8_behind_0 : decode cX8_behind 0 = .ok (.iload_n 1, 1) := by decide +kernel
theorem dX8_behind_1 : decode cX8_behind 1 = .ok (.ifCond .lt 10, 3) := by decide +kernel
theorem dX8_behind_4 : decode cX8_behind 4 = .ok (.iload_n 2, 1) := by decide +kernel
theorem dX8_behind_5 : decode cX8_behind 5 = .ok (.invokestatic 107, 3) := by decide +kernel
theorem dX8_behind_8 : decode cX8_behind 8 = .ok (.ifCond .eq 5, 3) := by decide +kernel
theorem dX8_behind_11 : decode cX8_behind 11 = .ok (.iconst (-1), 1) := by decide +kernel
theorem dX8_behind_12 : decode cX8_behind 12 = .ok (.ireturn, 1) := by decide +kernel
theorem dX8_behind_13 : decode cX8_behind 13 = .ok (.aload_n 0, 1) := by decide +kernel
theorem dX8_behind_14 : decode cX8_behind 14 = .ok (.getfield 32, 3) := by decide +kernel
theorem dX8_behind_17 : decode cX8_behind 17 = .ok (.invokevirtual 174, 3) := by decide +kernel
theorem dX8_behind_20 : decode cX8_behind 20 = .ok (.ifCond .ne 6, 3) := by decide +kernel
theorem dX8_behind_23 : decode cX8_behind 23 = .ok (.bipush (-4), 2) := by decide +kernel
theorem dX8_behind_25 : decode cX8_behind 25 = .ok (.ireturn, 1) := by decide +kernel
theorem dX8_behind_26 : decode cX8_behind 26 = .ok (.aload_n 0, 1) := by decide +kernel
theorem dX8_behind_27 : decode cX8_behind 27 = .ok (.getfield 24, 3) := by decide +kernel
theorem dX8_behind_30 : decode cX8_behind 30 = .ok (.invokevirtual 178, 3) := by decide +kernel
theorem dX8_behind_33 : decode cX8_behind 33 = .ok (.iload_n 1, 1) := by decide +kernel
theorem dX8_behind_34 : decode cX8_behind 34 = .ok (.aload_n 0, 1) := by decide +kernel
theorem dX8_behind_35 : decode cX8_behind 35 = .ok (.getfield 24, 3) := by decide +kernel
theorem dX8_behind_38 : decode cX8_behind 38 = .ok (.getfield 196, 3) := by decide +kernel
theorem dX8_behind_41 : decode cX8_behind 41 = .ok (.getfield 200, 3) := by decide +kernel
theorem dX8_behind_44 : decode cX8_behind 44 = .ok (.if_icmp .le 6, 3) := by decide +kernel
theorem dX8_behind_47 : decode cX8_behind 47 = .ok (.bipush (-6), 2) := by decide +kernel
theorem dX8_behind_49 : decode cX8_behind 49 = .ok (.ireturn, 1) := by decide +kernel
theorem dX8_behind_50 : decode cX8_behind 50 = .ok (.aload_n 0, 1) := by decide +kernel
theorem dX8_behind_51 : decode cX8_behind 51 = .ok (.getfield 24, 3) := by decide +kernel
theorem dX8_behind_54 : decode cX8_behind 54 = .ok (.iload_n 1, 1) := by decide +kernel
theorem dX8_behind_55 : decode cX8_behind 55 = .ok (.aload_n 0, 1) := by decide +kernel
theorem dX8_behind_56 : decode cX8_behind 56 = .ok (.getfield 56, 3) := by decide +kernel
theorem dX8_behind_59 : decode cX8_behind 59 = .ok (.invokevirtual 212, 3) := by decide +kernel
theorem dX8_behind_62 : decode cX8_behind 62 = .ok (.aload_n 0, 1) := by decide +kernel
theorem dX8_behind_63 : decode cX8_behind 63 = .ok (.getfield 17, 3) := by decide +kernel
theorem dX8_behind_66 : decode cX8_behind 66 = .ok (.iload_n 2, 1) := by decide +kernel
theorem dX8_behind_67 : decode cX8_behind 67 = .ok (.aaload, 1) := by decide +kernel
theorem dX8_behind_68 : decode cX8_behind 68 = .ok (.aload_n 0, 1) := by decide +kernel
theorem dX8_behind_69 : decode cX8_behind 69 = .ok (.getfield 56, 3) := by decide +kernel
theorem dX8_behind_72 : decode cX8_behind 72 = .ok (.invokevirtual 145, 3) := by decide +kernel
theorem dX8_behind_75 : decode cX8_behind 75 = .ok (.ireturn, 1) := by decide +kernel
theorem dX8_work_0 : decode cX8_work 0 = .ok (.iload_n 1, 1) := by decide +kernel
theorem dX8_work_1 : decode cX8_work 1 = .ok (.ifCond .lt 8, 3) := by decide +kernel
theorem dX8_work_4 : decode cX8_work 4 = .ok (.iload_n 1, 1) := by decide +kernel
theorem dX8_work_5 : decode cX8_work 5 = .ok (.iconst 1, 1) := by decide +kernel
theorem dX8_work_6 : decode cX8_work 6 = .ok (.if_icmp .le 5, 3) := by decide +kernel
theorem dX8_work_9 : decode cX8_work 9 = .ok (.iconst (-1), 1) := by decide +kernel
theorem dX8_work_10 : decode cX8_work 10 = .ok (.ireturn, 1) := by decide +kernel
theorem dX8_work_11 : decode cX8_work 11 = .ok (.aload_n 0, 1) := by decide +kernel
theorem dX8_work_12 : decode cX8_work 12 = .ok (.getfield 32, 3) := by decide +kernel
theorem dX8_work_15 : decode cX8_work 15 = .ok (.invokevirtual 174, 3) := by decide +kernel
theorem dX8_work_18 : decode cX8_work 18 = .ok (.ifCond .ne 6, 3) := by decide +kernel
theorem dX8_work_21 : decode cX8_work 21 = .ok (.bipush (-4), 2) := by decide +kernel
theorem dX8_work_23 : decode cX8_work 23 = .ok (.ireturn, 1) := by decide +kernel
theorem dX8_work_24 : decode cX8_work 24 = .ok (.aload_n 0, 1) := by decide +kernel
theorem dX8_work_25 : decode cX8_work 25 = .ok (.aload_n 0, 1) := by decide +kernel
theorem dX8_work_26 : decode cX8_work 26 = .ok (.getfield 32, 3) := by decide +kernel
theorem dX8_work_29 : decode cX8_work 29 = .ok (.getfield 216, 3) := by decide +kernel
theorem dX8_work_32 : decode cX8_work 32 = .ok (.iload_n 1, 1) := by decide +kernel
theorem dX8_work_33 : decode cX8_work 33 = .ok (.invokevirtual 219, 3) := by decide +kernel
theorem dX8_work_36 : decode cX8_work 36 = .ok (.aload_n 0, 1) := by decide +kernel
theorem dX8_work_37 : decode cX8_work 37 = .ok (.getfield 32, 3) := by decide +kernel
theorem dX8_work_40 : decode cX8_work 40 = .ok (.getfield 222, 3) := by decide +kernel
theorem dX8_work_43 : decode cX8_work 43 = .ok (.iload_n 1, 1) := by decide +kernel
theorem dX8_work_44 : decode cX8_work 44 = .ok (.invokevirtual 219, 3) := by decide +kernel
theorem dX8_work_47 : decode cX8_work 47 = .ok (.imul, 1) := by decide +kernel
theorem dX8_work_48 : decode cX8_work 48 = .ok (.putfield 68, 3) := by decide +kernel
theorem dX8_work_51 : decode cX8_work 51 = .ok (.aload_n 0, 1) := by decide +kernel
theorem dX8_work_52 : decode cX8_work 52 = .ok (.getfield 32, 3) := by decide +kernel
theorem dX8_work_55 : decode cX8_work 55 = .ok (.getfield 216, 3) := by decide +kernel
theorem dX8_work_58 : decode cX8_work 58 = .ok (.iload_n 1, 1) := by decide +kernel
theorem dX8_work_59 : decode cX8_work 59 = .ok (.invokevirtual 225, 3) := by decide +kernel
theorem dX8_work_62 : decode cX8_work 62 = .ok (.aload_n 0, 1) := by decide +kernel
theorem dX8_work_63 : decode cX8_work 63 = .ok (.getfield 32, 3) := by decide +kernel
theorem dX8_work_66 : decode cX8_work 66 = .ok (.getfield 222, 3) := by decide +kernel
theorem dX8_work_69 : decode cX8_work 69 = .ok (.iload_n 1, 1) := by decide +kernel
theorem dX8_work_70 : decode cX8_work 70 = .ok (.invokevirtual 225, 3) := by decide +kernel
theorem dX8_work_73 : decode cX8_work 73 = .ok (.imul, 1) := by decide +kernel
theorem dX8_work_74 : decode cX8_work 74 = .ok (.ireturn, 1) := by decide +kernel
theorem dX8_nearest_0 : decode cX8_nearest 0 = .ok (.aload_n 0, 1) := by decide +kernel
theorem dX8_nearest_1 : decode cX8_nearest 1 = .ok (.iload_n 1, 1) := by decide +kernel
theorem dX8_nearest_2 : decode cX8_nearest 2 = .ok (.iload_n 2, 1) := by decide +kernel
theorem dX8_nearest_3 : decode cX8_nearest 3 = .ok (.invokevirtual 149, 3) := by decide +kernel
theorem dX8_nearest_6 : decode cX8_nearest 6 = .ok (.ifCond .eq 5, 3) := by decide +kernel
theorem dX8_nearest_9 : decode cX8_nearest 9 = .ok (.iconst (-1), 1) := by decide +kernel
theorem dX8_nearest_10 : decode cX8_nearest 10 = .ok (.ireturn, 1) := by decide +kernel
theorem dX8_nearest_11 : decode cX8_nearest 11 = .ok (.aload_n 0, 1) := by decide +kernel
theorem dX8_nearest_12 : decode cX8_nearest 12 = .ok (.getfield 32, 3) := by decide +kernel
