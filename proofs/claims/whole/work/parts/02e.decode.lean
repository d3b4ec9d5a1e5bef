theorem dX8_nearest_15 : decode cX8_nearest 15 = .ok (.invokevirtual 174, 3) := by decide +kernel
theorem dX8_nearest_18 : decode cX8_nearest 18 = .ok (.ifCond .ne 6, 3) := by decide +kernel
theorem dX8_nearest_21 : decode cX8_nearest 21 = .ok (.bipush (-4), 2) := by decide +kernel
theorem dX8_nearest_23 : decode cX8_nearest 23 = .ok (.ireturn, 1) := by decide +kernel
theorem dX8_nearest_24 : decode cX8_nearest 24 = .ok (.aload_n 0, 1) := by decide +kernel
theorem dX8_nearest_25 : decode cX8_nearest 25 = .ok (.getfield 24, 3) := by decide +kernel
theorem dX8_nearest_28 : decode cX8_nearest 28 = .ok (.invokevirtual 178, 3) := by decide +kernel
theorem dX8_nearest_31 : decode cX8_nearest 31 = .ok (.iconst 0, 1) := by decide +kernel
theorem dX8_nearest_32 : decode cX8_nearest 32 = .ok (.istore_n 3, 1) := by decide +kernel
theorem dX8_nearest_33 : decode cX8_nearest 33 = .ok (.iconst 1, 1) := by decide +kernel
theorem dX8_nearest_34 : decode cX8_nearest 34 = .ok (.istore 4, 2) := by decide +kernel
theorem dX8_nearest_36 : decode cX8_nearest 36 = .ok (.iload 4, 2) := by decide +kernel
theorem dX8_nearest_38 : decode cX8_nearest 38 = .ok (.aload_n 0, 1) := by decide +kernel
theorem dX8_nearest_39 : decode cX8_nearest 39 = .ok (.getfield 32, 3) := by decide +kernel
theorem dX8_nearest_42 : decode cX8_nearest 42 = .ok (.iconst 1, 1) := by decide +kernel
theorem dX8_nearest_43 : decode cX8_nearest 43 = .ok (.iload_n 1, 1) := by decide +kernel
theorem dX8_nearest_44 : decode cX8_nearest 44 = .ok (.isub, 1) := by decide +kernel
theorem dX8_nearest_45 : decode cX8_nearest 45 = .ok (.invokevirtual 123, 3) := by decide +kernel
theorem dX8_nearest_48 : decode cX8_nearest 48 = .ok (.getfield 142, 3) := by decide +kernel
theorem dX8_nearest_51 : decode cX8_nearest 51 = .ok (.if_icmp .ge 36, 3) := by decide +kernel
theorem dX8_nearest_54 : decode cX8_nearest 54 = .ok (.aload_n 0, 1) := by decide +kernel
theorem dX8_nearest_55 : decode cX8_nearest 55 = .ok (.getfield 24, 3) := by decide +kernel
theorem dX8_nearest_58 : decode cX8_nearest 58 = .ok (.iload_n 1, 1) := by decide +kernel
theorem dX8_nearest_59 : decode cX8_nearest 59 = .ok (.iload_n 2, 1) := by decide +kernel
theorem dX8_nearest_60 : decode cX8_nearest 60 = .ok (.iload 4, 2) := by decide +kernel
theorem dX8_nearest_62 : decode cX8_nearest 62 = .ok (.invokevirtual 228, 3) := by decide +kernel
theorem dX8_nearest_65 : decode cX8_nearest 65 = .ok (.aload_n 0, 1) := by decide +kernel
theorem dX8_nearest_66 : decode cX8_nearest 66 = .ok (.getfield 24, 3) := by decide +kernel
theorem dX8_nearest_69 : decode cX8_nearest 69 = .ok (.iload_n 1, 1) := by decide +kernel
theorem dX8_nearest_70 : decode cX8_nearest 70 = .ok (.iload_n 2, 1) := by decide +kernel
theorem dX8_nearest_71 : decode cX8_nearest 71 = .ok (.iload_n 3, 1) := by decide +kernel
theorem dX8_nearest_72 : decode cX8_nearest 72 = .ok (.invokevirtual 228, 3) := by decide +kernel
theorem dX8_nearest_75 : decode cX8_nearest 75 = .ok (.if_icmp .ge 6, 3) := by decide +kernel
theorem dX8_nearest_78 : decode cX8_nearest 78 = .ok (.iload 4, 2) := by decide +kernel
theorem dX8_nearest_80 : decode cX8_nearest 80 = .ok (.istore_n 3, 1) := by decide +kernel
theorem dX8_nearest_81 : decode cX8_nearest 81 = .ok (.iinc 4 1, 3) := by decide +kernel
theorem dX8_nearest_84 : decode cX8_nearest 84 = .ok (.goto (-48), 3) := by decide +kernel
theorem dX8_nearest_87 : decode cX8_nearest 87 = .ok (.aload_n 0, 1) := by decide +kernel
theorem dX8_nearest_88 : decode cX8_nearest 88 = .ok (.aload_n 0, 1) := by decide +kernel
theorem dX8_nearest_89 : decode cX8_nearest 89 = .ok (.getfield 24, 3) := by decide +kernel
theorem dX8_nearest_92 : decode cX8_nearest 92 = .ok (.iload_n 1, 1) := by decide +kernel
theorem dX8_nearest_93 : decode cX8_nearest 93 = .ok (.iload_n 2, 1) := by decide +kernel
theorem dX8_nearest_94 : decode cX8_nearest 94 = .ok (.iload_n 3, 1) := by decide +kernel
theorem dX8_nearest_95 : decode cX8_nearest 95 = .ok (.invokevirtual 228, 3) := by decide +kernel
theorem dX8_nearest_98 : decode cX8_nearest 98 = .ok (.putfield 68, 3) := by decide +kernel
theorem dX8_nearest_101 : decode cX8_nearest 101 = .ok (.iload_n 3, 1) := by decide +kernel
theorem dX8_nearest_102 : decode cX8_nearest 102 = .ok (.ireturn, 1) := by decide +kernel
theorem dX8_would_0 : decode cX8_would 0 = .ok (.aload_n 0, 1) := by decide +kernel
theorem dX8_would_1 : decode cX8_would 1 = .ok (.iload_n 1, 1) := by decide +kernel
theorem dX8_would_2 : decode cX8_would 2 = .ok (.iload_n 2, 1) := by decide +kernel
theorem dX8_would_3 : decode cX8_would 3 = .ok (.invokevirtual 149, 3) := by decide +kernel
theorem dX8_would_6 : decode cX8_would 6 = .ok (.ifCond .ne 11, 3) := by decide +kernel
theorem dX8_would_9 : decode cX8_would 9 = .ok (.iload_n 3, 1) := by decide +kernel
theorem dX8_would_10 : decode cX8_would 10 = .ok (.invokestatic 159, 3) := by decide +kernel
theorem dX8_would_13 : decode cX8_would 13 = .ok (.iconst (-1), 1) := by decide +kernel
theorem dX8_would_14 : decode cX8_would 14 = .ok (.if_icmp .ne 5, 3) := by decide +kernel
theorem dX8_would_17 : decode cX8_would 17 = .ok (.iconst (-1), 1) := by decide +kernel
theorem dX8_would_18 : decode cX8_would 18 = .ok (.ireturn, 1) := by decide +kernel
theorem dX8_would_19 : decode cX8_would 19 = .ok (.aload_n 0, 1) := by decide +kernel
theorem dX8_would_20 : decode cX8_would 20 = .ok (.getfield 32, 3) := by decide +kernel
theorem dX8_would_23 : decode cX8_would 23 = .ok (.invokevirtual 174, 3) := by decide +kernel
theorem dX8_would_26 : decode cX8_would 26 = .ok (.ifCond .ne 6, 3) := by decide +kernel
theorem dX8_would_29 : decode cX8_would 29 = .ok (.bipush (-4), 2) := by decide +kernel
theorem dX8_would_31 : decode cX8_would 31 = .ok (.ireturn, 1) := by decide +kernel
theorem dX8_would_32 : decode cX8_would 32 = .ok (.aload_n 0, 1) := by decide +kernel
theorem dX8_would_33 : decode cX8_would 33 = .ok (.getfield 32, 3) := by decide +kernel
theorem dX8_would_36 : decode cX8_would 36 = .ok (.iload_n 1, 1) := by decide +kernel
theorem dX8_would_37 : decode cX8_would 37 = .ok (.invokevirtual 123, 3) := by decide +kernel
theorem dX8_would_40 : decode cX8_would 40 = .ok (.astore 4, 2) := by decide +kernel
theorem dX8_would_42 : decode cX8_would 42 = .ok (.aload 4, 2) := by decide +kernel
theorem dX8_would_44 : decode cX8_would 44 = .ok (.getfield 156, 3) := by decide +kernel
theorem dX8_would_47 : decode cX8_would 47 = .ok (.iload_n 2, 1) := by decide +kernel
theorem dX8_would_48 : decode cX8_would 48 = .ok (.iaload, 1) := by decide +kernel
theorem dX8_would_49 : decode cX8_would 49 = .ok (.istore 5, 2) := by decide +kernel
theorem dX8_would_51 : decode cX8_would 51 = .ok (.aload 4, 2) := by decide +kernel
theorem dX8_would_53 : decode cX8_would 53 = .ok (.getfield 156, 3) := by decide +kernel
theorem dX8_would_56 : decode cX8_would 56 = .ok (.iload_n 2, 1) := by decide +kernel
theorem dX8_would_57 : decode cX8_would 57 = .ok (.iload_n 3, 1) := by decide +kernel
theorem dX8_would_58 : decode cX8_would 58 = .ok (.iastore, 1) := by decide +kernel
theorem dX8_would_59 : decode cX8_would 59 = .ok (.aload_n 0, 1) := by decide +kernel
theorem dX8_would_60 : decode cX8_would 60 = .ok (.getfield 24, 3) := by decide +kernel
theorem dX8_would_63 : decode cX8_would 63 = .ok (.invokevirtual 232, 3) := by decide +kernel
theorem dX8_would_66 : decode cX8_would 66 = .ok (.aload 4, 2) := by decide +kernel
theorem dX8_would_68 : decode cX8_would 68 = .ok (.getfield 156, 3) := by decide +kernel
theorem dX8_would_71 : decode cX8_would 71 = .ok (.iload_n 2, 1) := by decide +kernel
theorem dX8_would_72 : decode cX8_would 72 = .ok (.iload 5, 2) := by decide +kernel
theorem dX8_would_74 : decode cX8_would 74 = .ok (.iastore, 1) := by decide +kernel
theorem dX8_would_75 : decode cX8_would 75 = .ok (.aload_n 0, 1) := by decide +kernel
theorem dX8_would_76 : decode cX8_would 76 = .ok (.getfield 24, 3) := by decide +kernel
theorem dX8_would_79 : decode cX8_would 79 = .ok (.iconst 1, 1) := by decide +kernel
theorem dX8_would_80 : decode cX8_would 80 = .ok (.putfield 135, 3) := by decide +kernel
theorem dX8_would_83 : decode cX8_would 83 = .ok (.aload_n 0, 1) := by decide +kernel
theorem dX8_would_84 : decode cX8_would 84 = .ok (.aload_n 0, 1) := by decide +kernel
theorem dX8_would_85 : decode cX8_would 85 = .ok (.getfield 24, 3) := by decide +kernel
theorem dX8_would_88 : decode cX8_would 88 = .ok (.invokevirtual 181, 3) := by decide +kernel
theorem dX8_would_91 : decode cX8_would 91 = .ok (.invokevirtual 90, 3) := by decide +kernel
theorem dX8_would_94 : decode cX8_would 94 = .ok (.ireturn, 1) := by decide +kernel
theorem dX8_change_0 : decode cX8_change 0 = .ok (.aload_n 0, 1) := by decide +kernel
theorem dX8_change_1 : decode cX8_change 1 = .ok (.iload_n 1, 1) := by decide +kernel
theorem dX8_change_2 : decode cX8_change 2 = .ok (.iload_n 2, 1) := by decide +kernel
theorem dX8_change_3 : decode cX8_change 3 = .ok (.invokevirtual 149, 3) := by decide +kernel
theorem dX8_change_6 : decode cX8_change 6 = .ok (.ifCond .ne 11, 3) := by decide +kernel
theorem dX8_change_9 : decode cX8_change 9 = .ok (.iload_n 3, 1) := by decide +kernel
theorem dX8_change_10 : decode cX8_change 10 = .ok (.invokestatic 159, 3) := by decide +kernel
theorem dX8_change_13 : decode cX8_change 13 = .ok (.iconst (-1), 1) := by decide +kernel
theorem dX8_change_14 : decode cX8_change 14 = .ok (.if_icmp .ne 5, 3) := by decide +kernel
theorem dX8_change_17 : decode cX8_change 17 = .ok (.iconst (-1), 1) := by decide +kernel
theorem dX8_change_18 : decode cX8_change 18 = .ok (.ireturn, 1) := by decide +kernel
theorem dX8_change_19 : decode cX8_change 19 = .ok (.aload_n 0, 1) := by decide +kernel
theorem dX8_change_20 : decode cX8_change 20 = .ok (.getfield 32, 3) := by decide +kernel
theorem dX8_change_23 : decode cX8_change 23 = .ok (.iload_n 1, 1) := by decide +kernel
theorem dX8_change_24 : decode cX8_change 24 = .ok (.invokevirtual 123, 3) := by decide +kernel
theorem dX8_change_27 : decode cX8_change 27 = .ok (.astore 4, 2) := by decide +kernel
theorem dX8_change_29 : decode cX8_change 29 = .ok (.aload 4, 2) := by decide +kernel
theorem dX8_change_31 : decode cX8_change 31 = .ok (.getfield 156, 3) := by decide +kernel
theorem dX8_change_34 : decode cX8_change 34 = .ok (.iload_n 2, 1) := by decide +kernel
theorem dX8_change_35 : decode cX8_change 35 = .ok (.iaload, 1) := by decide +kernel
theorem dX8_change_36 : decode cX8_change 36 = .ok (.istore 5, 2) := by decide +kernel
theorem dX8_change_38 : decode cX8_change 38 = .ok (.iload 5, 2) := by decide +kernel
theorem dX8_change_40 : decode cX8_change 40 = .ok (.iload_n 3, 1) := by decide +kernel
theorem dX8_change_41 : decode cX8_change 41 = .ok (.if_icmp .ne 6, 3) := by decide +kernel
theorem dX8_change_44 : decode cX8_change 44 = .ok (.bipush (-4), 2) := by decide +kernel
theorem dX8_change_46 : decode cX8_change 46 = .ok (.ireturn, 1) := by decide +kernel
theorem dX8_change_47 : decode cX8_change 47 = .ok (.aload_n 0, 1) := by decide +kernel
theorem dX8_change_48 : decode cX8_change 48 = .ok (.getfield 38, 3) := by decide +kernel
theorem dX8_change_51 : decode cX8_change 51 = .ok (.getfield 139, 3) := by decide +kernel
theorem dX8_change_54 : decode cX8_change 54 = .ok (.bipush 40, 2) := by decide +kernel
theorem dX8_change_56 : decode cX8_change 56 = .ok (.if_icmp .lt 6, 3) := by decide +kernel
theorem dX8_change_59 : decode cX8_change 59 = .ok (.bipush (-2), 2) := by decide +kernel
theorem dX8_change_61 : decode cX8_change 61 = .ok (.ireturn, 1) := by decide +kernel
theorem dX8_change_62 : decode cX8_change 62 = .ok (.aload_n 0, 1) := by decide +kernel
theorem dX8_change_63 : decode cX8_change 63 = .ok (.invokevirtual 235, 3) := by decide +kernel
theorem dX8_change_66 : decode cX8_change 66 = .ok (.aload 4, 2) := by decide +kernel
theorem dX8_change_68 : decode cX8_change 68 = .ok (.getfield 156, 3) := by decide +kernel
theorem dX8_change_71 : decode cX8_change 71 = .ok (.iload_n 2, 1) := by decide +kernel
theorem dX8_change_72 : decode cX8_change 72 = .ok (.iload_n 3, 1) := by decide +kernel
theorem dX8_change_73 : decode cX8_change 73 = .ok (.iastore, 1) := by decide +kernel
theorem dX8_change_74 : decode cX8_change 74 = .ok (.iload 5, 2) := by decide +kernel
theorem dX8_change_76 : decode cX8_change 76 = .ok (.ireturn, 1) := by decide +kernel
theorem dX8_cut_0 : decode cX8_cut 0 = .ok (.aload_n 0, 1) := by decide +kernel
theorem dX8_cut_1 : decode cX8_cut 1 = .ok (.iload_n 1, 1) := by decide +kernel
theorem dX8_cut_2 : decode cX8_cut 2 = .ok (.iload_n 2, 1) := by decide +kernel
theorem dX8_cut_3 : decode cX8_cut 3 = .ok (.invokevirtual 149, 3) := by decide +kernel
theorem dX8_cut_6 : decode cX8_cut 6 = .ok (.ifCond .eq 5, 3) := by decide +kernel
theorem dX8_cut_9 : decode cX8_cut 9 = .ok (.iconst (-1), 1) := by decide +kernel
theorem dX8_cut_10 : decode cX8_cut 10 = .ok (.ireturn, 1) := by decide +kernel
theorem dX8_cut_11 : decode cX8_cut 11 = .ok (.aload_n 0, 1) := by decide +kernel
theorem dX8_cut_12 : decode cX8_cut 12 = .ok (.getfield 32, 3) := by decide +kernel
theorem dX8_cut_15 : decode cX8_cut 15 = .ok (.iload_n 1, 1) := by decide +kernel
theorem dX8_cut_16 : decode cX8_cut 16 = .ok (.invokevirtual 123, 3) := by decide +kernel
theorem dX8_cut_19 : decode cX8_cut 19 = .ok (.astore_n 3, 1) := by decide +kernel
theorem dX8_cut_20 : decode cX8_cut 20 = .ok (.aload_n 3, 1) := by decide +kernel
theorem dX8_cut_21 : decode cX8_cut 21 = .ok (.iload_n 2, 1) := by decide +kernel
theorem dX8_cut_22 : decode cX8_cut 22 = .ok (.invokevirtual 238, 3) := by decide +kernel
theorem dX8_cut_25 : decode cX8_cut 25 = .ok (.ifCond .ne 6, 3) := by decide +kernel
theorem dX8_cut_28 : decode cX8_cut 28 = .ok (.bipush (-4), 2) := by decide +kernel
theorem dX8_cut_30 : decode cX8_cut 30 = .ok (.ireturn, 1) := by decide +kernel
theorem dX8_cut_31 : decode cX8_cut 31 = .ok (.aload_n 0, 1) := by decide +kernel
theorem dX8_cut_32 : decode cX8_cut 32 = .ok (.getfield 38, 3) := by decide +kernel
theorem dX8_cut_35 : decode cX8_cut 35 = .ok (.getfield 139, 3) := by decide +kernel
theorem dX8_cut_38 : decode cX8_cut 38 = .ok (.bipush 40, 2) := by decide +kernel
theorem dX8_cut_40 : decode cX8_cut 40 = .ok (.if_icmp .lt 6, 3) := by decide +kernel
theorem dX8_cut_43 : decode cX8_cut 43 = .ok (.bipush (-2), 2) := by decide +kernel
theorem dX8_cut_45 : decode cX8_cut 45 = .ok (.ireturn, 1) := by decide +kernel
theorem dX8_cut_46 : decode cX8_cut 46 = .ok (.aload_n 0, 1) := by decide +kernel
theorem dX8_cut_47 : decode cX8_cut 47 = .ok (.invokevirtual 235, 3) := by decide +kernel
theorem dX8_cut_50 : decode cX8_cut 50 = .ok (.aload_n 3, 1) := by decide +kernel
theorem dX8_cut_51 : decode cX8_cut 51 = .ok (.iload_n 2, 1) := by decide +kernel
theorem dX8_cut_52 : decode cX8_cut 52 = .ok (.invokevirtual 241, 3) := by decide +kernel
theorem dX8_cut_55 : decode cX8_cut 55 = .ok (.aload_n 3, 1) := by decide +kernel
theorem dX8_cut_56 : decode cX8_cut 56 = .ok (.getfield 142, 3) := by decide +kernel
theorem dX8_cut_59 : decode cX8_cut 59 = .ok (.ireturn, 1) := by decide +kernel
theorem dX8_add_0 : decode cX8_add 0 = .ok (.aload_n 0, 1) := by decide +kernel
theorem dX8_add_1 : decode cX8_add 1 = .ok (.iload_n 1, 1) := by decide +kernel
theorem dX8_add_2 : decode cX8_add 2 = .ok (.iload_n 2, 1) := by decide +kernel
theorem dX8_add_3 : decode cX8_add 3 = .ok (.invokevirtual 149, 3) := by decide +kernel
theorem dX8_add_6 : decode cX8_add 6 = .ok (.ifCond .ne 12, 3) := by decide +kernel
theorem dX8_add_9 : decode cX8_add 9 = .ok (.iload_n 3, 1) := by decide +kernel
theorem dX8_add_10 : decode cX8_add 10 = .ok (.ifCond .lt 8, 3) := by decide +kernel
theorem dX8_add_13 : decode cX8_add 13 = .ok (.iload 4, 2) := by decide +kernel
theorem dX8_add_15 : decode cX8_add 15 = .ok (.ifCond .ge 5, 3) := by decide +kernel
theorem dX8_add_18 : decode cX8_add 18 = .ok (.iconst (-1), 1) := by decide +kernel
theorem dX8_add_19 : decode cX8_add 19 = .ok (.ireturn, 1) := by decide +kernel
theorem dX8_add_20 : decode cX8_add 20 = .ok (.aload_n 0, 1) := by decide +kernel
theorem dX8_add_21 : decode cX8_add 21 = .ok (.getfield 32, 3) := by decide +kernel
theorem dX8_add_24 : decode cX8_add 24 = .ok (.iload_n 1, 1) := by decide +kernel
theorem dX8_add_25 : decode cX8_add 25 = .ok (.invokevirtual 123, 3) := by decide +kernel
theorem dX8_add_28 : decode cX8_add 28 = .ok (.astore 6, 2) := by decide +kernel
theorem dX8_add_30 : decode cX8_add 30 = .ok (.aload 6, 2) := by decide +kernel
theorem dX8_add_32 : decode cX8_add 32 = .ok (.iload_n 2, 1) := by decide +kernel
theorem dX8_add_33 : decode cX8_add 33 = .ok (.invokevirtual 244, 3) := by decide +kernel
theorem dX8_add_36 : decode cX8_add 36 = .ok (.istore 7, 2) := by decide +kernel
theorem dX8_add_38 : decode cX8_add 38 = .ok (.iload_n 3, 1) := by decide +kernel
theorem dX8_add_39 : decode cX8_add 39 = .ok (.iload 7, 2) := by decide +kernel
theorem dX8_add_41 : decode cX8_add 41 = .ok (.if_icmp .gt 21, 3) := by decide +kernel
theorem dX8_add_44 : decode cX8_add 44 = .ok (.iload 4, 2) := by decide +kernel
theorem dX8_add_46 : decode cX8_add 46 = .ok (.iload 7, 2) := by decide +kernel
theorem dX8_add_48 : decode cX8_add 48 = .ok (.iload_n 3, 1) := by decide +kernel
theorem dX8_add_49 : decode cX8_add 49 = .ok (.isub, 1) := by decide +kernel
theorem dX8_add_50 : decode cX8_add 50 = .ok (.if_icmp .gt 12, 3) := by decide +kernel
theorem dX8_add_53 : decode cX8_add 53 = .ok (.iload 5, 2) := by decide +kernel
theorem dX8_add_55 : decode cX8_add 55 = .ok (.invokestatic 159, 3) := by decide +kernel
theorem dX8_add_58 : decode cX8_add 58 = .ok (.iconst (-1), 1) := by decide +kernel
theorem dX8_add_59 : decode cX8_add 59 = .ok (.if_icmp .ne 5, 3) := by decide +kernel
theorem dX8_add_62 : decode cX8_add 62 = .ok (.iconst (-1), 1) := by decide +kernel
theorem dX8_add_63 : decode cX8_add 63 = .ok (.ireturn, 1) := by decide +kernel
theorem dX8_add_64 : decode cX8_add 64 = .ok (.aload 6, 2) := by decide +kernel
theorem dX8_add_66 : decode cX8_add 66 = .ok (.getfield 142, 3) := by decide +kernel
theorem dX8_add_69 : decode cX8_add 69 = .ok (.bipush 12, 2) := by decide +kernel
theorem dX8_add_71 : decode cX8_add 71 = .ok (.if_icmp .lt 6, 3) := by decide +kernel
theorem dX8_add_74 : decode cX8_add 74 = .ok (.bipush (-4), 2) := by decide +kernel
theorem dX8_add_76 : decode cX8_add 76 = .ok (.ireturn, 1) := by decide +kernel
theorem dX8_add_77 : decode cX8_add 77 = .ok (.aload_n 0, 1) := by decide +kernel
theorem dX8_add_78 : decode cX8_add 78 = .ok (.getfield 38, 3) := by decide +kernel
theorem dX8_add_81 : decode cX8_add 81 = .ok (.getfield 139, 3) := by decide +kernel
theorem dX8_add_84 : decode cX8_add 84 = .ok (.bipush 40, 2) := by decide +kernel
theorem dX8_add_86 : decode cX8_add 86 = .ok (.if_icmp .lt 6, 3) := by decide +kernel
theorem dX8_add_89 : decode cX8_add 89 = .ok (.bipush (-2), 2) := by decide +kernel
theorem dX8_add_91 : decode cX8_add 91 = .ok (.ireturn, 1) := by decide +kernel
theorem dX8_add_92 : decode cX8_add 92 = .ok (.aload_n 0, 1) := by decide +kernel
theorem dX8_add_93 : decode cX8_add 93 = .ok (.invokevirtual 235, 3) := by decide +kernel
theorem dX8_add_96 : decode cX8_add 96 = .ok (.aload 6, 2) := by decide +kernel
theorem dX8_add_98 : decode cX8_add 98 = .ok (.iload_n 2, 1) := by decide +kernel
theorem dX8_add_99 : decode cX8_add 99 = .ok (.iload_n 3, 1) := by decide +kernel
theorem dX8_add_100 : decode cX8_add 100 = .ok (.iload 4, 2) := by decide +kernel
theorem dX8_add_102 : decode cX8_add 102 = .ok (.iload 5, 2) := by decide +kernel
theorem dX8_add_104 : decode cX8_add 104 = .ok (.invokevirtual 247, 3) := by decide +kernel
theorem dX8_add_107 : decode cX8_add 107 = .ok (.ireturn, 1) := by decide +kernel
theorem dX8_price_0 : decode cX8_price 0 = .ok (.iload_n 1, 1) := by decide +kernel
theorem dX8_price_1 : decode cX8_price 1 = .ok (.ifCond .lt 19, 3) := by decide +kernel
theorem dX8_price_4 : decode cX8_price 4 = .ok (.iload_n 1, 1) := by decide +kernel
theorem dX8_price_5 : decode cX8_price 5 = .ok (.iconst 3, 1) := by decide +kernel
theorem dX8_price_6 : decode cX8_price 6 = .ok (.if_icmp .ge 14, 3) := by decide +kernel
theorem dX8_price_9 : decode cX8_price 9 = .ok (.iload_n 2, 1) := by decide +kernel
theorem dX8_price_10 : decode cX8_price 10 = .ok (.iconst 1, 1) := by decide +kernel
theorem dX8_price_11 : decode cX8_price 11 = .ok (.if_icmp .lt 9, 3) := by decide +kernel
theorem dX8_price_14 : decode cX8_price 14 = .ok (.iload_n 2, 1) := by decide +kernel
theorem dX8_price_15 : decode cX8_price 15 = .ok (.bipush 9, 2) := by decide +kernel
theorem dX8_price_17 : decode cX8_price 17 = .ok (.if_icmp .le 5, 3) := by decide +kernel
theorem dX8_price_20 : decode cX8_price 20 = .ok (.iconst (-1), 1) := by decide +kernel
theorem dX8_price_21 : decode cX8_price 21 = .ok (.ireturn, 1) := by decide +kernel
theorem dX8_price_22 : decode cX8_price 22 = .ok (.aload_n 0, 1) := by decide +kernel
theorem dX8_price_23 : decode cX8_price 23 = .ok (.getfield 32, 3) := by decide +kernel
theorem dX8_price_26 : decode cX8_price 26 = .ok (.getfield 251, 3) := by decide +kernel
theorem dX8_price_29 : decode cX8_price 29 = .ok (.iload_n 1, 1) := by decide +kernel
theorem dX8_price_30 : decode cX8_price 30 = .ok (.iaload, 1) := by decide +kernel
theorem dX8_price_31 : decode cX8_price 31 = .ok (.istore_n 3, 1) := by decide +kernel
theorem dX8_price_32 : decode cX8_price 32 = .ok (.iload_n 3, 1) := by decide +kernel
theorem dX8_price_33 : decode cX8_price 33 = .ok (.iload_n 2, 1) := by decide +kernel
theorem dX8_price_34 : decode cX8_price 34 = .ok (.if_icmp .ne 6, 3) := by decide +kernel
theorem dX8_price_37 : decode cX8_price 37 = .ok (.bipush (-4), 2) := by decide +kernel
theorem dX8_price_39 : decode cX8_price 39 = .ok (.ireturn, 1) := by decide +kernel
theorem dX8_price_40 : decode cX8_price 40 = .ok (.aload_n 0, 1) := by decide +kernel
theorem dX8_price_41 : decode cX8_price 41 = .ok (.getfield 38, 3) := by decide +kernel
theorem dX8_price_44 : decode cX8_price 44 = .ok (.getfield 139, 3) := by decide +kernel
theorem dX8_price_47 : decode cX8_price 47 = .ok (.bipush 40, 2) := by decide +kernel
theorem dX8_price_49 : decode cX8_price 49 = .ok (.if_icmp .lt 6, 3) := by decide +kernel
theorem dX8_price_52 : decode cX8_price 52 = .ok (.bipush (-2), 2) := by decide +kernel
theorem dX8_price_54 : decode cX8_price 54 = .ok (.ireturn, 1) := by decide +kernel
theorem dX8_price_55 : decode cX8_price 55 = .ok (.aload_n 0, 1) := by decide +kernel
theorem dX8_price_56 : decode cX8_price 56 = .ok (.invokevirtual 235, 3) := by decide +kernel
theorem dX8_price_59 : decode cX8_price 59 = .ok (.aload_n 0, 1) := by decide +kernel
theorem dX8_price_60 : decode cX8_price 60 = .ok (.getfield 32, 3) := by decide +kernel
theorem dX8_price_63 : decode cX8_price 63 = .ok (.getfield 251, 3) := by decide +kernel
theorem dX8_price_66 : decode cX8_price 66 = .ok (.iload_n 1, 1) := by decide +kernel
theorem dX8_price_67 : decode cX8_price 67 = .ok (.iload_n 2, 1) := by decide +kernel
theorem dX8_price_68 : decode cX8_price 68 = .ok (.iastore, 1) := by decide +kernel
theorem dX8_price_69 : decode cX8_price 69 = .ok (.iload_n 3, 1) := by decide +kernel
theorem dX8_price_70 : decode cX8_price 70 = .ok (.ireturn, 1) := by decide +kernel
theorem dX8_turn_0 : decode cX8_turn 0 = .ok (.aload_n 0, 1) := by decide +kernel
theorem dX8_turn_1 : decode cX8_turn 1 = .ok (.getfield 32, 3) := by decide +kernel
theorem dX8_turn_4 : decode cX8_turn 4 = .ok (.invokevirtual 174, 3) := by decide +kernel
theorem dX8_turn_7 : decode cX8_turn 7 = .ok (.ifCond .ne 6, 3) := by decide +kernel
theorem dX8_turn_10 : decode cX8_turn 10 = .ok (.bipush (-4), 2) := by decide +kernel
theorem dX8_turn_12 : decode cX8_turn 12 = .ok (.ireturn, 1) := by decide +kernel
theorem dX8_turn_13 : decode cX8_turn 13 = .ok (.aload_n 0, 1) := by decide +kernel
theorem dX8_turn_14 : decode cX8_turn 14 = .ok (.getfield 38, 3) := by decide +kernel
theorem dX8_turn_17 : decode cX8_turn 17 = .ok (.getfield 139, 3) := by decide +kernel
theorem dX8_turn_20 : decode cX8_turn 20 = .ok (.bipush 40, 2) := by decide +kernel
theorem dX8_turn_22 : decode cX8_turn 22 = .ok (.if_icmp .lt 6, 3) := by decide +kernel
theorem dX8_turn_25 : decode cX8_turn 25 = .ok (.bipush (-2), 2) := by decide +kernel
theorem dX8_turn_27 : decode cX8_turn 27 = .ok (.ireturn, 1) := by decide +kernel
theorem dX8_turn_28 : decode cX8_turn 28 = .ok (.aload_n 0, 1) := by decide +kernel
theorem dX8_turn_29 : decode cX8_turn 29 = .ok (.invokevirtual 235, 3) := by decide +kernel
theorem dX8_turn_32 : decode cX8_turn 32 = .ok (.aload_n 0, 1) := by decide +kernel
theorem dX8_turn_33 : decode cX8_turn 33 = .ok (.invokevirtual 254, 3) := by decide +kernel
theorem dX8_turn_36 : decode cX8_turn 36 = .ok (.aload_n 0, 1) := by decide +kernel
theorem dX8_turn_37 : decode cX8_turn 37 = .ok (.getfield 32, 3) := by decide +kernel
theorem dX8_turn_40 : decode cX8_turn 40 = .ok (.getfield 216, 3) := by decide +kernel
theorem dX8_turn_43 : decode cX8_turn 43 = .ok (.getfield 142, 3) := by decide +kernel
theorem dX8_turn_46 : decode cX8_turn 46 = .ok (.ireturn, 1) := by decide +kernel
theorem dX8_undo_0 : decode cX8_undo 0 = .ok (.iload_n 1, 1) := by decide +kernel
theorem dX8_undo_1 : decode cX8_undo 1 = .ok (.ifCond .lt 14, 3) := by decide +kernel
theorem dX8_undo_4 : decode cX8_undo 4 = .ok (.iload_n 1, 1) := by decide +kernel
theorem dX8_undo_5 : decode cX8_undo 5 = .ok (.aload_n 0, 1) := by decide +kernel
theorem dX8_undo_6 : decode cX8_undo 6 = .ok (.getfield 38, 3) := by decide +kernel
theorem dX8_undo_9 : decode cX8_undo 9 = .ok (.getfield 139, 3) := by decide +kernel
theorem dX8_undo_12 : decode cX8_undo 12 = .ok (.if_icmp .le 5, 3) := by decide +kernel
theorem dX8_undo_15 : decode cX8_undo 15 = .ok (.iconst (-1), 1) := by decide +kernel
theorem dX8_undo_16 : decode cX8_undo 16 = .ok (.ireturn, 1) := by decide +kernel
theorem dX8_undo_17 : decode cX8_undo 17 = .ok (.aload_n 0, 1) := by decide +kernel
theorem dX8_undo_18 : decode cX8_undo 18 = .ok (.getfield 38, 3) := by decide +kernel
theorem dX8_undo_21 : decode cX8_undo 21 = .ok (.getfield 139, 3) := by decide +kernel
theorem dX8_undo_24 : decode cX8_undo 24 = .ok (.iload_n 1, 1) := by decide +kernel
theorem dX8_undo_25 : decode cX8_undo 25 = .ok (.isub, 1) := by decide +kernel
theorem dX8_undo_26 : decode cX8_undo 26 = .ok (.istore_n 2, 1) := by decide +kernel
theorem dX8_undo_27 : decode cX8_undo 27 = .ok (.iload_n 2, 1) := by decide +kernel
theorem dX8_undo_28 : decode cX8_undo 28 = .ok (.ifCond .le 15, 3) := by decide +kernel
theorem dX8_undo_31 : decode cX8_undo 31 = .ok (.aload_n 0, 1) := by decide +kernel
theorem dX8_undo_32 : decode cX8_undo 32 = .ok (.getfield 38, 3) := by decide +kernel
theorem dX8_undo_35 : decode cX8_undo 35 = .ok (.iload_n 1, 1) := by decide +kernel
theorem dX8_undo_36 : decode cX8_undo 36 = .ok (.putfield 139, 3) := by decide +kernel
theorem dX8_undo_39 : decode cX8_undo 39 = .ok (.aload_n 0, 1) := by decide +kernel
theorem dX8_undo_40 : decode cX8_undo 40 = .ok (.invokevirtual 257, 3) := by decide +kernel
theorem dX8_undo_43 : decode cX8_undo 43 = .ok (.iload_n 2, 1) := by decide +kernel
theorem dX8_undo_44 : decode cX8_undo 44 = .ok (.ireturn, 1) := by decide +kernel
theorem dX8_keep_0 : decode cX8_keep 0 = .ok (.iload_n 1, 1) := by decide +kernel
theorem dX8_keep_1 : decode cX8_keep 1 = .ok (.invokestatic 260, 3) := by decide +kernel
theorem dX8_keep_4 : decode cX8_keep 4 = .ok (.ifCond .eq 5, 3) := by decide +kernel
theorem dX8_keep_7 : decode cX8_keep 7 = .ok (.iconst (-1), 1) := by decide +kernel
theorem dX8_keep_8 : decode cX8_keep 8 = .ok (.ireturn, 1) := by decide +kernel
theorem dX8_keep_9 : decode cX8_keep 9 = .ok (.aload_n 0, 1) := by decide +kernel
theorem dX8_keep_10 : decode cX8_keep 10 = .ok (.getfield 38, 3) := by decide +kernel
theorem dX8_keep_13 : decode cX8_keep 13 = .ok (.aload_n 0, 1) := by decide +kernel
theorem dX8_keep_14 : decode cX8_keep 14 = .ok (.getfield 32, 3) := by decide +kernel
theorem dX8_keep_17 : decode cX8_keep 17 = .ok (.invokevirtual 263, 3) := by decide +kernel
theorem dX8_keep_20 : decode cX8_keep 20 = .ok (.aload_n 0, 1) := by decide +kernel
theorem dX8_keep_21 : decode cX8_keep 21 = .ok (.getfield 42, 3) := by decide +kernel
theorem dX8_keep_24 : decode cX8_keep 24 = .ok (.iload_n 1, 1) := by decide +kernel
theorem dX8_keep_25 : decode cX8_keep 25 = .ok (.aaload, 1) := by decide +kernel
theorem dX8_keep_26 : decode cX8_keep 26 = .ok (.aload_n 0, 1) := by decide +kernel
theorem dX8_keep_27 : decode cX8_keep 27 = .ok (.getfield 38, 3) := by decide +kernel
theorem dX8_keep_30 : decode cX8_keep 30 = .ok (.invokevirtual 267, 3) := by decide +kernel
theorem dX8_keep_33 : decode cX8_keep 33 = .ok (.aload_n 0, 1) := by decide +kernel
theorem dX8_keep_34 : decode cX8_keep 34 = .ok (.getfield 38, 3) := by decide +kernel
theorem dX8_keep_37 : decode cX8_keep 37 = .ok (.getfield 139, 3) := by decide +kernel
theorem dX8_keep_40 : decode cX8_keep 40 = .ok (.ireturn, 1) := by decide +kernel
theorem dX8_on_0 : decode cX8_on 0 = .ok (.iload_n 1, 1) := by decide +kernel
theorem dX8_on_1 : decode cX8_on 1 = .ok (.invokestatic 260, 3) := by decide +kernel
theorem dX8_on_4 : decode cX8_on 4 = .ok (.ifCond .eq 5, 3) := by decide +kernel
theorem dX8_on_7 : decode cX8_on 7 = .ok (.iconst (-1), 1) := by decide +kernel
theorem dX8_on_8 : decode cX8_on 8 = .ok (.ireturn, 1) := by decide +kernel
theorem dX8_on_9 : decode cX8_on 9 = .ok (.aload_n 0, 1) := by decide +kernel
theorem dX8_on_10 : decode cX8_on 10 = .ok (.getfield 42, 3) := by decide +kernel
theorem dX8_on_13 : decode cX8_on 13 = .ok (.iload_n 1, 1) := by decide +kernel
theorem dX8_on_14 : decode cX8_on 14 = .ok (.aaload, 1) := by decide +kernel
theorem dX8_on_15 : decode cX8_on 15 = .ok (.getfield 139, 3) := by decide +kernel
theorem dX8_on_18 : decode cX8_on 18 = .ok (.ifCond .ge 9, 3) := by decide +kernel
theorem dX8_on_21 : decode cX8_on 21 = .ok (.aload_n 0, 1) := by decide +kernel
theorem dX8_on_22 : decode cX8_on 22 = .ok (.iconst 1, 1) := by decide +kernel
theorem dX8_on_23 : decode cX8_on 23 = .ok (.invokevirtual 77, 3) := by decide +kernel
theorem dX8_on_26 : decode cX8_on 26 = .ok (.ireturn, 1) := by decide +kernel
theorem dX8_on_27 : decode cX8_on 27 = .ok (.aload_n 0, 1) := by decide +kernel
theorem dX8_on_28 : decode cX8_on 28 = .ok (.getfield 38, 3) := by decide +kernel
theorem dX8_on_31 : decode cX8_on 31 = .ok (.aload_n 0, 1) := by decide +kernel
theorem dX8_on_32 : decode cX8_on 32 = .ok (.getfield 42, 3) := by decide +kernel
theorem dX8_on_35 : decode cX8_on 35 = .ok (.iload_n 1, 1) := by decide +kernel
theorem dX8_on_36 : decode cX8_on 36 = .ok (.aaload, 1) := by decide +kernel
theorem dX8_on_37 : decode cX8_on 37 = .ok (.invokevirtual 267, 3) := by decide +kernel
theorem dX8_on_40 : decode cX8_on 40 = .ok (.aload_n 0, 1) := by decide +kernel
theorem dX8_on_41 : decode cX8_on 41 = .ok (.invokevirtual 257, 3) := by decide +kernel
theorem dX8_on_44 : decode cX8_on 44 = .ok (.aload_n 0, 1) := by decide +kernel
theorem dX8_on_45 : decode cX8_on 45 = .ok (.getfield 38, 3) := by decide +kernel
theorem dX8_on_48 : decode cX8_on 48 = .ok (.getfield 139, 3) := by decide +kernel
theorem dX8_on_51 : decode cX8_on 51 = .ok (.ireturn, 1) := by decide +kernel
theorem dX8_lots_0 : decode cX8_lots 0 = .ok (.iload_n 1, 1) := by decide +kernel
theorem dX8_lots_1 : decode cX8_lots 1 = .ok (.iconst 1, 1) := by decide +kernel
theorem dX8_lots_2 : decode cX8_lots 2 = .ok (.if_icmp .lt 21, 3) := by decide +kernel
theorem dX8_lots_5 : decode cX8_lots 5 = .ok (.iload_n 1, 1) := by decide +kernel
theorem dX8_lots_6 : decode cX8_lots 6 = .ok (.bipush 20, 2) := by decide +kernel
theorem dX8_lots_8 : decode cX8_lots 8 = .ok (.if_icmp .gt 15, 3) := by decide +kernel
theorem dX8_lots_11 : decode cX8_lots 11 = .ok (.iload_n 2, 1) := by decide +kernel
theorem dX8_lots_12 : decode cX8_lots 12 = .ok (.iconst 1, 1) := by decide +kernel
theorem dX8_lots_13 : decode cX8_lots 13 = .ok (.if_icmp .lt 10, 3) := by decide +kernel
theorem dX8_lots_16 : decode cX8_lots 16 = .ok (.iload_n 2, 1) := by decide +kernel
theorem dX8_lots_17 : decode cX8_lots 17 = .ok (.ldc_w 270, 3) := by decide +kernel
theorem dX8_lots_20 : decode cX8_lots 20 = .ok (.if_icmp .lt 5, 3) := by decide +kernel
theorem dX8_lots_23 : decode cX8_lots 23 = .ok (.iconst (-1), 1) := by decide +kernel
theorem dX8_lots_24 : decode cX8_lots 24 = .ok (.ireturn, 1) := by decide +kernel
theorem dX8_lots_25 : decode cX8_lots 25 = .ok (.aload_n 0, 1) := by decide +kernel
theorem dX8_lots_26 : decode cX8_lots 26 = .ok (.getfield 32, 3) := by decide +kernel
theorem dX8_lots_29 : decode cX8_lots 29 = .ok (.invokevirtual 174, 3) := by decide +kernel
theorem dX8_lots_32 : decode cX8_lots 32 = .ok (.ifCond .ne 6, 3) := by decide +kernel
theorem dX8_lots_35 : decode cX8_lots 35 = .ok (.bipush (-4), 2) := by decide +kernel
theorem dX8_lots_37 : decode cX8_lots 37 = .ok (.ireturn, 1) := by decide +kernel
theorem dX8_lots_38 : decode cX8_lots 38 = .ok (.aload_n 0, 1) := by decide +kernel
theorem dX8_lots_39 : decode cX8_lots 39 = .ok (.getfield 38, 3) := by decide +kernel
theorem dX8_lots_42 : decode cX8_lots 42 = .ok (.getfield 139, 3) := by decide +kernel
theorem dX8_lots_45 : decode cX8_lots 45 = .ok (.iload_n 1, 1) := by decide +kernel
theorem dX8_lots_46 : decode cX8_lots 46 = .ok (.iadd, 1) := by decide +kernel
theorem dX8_lots_47 : decode cX8_lots 47 = .ok (.bipush 40, 2) := by decide +kernel
theorem dX8_lots_49 : decode cX8_lots 49 = .ok (.if_icmp .le 6, 3) := by decide +kernel
theorem dX8_lots_52 : decode cX8_lots 52 = .ok (.bipush (-2), 2) := by decide +kernel
theorem dX8_lots_54 : decode cX8_lots 54 = .ok (.ireturn, 1) := by decide +kernel
theorem dX8_lots_55 : decode cX8_lots 55 = .ok (.iload_n 2, 1) := by decide +kernel
theorem dX8_lots_56 : decode cX8_lots 56 = .ok (.i2l, 1) := by decide +kernel
theorem dX8_lots_57 : decode cX8_lots 57 = .ok (.lstore_n 3, 1) := by decide +kernel
theorem dX8_lots_58 : decode cX8_lots 58 = .ok (.iconst 0, 1) := by decide +kernel
theorem dX8_lots_59 : decode cX8_lots 59 = .ok (.istore 5, 2) := by decide +kernel
theorem dX8_lots_61 : decode cX8_lots 61 = .ok (.iload 5, 2) := by decide +kernel
theorem dX8_lots_63 : decode cX8_lots 63 = .ok (.iload_n 1, 1) := by decide +kernel
theorem dX8_lots_64 : decode cX8_lots 64 = .ok (.if_icmp .ge 29, 3) := by decide +kernel
theorem dX8_lots_67 : decode cX8_lots 67 = .ok (.ldc2_w 271, 3) := by decide +kernel
theorem dX8_lots_70 : decode cX8_lots 70 = .ok (.lload_n 3, 1) := by decide +kernel
theorem dX8_lots_71 : decode cX8_lots 71 = .ok (.lmul, 1) := by decide +kernel
theorem dX8_lots_72 : decode cX8_lots 72 = .ok (.ldc2_w 273, 3) := by decide +kernel
theorem dX8_lots_75 : decode cX8_lots 75 = .ok (.lrem, 1) := by decide +kernel
theorem dX8_lots_76 : decode cX8_lots 76 = .ok (.lstore_n 3, 1) := by decide +kernel
theorem dX8_lots_77 : decode cX8_lots 77 = .ok (.aload_n 0, 1) := by decide +kernel
theorem dX8_lots_78 : decode cX8_lots 78 = .ok (.invokevirtual 235, 3) := by decide +kernel
theorem dX8_lots_81 : decode cX8_lots 81 = .ok (.aload_n 0, 1) := by decide +kernel
theorem dX8_lots_82 : decode cX8_lots 82 = .ok (.lload_n 3, 1) := by decide +kernel
theorem dX8_lots_83 : decode cX8_lots 83 = .ok (.l2i, 1) := by decide +kernel
theorem dX8_lots_84 : decode cX8_lots 84 = .ok (.invokevirtual 275, 3) := by decide +kernel
theorem dX8_lots_87 : decode cX8_lots 87 = .ok (.iinc 5 1, 3) := by decide +kernel
theorem dX8_lots_90 : decode cX8_lots 90 = .ok (.goto (-29), 3) := by decide +kernel
theorem dX8_lots_93 : decode cX8_lots 93 = .ok (.aload_n 0, 1) := by decide +kernel
theorem dX8_lots_94 : decode cX8_lots 94 = .ok (.getfield 32, 3) := by decide +kernel
theorem dX8_lots_97 : decode cX8_lots 97 = .ok (.getfield 216, 3) := by decide +kernel
theorem dX8_lots_100 : decode cX8_lots 100 = .ok (.getfield 142, 3) := by decide +kernel
theorem dX8_lots_103 : decode cX8_lots 103 = .ok (.aload_n 0, 1) := by decide +kernel
theorem dX8_lots_104 : decode cX8_lots 104 = .ok (.getfield 32, 3) := by decide +kernel
theorem dX8_lots_107 : decode cX8_lots 107 = .ok (.getfield 222, 3) := by decide +kernel
theorem dX8_lots_110 : decode cX8_lots 110 = .ok (.getfield 142, 3) := by decide +kernel
theorem dX8_lots_113 : decode cX8_lots 113 = .ok (.iadd, 1) := by decide +kernel
theorem dX8_lots_114 : decode cX8_lots 114 = .ok (.ireturn, 1) := by decide +kernel
theorem dX8_asked_0 : decode cX8_asked 0 = .ok (.aload_n 0, 1) := by decide +kernel
theorem dX8_asked_1 : decode cX8_asked 1 = .ok (.getfield 68, 3) := by decide +kernel
theorem dX8_asked_4 : decode cX8_asked 4 = .ok (.ireturn, 1) := by decide +kernel
theorem dX8_count_0 : decode cX8_count 0 = .ok (.iload_n 1, 1) := by decide +kernel
theorem dX8_count_1 : decode cX8_count 1 = .ok (.ifCond .lt 9, 3) := by decide +kernel
theorem dX8_count_4 : decode cX8_count 4 = .ok (.iload_n 1, 1) := by decide +kernel
theorem dX8_count_5 : decode cX8_count 5 = .ok (.bipush 13, 2) := by decide +kernel
theorem dX8_count_7 : decode cX8_count 7 = .ok (.if_icmp .le 5, 3) := by decide +kernel
theorem dX8_count_10 : decode cX8_count 10 = .ok (.iconst (-1), 1) := by decide +kernel
theorem dX8_count_11 : decode cX8_count 11 = .ok (.ireturn, 1) := by decide +kernel
theorem dX8_count_12 : decode cX8_count 12 = .ok (.aload_n 0, 1) := by decide +kernel
theorem dX8_count_13 : decode cX8_count 13 = .ok (.getfield 24, 3) := by decide +kernel
theorem dX8_count_16 : decode cX8_count 16 = .ok (.invokevirtual 178, 3) := by decide +kernel
theorem dX8_count_19 : decode cX8_count 19 = .ok (.aload_n 0, 1) := by decide +kernel
theorem dX8_count_20 : decode cX8_count 20 = .ok (.iload_n 1, 1) := by decide +kernel
theorem dX8_count_21 : decode cX8_count 21 = .ok (.invokevirtual 278, 3) := by decide +kernel
theorem dX8_count_24 : decode cX8_count 24 = .ok (.ireturn, 1) := by decide +kernel
theorem dX8_finding_0 : decode cX8_finding 0 = .ok (.aload_n 0, 1) := by decide +kernel
theorem dX8_finding_1 : decode cX8_finding 1 = .ok (.getfield 64, 3) := by decide +kernel
theorem dX8_finding_4 : decode cX8_finding 4 = .ok (.ireturn, 1) := by decide +kernel
theorem dX8_findings_0 : decode cX8_findings 0 = .ok (.iload_n 1, 1) := by decide +kernel
theorem dX8_findings_1 : decode cX8_findings 1 = .ok (.iconst 1, 1) := by decide +kernel
theorem dX8_findings_2 : decode cX8_findings 2 = .ok (.if_icmp .lt 8, 3) := by decide +kernel
theorem dX8_findings_5 : decode cX8_findings 5 = .ok (.iload_n 1, 1) := by decide +kernel
theorem dX8_findings_6 : decode cX8_findings 6 = .ok (.iconst 5, 1) := by decide +kernel
theorem dX8_findings_7 : decode cX8_findings 7 = .ok (.if_icmp .le 5, 3) := by decide +kernel
theorem dX8_findings_10 : decode cX8_findings 10 = .ok (.iconst (-1), 1) := by decide +kernel
theorem dX8_findings_11 : decode cX8_findings 11 = .ok (.ireturn, 1) := by decide +kernel
theorem dX8_findings_12 : decode cX8_findings 12 = .ok (.aload_n 0, 1) := by decide +kernel
theorem dX8_findings_13 : decode cX8_findings 13 = .ok (.getfield 60, 3) := by decide +kernel
theorem dX8_findings_16 : decode cX8_findings 16 = .ok (.iload_n 1, 1) := by decide +kernel
theorem dX8_findings_17 : decode cX8_findings 17 = .ok (.iaload, 1) := by decide +kernel
theorem dX8_findings_18 : decode cX8_findings 18 = .ok (.ireturn, 1) := by decide +kernel
theorem dX8_digest_0 : decode cX8_digest 0 = .ok (.aload_n 0, 1) := by decide +kernel
theorem dX8_digest_1 : decode cX8_digest 1 = .ok (.getfield 24, 3) := by decide +kernel
theorem dX8_digest_4 : decode cX8_digest 4 = .ok (.invokevirtual 178, 3) := by decide +kernel
theorem dX8_digest_7 : decode cX8_digest 7 = .ok (.ldc2_w 281, 3) := by decide +kernel
theorem dX8_digest_10 : decode cX8_digest 10 = .ok (.lstore_n 1, 1) := by decide +kernel
theorem dX8_digest_11 : decode cX8_digest 11 = .ok (.iconst 0, 1) := by decide +kernel
theorem dX8_digest_12 : decode cX8_digest 12 = .ok (.istore_n 3, 1) := by decide +kernel
theorem dX8_digest_13 : decode cX8_digest 13 = .ok (.iload_n 3, 1) := by decide +kernel
theorem dX8_digest_14 : decode cX8_digest 14 = .ok (.bipush 13, 2) := by decide +kernel
theorem dX8_digest_16 : decode cX8_digest 16 = .ok (.if_icmp .gt 22, 3) := by decide +kernel
theorem dX8_digest_19 : decode cX8_digest 19 = .ok (.ldc2_w 283, 3) := by decide +kernel
theorem dX8_digest_22 : decode cX8_digest 22 = .ok (.lload_n 1, 1) := by decide +kernel
theorem dX8_digest_23 : decode cX8_digest 23 = .ok (.lmul, 1) := by decide +kernel
theorem dX8_digest_24 : decode cX8_digest 24 = .ok (.aload_n 0, 1) := by decide +kernel
theorem dX8_digest_25 : decode cX8_digest 25 = .ok (.iload_n 3, 1) := by decide +kernel
theorem dX8_digest_26 : decode cX8_digest 26 = .ok (.invokevirtual 278, 3) := by decide +kernel
theorem dX8_digest_29 : decode cX8_digest 29 = .ok (.i2l, 1) := by decide +kernel
theorem dX8_digest_30 : decode cX8_digest 30 = .ok (.ladd, 1) := by decide +kernel
theorem dX8_digest_31 : decode cX8_digest 31 = .ok (.lstore_n 1, 1) := by decide +kernel
theorem dX8_digest_32 : decode cX8_digest 32 = .ok (.iinc 3 1, 3) := by decide +kernel
theorem dX8_digest_35 : decode cX8_digest 35 = .ok (.goto (-22), 3) := by decide +kernel
theorem dX8_digest_38 : decode cX8_digest 38 = .ok (.aload_n 0, 1) := by decide +kernel
theorem dX8_digest_39 : decode cX8_digest 39 = .ok (.aload_n 0, 1) := by decide +kernel
theorem dX8_digest_40 : decode cX8_digest 40 = .ok (.lload_n 1, 1) := by decide +kernel
theorem dX8_digest_41 : decode cX8_digest 41 = .ok (.iconst 0, 1) := by decide +kernel
theorem dX8_digest_42 : decode cX8_digest 42 = .ok (.invokevirtual 285, 3) := by decide +kernel
theorem dX8_digest_45 : decode cX8_digest 45 = .ok (.iconst 1, 1) := by decide +kernel
theorem dX8_digest_46 : decode cX8_digest 46 = .ok (.invokevirtual 285, 3) := by decide +kernel
theorem dX8_digest_49 : decode cX8_digest 49 = .ok (.lstore_n 1, 1) := by decide +kernel
theorem dX8_digest_50 : decode cX8_digest 50 = .ok (.iconst 0, 1) := by decide +kernel
theorem dX8_digest_51 : decode cX8_digest 51 = .ok (.istore_n 3, 1) := by decide +kernel
theorem dX8_digest_52 : decode cX8_digest 52 = .ok (.iload_n 3, 1) := by decide +kernel
theorem dX8_digest_53 : decode cX8_digest 53 = .ok (.iconst 3, 1) := by decide +kernel
theorem dX8_digest_54 : decode cX8_digest 54 = .ok (.if_icmp .ge 26, 3) := by decide +kernel
theorem dX8_digest_57 : decode cX8_digest 57 = .ok (.ldc2_w 283, 3) := by decide +kernel
theorem dX8_digest_60 : decode cX8_digest 60 = .ok (.lload_n 1, 1) := by decide +kernel
theorem dX8_digest_61 : decode cX8_digest 61 = .ok (.lmul, 1) := by decide +kernel
theorem dX8_digest_62 : decode cX8_digest 62 = .ok (.aload_n 0, 1) := by decide +kernel
theorem dX8_digest_63 : decode cX8_digest 63 = .ok (.getfield 42, 3) := by decide +kernel
theorem dX8_digest_66 : decode cX8_digest 66 = .ok (.iload_n 3, 1) := by decide +kernel
theorem dX8_digest_67 : decode cX8_digest 67 = .ok (.aaload, 1) := by decide +kernel
theorem dX8_digest_68 : decode cX8_digest 68 = .ok (.getfield 139, 3) := by decide +kernel
theorem dX8_digest_71 : decode cX8_digest 71 = .ok (.i2l, 1) := by decide +kernel
theorem dX8_digest_72 : decode cX8_digest 72 = .ok (.ladd, 1) := by decide +kernel
theorem dX8_digest_73 : decode cX8_digest 73 = .ok (.lstore_n 1, 1) := by decide +kernel
theorem dX8_digest_74 : decode cX8_digest 74 = .ok (.iinc 3 1, 3) := by decide +kernel
theorem dX8_digest_77 : decode cX8_digest 77 = .ok (.goto (-25), 3) := by decide +kernel
theorem dX8_digest_80 : decode cX8_digest 80 = .ok (.iconst 0, 1) := by decide +kernel
theorem dX8_digest_81 : decode cX8_digest 81 = .ok (.istore_n 3, 1) := by decide +kernel
theorem dX8_digest_82 : decode cX8_digest 82 = .ok (.iload_n 3, 1) := by decide +kernel
theorem dX8_digest_83 : decode cX8_digest 83 = .ok (.bipush 6, 2) := by decide +kernel
theorem dX8_digest_85 : decode cX8_digest 85 = .ok (.if_icmp .ge 20, 3) := by decide +kernel
theorem dX8_digest_88 : decode cX8_digest 88 = .ok (.aload_n 0, 1) := by decide +kernel
theorem dX8_digest_89 : decode cX8_digest 89 = .ok (.getfield 11, 3) := by decide +kernel
theorem dX8_digest_92 : decode cX8_digest 92 = .ok (.iload_n 3, 1) := by decide +kernel
theorem dX8_digest_93 : decode cX8_digest 93 = .ok (.aaload, 1) := by decide +kernel
theorem dX8_digest_94 : decode cX8_digest 94 = .ok (.lload_n 1, 1) := by decide +kernel
theorem dX8_digest_95 : decode cX8_digest 95 = .ok (.invokevirtual 289, 3) := by decide +kernel
theorem dX8_digest_98 : decode cX8_digest 98 = .ok (.lstore_n 1, 1) := by decide +kernel
theorem dX8_digest_99 : decode cX8_digest 99 = .ok (.iinc 3 1, 3) := by decide +kernel
theorem dX8_digest_102 : decode cX8_digest 102 = .ok (.goto (-20), 3) := by decide +kernel
theorem dX8_digest_105 : decode cX8_digest 105 = .ok (.iconst 0, 1) := by decide +kernel
theorem dX8_digest_106 : decode cX8_digest 106 = .ok (.istore_n 3, 1) := by decide +kernel
theorem dX8_digest_107 : decode cX8_digest 107 = .ok (.iload_n 3, 1) := by decide +kernel
theorem dX8_digest_108 : decode cX8_digest 108 = .ok (.iconst 4, 1) := by decide +kernel
theorem dX8_digest_109 : decode cX8_digest 109 = .ok (.if_icmp .ge 20, 3) := by decide +kernel
theorem dX8_digest_112 : decode cX8_digest 112 = .ok (.aload_n 0, 1) := by decide +kernel
theorem dX8_digest_113 : decode cX8_digest 113 = .ok (.getfield 17, 3) := by decide +kernel
theorem dX8_digest_116 : decode cX8_digest 116 = .ok (.iload_n 3, 1) := by decide +kernel
theorem dX8_digest_117 : decode cX8_digest 117 = .ok (.aaload, 1) := by decide +kernel
theorem dX8_digest_118 : decode cX8_digest 118 = .ok (.lload_n 1, 1) := by decide +kernel
theorem dX8_digest_119 : decode cX8_digest 119 = .ok (.invokevirtual 293, 3) := by decide +kernel
theorem dX8_digest_122 : decode cX8_digest 122 = .ok (.lstore_n 1, 1) := by decide +kernel
theorem dX8_digest_123 : decode cX8_digest 123 = .ok (.iinc 3 1, 3) := by decide +kernel
theorem dX8_digest_126 : decode cX8_digest 126 = .ok (.goto (-19), 3) := by decide +kernel
theorem dX8_digest_129 : decode cX8_digest 129 = .ok (.lload_n 1, 1) := by decide +kernel
theorem dX8_digest_130 : decode cX8_digest 130 = .ok (.lreturn, 1) := by decide +kernel
theorem dX8_noRow_0 : decode cX8_noRow 0 = .ok (.iload_n 0, 1) := by decide +kernel
theorem dX8_noRow_1 : decode cX8_noRow 1 = .ok (.ifCond .lt 9, 3) := by decide +kernel
theorem dX8_noRow_4 : decode cX8_noRow 4 = .ok (.iload_n 0, 1) := by decide +kernel
theorem dX8_noRow_5 : decode cX8_noRow 5 = .ok (.bipush 6, 2) := by decide +kernel
theorem dX8_noRow_7 : decode cX8_noRow 7 = .ok (.if_icmp .lt 7, 3) := by decide +kernel
theorem dX8_noRow_10 : decode cX8_noRow 10 = .ok (.iconst 1, 1) := by decide +kernel
theorem dX8_noRow_11 : decode cX8_noRow 11 = .ok (.goto 4, 3) := by decide +kernel
theorem dX8_noRow_14 : decode cX8_noRow 14 = .ok (.iconst 0, 1) := by decide +kernel
theorem dX8_noRow_15 : decode cX8_noRow 15 = .ok (.ireturn, 1) := by decide +kernel
theorem dX8_noText_0 : decode cX8_noText 0 = .ok (.iload_n 0, 1) := by decide +kernel
theorem dX8_noText_1 : decode cX8_noText 1 = .ok (.ifCond .lt 8, 3) := by decide +kernel
theorem dX8_noText_4 : decode cX8_noText 4 = .ok (.iload_n 0, 1) := by decide +kernel
theorem dX8_noText_5 : decode cX8_noText 5 = .ok (.iconst 4, 1) := by decide +kernel
theorem dX8_noText_6 : decode cX8_noText 6 = .ok (.if_icmp .lt 7, 3) := by decide +kernel
theorem dX8_noText_9 : decode cX8_noText 9 = .ok (.iconst 1, 1) := by decide +kernel
theorem dX8_noText_10 : decode cX8_noText 10 = .ok (.goto 4, 3) := by decide +kernel
theorem dX8_noText_13 : decode cX8_noText 13 = .ok (.iconst 0, 1) := by decide +kernel
theorem dX8_noText_14 : decode cX8_noText 14 = .ok (.ireturn, 1) := by decide +kernel
theorem dX8_noDocument_0 : decode cX8_noDocument 0 = .ok (.iload_n 0, 1) := by decide +kernel
theorem dX8_noDocument_1 : decode cX8_noDocument 1 = .ok (.ifCond .lt 8, 3) := by decide +kernel
theorem dX8_noDocument_4 : decode cX8_noDocument 4 = .ok (.iload_n 0, 1) := by decide +kernel
theorem dX8_noDocument_5 : decode cX8_noDocument 5 = .ok (.iconst 1, 1) := by decide +kernel
theorem dX8_noDocument_6 : decode cX8_noDocument 6 = .ok (.if_icmp .le 7, 3) := by decide +kernel
theorem dX8_noDocument_9 : decode cX8_noDocument 9 = .ok (.iconst 1, 1) := by decide +kernel
theorem dX8_noDocument_10 : decode cX8_noDocument 10 = .ok (.goto 4, 3) := by decide +kernel
theorem dX8_noDocument_13 : decode cX8_noDocument 13 = .ok (.iconst 0, 1) := by decide +kernel
theorem dX8_noDocument_14 : decode cX8_noDocument 14 = .ok (.ireturn, 1) := by decide +kernel
theorem dX8_noPlace_0 : decode cX8_noPlace 0 = .ok (.iload_n 0, 1) := by decide +kernel
theorem dX8_noPlace_1 : decode cX8_noPlace 1 = .ok (.ifCond .lt 8, 3) := by decide +kernel
theorem dX8_noPlace_4 : decode cX8_noPlace 4 = .ok (.iload_n 0, 1) := by decide +kernel
theorem dX8_noPlace_5 : decode cX8_noPlace 5 = .ok (.iconst 3, 1) := by decide +kernel
theorem dX8_noPlace_6 : decode cX8_noPlace 6 = .ok (.if_icmp .lt 7, 3) := by decide +kernel
theorem dX8_noPlace_9 : decode cX8_noPlace 9 = .ok (.iconst 1, 1) := by decide +kernel
theorem dX8_noPlace_10 : decode cX8_noPlace 10 = .ok (.goto 4, 3) := by decide +kernel
theorem dX8_noPlace_13 : decode cX8_noPlace 13 = .ok (.iconst 0, 1) := by decide +kernel
theorem dX8_noPlace_14 : decode cX8_noPlace 14 = .ok (.ireturn, 1) := by decide +kernel
theorem dX8_noNode_0 : decode cX8_noNode 0 = .ok (.iload_n 1, 1) := by decide +kernel
theorem dX8_noNode_1 : decode cX8_noNode 1 = .ok (.invokestatic 120, 3) := by decide +kernel
theorem dX8_noNode_4 : decode cX8_noNode 4 = .ok (.ifCond .ne 18, 3) := by decide +kernel
theorem dX8_noNode_7 : decode cX8_noNode 7 = .ok (.aload_n 0, 1) := by decide +kernel
theorem dX8_noNode_8 : decode cX8_noNode 8 = .ok (.getfield 32, 3) := by decide +kernel
theorem dX8_noNode_11 : decode cX8_noNode 11 = .ok (.iload_n 1, 1) := by decide +kernel
theorem dX8_noNode_12 : decode cX8_noNode 12 = .ok (.invokevirtual 123, 3) := by decide +kernel
theorem dX8_noNode_15 : decode cX8_noNode 15 = .ok (.iload_n 2, 1) := by decide +kernel
theorem dX8_noNode_16 : decode cX8_noNode 16 = .ok (.invokevirtual 294, 3) := by decide +kernel
theorem dX8_noNode_19 : decode cX8_noNode 19 = .ok (.ifCond .ne 7, 3) := by decide +kernel
theorem dX8_noNode_22 : decode cX8_noNode 22 = .ok (.iconst 1, 1) := by decide +kernel
theorem dX8_noNode_23 : decode cX8_noNode 23 = .ok (.goto 4, 3) := by decide +kernel
theorem dX8_noNode_26 : decode cX8_noNode 26 = .ok (.iconst 0, 1) := by decide +kernel
theorem dX8_noNode_27 : decode cX8_noNode 27 = .ok (.ireturn, 1) := by decide +kernel
theorem dX8_tell_0 : decode cX8_tell 0 = .ok (.aload_n 0, 1) := by decide +kernel
theorem dX8_tell_1 : decode cX8_tell 1 = .ok (.iload_n 1, 1) := by decide +kernel
theorem dX8_tell_2 : decode cX8_tell 2 = .ok (.putfield 68, 3) := by decide +kernel
theorem dX8_tell_5 : decode cX8_tell 5 = .ok (.iconst 1, 1) := by decide +kernel
theorem dX8_tell_6 : decode cX8_tell 6 = .ok (.ireturn, 1) := by decide +kernel
theorem dX8_found_0 : decode cX8_found 0 = .ok (.aload_n 0, 1) := by decide +kernel
theorem dX8_found_1 : decode cX8_found 1 = .ok (.iload_n 1, 1) := by decide +kernel
theorem dX8_found_2 : decode cX8_found 2 = .ok (.putfield 64, 3) := by decide +kernel
theorem dX8_found_5 : decode cX8_found 5 = .ok (.aload_n 0, 1) := by decide +kernel
theorem dX8_found_6 : decode cX8_found 6 = .ok (.getfield 60, 3) := by decide +kernel
theorem dX8_found_9 : decode cX8_found 9 = .ok (.iload_n 1, 1) := by decide +kernel
theorem dX8_found_10 : decode cX8_found 10 = .ok (.dup2, 1) := by decide +kernel
theorem dX8_found_11 : decode cX8_found 11 = .ok (.iaload, 1) := by decide +kernel
theorem dX8_found_12 : decode cX8_found 12 = .ok (.iconst 1, 1) := by decide +kernel
theorem dX8_found_13 : decode cX8_found 13 = .ok (.iadd, 1) := by decide +kernel
theorem dX8_found_14 : decode cX8_found 14 = .ok (.iastore, 1) := by decide +kernel
theorem dX8_found_15 : decode cX8_found 15 = .ok (.bipush (-3), 2) := by decide +kernel
theorem dX8_found_17 : decode cX8_found 17 = .ok (.ireturn, 1) := by decide +kernel
theorem dX8_record_0 : decode cX8_record 0 = .ok (.aload_n 0, 1) := by decide +kernel
theorem dX8_record_1 : decode cX8_record 1 = .ok (.getfield 38, 3) := by decide +kernel
theorem dX8_record_4 : decode cX8_record 4 = .ok (.aload_n 0, 1) := by decide +kernel
theorem dX8_record_5 : decode cX8_record 5 = .ok (.getfield 32, 3) := by decide +kernel
theorem dX8_record_8 : decode cX8_record 8 = .ok (.invokevirtual 263, 3) := by decide +kernel
theorem dX8_record_11 : decode cX8_record 11 = .ok (.aload_n 0, 1) := by decide +kernel
theorem dX8_record_12 : decode cX8_record 12 = .ok (.getfield 38, 3) := by decide +kernel
theorem dX8_record_15 : decode cX8_record 15 = .ok (.dup, 1) := by decide +kernel
theorem dX8_record_16 : decode cX8_record 16 = .ok (.getfield 139, 3) := by decide +kernel
theorem dX8_record_19 : decode cX8_record 19 = .ok (.iconst 1, 1) := by decide +kernel
theorem dX8_record_20 : decode cX8_record 20 = .ok (.iadd, 1) := by decide +kernel
theorem dX8_record_21 : decode cX8_record 21 = .ok (.putfield 139, 3) := by decide +kernel
theorem dX8_record_24 : decode cX8_record 24 = .ok (.aload_n 0, 1) := by decide +kernel
theorem dX8_record_25 : decode cX8_record 25 = .ok (.getfield 24, 3) := by decide +kernel
theorem dX8_record_28 : decode cX8_record 28 = .ok (.iconst 1, 1) := by decide +kernel
theorem dX8_record_29 : decode cX8_record 29 = .ok (.putfield 135, 3) := by decide +kernel
theorem dX8_record_32 : decode cX8_record 32 = .ok (.return_, 1) := by decide +kernel
theorem dX8_restore_0 : decode cX8_restore 0 = .ok (.aload_n 0, 1) := by decide +kernel
theorem dX8_restore_1 : decode cX8_restore 1 = .ok (.getfield 38, 3) := by decide +kernel
theorem dX8_restore_4 : decode cX8_restore 4 = .ok (.aload_n 0, 1) := by decide +kernel
theorem dX8_restore_5 : decode cX8_restore 5 = .ok (.getfield 32, 3) := by decide +kernel
theorem dX8_restore_8 : decode cX8_restore 8 = .ok (.invokevirtual 297, 3) := by decide +kernel
theorem dX8_restore_11 : decode cX8_restore 11 = .ok (.aload_n 0, 1) := by decide +kernel
theorem dX8_restore_12 : decode cX8_restore 12 = .ok (.getfield 24, 3) := by decide +kernel
theorem dX8_restore_15 : decode cX8_restore 15 = .ok (.iconst 1, 1) := by decide +kernel
theorem dX8_restore_16 : decode cX8_restore 16 = .ok (.putfield 135, 3) := by decide +kernel
theorem dX8_restore_19 : decode cX8_restore 19 = .ok (.return_, 1) := by decide +kernel
theorem dX8_exchange_0 : decode cX8_exchange 0 = .ok (.aload_n 0, 1) := by decide +kernel
theorem dX8_exchange_1 : decode cX8_exchange 1 = .ok (.getfield 56, 3) := by decide +kernel
theorem dX8_exchange_4 : decode cX8_exchange 4 = .ok (.aload_n 0, 1) := by decide +kernel
theorem dX8_exchange_5 : decode cX8_exchange 5 = .ok (.getfield 32, 3) := by decide +kernel
theorem dX8_exchange_8 : decode cX8_exchange 8 = .ok (.getfield 216, 3) := by decide +kernel
theorem dX8_exchange_11 : decode cX8_exchange 11 = .ok (.invokevirtual 131, 3) := by decide +kernel
theorem dX8_exchange_14 : decode cX8_exchange 14 = .ok (.aload_n 0, 1) := by decide +kernel
theorem dX8_exchange_15 : decode cX8_exchange 15 = .ok (.getfield 32, 3) := by decide +kernel
theorem dX8_exchange_18 : decode cX8_exchange 18 = .ok (.getfield 216, 3) := by decide +kernel
theorem dX8_exchange_21 : decode cX8_exchange 21 = .ok (.aload_n 0, 1) := by decide +kernel
theorem dX8_exchange_22 : decode cX8_exchange 22 = .ok (.getfield 32, 3) := by decide +kernel
theorem dX8_exchange_25 : decode cX8_exchange 25 = .ok (.getfield 222, 3) := by decide +kernel
theorem dX8_exchange_28 : decode cX8_exchange 28 = .ok (.invokevirtual 131, 3) := by decide +kernel
theorem dX8_exchange_31 : decode cX8_exchange 31 = .ok (.aload_n 0, 1) := by decide +kernel
theorem dX8_exchange_32 : decode cX8_exchange 32 = .ok (.getfield 32, 3) := by decide +kernel
theorem dX8_exchange_35 : decode cX8_exchange 35 = .ok (.getfield 222, 3) := by decide +kernel
theorem dX8_exchange_38 : decode cX8_exchange 38 = .ok (.aload_n 0, 1) := by decide +kernel
theorem dX8_exchange_39 : decode cX8_exchange 39 = .ok (.getfield 56, 3) := by decide +kernel
theorem dX8_exchange_42 : decode cX8_exchange 42 = .ok (.invokevirtual 131, 3) := by decide +kernel
theorem dX8_exchange_45 : decode cX8_exchange 45 = .ok (.return_, 1) := by decide +kernel
theorem dX8_shake_0 : decode cX8_shake 0 = .ok (.aload_n 0, 1) := by decide +kernel
theorem dX8_shake_1 : decode cX8_shake 1 = .ok (.getfield 32, 3) := by decide +kernel
theorem dX8_shake_4 : decode cX8_shake 4 = .ok (.iload_n 1, 1) := by decide +kernel
theorem dX8_shake_5 : decode cX8_shake 5 = .ok (.iconst 2, 1) := by decide +kernel
theorem dX8_shake_6 : decode cX8_shake 6 = .ok (.idiv, 1) := by decide +kernel
theorem dX8_shake_7 : decode cX8_shake 7 = .ok (.iconst 2, 1) := by decide +kernel
theorem dX8_shake_8 : decode cX8_shake 8 = .ok (.irem, 1) := by decide +kernel
theorem dX8_shake_9 : decode cX8_shake 9 = .ok (.invokevirtual 123, 3) := by decide +kernel
theorem dX8_shake_12 : decode cX8_shake 12 = .ok (.astore_n 2, 1) := by decide +kernel
theorem dX8_shake_13 : decode cX8_shake 13 = .ok (.aload_n 2, 1) := by decide +kernel
theorem dX8_shake_14 : decode cX8_shake 14 = .ok (.getfield 142, 3) := by decide +kernel
theorem dX8_shake_17 : decode cX8_shake 17 = .ok (.ifCond .ne 4, 3) := by decide +kernel
theorem dX8_shake_20 : decode cX8_shake 20 = .ok (.return_, 1) := by decide +kernel
theorem dX8_shake_21 : decode cX8_shake 21 = .ok (.iload_n 1, 1) := by decide +kernel
theorem dX8_shake_22 : decode cX8_shake 22 = .ok (.bipush 64, 2) := by decide +kernel
theorem dX8_shake_24 : decode cX8_shake 24 = .ok (.idiv, 1) := by decide +kernel
theorem dX8_shake_25 : decode cX8_shake 25 = .ok (.aload_n 2, 1) := by decide +kernel
theorem dX8_shake_26 : decode cX8_shake 26 = .ok (.getfield 142, 3) := by decide +kernel
theorem dX8_shake_29 : decode cX8_shake 29 = .ok (.irem, 1) := by decide +kernel
theorem dX8_shake_30 : decode cX8_shake 30 = .ok (.istore_n 3, 1) := by decide +kernel
theorem dX8_shake_31 : decode cX8_shake 31 = .ok (.iload_n 1, 1) := by decide +kernel
theorem dX8_shake_32 : decode cX8_shake 32 = .ok (.bipush 8, 2) := by decide +kernel
theorem dX8_shake_34 : decode cX8_shake 34 = .ok (.irem, 1) := by decide +kernel
theorem dX8_shake_35 : decode cX8_shake 35 = .ok (.istore 4, 2) := by decide +kernel
theorem dX8_shake_37 : decode cX8_shake 37 = .ok (.iload 4, 2) := by decide +kernel
theorem dX8_shake_39 : decode cX8_shake 39 = .ok (.iconst 3, 1) := by decide +kernel
theorem dX8_shake_40 : decode cX8_shake 40 = .ok (.if_icmp .gt 23, 3) := by decide +kernel
theorem dX8_shake_43 : decode cX8_shake 43 = .ok (.aload_n 2, 1) := by decide +kernel
theorem dX8_shake_44 : decode cX8_shake 44 = .ok (.getfield 156, 3) := by decide +kernel
theorem dX8_shake_47 : decode cX8_shake 47 = .ok (.iload_n 3, 1) := by decide +kernel
theorem dX8_shake_48 : decode cX8_shake 48 = .ok (.bipush 97, 2) := by decide +kernel
theorem dX8_shake_50 : decode cX8_shake 50 = .ok (.iload_n 1, 1) := by decide +kernel
theorem dX8_shake_51 : decode cX8_shake 51 = .ok (.sipush 1024, 3) := by decide +kernel
theorem dX8_shake_54 : decode cX8_shake 54 = .ok (.idiv, 1) := by decide +kernel
theorem dX8_shake_55 : decode cX8_shake 55 = .ok (.bipush 18, 2) := by decide +kernel
theorem dX8_shake_57 : decode cX8_shake 57 = .ok (.irem, 1) := by decide +kernel
theorem dX8_shake_58 : decode cX8_shake 58 = .ok (.iadd, 1) := by decide +kernel
theorem dX8_shake_59 : decode cX8_shake 59 = .ok (.iastore, 1) := by decide +kernel
theorem dX8_shake_60 : decode cX8_shake 60 = .ok (.goto 67, 3) := by decide +kernel
theorem dX8_shake_63 : decode cX8_shake 63 = .ok (.iload 4, 2) := by decide +kernel
theorem dX8_shake_65 : decode cX8_shake 65 = .ok (.iconst 5, 1) := by decide +kernel
theorem dX8_shake_66 : decode cX8_shake 66 = .ok (.if_icmp .gt 19, 3) := by decide +kernel
theorem dX8_shake_69 : decode cX8_shake 69 = .ok (.aload_n 2, 1) := by decide +kernel
theorem dX8_shake_70 : decode cX8_shake 70 = .ok (.iload_n 3, 1) := by decide +kernel
theorem dX8_shake_71 : decode cX8_shake 71 = .ok (.invokevirtual 238, 3) := by decide +kernel
theorem dX8_shake_74 : decode cX8_shake 74 = .ok (.ifCond .eq 53, 3) := by decide +kernel
theorem dX8_shake_77 : decode cX8_shake 77 = .ok (.aload_n 2, 1) := by decide +kernel
theorem dX8_shake_78 : decode cX8_shake 78 = .ok (.iload_n 3, 1) := by decide +kernel
theorem dX8_shake_79 : decode cX8_shake 79 = .ok (.invokevirtual 241, 3) := by decide +kernel
