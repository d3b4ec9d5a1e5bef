theorem dX9_add_18 : decode cX9_add 18 = .ok (.ifCond .lt 8, 3) := by decide +kernel
theorem dX9_add_21 : decode cX9_add 21 = .ok (.iload 4, 2) := by decide +kernel
theorem dX9_add_23 : decode cX9_add 23 = .ok (.ifCond .ge 5, 3) := by decide +kernel
theorem dX9_add_26 : decode cX9_add 26 = .ok (.iconst (-1), 1) := by decide +kernel
theorem dX9_add_27 : decode cX9_add 27 = .ok (.ireturn, 1) := by decide +kernel
theorem dX9_add_28 : decode cX9_add 28 = .ok (.aload_n 0, 1) := by decide +kernel
theorem dX9_add_29 : decode cX9_add 29 = .ok (.iload_n 1, 1) := by decide +kernel
theorem dX9_add_30 : decode cX9_add 30 = .ok (.iload_n 2, 1) := by decide +kernel
theorem dX9_add_31 : decode cX9_add 31 = .ok (.invokevirtual 187, 3) := by decide +kernel
theorem dX9_add_34 : decode cX9_add 34 = .ok (.istore 6, 2) := by decide +kernel
theorem dX9_add_36 : decode cX9_add 36 = .ok (.iload_n 3, 1) := by decide +kernel
theorem dX9_add_37 : decode cX9_add 37 = .ok (.iload 6, 2) := by decide +kernel
theorem dX9_add_39 : decode cX9_add 39 = .ok (.if_icmp .gt 12, 3) := by decide +kernel
theorem dX9_add_42 : decode cX9_add 42 = .ok (.iload 4, 2) := by decide +kernel
theorem dX9_add_44 : decode cX9_add 44 = .ok (.iload 6, 2) := by decide +kernel
theorem dX9_add_46 : decode cX9_add 46 = .ok (.iload_n 3, 1) := by decide +kernel
theorem dX9_add_47 : decode cX9_add 47 = .ok (.isub, 1) := by decide +kernel
theorem dX9_add_48 : decode cX9_add 48 = .ok (.if_icmp .le 5, 3) := by decide +kernel
theorem dX9_add_51 : decode cX9_add 51 = .ok (.iconst (-1), 1) := by decide +kernel
theorem dX9_add_52 : decode cX9_add 52 = .ok (.ireturn, 1) := by decide +kernel
theorem dX9_add_53 : decode cX9_add 53 = .ok (.aload_n 0, 1) := by decide +kernel
theorem dX9_add_54 : decode cX9_add 54 = .ok (.iload_n 1, 1) := by decide +kernel
theorem dX9_add_55 : decode cX9_add 55 = .ok (.invokevirtual 119, 3) := by decide +kernel
theorem dX9_add_58 : decode cX9_add 58 = .ok (.bipush 12, 2) := by decide +kernel
theorem dX9_add_60 : decode cX9_add 60 = .ok (.if_icmp .ne 6, 3) := by decide +kernel
theorem dX9_add_63 : decode cX9_add 63 = .ok (.bipush (-4), 2) := by decide +kernel
theorem dX9_add_65 : decode cX9_add 65 = .ok (.ireturn, 1) := by decide +kernel
theorem dX9_add_66 : decode cX9_add 66 = .ok (.aload_n 0, 1) := by decide +kernel
theorem dX9_add_67 : decode cX9_add 67 = .ok (.getfield 144, 3) := by decide +kernel
theorem dX9_add_70 : decode cX9_add 70 = .ok (.bipush 40, 2) := by decide +kernel
theorem dX9_add_72 : decode cX9_add 72 = .ok (.if_icmp .ne 6, 3) := by decide +kernel
theorem dX9_add_75 : decode cX9_add 75 = .ok (.bipush (-2), 2) := by decide +kernel
theorem dX9_add_77 : decode cX9_add 77 = .ok (.ireturn, 1) := by decide +kernel
theorem dX9_add_78 : decode cX9_add 78 = .ok (.aload_n 0, 1) := by decide +kernel
theorem dX9_add_79 : decode cX9_add 79 = .ok (.invokevirtual 256, 3) := by decide +kernel
theorem dX9_add_82 : decode cX9_add 82 = .ok (.aload_n 0, 1) := by decide +kernel
theorem dX9_add_83 : decode cX9_add 83 = .ok (.iload_n 1, 1) := by decide +kernel
theorem dX9_add_84 : decode cX9_add 84 = .ok (.iload_n 2, 1) := by decide +kernel
theorem dX9_add_85 : decode cX9_add 85 = .ok (.iload_n 3, 1) := by decide +kernel
theorem dX9_add_86 : decode cX9_add 86 = .ok (.iload 4, 2) := by decide +kernel
theorem dX9_add_88 : decode cX9_add 88 = .ok (.iload 5, 2) := by decide +kernel
theorem dX9_add_90 : decode cX9_add 90 = .ok (.invokevirtual 271, 3) := by decide +kernel
theorem dX9_add_93 : decode cX9_add 93 = .ok (.ireturn, 1) := by decide +kernel
theorem dX9_price_0 : decode cX9_price 0 = .ok (.iload_n 1, 1) := by decide +kernel
theorem dX9_price_1 : decode cX9_price 1 = .ok (.iconst 0, 1) := by decide +kernel
theorem dX9_price_2 : decode cX9_price 2 = .ok (.iconst 2, 1) := by decide +kernel
theorem dX9_price_3 : decode cX9_price 3 = .ok (.invokestatic 90, 3) := by decide +kernel
theorem dX9_price_6 : decode cX9_price 6 = .ok (.ifCond .eq 13, 3) := by decide +kernel
theorem dX9_price_9 : decode cX9_price 9 = .ok (.iload_n 2, 1) := by decide +kernel
theorem dX9_price_10 : decode cX9_price 10 = .ok (.iconst 1, 1) := by decide +kernel
theorem dX9_price_11 : decode cX9_price 11 = .ok (.bipush 9, 2) := by decide +kernel
theorem dX9_price_13 : decode cX9_price 13 = .ok (.invokestatic 90, 3) := by decide +kernel
theorem dX9_price_16 : decode cX9_price 16 = .ok (.ifCond .ne 5, 3) := by decide +kernel
theorem dX9_price_19 : decode cX9_price 19 = .ok (.iconst (-1), 1) := by decide +kernel
theorem dX9_price_20 : decode cX9_price 20 = .ok (.ireturn, 1) := by decide +kernel
theorem dX9_price_21 : decode cX9_price 21 = .ok (.aload_n 0, 1) := by decide +kernel
theorem dX9_price_22 : decode cX9_price 22 = .ok (.getfield 22, 3) := by decide +kernel
theorem dX9_price_25 : decode cX9_price 25 = .ok (.bipush 50, 2) := by decide +kernel
theorem dX9_price_27 : decode cX9_price 27 = .ok (.iload_n 1, 1) := by decide +kernel
theorem dX9_price_28 : decode cX9_price 28 = .ok (.iadd, 1) := by decide +kernel
theorem dX9_price_29 : decode cX9_price 29 = .ok (.iaload, 1) := by decide +kernel
theorem dX9_price_30 : decode cX9_price 30 = .ok (.istore_n 3, 1) := by decide +kernel
theorem dX9_price_31 : decode cX9_price 31 = .ok (.iload_n 3, 1) := by decide +kernel
theorem dX9_price_32 : decode cX9_price 32 = .ok (.iload_n 2, 1) := by decide +kernel
theorem dX9_price_33 : decode cX9_price 33 = .ok (.if_icmp .ne 6, 3) := by decide +kernel
theorem dX9_price_36 : decode cX9_price 36 = .ok (.bipush (-4), 2) := by decide +kernel
theorem dX9_price_38 : decode cX9_price 38 = .ok (.ireturn, 1) := by decide +kernel
theorem dX9_price_39 : decode cX9_price 39 = .ok (.aload_n 0, 1) := by decide +kernel
theorem dX9_price_40 : decode cX9_price 40 = .ok (.getfield 144, 3) := by decide +kernel
theorem dX9_price_43 : decode cX9_price 43 = .ok (.bipush 40, 2) := by decide +kernel
theorem dX9_price_45 : decode cX9_price 45 = .ok (.if_icmp .ne 6, 3) := by decide +kernel
theorem dX9_price_48 : decode cX9_price 48 = .ok (.bipush (-2), 2) := by decide +kernel
theorem dX9_price_50 : decode cX9_price 50 = .ok (.ireturn, 1) := by decide +kernel
theorem dX9_price_51 : decode cX9_price 51 = .ok (.aload_n 0, 1) := by decide +kernel
theorem dX9_price_52 : decode cX9_price 52 = .ok (.invokevirtual 256, 3) := by decide +kernel
theorem dX9_price_55 : decode cX9_price 55 = .ok (.aload_n 0, 1) := by decide +kernel
theorem dX9_price_56 : decode cX9_price 56 = .ok (.getfield 22, 3) := by decide +kernel
theorem dX9_price_59 : decode cX9_price 59 = .ok (.bipush 50, 2) := by decide +kernel
theorem dX9_price_61 : decode cX9_price 61 = .ok (.iload_n 1, 1) := by decide +kernel
theorem dX9_price_62 : decode cX9_price 62 = .ok (.iadd, 1) := by decide +kernel
theorem dX9_price_63 : decode cX9_price 63 = .ok (.iload_n 2, 1) := by decide +kernel
theorem dX9_price_64 : decode cX9_price 64 = .ok (.iastore, 1) := by decide +kernel
theorem dX9_price_65 : decode cX9_price 65 = .ok (.iload_n 3, 1) := by decide +kernel
theorem dX9_price_66 : decode cX9_price 66 = .ok (.ireturn, 1) := by decide +kernel
theorem dX9_turns_0 : decode cX9_turns 0 = .ok (.iconst 0, 1) := by decide +kernel
theorem dX9_turns_1 : decode cX9_turns 1 = .ok (.istore_n 1, 1) := by decide +kernel
theorem dX9_turns_2 : decode cX9_turns 2 = .ok (.iload_n 1, 1) := by decide +kernel
theorem dX9_turns_3 : decode cX9_turns 3 = .ok (.bipush 25, 2) := by decide +kernel
theorem dX9_turns_5 : decode cX9_turns 5 = .ok (.if_icmp .ge 41, 3) := by decide +kernel
theorem dX9_turns_8 : decode cX9_turns 8 = .ok (.aload_n 0, 1) := by decide +kernel
theorem dX9_turns_9 : decode cX9_turns 9 = .ok (.getfield 22, 3) := by decide +kernel
theorem dX9_turns_12 : decode cX9_turns 12 = .ok (.iload_n 1, 1) := by decide +kernel
theorem dX9_turns_13 : decode cX9_turns 13 = .ok (.iaload, 1) := by decide +kernel
theorem dX9_turns_14 : decode cX9_turns 14 = .ok (.istore_n 2, 1) := by decide +kernel
theorem dX9_turns_15 : decode cX9_turns 15 = .ok (.aload_n 0, 1) := by decide +kernel
theorem dX9_turns_16 : decode cX9_turns 16 = .ok (.getfield 22, 3) := by decide +kernel
theorem dX9_turns_19 : decode cX9_turns 19 = .ok (.iload_n 1, 1) := by decide +kernel
theorem dX9_turns_20 : decode cX9_turns 20 = .ok (.aload_n 0, 1) := by decide +kernel
theorem dX9_turns_21 : decode cX9_turns 21 = .ok (.getfield 22, 3) := by decide +kernel
theorem dX9_turns_24 : decode cX9_turns 24 = .ok (.bipush 25, 2) := by decide +kernel
theorem dX9_turns_26 : decode cX9_turns 26 = .ok (.iload_n 1, 1) := by decide +kernel
theorem dX9_turns_27 : decode cX9_turns 27 = .ok (.iadd, 1) := by decide +kernel
theorem dX9_turns_28 : decode cX9_turns 28 = .ok (.iaload, 1) := by decide +kernel
theorem dX9_turns_29 : decode cX9_turns 29 = .ok (.iastore, 1) := by decide +kernel
theorem dX9_turns_30 : decode cX9_turns 30 = .ok (.aload_n 0, 1) := by decide +kernel
theorem dX9_turns_31 : decode cX9_turns 31 = .ok (.getfield 22, 3) := by decide +kernel
theorem dX9_turns_34 : decode cX9_turns 34 = .ok (.bipush 25, 2) := by decide +kernel
theorem dX9_turns_36 : decode cX9_turns 36 = .ok (.iload_n 1, 1) := by decide +kernel
theorem dX9_turns_37 : decode cX9_turns 37 = .ok (.iadd, 1) := by decide +kernel
theorem dX9_turns_38 : decode cX9_turns 38 = .ok (.iload_n 2, 1) := by decide +kernel
theorem dX9_turns_39 : decode cX9_turns 39 = .ok (.iastore, 1) := by decide +kernel
theorem dX9_turns_40 : decode cX9_turns 40 = .ok (.iinc 1 1, 3) := by decide +kernel
theorem dX9_turns_43 : decode cX9_turns 43 = .ok (.goto (-41), 3) := by decide +kernel
theorem dX9_turns_46 : decode cX9_turns 46 = .ok (.return_, 1) := by decide +kernel
theorem dX9_turn_0 : decode cX9_turn 0 = .ok (.aload_n 0, 1) := by decide +kernel
theorem dX9_turn_1 : decode cX9_turn 1 = .ok (.invokevirtual 224, 3) := by decide +kernel
theorem dX9_turn_4 : decode cX9_turn 4 = .ok (.ifCond .ne 6, 3) := by decide +kernel
theorem dX9_turn_7 : decode cX9_turn 7 = .ok (.bipush (-4), 2) := by decide +kernel
theorem dX9_turn_9 : decode cX9_turn 9 = .ok (.ireturn, 1) := by decide +kernel
theorem dX9_turn_10 : decode cX9_turn 10 = .ok (.aload_n 0, 1) := by decide +kernel
theorem dX9_turn_11 : decode cX9_turn 11 = .ok (.getfield 144, 3) := by decide +kernel
theorem dX9_turn_14 : decode cX9_turn 14 = .ok (.bipush 40, 2) := by decide +kernel
theorem dX9_turn_16 : decode cX9_turn 16 = .ok (.if_icmp .ne 6, 3) := by decide +kernel
theorem dX9_turn_19 : decode cX9_turn 19 = .ok (.bipush (-2), 2) := by decide +kernel
theorem dX9_turn_21 : decode cX9_turn 21 = .ok (.ireturn, 1) := by decide +kernel
theorem dX9_turn_22 : decode cX9_turn 22 = .ok (.aload_n 0, 1) := by decide +kernel
theorem dX9_turn_23 : decode cX9_turn 23 = .ok (.invokevirtual 256, 3) := by decide +kernel
theorem dX9_turn_26 : decode cX9_turn 26 = .ok (.aload_n 0, 1) := by decide +kernel
theorem dX9_turn_27 : decode cX9_turn 27 = .ok (.invokevirtual 275, 3) := by decide +kernel
theorem dX9_turn_30 : decode cX9_turn 30 = .ok (.aload_n 0, 1) := by decide +kernel
theorem dX9_turn_31 : decode cX9_turn 31 = .ok (.iconst 0, 1) := by decide +kernel
theorem dX9_turn_32 : decode cX9_turn 32 = .ok (.invokevirtual 119, 3) := by decide +kernel
theorem dX9_turn_35 : decode cX9_turn 35 = .ok (.ireturn, 1) := by decide +kernel
theorem dX9_undo_0 : decode cX9_undo 0 = .ok (.iload_n 1, 1) := by decide +kernel
theorem dX9_undo_1 : decode cX9_undo 1 = .ok (.iconst 0, 1) := by decide +kernel
theorem dX9_undo_2 : decode cX9_undo 2 = .ok (.aload_n 0, 1) := by decide +kernel
theorem dX9_undo_3 : decode cX9_undo 3 = .ok (.getfield 144, 3) := by decide +kernel
theorem dX9_undo_6 : decode cX9_undo 6 = .ok (.invokestatic 90, 3) := by decide +kernel
theorem dX9_undo_9 : decode cX9_undo 9 = .ok (.ifCond .ne 5, 3) := by decide +kernel
theorem dX9_undo_12 : decode cX9_undo 12 = .ok (.iconst (-1), 1) := by decide +kernel
theorem dX9_undo_13 : decode cX9_undo 13 = .ok (.ireturn, 1) := by decide +kernel
theorem dX9_undo_14 : decode cX9_undo 14 = .ok (.aload_n 0, 1) := by decide +kernel
theorem dX9_undo_15 : decode cX9_undo 15 = .ok (.getfield 144, 3) := by decide +kernel
theorem dX9_undo_18 : decode cX9_undo 18 = .ok (.iload_n 1, 1) := by decide +kernel
theorem dX9_undo_19 : decode cX9_undo 19 = .ok (.isub, 1) := by decide +kernel
theorem dX9_undo_20 : decode cX9_undo 20 = .ok (.istore_n 2, 1) := by decide +kernel
theorem dX9_undo_21 : decode cX9_undo 21 = .ok (.iload_n 2, 1) := by decide +kernel
theorem dX9_undo_22 : decode cX9_undo 22 = .ok (.ifCond .le 21, 3) := by decide +kernel
theorem dX9_undo_25 : decode cX9_undo 25 = .ok (.aload_n 0, 1) := by decide +kernel
theorem dX9_undo_26 : decode cX9_undo 26 = .ok (.getfield 25, 3) := by decide +kernel
theorem dX9_undo_29 : decode cX9_undo 29 = .ok (.bipush 53, 2) := by decide +kernel
theorem dX9_undo_31 : decode cX9_undo 31 = .ok (.iload_n 1, 1) := by decide +kernel
theorem dX9_undo_32 : decode cX9_undo 32 = .ok (.imul, 1) := by decide +kernel
theorem dX9_undo_33 : decode cX9_undo 33 = .ok (.aload_n 0, 1) := by decide +kernel
theorem dX9_undo_34 : decode cX9_undo 34 = .ok (.getfield 22, 3) := by decide +kernel
theorem dX9_undo_37 : decode cX9_undo 37 = .ok (.iconst 0, 1) := by decide +kernel
theorem dX9_undo_38 : decode cX9_undo 38 = .ok (.bipush 53, 2) := by decide +kernel
theorem dX9_undo_40 : decode cX9_undo 40 = .ok (.invokestatic 140, 3) := by decide +kernel
theorem dX9_undo_43 : decode cX9_undo 43 = .ok (.aload_n 0, 1) := by decide +kernel
theorem dX9_undo_44 : decode cX9_undo 44 = .ok (.iload_n 1, 1) := by decide +kernel
theorem dX9_undo_45 : decode cX9_undo 45 = .ok (.putfield 144, 3) := by decide +kernel
theorem dX9_undo_48 : decode cX9_undo 48 = .ok (.iload_n 2, 1) := by decide +kernel
theorem dX9_undo_49 : decode cX9_undo 49 = .ok (.ireturn, 1) := by decide +kernel
theorem dX9_keep_0 : decode cX9_keep 0 = .ok (.iload_n 1, 1) := by decide +kernel
theorem dX9_keep_1 : decode cX9_keep 1 = .ok (.iconst 0, 1) := by decide +kernel
theorem dX9_keep_2 : decode cX9_keep 2 = .ok (.iconst 2, 1) := by decide +kernel
theorem dX9_keep_3 : decode cX9_keep 3 = .ok (.invokestatic 90, 3) := by decide +kernel
theorem dX9_keep_6 : decode cX9_keep 6 = .ok (.ifCond .ne 5, 3) := by decide +kernel
theorem dX9_keep_9 : decode cX9_keep 9 = .ok (.iconst (-1), 1) := by decide +kernel
theorem dX9_keep_10 : decode cX9_keep 10 = .ok (.ireturn, 1) := by decide +kernel
theorem dX9_keep_11 : decode cX9_keep 11 = .ok (.sipush 2174, 3) := by decide +kernel
theorem dX9_keep_14 : decode cX9_keep 14 = .ok (.iload_n 1, 1) := by decide +kernel
theorem dX9_keep_15 : decode cX9_keep 15 = .ok (.imul, 1) := by decide +kernel
theorem dX9_keep_16 : decode cX9_keep 16 = .ok (.istore_n 2, 1) := by decide +kernel
theorem dX9_keep_17 : decode cX9_keep 17 = .ok (.aload_n 0, 1) := by decide +kernel
theorem dX9_keep_18 : decode cX9_keep 18 = .ok (.getfield 31, 3) := by decide +kernel
theorem dX9_keep_21 : decode cX9_keep 21 = .ok (.iload_n 1, 1) := by decide +kernel
theorem dX9_keep_22 : decode cX9_keep 22 = .ok (.iconst 1, 1) := by decide +kernel
theorem dX9_keep_23 : decode cX9_keep 23 = .ok (.bastore, 1) := by decide +kernel
theorem dX9_keep_24 : decode cX9_keep 24 = .ok (.aload_n 0, 1) := by decide +kernel
theorem dX9_keep_25 : decode cX9_keep 25 = .ok (.getfield 28, 3) := by decide +kernel
theorem dX9_keep_28 : decode cX9_keep 28 = .ok (.iload_n 2, 1) := by decide +kernel
theorem dX9_keep_29 : decode cX9_keep 29 = .ok (.aload_n 0, 1) := by decide +kernel
theorem dX9_keep_30 : decode cX9_keep 30 = .ok (.getfield 144, 3) := by decide +kernel
theorem dX9_keep_33 : decode cX9_keep 33 = .ok (.iastore, 1) := by decide +kernel
theorem dX9_keep_34 : decode cX9_keep 34 = .ok (.aload_n 0, 1) := by decide +kernel
theorem dX9_keep_35 : decode cX9_keep 35 = .ok (.getfield 22, 3) := by decide +kernel
theorem dX9_keep_38 : decode cX9_keep 38 = .ok (.iconst 0, 1) := by decide +kernel
theorem dX9_keep_39 : decode cX9_keep 39 = .ok (.aload_n 0, 1) := by decide +kernel
theorem dX9_keep_40 : decode cX9_keep 40 = .ok (.getfield 28, 3) := by decide +kernel
theorem dX9_keep_43 : decode cX9_keep 43 = .ok (.iload_n 2, 1) := by decide +kernel
theorem dX9_keep_44 : decode cX9_keep 44 = .ok (.iconst 1, 1) := by decide +kernel
theorem dX9_keep_45 : decode cX9_keep 45 = .ok (.iadd, 1) := by decide +kernel
theorem dX9_keep_46 : decode cX9_keep 46 = .ok (.bipush 53, 2) := by decide +kernel
theorem dX9_keep_48 : decode cX9_keep 48 = .ok (.invokestatic 140, 3) := by decide +kernel
theorem dX9_keep_51 : decode cX9_keep 51 = .ok (.aload_n 0, 1) := by decide +kernel
theorem dX9_keep_52 : decode cX9_keep 52 = .ok (.getfield 25, 3) := by decide +kernel
theorem dX9_keep_55 : decode cX9_keep 55 = .ok (.iconst 0, 1) := by decide +kernel
theorem dX9_keep_56 : decode cX9_keep 56 = .ok (.aload_n 0, 1) := by decide +kernel
theorem dX9_keep_57 : decode cX9_keep 57 = .ok (.getfield 28, 3) := by decide +kernel
theorem dX9_keep_60 : decode cX9_keep 60 = .ok (.iload_n 2, 1) := by decide +kernel
theorem dX9_keep_61 : decode cX9_keep 61 = .ok (.iconst 1, 1) := by decide +kernel
theorem dX9_keep_62 : decode cX9_keep 62 = .ok (.iadd, 1) := by decide +kernel
theorem dX9_keep_63 : decode cX9_keep 63 = .ok (.bipush 53, 2) := by decide +kernel
theorem dX9_keep_65 : decode cX9_keep 65 = .ok (.iadd, 1) := by decide +kernel
theorem dX9_keep_66 : decode cX9_keep 66 = .ok (.sipush 2120, 3) := by decide +kernel
theorem dX9_keep_69 : decode cX9_keep 69 = .ok (.invokestatic 140, 3) := by decide +kernel
theorem dX9_keep_72 : decode cX9_keep 72 = .ok (.aload_n 0, 1) := by decide +kernel
theorem dX9_keep_73 : decode cX9_keep 73 = .ok (.getfield 144, 3) := by decide +kernel
theorem dX9_keep_76 : decode cX9_keep 76 = .ok (.ireturn, 1) := by decide +kernel
theorem dX9_on_0 : decode cX9_on 0 = .ok (.iload_n 1, 1) := by decide +kernel
theorem dX9_on_1 : decode cX9_on 1 = .ok (.iconst 0, 1) := by decide +kernel
theorem dX9_on_2 : decode cX9_on 2 = .ok (.iconst 2, 1) := by decide +kernel
theorem dX9_on_3 : decode cX9_on 3 = .ok (.invokestatic 90, 3) := by decide +kernel
theorem dX9_on_6 : decode cX9_on 6 = .ok (.ifCond .ne 5, 3) := by decide +kernel
theorem dX9_on_9 : decode cX9_on 9 = .ok (.iconst (-1), 1) := by decide +kernel
theorem dX9_on_10 : decode cX9_on 10 = .ok (.ireturn, 1) := by decide +kernel
theorem dX9_on_11 : decode cX9_on 11 = .ok (.aload_n 0, 1) := by decide +kernel
theorem dX9_on_12 : decode cX9_on 12 = .ok (.getfield 31, 3) := by decide +kernel
theorem dX9_on_15 : decode cX9_on 15 = .ok (.iload_n 1, 1) := by decide +kernel
theorem dX9_on_16 : decode cX9_on 16 = .ok (.baload, 1) := by decide +kernel
theorem dX9_on_17 : decode cX9_on 17 = .ok (.ifCond .ne 9, 3) := by decide +kernel
theorem dX9_on_20 : decode cX9_on 20 = .ok (.aload_n 0, 1) := by decide +kernel
theorem dX9_on_21 : decode cX9_on 21 = .ok (.iconst 1, 1) := by decide +kernel
theorem dX9_on_22 : decode cX9_on 22 = .ok (.invokevirtual 98, 3) := by decide +kernel
theorem dX9_on_25 : decode cX9_on 25 = .ok (.ireturn, 1) := by decide +kernel
theorem dX9_on_26 : decode cX9_on 26 = .ok (.sipush 2174, 3) := by decide +kernel
theorem dX9_on_29 : decode cX9_on 29 = .ok (.iload_n 1, 1) := by decide +kernel
theorem dX9_on_30 : decode cX9_on 30 = .ok (.imul, 1) := by decide +kernel
theorem dX9_on_31 : decode cX9_on 31 = .ok (.istore_n 2, 1) := by decide +kernel
theorem dX9_on_32 : decode cX9_on 32 = .ok (.aload_n 0, 1) := by decide +kernel
theorem dX9_on_33 : decode cX9_on 33 = .ok (.aload_n 0, 1) := by decide +kernel
theorem dX9_on_34 : decode cX9_on 34 = .ok (.getfield 28, 3) := by decide +kernel
theorem dX9_on_37 : decode cX9_on 37 = .ok (.iload_n 2, 1) := by decide +kernel
theorem dX9_on_38 : decode cX9_on 38 = .ok (.iaload, 1) := by decide +kernel
theorem dX9_on_39 : decode cX9_on 39 = .ok (.putfield 144, 3) := by decide +kernel
theorem dX9_on_42 : decode cX9_on 42 = .ok (.aload_n 0, 1) := by decide +kernel
theorem dX9_on_43 : decode cX9_on 43 = .ok (.getfield 28, 3) := by decide +kernel
theorem dX9_on_46 : decode cX9_on 46 = .ok (.iload_n 2, 1) := by decide +kernel
theorem dX9_on_47 : decode cX9_on 47 = .ok (.iconst 1, 1) := by decide +kernel
theorem dX9_on_48 : decode cX9_on 48 = .ok (.iadd, 1) := by decide +kernel
theorem dX9_on_49 : decode cX9_on 49 = .ok (.aload_n 0, 1) := by decide +kernel
theorem dX9_on_50 : decode cX9_on 50 = .ok (.getfield 22, 3) := by decide +kernel
theorem dX9_on_53 : decode cX9_on 53 = .ok (.iconst 0, 1) := by decide +kernel
theorem dX9_on_54 : decode cX9_on 54 = .ok (.bipush 53, 2) := by decide +kernel
theorem dX9_on_56 : decode cX9_on 56 = .ok (.invokestatic 140, 3) := by decide +kernel
theorem dX9_on_59 : decode cX9_on 59 = .ok (.aload_n 0, 1) := by decide +kernel
theorem dX9_on_60 : decode cX9_on 60 = .ok (.getfield 28, 3) := by decide +kernel
theorem dX9_on_63 : decode cX9_on 63 = .ok (.iload_n 2, 1) := by decide +kernel
theorem dX9_on_64 : decode cX9_on 64 = .ok (.iconst 1, 1) := by decide +kernel
theorem dX9_on_65 : decode cX9_on 65 = .ok (.iadd, 1) := by decide +kernel
theorem dX9_on_66 : decode cX9_on 66 = .ok (.bipush 53, 2) := by decide +kernel
theorem dX9_on_68 : decode cX9_on 68 = .ok (.iadd, 1) := by decide +kernel
theorem dX9_on_69 : decode cX9_on 69 = .ok (.aload_n 0, 1) := by decide +kernel
theorem dX9_on_70 : decode cX9_on 70 = .ok (.getfield 25, 3) := by decide +kernel
theorem dX9_on_73 : decode cX9_on 73 = .ok (.iconst 0, 1) := by decide +kernel
theorem dX9_on_74 : decode cX9_on 74 = .ok (.sipush 2120, 3) := by decide +kernel
theorem dX9_on_77 : decode cX9_on 77 = .ok (.invokestatic 140, 3) := by decide +kernel
theorem dX9_on_80 : decode cX9_on 80 = .ok (.aload_n 0, 1) := by decide +kernel
theorem dX9_on_81 : decode cX9_on 81 = .ok (.getfield 144, 3) := by decide +kernel
theorem dX9_on_84 : decode cX9_on 84 = .ok (.ireturn, 1) := by decide +kernel
theorem dX9_does_0 : decode cX9_does 0 = .ok (.iload_n 1, 1) := by decide +kernel
theorem dX9_does_1 : decode cX9_does 1 = .ok (.iconst 2, 1) := by decide +kernel
theorem dX9_does_2 : decode cX9_does 2 = .ok (.idiv, 1) := by decide +kernel
theorem dX9_does_3 : decode cX9_does 3 = .ok (.iconst 2, 1) := by decide +kernel
theorem dX9_does_4 : decode cX9_does 4 = .ok (.irem, 1) := by decide +kernel
theorem dX9_does_5 : decode cX9_does 5 = .ok (.istore_n 2, 1) := by decide +kernel
theorem dX9_does_6 : decode cX9_does 6 = .ok (.iload_n 1, 1) := by decide +kernel
theorem dX9_does_7 : decode cX9_does 7 = .ok (.bipush 64, 2) := by decide +kernel
theorem dX9_does_9 : decode cX9_does 9 = .ok (.idiv, 1) := by decide +kernel
theorem dX9_does_10 : decode cX9_does 10 = .ok (.aload_n 0, 1) := by decide +kernel
theorem dX9_does_11 : decode cX9_does 11 = .ok (.iload_n 2, 1) := by decide +kernel
theorem dX9_does_12 : decode cX9_does 12 = .ok (.invokevirtual 119, 3) := by decide +kernel
theorem dX9_does_15 : decode cX9_does 15 = .ok (.irem, 1) := by decide +kernel
theorem dX9_does_16 : decode cX9_does 16 = .ok (.istore_n 3, 1) := by decide +kernel
theorem dX9_does_17 : decode cX9_does 17 = .ok (.iload_n 1, 1) := by decide +kernel
theorem dX9_does_18 : decode cX9_does 18 = .ok (.bipush 8, 2) := by decide +kernel
theorem dX9_does_20 : decode cX9_does 20 = .ok (.irem, 1) := by decide +kernel
theorem dX9_does_21 : decode cX9_does 21 = .ok (.istore 4, 2) := by decide +kernel
theorem dX9_does_23 : decode cX9_does 23 = .ok (.iload 4, 2) := by decide +kernel
theorem dX9_does_25 : decode cX9_does 25 = .ok (.iconst 4, 1) := by decide +kernel
theorem dX9_does_26 : decode cX9_does 26 = .ok (.if_icmp .ge 30, 3) := by decide +kernel
theorem dX9_does_29 : decode cX9_does 29 = .ok (.aload_n 0, 1) := by decide +kernel
theorem dX9_does_30 : decode cX9_does 30 = .ok (.getfield 22, 3) := by decide +kernel
theorem dX9_does_33 : decode cX9_does 33 = .ok (.bipush 25, 2) := by decide +kernel
theorem dX9_does_35 : decode cX9_does 35 = .ok (.iload_n 2, 1) := by decide +kernel
theorem dX9_does_36 : decode cX9_does 36 = .ok (.imul, 1) := by decide +kernel
theorem dX9_does_37 : decode cX9_does 37 = .ok (.iconst 1, 1) := by decide +kernel
theorem dX9_does_38 : decode cX9_does 38 = .ok (.iadd, 1) := by decide +kernel
theorem dX9_does_39 : decode cX9_does 39 = .ok (.iload_n 3, 1) := by decide +kernel
theorem dX9_does_40 : decode cX9_does 40 = .ok (.iadd, 1) := by decide +kernel
theorem dX9_does_41 : decode cX9_does 41 = .ok (.bipush 97, 2) := by decide +kernel
theorem dX9_does_43 : decode cX9_does 43 = .ok (.iload_n 1, 1) := by decide +kernel
theorem dX9_does_44 : decode cX9_does 44 = .ok (.sipush 1024, 3) := by decide +kernel
theorem dX9_does_47 : decode cX9_does 47 = .ok (.idiv, 1) := by decide +kernel
theorem dX9_does_48 : decode cX9_does 48 = .ok (.bipush 18, 2) := by decide +kernel
theorem dX9_does_50 : decode cX9_does 50 = .ok (.irem, 1) := by decide +kernel
theorem dX9_does_51 : decode cX9_does 51 = .ok (.iadd, 1) := by decide +kernel
theorem dX9_does_52 : decode cX9_does 52 = .ok (.iastore, 1) := by decide +kernel
theorem dX9_does_53 : decode cX9_does 53 = .ok (.goto 72, 3) := by decide +kernel
theorem dX9_does_56 : decode cX9_does 56 = .ok (.iload 4, 2) := by decide +kernel
theorem dX9_does_58 : decode cX9_does 58 = .ok (.bipush 6, 2) := by decide +kernel
theorem dX9_does_60 : decode cX9_does 60 = .ok (.if_icmp .ge 21, 3) := by decide +kernel
theorem dX9_does_63 : decode cX9_does 63 = .ok (.aload_n 0, 1) := by decide +kernel
theorem dX9_does_64 : decode cX9_does 64 = .ok (.iload_n 2, 1) := by decide +kernel
theorem dX9_does_65 : decode cX9_does 65 = .ok (.iload_n 3, 1) := by decide +kernel
theorem dX9_does_66 : decode cX9_does 66 = .ok (.invokevirtual 259, 3) := by decide +kernel
theorem dX9_does_69 : decode cX9_does 69 = .ok (.ifCond .eq 56, 3) := by decide +kernel
theorem dX9_does_72 : decode cX9_does 72 = .ok (.aload_n 0, 1) := by decide +kernel
theorem dX9_does_73 : decode cX9_does 73 = .ok (.iload_n 2, 1) := by decide +kernel
theorem dX9_does_74 : decode cX9_does 74 = .ok (.iload_n 3, 1) := by decide +kernel
theorem dX9_does_75 : decode cX9_does 75 = .ok (.invokevirtual 262, 3) := by decide +kernel
theorem dX9_does_78 : decode cX9_does 78 = .ok (.goto 47, 3) := by decide +kernel
theorem dX9_does_81 : decode cX9_does 81 = .ok (.iload 4, 2) := by decide +kernel
theorem dX9_does_83 : decode cX9_does 83 = .ok (.bipush 7, 2) := by decide +kernel
theorem dX9_does_85 : decode cX9_does 85 = .ok (.if_icmp .ne 10, 3) := by decide +kernel
theorem dX9_does_88 : decode cX9_does 88 = .ok (.aload_n 0, 1) := by decide +kernel
theorem dX9_does_89 : decode cX9_does 89 = .ok (.invokevirtual 275, 3) := by decide +kernel
theorem dX9_does_92 : decode cX9_does 92 = .ok (.goto 33, 3) := by decide +kernel
theorem dX9_does_95 : decode cX9_does 95 = .ok (.aload_n 0, 1) := by decide +kernel
theorem dX9_does_96 : decode cX9_does 96 = .ok (.iload_n 2, 1) := by decide +kernel
theorem dX9_does_97 : decode cX9_does 97 = .ok (.invokevirtual 119, 3) := by decide +kernel
theorem dX9_does_100 : decode cX9_does 100 = .ok (.bipush 12, 2) := by decide +kernel
theorem dX9_does_102 : decode cX9_does 102 = .ok (.if_icmp .ge 23, 3) := by decide +kernel
theorem dX9_does_105 : decode cX9_does 105 = .ok (.aload_n 0, 1) := by decide +kernel
theorem dX9_does_106 : decode cX9_does 106 = .ok (.iload_n 2, 1) := by decide +kernel
theorem dX9_does_107 : decode cX9_does 107 = .ok (.iload_n 3, 1) := by decide +kernel
theorem dX9_does_108 : decode cX9_does 108 = .ok (.iconst 0, 1) := by decide +kernel
theorem dX9_does_109 : decode cX9_does 109 = .ok (.iconst 0, 1) := by decide +kernel
theorem dX9_does_110 : decode cX9_does 110 = .ok (.bipush 48, 2) := by decide +kernel
theorem dX9_does_112 : decode cX9_does 112 = .ok (.iload_n 1, 1) := by decide +kernel
theorem dX9_does_113 : decode cX9_does 113 = .ok (.sipush 1024, 3) := by decide +kernel
theorem dX9_does_116 : decode cX9_does 116 = .ok (.idiv, 1) := by decide +kernel
theorem dX9_does_117 : decode cX9_does 117 = .ok (.bipush 10, 2) := by decide +kernel
theorem dX9_does_119 : decode cX9_does 119 = .ok (.irem, 1) := by decide +kernel
theorem dX9_does_120 : decode cX9_does 120 = .ok (.iadd, 1) := by decide +kernel
theorem dX9_does_121 : decode cX9_does 121 = .ok (.invokevirtual 271, 3) := by decide +kernel
theorem dX9_does_124 : decode cX9_does 124 = .ok (.pop, 1) := by decide +kernel
theorem dX9_does_125 : decode cX9_does 125 = .ok (.return_, 1) := by decide +kernel
theorem dX9_lots_0 : decode cX9_lots 0 = .ok (.iload_n 1, 1) := by decide +kernel
theorem dX9_lots_1 : decode cX9_lots 1 = .ok (.iconst 1, 1) := by decide +kernel
theorem dX9_lots_2 : decode cX9_lots 2 = .ok (.bipush 20, 2) := by decide +kernel
theorem dX9_lots_4 : decode cX9_lots 4 = .ok (.invokestatic 90, 3) := by decide +kernel
theorem dX9_lots_7 : decode cX9_lots 7 = .ok (.ifCond .eq 14, 3) := by decide +kernel
theorem dX9_lots_10 : decode cX9_lots 10 = .ok (.iload_n 2, 1) := by decide +kernel
theorem dX9_lots_11 : decode cX9_lots 11 = .ok (.iconst 1, 1) := by decide +kernel
theorem dX9_lots_12 : decode cX9_lots 12 = .ok (.ldc_w 278, 3) := by decide +kernel
theorem dX9_lots_15 : decode cX9_lots 15 = .ok (.invokestatic 90, 3) := by decide +kernel
theorem dX9_lots_18 : decode cX9_lots 18 = .ok (.ifCond .ne 5, 3) := by decide +kernel
theorem dX9_lots_21 : decode cX9_lots 21 = .ok (.iconst (-1), 1) := by decide +kernel
theorem dX9_lots_22 : decode cX9_lots 22 = .ok (.ireturn, 1) := by decide +kernel
theorem dX9_lots_23 : decode cX9_lots 23 = .ok (.aload_n 0, 1) := by decide +kernel
theorem dX9_lots_24 : decode cX9_lots 24 = .ok (.invokevirtual 224, 3) := by decide +kernel
theorem dX9_lots_27 : decode cX9_lots 27 = .ok (.ifCond .ne 6, 3) := by decide +kernel
theorem dX9_lots_30 : decode cX9_lots 30 = .ok (.bipush (-4), 2) := by decide +kernel
theorem dX9_lots_32 : decode cX9_lots 32 = .ok (.ireturn, 1) := by decide +kernel
theorem dX9_lots_33 : decode cX9_lots 33 = .ok (.aload_n 0, 1) := by decide +kernel
theorem dX9_lots_34 : decode cX9_lots 34 = .ok (.getfield 144, 3) := by decide +kernel
theorem dX9_lots_37 : decode cX9_lots 37 = .ok (.iload_n 1, 1) := by decide +kernel
theorem dX9_lots_38 : decode cX9_lots 38 = .ok (.iadd, 1) := by decide +kernel
theorem dX9_lots_39 : decode cX9_lots 39 = .ok (.bipush 40, 2) := by decide +kernel
theorem dX9_lots_41 : decode cX9_lots 41 = .ok (.if_icmp .le 6, 3) := by decide +kernel
theorem dX9_lots_44 : decode cX9_lots 44 = .ok (.bipush (-2), 2) := by decide +kernel
theorem dX9_lots_46 : decode cX9_lots 46 = .ok (.ireturn, 1) := by decide +kernel
theorem dX9_lots_47 : decode cX9_lots 47 = .ok (.iload_n 2, 1) := by decide +kernel
theorem dX9_lots_48 : decode cX9_lots 48 = .ok (.i2l, 1) := by decide +kernel
theorem dX9_lots_49 : decode cX9_lots 49 = .ok (.lstore_n 3, 1) := by decide +kernel
theorem dX9_lots_50 : decode cX9_lots 50 = .ok (.iconst 0, 1) := by decide +kernel
theorem dX9_lots_51 : decode cX9_lots 51 = .ok (.istore 5, 2) := by decide +kernel
theorem dX9_lots_53 : decode cX9_lots 53 = .ok (.iload 5, 2) := by decide +kernel
theorem dX9_lots_55 : decode cX9_lots 55 = .ok (.iload_n 1, 1) := by decide +kernel
theorem dX9_lots_56 : decode cX9_lots 56 = .ok (.if_icmp .ge 29, 3) := by decide +kernel
theorem dX9_lots_59 : decode cX9_lots 59 = .ok (.lload_n 3, 1) := by decide +kernel
theorem dX9_lots_60 : decode cX9_lots 60 = .ok (.ldc2_w 279, 3) := by decide +kernel
theorem dX9_lots_63 : decode cX9_lots 63 = .ok (.lmul, 1) := by decide +kernel
theorem dX9_lots_64 : decode cX9_lots 64 = .ok (.ldc2_w 281, 3) := by decide +kernel
theorem dX9_lots_67 : decode cX9_lots 67 = .ok (.lrem, 1) := by decide +kernel
theorem dX9_lots_68 : decode cX9_lots 68 = .ok (.lstore_n 3, 1) := by decide +kernel
theorem dX9_lots_69 : decode cX9_lots 69 = .ok (.aload_n 0, 1) := by decide +kernel
theorem dX9_lots_70 : decode cX9_lots 70 = .ok (.invokevirtual 256, 3) := by decide +kernel
theorem dX9_lots_73 : decode cX9_lots 73 = .ok (.aload_n 0, 1) := by decide +kernel
theorem dX9_lots_74 : decode cX9_lots 74 = .ok (.lload_n 3, 1) := by decide +kernel
theorem dX9_lots_75 : decode cX9_lots 75 = .ok (.l2i, 1) := by decide +kernel
theorem dX9_lots_76 : decode cX9_lots 76 = .ok (.invokevirtual 283, 3) := by decide +kernel
theorem dX9_lots_79 : decode cX9_lots 79 = .ok (.iinc 5 1, 3) := by decide +kernel
theorem dX9_lots_82 : decode cX9_lots 82 = .ok (.goto (-29), 3) := by decide +kernel
theorem dX9_lots_85 : decode cX9_lots 85 = .ok (.aload_n 0, 1) := by decide +kernel
theorem dX9_lots_86 : decode cX9_lots 86 = .ok (.iconst 0, 1) := by decide +kernel
theorem dX9_lots_87 : decode cX9_lots 87 = .ok (.invokevirtual 119, 3) := by decide +kernel
theorem dX9_lots_90 : decode cX9_lots 90 = .ok (.aload_n 0, 1) := by decide +kernel
theorem dX9_lots_91 : decode cX9_lots 91 = .ok (.iconst 1, 1) := by decide +kernel
theorem dX9_lots_92 : decode cX9_lots 92 = .ok (.invokevirtual 119, 3) := by decide +kernel
theorem dX9_lots_95 : decode cX9_lots 95 = .ok (.iadd, 1) := by decide +kernel
theorem dX9_lots_96 : decode cX9_lots 96 = .ok (.ireturn, 1) := by decide +kernel
theorem dX9_asked_0 : decode cX9_asked 0 = .ok (.aload_n 0, 1) := by decide +kernel
theorem dX9_asked_1 : decode cX9_asked 1 = .ok (.getfield 87, 3) := by decide +kernel
theorem dX9_asked_4 : decode cX9_asked 4 = .ok (.ireturn, 1) := by decide +kernel
theorem dX9_there_0 : decode cX9_there 0 = .ok (.iconst 0, 1) := by decide +kernel
theorem dX9_there_1 : decode cX9_there 1 = .ok (.istore_n 1, 1) := by decide +kernel
theorem dX9_there_2 : decode cX9_there 2 = .ok (.iconst 0, 1) := by decide +kernel
theorem dX9_there_3 : decode cX9_there 3 = .ok (.istore_n 2, 1) := by decide +kernel
theorem dX9_there_4 : decode cX9_there 4 = .ok (.iload_n 2, 1) := by decide +kernel
theorem dX9_there_5 : decode cX9_there 5 = .ok (.aload_n 0, 1) := by decide +kernel
theorem dX9_there_6 : decode cX9_there 6 = .ok (.arraylength, 1) := by decide +kernel
theorem dX9_there_7 : decode cX9_there 7 = .ok (.if_icmp .ge 23, 3) := by decide +kernel
theorem dX9_there_10 : decode cX9_there 10 = .ok (.iload_n 1, 1) := by decide +kernel
theorem dX9_there_11 : decode cX9_there 11 = .ok (.aload_n 0, 1) := by decide +kernel
theorem dX9_there_12 : decode cX9_there 12 = .ok (.iload_n 2, 1) := by decide +kernel
theorem dX9_there_13 : decode cX9_there 13 = .ok (.iaload, 1) := by decide +kernel
theorem dX9_there_14 : decode cX9_there 14 = .ok (.ifCond .ge 7, 3) := by decide +kernel
theorem dX9_there_17 : decode cX9_there 17 = .ok (.iconst 0, 1) := by decide +kernel
theorem dX9_there_18 : decode cX9_there 18 = .ok (.goto 4, 3) := by decide +kernel
theorem dX9_there_21 : decode cX9_there 21 = .ok (.iconst 1, 1) := by decide +kernel
theorem dX9_there_22 : decode cX9_there 22 = .ok (.iadd, 1) := by decide +kernel
theorem dX9_there_23 : decode cX9_there 23 = .ok (.istore_n 1, 1) := by decide +kernel
theorem dX9_there_24 : decode cX9_there 24 = .ok (.iinc 2 1, 3) := by decide +kernel
theorem dX9_there_27 : decode cX9_there 27 = .ok (.goto (-23), 3) := by decide +kernel
theorem dX9_there_30 : decode cX9_there 30 = .ok (.iload_n 1, 1) := by decide +kernel
theorem dX9_there_31 : decode cX9_there 31 = .ok (.ireturn, 1) := by decide +kernel
theorem dX9_pairs_0 : decode cX9_pairs 0 = .ok (.aload_n 0, 1) := by decide +kernel
theorem dX9_pairs_1 : decode cX9_pairs 1 = .ok (.invokevirtual 238, 3) := by decide +kernel
theorem dX9_pairs_4 : decode cX9_pairs 4 = .ok (.iconst 0, 1) := by decide +kernel
theorem dX9_pairs_5 : decode cX9_pairs 5 = .ok (.istore_n 1, 1) := by decide +kernel
theorem dX9_pairs_6 : decode cX9_pairs 6 = .ok (.iconst 0, 1) := by decide +kernel
theorem dX9_pairs_7 : decode cX9_pairs 7 = .ok (.istore_n 2, 1) := by decide +kernel
theorem dX9_pairs_8 : decode cX9_pairs 8 = .ok (.iload_n 2, 1) := by decide +kernel
theorem dX9_pairs_9 : decode cX9_pairs 9 = .ok (.aload_n 0, 1) := by decide +kernel
theorem dX9_pairs_10 : decode cX9_pairs 10 = .ok (.iconst 0, 1) := by decide +kernel
theorem dX9_pairs_11 : decode cX9_pairs 11 = .ok (.invokevirtual 119, 3) := by decide +kernel
theorem dX9_pairs_14 : decode cX9_pairs 14 = .ok (.if_icmp .ge 28, 3) := by decide +kernel
theorem dX9_pairs_17 : decode cX9_pairs 17 = .ok (.iload_n 1, 1) := by decide +kernel
theorem dX9_pairs_18 : decode cX9_pairs 18 = .ok (.aload_n 0, 1) := by decide +kernel
theorem dX9_pairs_19 : decode cX9_pairs 19 = .ok (.getfield 74, 3) := by decide +kernel
theorem dX9_pairs_22 : decode cX9_pairs 22 = .ok (.iload_n 2, 1) := by decide +kernel
theorem dX9_pairs_23 : decode cX9_pairs 23 = .ok (.iaload, 1) := by decide +kernel
theorem dX9_pairs_24 : decode cX9_pairs 24 = .ok (.bipush (-9), 2) := by decide +kernel
theorem dX9_pairs_26 : decode cX9_pairs 26 = .ok (.if_icmp .ne 7, 3) := by decide +kernel
theorem dX9_pairs_29 : decode cX9_pairs 29 = .ok (.iconst 0, 1) := by decide +kernel
theorem dX9_pairs_30 : decode cX9_pairs 30 = .ok (.goto 4, 3) := by decide +kernel
theorem dX9_pairs_33 : decode cX9_pairs 33 = .ok (.iconst 1, 1) := by decide +kernel
theorem dX9_pairs_34 : decode cX9_pairs 34 = .ok (.iadd, 1) := by decide +kernel
theorem dX9_pairs_35 : decode cX9_pairs 35 = .ok (.istore_n 1, 1) := by decide +kernel
theorem dX9_pairs_36 : decode cX9_pairs 36 = .ok (.iinc 2 1, 3) := by decide +kernel
theorem dX9_pairs_39 : decode cX9_pairs 39 = .ok (.goto (-31), 3) := by decide +kernel
theorem dX9_pairs_42 : decode cX9_pairs 42 = .ok (.iload_n 1, 1) := by decide +kernel
theorem dX9_pairs_43 : decode cX9_pairs 43 = .ok (.ireturn, 1) := by decide +kernel
theorem dX9_stepsOf_0 : decode cX9_stepsOf 0 = .ok (.aload_n 0, 1) := by decide +kernel
theorem dX9_stepsOf_1 : decode cX9_stepsOf 1 = .ok (.invokevirtual 247, 3) := by decide +kernel
theorem dX9_stepsOf_4 : decode cX9_stepsOf 4 = .ok (.aload_n 0, 1) := by decide +kernel
theorem dX9_stepsOf_5 : decode cX9_stepsOf 5 = .ok (.getfield 241, 3) := by decide +kernel
theorem dX9_stepsOf_8 : decode cX9_stepsOf 8 = .ok (.ireturn, 1) := by decide +kernel
theorem dX9_keptMany_0 : decode cX9_keptMany 0 = .ok (.iconst 0, 1) := by decide +kernel
theorem dX9_keptMany_1 : decode cX9_keptMany 1 = .ok (.istore_n 1, 1) := by decide +kernel
theorem dX9_keptMany_2 : decode cX9_keptMany 2 = .ok (.iconst 0, 1) := by decide +kernel
theorem dX9_keptMany_3 : decode cX9_keptMany 3 = .ok (.istore_n 2, 1) := by decide +kernel
theorem dX9_keptMany_4 : decode cX9_keptMany 4 = .ok (.iload_n 2, 1) := by decide +kernel
theorem dX9_keptMany_5 : decode cX9_keptMany 5 = .ok (.iconst 3, 1) := by decide +kernel
theorem dX9_keptMany_6 : decode cX9_keptMany 6 = .ok (.if_icmp .ge 26, 3) := by decide +kernel
theorem dX9_keptMany_9 : decode cX9_keptMany 9 = .ok (.iload_n 1, 1) := by decide +kernel
theorem dX9_keptMany_10 : decode cX9_keptMany 10 = .ok (.aload_n 0, 1) := by decide +kernel
theorem dX9_keptMany_11 : decode cX9_keptMany 11 = .ok (.getfield 31, 3) := by decide +kernel
theorem dX9_keptMany_14 : decode cX9_keptMany 14 = .ok (.iload_n 2, 1) := by decide +kernel
theorem dX9_keptMany_15 : decode cX9_keptMany 15 = .ok (.baload, 1) := by decide +kernel
theorem dX9_keptMany_16 : decode cX9_keptMany 16 = .ok (.ifCond .eq 7, 3) := by decide +kernel
theorem dX9_keptMany_19 : decode cX9_keptMany 19 = .ok (.iconst 1, 1) := by decide +kernel
theorem dX9_keptMany_20 : decode cX9_keptMany 20 = .ok (.goto 4, 3) := by decide +kernel
theorem dX9_keptMany_23 : decode cX9_keptMany 23 = .ok (.iconst 0, 1) := by decide +kernel
theorem dX9_keptMany_24 : decode cX9_keptMany 24 = .ok (.iadd, 1) := by decide +kernel
theorem dX9_keptMany_25 : decode cX9_keptMany 25 = .ok (.istore_n 1, 1) := by decide +kernel
theorem dX9_keptMany_26 : decode cX9_keptMany 26 = .ok (.iinc 2 1, 3) := by decide +kernel
theorem dX9_keptMany_29 : decode cX9_keptMany 29 = .ok (.goto (-25), 3) := by decide +kernel
theorem dX9_keptMany_32 : decode cX9_keptMany 32 = .ok (.iload_n 1, 1) := by decide +kernel
theorem dX9_keptMany_33 : decode cX9_keptMany 33 = .ok (.ireturn, 1) := by decide +kernel
theorem dX9_count_0 : decode cX9_count 0 = .ok (.iload_n 1, 1) := by decide +kernel
theorem dX9_count_1 : decode cX9_count 1 = .ok (.tableswitch 173 0 13 #[71, 71, 77, 93, 109, 125, 125, 134, 134, 134, 147, 152, 160, 168], 71) := by decide +kernel
theorem dX9_count_72 : decode cX9_count 72 = .ok (.aload_n 0, 1) := by decide +kernel
theorem dX9_count_73 : decode cX9_count 73 = .ok (.iload_n 1, 1) := by decide +kernel
theorem dX9_count_74 : decode cX9_count 74 = .ok (.invokevirtual 119, 3) := by decide +kernel
theorem dX9_count_77 : decode cX9_count 77 = .ok (.ireturn, 1) := by decide +kernel
theorem dX9_count_78 : decode cX9_count 78 = .ok (.aload_n 0, 1) := by decide +kernel
theorem dX9_count_79 : decode cX9_count 79 = .ok (.invokevirtual 224, 3) := by decide +kernel
theorem dX9_count_82 : decode cX9_count 82 = .ok (.ifCond .eq 10, 3) := by decide +kernel
theorem dX9_count_85 : decode cX9_count 85 = .ok (.aload_n 0, 1) := by decide +kernel
theorem dX9_count_86 : decode cX9_count 86 = .ok (.invokevirtual 228, 3) := by decide +kernel
theorem dX9_count_89 : decode cX9_count 89 = .ok (.goto 4, 3) := by decide +kernel
theorem dX9_count_92 : decode cX9_count 92 = .ok (.iconst (-1), 1) := by decide +kernel
theorem dX9_count_93 : decode cX9_count 93 = .ok (.ireturn, 1) := by decide +kernel
theorem dX9_count_94 : decode cX9_count 94 = .ok (.aload_n 0, 1) := by decide +kernel
theorem dX9_count_95 : decode cX9_count 95 = .ok (.invokevirtual 224, 3) := by decide +kernel
theorem dX9_count_98 : decode cX9_count 98 = .ok (.ifCond .eq 10, 3) := by decide +kernel
theorem dX9_count_101 : decode cX9_count 101 = .ok (.aload_n 0, 1) := by decide +kernel
theorem dX9_count_102 : decode cX9_count 102 = .ok (.invokevirtual 286, 3) := by decide +kernel
theorem dX9_count_105 : decode cX9_count 105 = .ok (.goto 4, 3) := by decide +kernel
theorem dX9_count_108 : decode cX9_count 108 = .ok (.iconst (-1), 1) := by decide +kernel
theorem dX9_count_109 : decode cX9_count 109 = .ok (.ireturn, 1) := by decide +kernel
theorem dX9_count_110 : decode cX9_count 110 = .ok (.aload_n 0, 1) := by decide +kernel
theorem dX9_count_111 : decode cX9_count 111 = .ok (.invokevirtual 224, 3) := by decide +kernel
theorem dX9_count_114 : decode cX9_count 114 = .ok (.ifCond .eq 10, 3) := by decide +kernel
theorem dX9_count_117 : decode cX9_count 117 = .ok (.aload_n 0, 1) := by decide +kernel
theorem dX9_count_118 : decode cX9_count 118 = .ok (.invokevirtual 289, 3) := by decide +kernel
theorem dX9_count_121 : decode cX9_count 121 = .ok (.goto 4, 3) := by decide +kernel
theorem dX9_count_124 : decode cX9_count 124 = .ok (.iconst (-1), 1) := by decide +kernel
theorem dX9_count_125 : decode cX9_count 125 = .ok (.ireturn, 1) := by decide +kernel
theorem dX9_count_126 : decode cX9_count 126 = .ok (.aload_n 0, 1) := by decide +kernel
theorem dX9_count_127 : decode cX9_count 127 = .ok (.iload_n 1, 1) := by decide +kernel
theorem dX9_count_128 : decode cX9_count 128 = .ok (.iconst 5, 1) := by decide +kernel
theorem dX9_count_129 : decode cX9_count 129 = .ok (.isub, 1) := by decide +kernel
theorem dX9_count_130 : decode cX9_count 130 = .ok (.iconst 0, 1) := by decide +kernel
theorem dX9_count_131 : decode cX9_count 131 = .ok (.invokevirtual 250, 3) := by decide +kernel
theorem dX9_count_134 : decode cX9_count 134 = .ok (.ireturn, 1) := by decide +kernel
theorem dX9_count_135 : decode cX9_count 135 = .ok (.aload_n 0, 1) := by decide +kernel
theorem dX9_count_136 : decode cX9_count 136 = .ok (.getfield 22, 3) := by decide +kernel
theorem dX9_count_139 : decode cX9_count 139 = .ok (.bipush 50, 2) := by decide +kernel
theorem dX9_count_141 : decode cX9_count 141 = .ok (.iload_n 1, 1) := by decide +kernel
theorem dX9_count_142 : decode cX9_count 142 = .ok (.iadd, 1) := by decide +kernel
theorem dX9_count_143 : decode cX9_count 143 = .ok (.bipush 7, 2) := by decide +kernel
theorem dX9_count_145 : decode cX9_count 145 = .ok (.isub, 1) := by decide +kernel
theorem dX9_count_146 : decode cX9_count 146 = .ok (.iaload, 1) := by decide +kernel
theorem dX9_count_147 : decode cX9_count 147 = .ok (.ireturn, 1) := by decide +kernel
theorem dX9_count_148 : decode cX9_count 148 = .ok (.aload_n 0, 1) := by decide +kernel
theorem dX9_count_149 : decode cX9_count 149 = .ok (.getfield 144, 3) := by decide +kernel
theorem dX9_count_152 : decode cX9_count 152 = .ok (.ireturn, 1) := by decide +kernel
theorem dX9_count_153 : decode cX9_count 153 = .ok (.aload_n 0, 1) := by decide +kernel
theorem dX9_count_154 : decode cX9_count 154 = .ok (.getfield 7, 3) := by decide +kernel
theorem dX9_count_157 : decode cX9_count 157 = .ok (.invokestatic 292, 3) := by decide +kernel
theorem dX9_count_160 : decode cX9_count 160 = .ok (.ireturn, 1) := by decide +kernel
theorem dX9_count_161 : decode cX9_count 161 = .ok (.aload_n 0, 1) := by decide +kernel
theorem dX9_count_162 : decode cX9_count 162 = .ok (.getfield 16, 3) := by decide +kernel
theorem dX9_count_165 : decode cX9_count 165 = .ok (.invokestatic 292, 3) := by decide +kernel
theorem dX9_count_168 : decode cX9_count 168 = .ok (.ireturn, 1) := by decide +kernel
theorem dX9_count_169 : decode cX9_count 169 = .ok (.aload_n 0, 1) := by decide +kernel
theorem dX9_count_170 : decode cX9_count 170 = .ok (.invokevirtual 296, 3) := by decide +kernel
theorem dX9_count_173 : decode cX9_count 173 = .ok (.ireturn, 1) := by decide +kernel
theorem dX9_count_174 : decode cX9_count 174 = .ok (.iconst (-1), 1) := by decide +kernel
theorem dX9_count_175 : decode cX9_count 175 = .ok (.ireturn, 1) := by decide +kernel
theorem dX9_finding_0 : decode cX9_finding 0 = .ok (.aload_n 0, 1) := by decide +kernel
theorem dX9_finding_1 : decode cX9_finding 1 = .ok (.getfield 83, 3) := by decide +kernel
theorem dX9_finding_4 : decode cX9_finding 4 = .ok (.ireturn, 1) := by decide +kernel
theorem dX9_findings_0 : decode cX9_findings 0 = .ok (.iload_n 1, 1) := by decide +kernel
theorem dX9_findings_1 : decode cX9_findings 1 = .ok (.iconst 1, 1) := by decide +kernel
theorem dX9_findings_2 : decode cX9_findings 2 = .ok (.iconst 5, 1) := by decide +kernel
theorem dX9_findings_3 : decode cX9_findings 3 = .ok (.invokestatic 90, 3) := by decide +kernel
theorem dX9_findings_6 : decode cX9_findings 6 = .ok (.ifCond .eq 12, 3) := by decide +kernel
theorem dX9_findings_9 : decode cX9_findings 9 = .ok (.aload_n 0, 1) := by decide +kernel
theorem dX9_findings_10 : decode cX9_findings 10 = .ok (.getfield 35, 3) := by decide +kernel
theorem dX9_findings_13 : decode cX9_findings 13 = .ok (.iload_n 1, 1) := by decide +kernel
theorem dX9_findings_14 : decode cX9_findings 14 = .ok (.iaload, 1) := by decide +kernel
theorem dX9_findings_15 : decode cX9_findings 15 = .ok (.goto 4, 3) := by decide +kernel
theorem dX9_findings_18 : decode cX9_findings 18 = .ok (.iconst (-1), 1) := by decide +kernel
theorem dX9_findings_19 : decode cX9_findings 19 = .ok (.ireturn, 1) := by decide +kernel
theorem dX9_partnerTold_0 : decode cX9_partnerTold 0 = .ok (.aload_n 0, 1) := by decide +kernel
theorem dX9_partnerTold_1 : decode cX9_partnerTold 1 = .ok (.invokevirtual 224, 3) := by decide +kernel
theorem dX9_partnerTold_4 : decode cX9_partnerTold 4 = .ok (.ifCond .ne 7, 3) := by decide +kernel
theorem dX9_partnerTold_7 : decode cX9_partnerTold 7 = .ok (.iconst (-1), 1) := by decide +kernel
theorem dX9_partnerTold_8 : decode cX9_partnerTold 8 = .ok (.goto 22, 3) := by decide +kernel
theorem dX9_partnerTold_11 : decode cX9_partnerTold 11 = .ok (.iload_n 1, 1) := by decide +kernel
theorem dX9_partnerTold_12 : decode cX9_partnerTold 12 = .ok (.ifCond .ne 12, 3) := by decide +kernel
theorem dX9_partnerTold_15 : decode cX9_partnerTold 15 = .ok (.aload_n 0, 1) := by decide +kernel
theorem dX9_partnerTold_16 : decode cX9_partnerTold 16 = .ok (.getfield 74, 3) := by decide +kernel
theorem dX9_partnerTold_19 : decode cX9_partnerTold 19 = .ok (.iload_n 2, 1) := by decide +kernel
theorem dX9_partnerTold_20 : decode cX9_partnerTold 20 = .ok (.iaload, 1) := by decide +kernel
theorem dX9_partnerTold_21 : decode cX9_partnerTold 21 = .ok (.goto 9, 3) := by decide +kernel
theorem dX9_partnerTold_24 : decode cX9_partnerTold 24 = .ok (.aload_n 0, 1) := by decide +kernel
theorem dX9_partnerTold_25 : decode cX9_partnerTold 25 = .ok (.getfield 77, 3) := by decide +kernel
theorem dX9_partnerTold_28 : decode cX9_partnerTold 28 = .ok (.iload_n 2, 1) := by decide +kernel
theorem dX9_partnerTold_29 : decode cX9_partnerTold 29 = .ok (.iaload, 1) := by decide +kernel
theorem dX9_partnerTold_30 : decode cX9_partnerTold 30 = .ok (.ireturn, 1) := by decide +kernel
theorem dX9_digest_0 : decode cX9_digest 0 = .ok (.ldc2_w 299, 3) := by decide +kernel
theorem dX9_digest_3 : decode cX9_digest 3 = .ok (.lstore_n 1, 1) := by decide +kernel
theorem dX9_digest_4 : decode cX9_digest 4 = .ok (.iconst 0, 1) := by decide +kernel
theorem dX9_digest_5 : decode cX9_digest 5 = .ok (.istore_n 3, 1) := by decide +kernel
theorem dX9_digest_6 : decode cX9_digest 6 = .ok (.iload_n 3, 1) := by decide +kernel
theorem dX9_digest_7 : decode cX9_digest 7 = .ok (.bipush 14, 2) := by decide +kernel
theorem dX9_digest_9 : decode cX9_digest 9 = .ok (.if_icmp .ge 22, 3) := by decide +kernel
theorem dX9_digest_12 : decode cX9_digest 12 = .ok (.ldc2_w 301, 3) := by decide +kernel
theorem dX9_digest_15 : decode cX9_digest 15 = .ok (.lload_n 1, 1) := by decide +kernel
theorem dX9_digest_16 : decode cX9_digest 16 = .ok (.lmul, 1) := by decide +kernel
theorem dX9_digest_17 : decode cX9_digest 17 = .ok (.aload_n 0, 1) := by decide +kernel
theorem dX9_digest_18 : decode cX9_digest 18 = .ok (.iload_n 3, 1) := by decide +kernel
theorem dX9_digest_19 : decode cX9_digest 19 = .ok (.invokevirtual 303, 3) := by decide +kernel
theorem dX9_digest_22 : decode cX9_digest 22 = .ok (.i2l, 1) := by decide +kernel
theorem dX9_digest_23 : decode cX9_digest 23 = .ok (.ladd, 1) := by decide +kernel
theorem dX9_digest_24 : decode cX9_digest 24 = .ok (.lstore_n 1, 1) := by decide +kernel
theorem dX9_digest_25 : decode cX9_digest 25 = .ok (.iinc 3 1, 3) := by decide +kernel
theorem dX9_digest_28 : decode cX9_digest 28 = .ok (.goto (-22), 3) := by decide +kernel
theorem dX9_digest_31 : decode cX9_digest 31 = .ok (.aload_n 0, 1) := by decide +kernel
theorem dX9_digest_32 : decode cX9_digest 32 = .ok (.invokevirtual 224, 3) := by decide +kernel
theorem dX9_digest_35 : decode cX9_digest 35 = .ok (.ifCond .eq 7, 3) := by decide +kernel
theorem dX9_digest_38 : decode cX9_digest 38 = .ok (.aload_n 0, 1) := by decide +kernel
theorem dX9_digest_39 : decode cX9_digest 39 = .ok (.invokevirtual 238, 3) := by decide +kernel
theorem dX9_digest_42 : decode cX9_digest 42 = .ok (.iconst 0, 1) := by decide +kernel
theorem dX9_digest_43 : decode cX9_digest 43 = .ok (.istore_n 3, 1) := by decide +kernel
theorem dX9_digest_44 : decode cX9_digest 44 = .ok (.iload_n 3, 1) := by decide +kernel
theorem dX9_digest_45 : decode cX9_digest 45 = .ok (.iconst 2, 1) := by decide +kernel
theorem dX9_digest_46 : decode cX9_digest 46 = .ok (.if_icmp .ge 88, 3) := by decide +kernel
theorem dX9_digest_49 : decode cX9_digest 49 = .ok (.iconst 0, 1) := by decide +kernel
theorem dX9_digest_50 : decode cX9_digest 50 = .ok (.istore 4, 2) := by decide +kernel
theorem dX9_digest_52 : decode cX9_digest 52 = .ok (.iload 4, 2) := by decide +kernel
theorem dX9_digest_54 : decode cX9_digest 54 = .ok (.aload_n 0, 1) := by decide +kernel
theorem dX9_digest_55 : decode cX9_digest 55 = .ok (.iload_n 3, 1) := by decide +kernel
theorem dX9_digest_56 : decode cX9_digest 56 = .ok (.invokevirtual 119, 3) := by decide +kernel
theorem dX9_digest_59 : decode cX9_digest 59 = .ok (.if_icmp .ge 69, 3) := by decide +kernel
theorem dX9_digest_62 : decode cX9_digest 62 = .ok (.ldc2_w 301, 3) := by decide +kernel
theorem dX9_digest_65 : decode cX9_digest 65 = .ok (.lload_n 1, 1) := by decide +kernel
theorem dX9_digest_66 : decode cX9_digest 66 = .ok (.lmul, 1) := by decide +kernel
theorem dX9_digest_67 : decode cX9_digest 67 = .ok (.aload_n 0, 1) := by decide +kernel
theorem dX9_digest_68 : decode cX9_digest 68 = .ok (.iload_n 3, 1) := by decide +kernel
theorem dX9_digest_69 : decode cX9_digest 69 = .ok (.iload 4, 2) := by decide +kernel
theorem dX9_digest_71 : decode cX9_digest 71 = .ok (.invokevirtual 169, 3) := by decide +kernel
theorem dX9_digest_74 : decode cX9_digest 74 = .ok (.i2l, 1) := by decide +kernel
theorem dX9_digest_75 : decode cX9_digest 75 = .ok (.ladd, 1) := by decide +kernel
theorem dX9_digest_76 : decode cX9_digest 76 = .ok (.lstore_n 1, 1) := by decide +kernel
theorem dX9_digest_77 : decode cX9_digest 77 = .ok (.ldc2_w 301, 3) := by decide +kernel
theorem dX9_digest_80 : decode cX9_digest 80 = .ok (.lload_n 1, 1) := by decide +kernel
theorem dX9_digest_81 : decode cX9_digest 81 = .ok (.lmul, 1) := by decide +kernel
theorem dX9_digest_82 : decode cX9_digest 82 = .ok (.aload_n 0, 1) := by decide +kernel
theorem dX9_digest_83 : decode cX9_digest 83 = .ok (.iload_n 3, 1) := by decide +kernel
theorem dX9_digest_84 : decode cX9_digest 84 = .ok (.iload 4, 2) := by decide +kernel
theorem dX9_digest_86 : decode cX9_digest 86 = .ok (.invokevirtual 154, 3) := by decide +kernel
theorem dX9_digest_89 : decode cX9_digest 89 = .ok (.i2l, 1) := by decide +kernel
theorem dX9_digest_90 : decode cX9_digest 90 = .ok (.ladd, 1) := by decide +kernel
theorem dX9_digest_91 : decode cX9_digest 91 = .ok (.lstore_n 1, 1) := by decide +kernel
theorem dX9_digest_92 : decode cX9_digest 92 = .ok (.ldc2_w 301, 3) := by decide +kernel
theorem dX9_digest_95 : decode cX9_digest 95 = .ok (.lload_n 1, 1) := by decide +kernel
theorem dX9_digest_96 : decode cX9_digest 96 = .ok (.lmul, 1) := by decide +kernel
theorem dX9_digest_97 : decode cX9_digest 97 = .ok (.aload_n 0, 1) := by decide +kernel
theorem dX9_digest_98 : decode cX9_digest 98 = .ok (.iload_n 3, 1) := by decide +kernel
theorem dX9_digest_99 : decode cX9_digest 99 = .ok (.iload 4, 2) := by decide +kernel
theorem dX9_digest_101 : decode cX9_digest 101 = .ok (.invokevirtual 178, 3) := by decide +kernel
theorem dX9_digest_104 : decode cX9_digest 104 = .ok (.i2l, 1) := by decide +kernel
theorem dX9_digest_105 : decode cX9_digest 105 = .ok (.ladd, 1) := by decide +kernel
theorem dX9_digest_106 : decode cX9_digest 106 = .ok (.lstore_n 1, 1) := by decide +kernel
theorem dX9_digest_107 : decode cX9_digest 107 = .ok (.ldc2_w 301, 3) := by decide +kernel
theorem dX9_digest_110 : decode cX9_digest 110 = .ok (.lload_n 1, 1) := by decide +kernel
theorem dX9_digest_111 : decode cX9_digest 111 = .ok (.lmul, 1) := by decide +kernel
theorem dX9_digest_112 : decode cX9_digest 112 = .ok (.aload_n 0, 1) := by decide +kernel
theorem dX9_digest_113 : decode cX9_digest 113 = .ok (.iload_n 3, 1) := by decide +kernel
theorem dX9_digest_114 : decode cX9_digest 114 = .ok (.iload 4, 2) := by decide +kernel
theorem dX9_digest_116 : decode cX9_digest 116 = .ok (.invokevirtual 306, 3) := by decide +kernel
theorem dX9_digest_119 : decode cX9_digest 119 = .ok (.i2l, 1) := by decide +kernel
theorem dX9_digest_120 : decode cX9_digest 120 = .ok (.ladd, 1) := by decide +kernel
theorem dX9_digest_121 : decode cX9_digest 121 = .ok (.lstore_n 1, 1) := by decide +kernel
theorem dX9_digest_122 : decode cX9_digest 122 = .ok (.iinc 4 1, 3) := by decide +kernel
theorem dX9_digest_125 : decode cX9_digest 125 = .ok (.goto (-73), 3) := by decide +kernel
theorem dX9_digest_128 : decode cX9_digest 128 = .ok (.iinc 3 1, 3) := by decide +kernel
theorem dX9_digest_131 : decode cX9_digest 131 = .ok (.goto (-87), 3) := by decide +kernel
theorem dX9_digest_134 : decode cX9_digest 134 = .ok (.iconst 0, 1) := by decide +kernel
theorem dX9_digest_135 : decode cX9_digest 135 = .ok (.istore_n 3, 1) := by decide +kernel
theorem dX9_digest_136 : decode cX9_digest 136 = .ok (.iload_n 3, 1) := by decide +kernel
theorem dX9_digest_137 : decode cX9_digest 137 = .ok (.iconst 3, 1) := by decide +kernel
theorem dX9_digest_138 : decode cX9_digest 138 = .ok (.if_icmp .ge 40, 3) := by decide +kernel
theorem dX9_digest_141 : decode cX9_digest 141 = .ok (.ldc2_w 301, 3) := by decide +kernel
theorem dX9_digest_144 : decode cX9_digest 144 = .ok (.lload_n 1, 1) := by decide +kernel
theorem dX9_digest_145 : decode cX9_digest 145 = .ok (.lmul, 1) := by decide +kernel
theorem dX9_digest_146 : decode cX9_digest 146 = .ok (.aload_n 0, 1) := by decide +kernel
theorem dX9_digest_147 : decode cX9_digest 147 = .ok (.getfield 31, 3) := by decide +kernel
theorem dX9_digest_150 : decode cX9_digest 150 = .ok (.iload_n 3, 1) := by decide +kernel
theorem dX9_digest_151 : decode cX9_digest 151 = .ok (.baload, 1) := by decide +kernel
theorem dX9_digest_152 : decode cX9_digest 152 = .ok (.ifCond .eq 16, 3) := by decide +kernel
theorem dX9_digest_155 : decode cX9_digest 155 = .ok (.aload_n 0, 1) := by decide +kernel
theorem dX9_digest_156 : decode cX9_digest 156 = .ok (.getfield 28, 3) := by decide +kernel
theorem dX9_digest_159 : decode cX9_digest 159 = .ok (.sipush 2174, 3) := by decide +kernel
theorem dX9_digest_162 : decode cX9_digest 162 = .ok (.iload_n 3, 1) := by decide +kernel
theorem dX9_digest_163 : decode cX9_digest 163 = .ok (.imul, 1) := by decide +kernel
theorem dX9_digest_164 : decode cX9_digest 164 = .ok (.iaload, 1) := by decide +kernel
theorem dX9_digest_165 : decode cX9_digest 165 = .ok (.goto 4, 3) := by decide +kernel
theorem dX9_digest_168 : decode cX9_digest 168 = .ok (.iconst (-1), 1) := by decide +kernel
theorem dX9_digest_169 : decode cX9_digest 169 = .ok (.i2l, 1) := by decide +kernel
theorem dX9_digest_170 : decode cX9_digest 170 = .ok (.ladd, 1) := by decide +kernel
theorem dX9_digest_171 : decode cX9_digest 171 = .ok (.lstore_n 1, 1) := by decide +kernel
theorem dX9_digest_172 : decode cX9_digest 172 = .ok (.iinc 3 1, 3) := by decide +kernel
theorem dX9_digest_175 : decode cX9_digest 175 = .ok (.goto (-39), 3) := by decide +kernel
theorem dX9_digest_178 : decode cX9_digest 178 = .ok (.iconst 0, 1) := by decide +kernel
theorem dX9_digest_179 : decode cX9_digest 179 = .ok (.istore_n 3, 1) := by decide +kernel
theorem dX9_digest_180 : decode cX9_digest 180 = .ok (.iload_n 3, 1) := by decide +kernel
theorem dX9_digest_181 : decode cX9_digest 181 = .ok (.bipush 6, 2) := by decide +kernel
theorem dX9_digest_183 : decode cX9_digest 183 = .ok (.if_icmp .ge 63, 3) := by decide +kernel
theorem dX9_digest_186 : decode cX9_digest 186 = .ok (.ldc2_w 301, 3) := by decide +kernel
theorem dX9_digest_189 : decode cX9_digest 189 = .ok (.lload_n 1, 1) := by decide +kernel
theorem dX9_digest_190 : decode cX9_digest 190 = .ok (.lmul, 1) := by decide +kernel
theorem dX9_digest_191 : decode cX9_digest 191 = .ok (.aload_n 0, 1) := by decide +kernel
theorem dX9_digest_192 : decode cX9_digest 192 = .ok (.getfield 7, 3) := by decide +kernel
theorem dX9_digest_195 : decode cX9_digest 195 = .ok (.iload_n 3, 1) := by decide +kernel
theorem dX9_digest_196 : decode cX9_digest 196 = .ok (.iaload, 1) := by decide +kernel
theorem dX9_digest_197 : decode cX9_digest 197 = .ok (.i2l, 1) := by decide +kernel
theorem dX9_digest_198 : decode cX9_digest 198 = .ok (.ladd, 1) := by decide +kernel
theorem dX9_digest_199 : decode cX9_digest 199 = .ok (.lstore_n 1, 1) := by decide +kernel
theorem dX9_digest_200 : decode cX9_digest 200 = .ok (.iconst 0, 1) := by decide +kernel
theorem dX9_digest_201 : decode cX9_digest 201 = .ok (.istore 4, 2) := by decide +kernel
theorem dX9_digest_203 : decode cX9_digest 203 = .ok (.iload 4, 2) := by decide +kernel
theorem dX9_digest_205 : decode cX9_digest 205 = .ok (.aload_n 0, 1) := by decide +kernel
theorem dX9_digest_206 : decode cX9_digest 206 = .ok (.getfield 7, 3) := by decide +kernel
theorem dX9_digest_209 : decode cX9_digest 209 = .ok (.iload_n 3, 1) := by decide +kernel
theorem dX9_digest_210 : decode cX9_digest 210 = .ok (.iaload, 1) := by decide +kernel
theorem dX9_digest_211 : decode cX9_digest 211 = .ok (.if_icmp .ge 29, 3) := by decide +kernel
theorem dX9_digest_214 : decode cX9_digest 214 = .ok (.ldc2_w 301, 3) := by decide +kernel
theorem dX9_digest_217 : decode cX9_digest 217 = .ok (.lload_n 1, 1) := by decide +kernel
theorem dX9_digest_218 : decode cX9_digest 218 = .ok (.lmul, 1) := by decide +kernel
theorem dX9_digest_219 : decode cX9_digest 219 = .ok (.aload_n 0, 1) := by decide +kernel
theorem dX9_digest_220 : decode cX9_digest 220 = .ok (.getfield 13, 3) := by decide +kernel
