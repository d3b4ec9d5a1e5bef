theorem dX0_init_0 : decode cX0_init 0 = .ok (.aload_n 0, 1) := by decide +kernel
theorem dX0_init_1 : decode cX0_init 1 = .ok (.invokespecial 3, 3) := by decide +kernel
theorem dX0_init_4 : decode cX0_init 4 = .ok (.aload_n 0, 1) := by decide +kernel
theorem dX0_init_5 : decode cX0_init 5 = .ok (.sipush 1189, 3) := by decide +kernel
theorem dX0_init_8 : decode cX0_init 8 = .ok (.newarray .int, 2) := by decide +kernel
theorem dX0_init_10 : decode cX0_init 10 = .ok (.putfield 11, 3) := by decide +kernel
theorem dX0_init_13 : decode cX0_init 13 = .ok (.aload_n 0, 1) := by decide +kernel
theorem dX0_init_14 : decode cX0_init 14 = .ok (.iload_n 1, 1) := by decide +kernel
theorem dX0_init_15 : decode cX0_init 15 = .ok (.putfield 17, 3) := by decide +kernel
theorem dX0_init_18 : decode cX0_init 18 = .ok (.return_, 1) := by decide +kernel
theorem dX0_hold_0 : decode cX0_hold 0 = .ok (.aload_n 0, 1) := by decide +kernel
theorem dX0_hold_1 : decode cX0_hold 1 = .ok (.getfield 17, 3) := by decide +kernel
theorem dX0_hold_4 : decode cX0_hold 4 = .ok (.ifCond .lt 27, 3) := by decide +kernel
theorem dX0_hold_7 : decode cX0_hold 7 = .ok (.aload_n 0, 1) := by decide +kernel
theorem dX0_hold_8 : decode cX0_hold 8 = .ok (.getfield 17, 3) := by decide +kernel
theorem dX0_hold_11 : decode cX0_hold 11 = .ok (.bipush 40, 2) := by decide +kernel
theorem dX0_hold_13 : decode cX0_hold 13 = .ok (.if_icmp .gt 18, 3) := by decide +kernel
theorem dX0_hold_16 : decode cX0_hold 16 = .ok (.aload_n 1, 1) := by decide +kernel
theorem dX0_hold_17 : decode cX0_hold 17 = .ok (.aload_n 0, 1) := by decide +kernel
theorem dX0_hold_18 : decode cX0_hold 18 = .ok (.getfield 11, 3) := by decide +kernel
theorem dX0_hold_21 : decode cX0_hold 21 = .ok (.aload_n 0, 1) := by decide +kernel
theorem dX0_hold_22 : decode cX0_hold 22 = .ok (.getfield 17, 3) := by decide +kernel
theorem dX0_hold_25 : decode cX0_hold 25 = .ok (.bipush 29, 2) := by decide +kernel
theorem dX0_hold_27 : decode cX0_hold 27 = .ok (.imul, 1) := by decide +kernel
theorem dX0_hold_28 : decode cX0_hold 28 = .ok (.invokevirtual 21, 3) := by decide +kernel
theorem dX0_hold_31 : decode cX0_hold 31 = .ok (.return_, 1) := by decide +kernel
theorem dX0_give_0 : decode cX0_give 0 = .ok (.aload_n 0, 1) := by decide +kernel
theorem dX0_give_1 : decode cX0_give 1 = .ok (.getfield 17, 3) := by decide +kernel
theorem dX0_give_4 : decode cX0_give 4 = .ok (.ifCond .lt 27, 3) := by decide +kernel
theorem dX0_give_7 : decode cX0_give 7 = .ok (.aload_n 0, 1) := by decide +kernel
theorem dX0_give_8 : decode cX0_give 8 = .ok (.getfield 17, 3) := by decide +kernel
theorem dX0_give_11 : decode cX0_give 11 = .ok (.bipush 40, 2) := by decide +kernel
theorem dX0_give_13 : decode cX0_give 13 = .ok (.if_icmp .gt 18, 3) := by decide +kernel
theorem dX0_give_16 : decode cX0_give 16 = .ok (.aload_n 1, 1) := by decide +kernel
theorem dX0_give_17 : decode cX0_give 17 = .ok (.aload_n 0, 1) := by decide +kernel
theorem dX0_give_18 : decode cX0_give 18 = .ok (.getfield 11, 3) := by decide +kernel
theorem dX0_give_21 : decode cX0_give 21 = .ok (.aload_n 0, 1) := by decide +kernel
theorem dX0_give_22 : decode cX0_give 22 = .ok (.getfield 17, 3) := by decide +kernel
theorem dX0_give_25 : decode cX0_give 25 = .ok (.bipush 29, 2) := by decide +kernel
theorem dX0_give_27 : decode cX0_give 27 = .ok (.imul, 1) := by decide +kernel
theorem dX0_give_28 : decode cX0_give 28 = .ok (.invokevirtual 25, 3) := by decide +kernel
theorem dX0_give_31 : decode cX0_give 31 = .ok (.return_, 1) := by decide +kernel
theorem dX0_take_0 : decode cX0_take 0 = .ok (.aload_n 0, 1) := by decide +kernel
theorem dX0_take_1 : decode cX0_take 1 = .ok (.aload_n 1, 1) := by decide +kernel
theorem dX0_take_2 : decode cX0_take 2 = .ok (.getfield 17, 3) := by decide +kernel
theorem dX0_take_5 : decode cX0_take 5 = .ok (.putfield 17, 3) := by decide +kernel
theorem dX0_take_8 : decode cX0_take 8 = .ok (.aload_n 1, 1) := by decide +kernel
theorem dX0_take_9 : decode cX0_take 9 = .ok (.getfield 11, 3) := by decide +kernel
theorem dX0_take_12 : decode cX0_take 12 = .ok (.iconst 0, 1) := by decide +kernel
theorem dX0_take_13 : decode cX0_take 13 = .ok (.aload_n 0, 1) := by decide +kernel
theorem dX0_take_14 : decode cX0_take 14 = .ok (.getfield 11, 3) := by decide +kernel
theorem dX0_take_17 : decode cX0_take 17 = .ok (.iconst 0, 1) := by decide +kernel
theorem dX0_take_18 : decode cX0_take 18 = .ok (.aload_n 0, 1) := by decide +kernel
theorem dX0_take_19 : decode cX0_take 19 = .ok (.getfield 11, 3) := by decide +kernel
theorem dX0_take_22 : decode cX0_take 22 = .ok (.arraylength, 1) := by decide +kernel
theorem dX0_take_23 : decode cX0_take 23 = .ok (.invokestatic 28, 3) := by decide +kernel
theorem dX0_take_26 : decode cX0_take 26 = .ok (.return_, 1) := by decide +kernel
theorem dX1_init_0 : decode cX1_init 0 = .ok (.aload_n 0, 1) := by decide +kernel
theorem dX1_init_1 : decode cX1_init 1 = .ok (.invokespecial 3, 3) := by decide +kernel
theorem dX1_init_4 : decode cX1_init 4 = .ok (.aload_n 0, 1) := by decide +kernel
theorem dX1_init_5 : decode cX1_init 5 = .ok (.new 9, 3) := by decide +kernel
theorem dX1_init_8 : decode cX1_init 8 = .ok (.dup, 1) := by decide +kernel
theorem dX1_init_9 : decode cX1_init 9 = .ok (.invokespecial 11, 3) := by decide +kernel
theorem dX1_init_12 : decode cX1_init 12 = .ok (.putfield 12, 3) := by decide +kernel
theorem dX1_init_15 : decode cX1_init 15 = .ok (.aload_n 0, 1) := by decide +kernel
theorem dX1_init_16 : decode cX1_init 16 = .ok (.bipush 12, 2) := by decide +kernel
theorem dX1_init_18 : decode cX1_init 18 = .ok (.newarray .int, 2) := by decide +kernel
theorem dX1_init_20 : decode cX1_init 20 = .ok (.putfield 18, 3) := by decide +kernel
theorem dX1_init_23 : decode cX1_init 23 = .ok (.aload_n 0, 1) := by decide +kernel
theorem dX1_init_24 : decode cX1_init 24 = .ok (.bipush 12, 2) := by decide +kernel
theorem dX1_init_26 : decode cX1_init 26 = .ok (.newarray .int, 2) := by decide +kernel
theorem dX1_init_28 : decode cX1_init 28 = .ok (.putfield 22, 3) := by decide +kernel
theorem dX1_init_31 : decode cX1_init 31 = .ok (.aload_n 0, 1) := by decide +kernel
theorem dX1_init_32 : decode cX1_init 32 = .ok (.iconst 0, 1) := by decide +kernel
theorem dX1_init_33 : decode cX1_init 33 = .ok (.putfield 25, 3) := by decide +kernel
theorem dX1_init_36 : decode cX1_init 36 = .ok (.aload_n 0, 1) := by decide +kernel
theorem dX1_init_37 : decode cX1_init 37 = .ok (.iconst 0, 1) := by decide +kernel
theorem dX1_init_38 : decode cX1_init 38 = .ok (.putfield 29, 3) := by decide +kernel
theorem dX1_init_41 : decode cX1_init 41 = .ok (.aload_n 0, 1) := by decide +kernel
theorem dX1_init_42 : decode cX1_init 42 = .ok (.iconst 0, 1) := by decide +kernel
theorem dX1_init_43 : decode cX1_init 43 = .ok (.putfield 32, 3) := by decide +kernel
theorem dX1_init_46 : decode cX1_init 46 = .ok (.return_, 1) := by decide +kernel
theorem dX1_read_0 : decode cX1_read 0 = .ok (.aload_n 0, 1) := by decide +kernel
theorem dX1_read_1 : decode cX1_read 1 = .ok (.getfield 12, 3) := by decide +kernel
theorem dX1_read_4 : decode cX1_read 4 = .ok (.iconst 0, 1) := by decide +kernel
theorem dX1_read_5 : decode cX1_read 5 = .ok (.putfield 35, 3) := by decide +kernel
theorem dX1_read_8 : decode cX1_read 8 = .ok (.aload_n 0, 1) := by decide +kernel
theorem dX1_read_9 : decode cX1_read 9 = .ok (.iconst 0, 1) := by decide +kernel
theorem dX1_read_10 : decode cX1_read 10 = .ok (.putfield 25, 3) := by decide +kernel
theorem dX1_read_13 : decode cX1_read 13 = .ok (.aload_n 0, 1) := by decide +kernel
theorem dX1_read_14 : decode cX1_read 14 = .ok (.iconst 0, 1) := by decide +kernel
theorem dX1_read_15 : decode cX1_read 15 = .ok (.putfield 29, 3) := by decide +kernel
theorem dX1_read_18 : decode cX1_read 18 = .ok (.aload_n 0, 1) := by decide +kernel
theorem dX1_read_19 : decode cX1_read 19 = .ok (.iconst 0, 1) := by decide +kernel
theorem dX1_read_20 : decode cX1_read 20 = .ok (.putfield 32, 3) := by decide +kernel
theorem dX1_read_23 : decode cX1_read 23 = .ok (.iconst 0, 1) := by decide +kernel
theorem dX1_read_24 : decode cX1_read 24 = .ok (.istore_n 2, 1) := by decide +kernel
theorem dX1_read_25 : decode cX1_read 25 = .ok (.iload_n 2, 1) := by decide +kernel
theorem dX1_read_26 : decode cX1_read 26 = .ok (.aload_n 1, 1) := by decide +kernel
theorem dX1_read_27 : decode cX1_read 27 = .ok (.getfield 38, 3) := by decide +kernel
theorem dX1_read_30 : decode cX1_read 30 = .ok (.if_icmp .ge 24, 3) := by decide +kernel
theorem dX1_read_33 : decode cX1_read 33 = .ok (.aload_n 0, 1) := by decide +kernel
theorem dX1_read_34 : decode cX1_read 34 = .ok (.aload_n 1, 1) := by decide +kernel
theorem dX1_read_35 : decode cX1_read 35 = .ok (.getfield 43, 3) := by decide +kernel
theorem dX1_read_38 : decode cX1_read 38 = .ok (.iload_n 2, 1) := by decide +kernel
theorem dX1_read_39 : decode cX1_read 39 = .ok (.baload, 1) := by decide +kernel
theorem dX1_read_40 : decode cX1_read 40 = .ok (.invokevirtual 47, 3) := by decide +kernel
theorem dX1_read_43 : decode cX1_read 43 = .ok (.ifCond .ne 5, 3) := by decide +kernel
theorem dX1_read_46 : decode cX1_read 46 = .ok (.iload_n 2, 1) := by decide +kernel
theorem dX1_read_47 : decode cX1_read 47 = .ok (.ireturn, 1) := by decide +kernel
theorem dX1_read_48 : decode cX1_read 48 = .ok (.iinc 2 1, 3) := by decide +kernel
theorem dX1_read_51 : decode cX1_read 51 = .ok (.goto (-26), 3) := by decide +kernel
theorem dX1_read_54 : decode cX1_read 54 = .ok (.aload_n 0, 1) := by decide +kernel
theorem dX1_read_55 : decode cX1_read 55 = .ok (.getfield 29, 3) := by decide +kernel
theorem dX1_read_58 : decode cX1_read 58 = .ok (.ifCond .le 15, 3) := by decide +kernel
theorem dX1_read_61 : decode cX1_read 61 = .ok (.aload_n 0, 1) := by decide +kernel
theorem dX1_read_62 : decode cX1_read 62 = .ok (.getfield 25, 3) := by decide +kernel
theorem dX1_read_65 : decode cX1_read 65 = .ok (.ifCond .ne 8, 3) := by decide +kernel
theorem dX1_read_68 : decode cX1_read 68 = .ok (.bipush (-9), 2) := by decide +kernel
theorem dX1_read_70 : decode cX1_read 70 = .ok (.goto 7, 3) := by decide +kernel
theorem dX1_read_73 : decode cX1_read 73 = .ok (.aload_n 1, 1) := by decide +kernel
theorem dX1_read_74 : decode cX1_read 74 = .ok (.getfield 38, 3) := by decide +kernel
theorem dX1_read_77 : decode cX1_read 77 = .ok (.ireturn, 1) := by decide +kernel
theorem dX1_accepts_0 : decode cX1_accepts 0 = .ok (.iload_n 1, 1) := by decide +kernel
theorem dX1_accepts_1 : decode cX1_accepts 1 = .ok (.lookupswitch 47 #[(32, 35), (40, 37), (41, 42)], 35) := by decide +kernel
theorem dX1_accepts_36 : decode cX1_accepts 36 = .ok (.iconst 1, 1) := by decide +kernel
theorem dX1_accepts_37 : decode cX1_accepts 37 = .ok (.ireturn, 1) := by decide +kernel
theorem dX1_accepts_38 : decode cX1_accepts 38 = .ok (.aload_n 0, 1) := by decide +kernel
theorem dX1_accepts_39 : decode cX1_accepts 39 = .ok (.invokevirtual 51, 3) := by decide +kernel
theorem dX1_accepts_42 : decode cX1_accepts 42 = .ok (.ireturn, 1) := by decide +kernel
theorem dX1_accepts_43 : decode cX1_accepts 43 = .ok (.aload_n 0, 1) := by decide +kernel
theorem dX1_accepts_44 : decode cX1_accepts 44 = .ok (.invokevirtual 55, 3) := by decide +kernel
theorem dX1_accepts_47 : decode cX1_accepts 47 = .ok (.ireturn, 1) := by decide +kernel
theorem dX1_accepts_48 : decode cX1_accepts 48 = .ok (.iload_n 1, 1) := by decide +kernel
theorem dX1_accepts_49 : decode cX1_accepts 49 = .ok (.invokestatic 58, 3) := by decide +kernel
theorem dX1_accepts_52 : decode cX1_accepts 52 = .ok (.iconst (-1), 1) := by decide +kernel
theorem dX1_accepts_53 : decode cX1_accepts 53 = .ok (.if_icmp .eq 15, 3) := by decide +kernel
theorem dX1_accepts_56 : decode cX1_accepts 56 = .ok (.aload_n 0, 1) := by decide +kernel
theorem dX1_accepts_57 : decode cX1_accepts 57 = .ok (.iload_n 1, 1) := by decide +kernel
theorem dX1_accepts_58 : decode cX1_accepts 58 = .ok (.invokevirtual 62, 3) := by decide +kernel
theorem dX1_accepts_61 : decode cX1_accepts 61 = .ok (.ifCond .eq 7, 3) := by decide +kernel
theorem dX1_accepts_64 : decode cX1_accepts 64 = .ok (.iconst 1, 1) := by decide +kernel
theorem dX1_accepts_65 : decode cX1_accepts 65 = .ok (.goto 4, 3) := by decide +kernel
theorem dX1_accepts_68 : decode cX1_accepts 68 = .ok (.iconst 0, 1) := by decide +kernel
theorem dX1_accepts_69 : decode cX1_accepts 69 = .ok (.ireturn, 1) := by decide +kernel
theorem dX1_begins_0 : decode cX1_begins 0 = .ok (.aload_n 0, 1) := by decide +kernel
theorem dX1_begins_1 : decode cX1_begins 1 = .ok (.getfield 29, 3) := by decide +kernel
theorem dX1_begins_4 : decode cX1_begins 4 = .ok (.bipush 12, 2) := by decide +kernel
theorem dX1_begins_6 : decode cX1_begins 6 = .ok (.if_icmp .ge 17, 3) := by decide +kernel
theorem dX1_begins_9 : decode cX1_begins 9 = .ok (.aload_n 0, 1) := by decide +kernel
theorem dX1_begins_10 : decode cX1_begins 10 = .ok (.getfield 29, 3) := by decide +kernel
theorem dX1_begins_13 : decode cX1_begins 13 = .ok (.ifCond .le 12, 3) := by decide +kernel
theorem dX1_begins_16 : decode cX1_begins 16 = .ok (.aload_n 0, 1) := by decide +kernel
theorem dX1_begins_17 : decode cX1_begins 17 = .ok (.getfield 25, 3) := by decide +kernel
theorem dX1_begins_20 : decode cX1_begins 20 = .ok (.ifCond .ne 5, 3) := by decide +kernel
theorem dX1_begins_23 : decode cX1_begins 23 = .ok (.iconst 0, 1) := by decide +kernel
theorem dX1_begins_24 : decode cX1_begins 24 = .ok (.ireturn, 1) := by decide +kernel
theorem dX1_begins_25 : decode cX1_begins 25 = .ok (.aload_n 0, 1) := by decide +kernel
theorem dX1_begins_26 : decode cX1_begins 26 = .ok (.getfield 12, 3) := by decide +kernel
theorem dX1_begins_29 : decode cX1_begins 29 = .ok (.iload_n 1, 1) := by decide +kernel
theorem dX1_begins_30 : decode cX1_begins 30 = .ok (.iconst 1, 1) := by decide +kernel
theorem dX1_begins_31 : decode cX1_begins 31 = .ok (.invokevirtual 65, 3) := by decide +kernel
theorem dX1_begins_34 : decode cX1_begins 34 = .ok (.aload_n 0, 1) := by decide +kernel
theorem dX1_begins_35 : decode cX1_begins 35 = .ok (.dup, 1) := by decide +kernel
theorem dX1_begins_36 : decode cX1_begins 36 = .ok (.getfield 29, 3) := by decide +kernel
theorem dX1_begins_39 : decode cX1_begins 39 = .ok (.iconst 1, 1) := by decide +kernel
theorem dX1_begins_40 : decode cX1_begins 40 = .ok (.iadd, 1) := by decide +kernel
theorem dX1_begins_41 : decode cX1_begins 41 = .ok (.putfield 29, 3) := by decide +kernel
theorem dX1_begins_44 : decode cX1_begins 44 = .ok (.aload_n 0, 1) := by decide +kernel
theorem dX1_begins_45 : decode cX1_begins 45 = .ok (.iconst 1, 1) := by decide +kernel
theorem dX1_begins_46 : decode cX1_begins 46 = .ok (.putfield 32, 3) := by decide +kernel
theorem dX1_begins_49 : decode cX1_begins 49 = .ok (.iconst 1, 1) := by decide +kernel
theorem dX1_begins_50 : decode cX1_begins 50 = .ok (.ireturn, 1) := by decide +kernel
theorem dX1_opens_0 : decode cX1_opens 0 = .ok (.aload_n 0, 1) := by decide +kernel
theorem dX1_opens_1 : decode cX1_opens 1 = .ok (.getfield 32, 3) := by decide +kernel
theorem dX1_opens_4 : decode cX1_opens 4 = .ok (.iconst 1, 1) := by decide +kernel
theorem dX1_opens_5 : decode cX1_opens 5 = .ok (.if_icmp .ne 22, 3) := by decide +kernel
theorem dX1_opens_8 : decode cX1_opens 8 = .ok (.aload_n 0, 1) := by decide +kernel
theorem dX1_opens_9 : decode cX1_opens 9 = .ok (.getfield 12, 3) := by decide +kernel
theorem dX1_opens_12 : decode cX1_opens 12 = .ok (.getfield 35, 3) := by decide +kernel
theorem dX1_opens_15 : decode cX1_opens 15 = .ok (.ifCond .eq 12, 3) := by decide +kernel
theorem dX1_opens_18 : decode cX1_opens 18 = .ok (.aload_n 0, 1) := by decide +kernel
theorem dX1_opens_19 : decode cX1_opens 19 = .ok (.getfield 25, 3) := by decide +kernel
theorem dX1_opens_22 : decode cX1_opens 22 = .ok (.bipush 12, 2) := by decide +kernel
theorem dX1_opens_24 : decode cX1_opens 24 = .ok (.if_icmp .lt 5, 3) := by decide +kernel
theorem dX1_opens_27 : decode cX1_opens 27 = .ok (.iconst 0, 1) := by decide +kernel
theorem dX1_opens_28 : decode cX1_opens 28 = .ok (.ireturn, 1) := by decide +kernel
theorem dX1_opens_29 : decode cX1_opens 29 = .ok (.aload_n 0, 1) := by decide +kernel
theorem dX1_opens_30 : decode cX1_opens 30 = .ok (.getfield 12, 3) := by decide +kernel
theorem dX1_opens_33 : decode cX1_opens 33 = .ok (.dup, 1) := by decide +kernel
theorem dX1_opens_34 : decode cX1_opens 34 = .ok (.getfield 35, 3) := by decide +kernel
theorem dX1_opens_37 : decode cX1_opens 37 = .ok (.iconst 1, 1) := by decide +kernel
theorem dX1_opens_38 : decode cX1_opens 38 = .ok (.isub, 1) := by decide +kernel
theorem dX1_opens_39 : decode cX1_opens 39 = .ok (.putfield 35, 3) := by decide +kernel
theorem dX1_opens_42 : decode cX1_opens 42 = .ok (.aload_n 0, 1) := by decide +kernel
theorem dX1_opens_43 : decode cX1_opens 43 = .ok (.getfield 18, 3) := by decide +kernel
theorem dX1_opens_46 : decode cX1_opens 46 = .ok (.aload_n 0, 1) := by decide +kernel
theorem dX1_opens_47 : decode cX1_opens 47 = .ok (.getfield 25, 3) := by decide +kernel
theorem dX1_opens_50 : decode cX1_opens 50 = .ok (.aload_n 0, 1) := by decide +kernel
theorem dX1_opens_51 : decode cX1_opens 51 = .ok (.getfield 12, 3) := by decide +kernel
theorem dX1_opens_54 : decode cX1_opens 54 = .ok (.getfield 69, 3) := by decide +kernel
theorem dX1_opens_57 : decode cX1_opens 57 = .ok (.aload_n 0, 1) := by decide +kernel
theorem dX1_opens_58 : decode cX1_opens 58 = .ok (.getfield 12, 3) := by decide +kernel
theorem dX1_opens_61 : decode cX1_opens 61 = .ok (.getfield 35, 3) := by decide +kernel
theorem dX1_opens_64 : decode cX1_opens 64 = .ok (.iaload, 1) := by decide +kernel
theorem dX1_opens_65 : decode cX1_opens 65 = .ok (.iastore, 1) := by decide +kernel
theorem dX1_opens_66 : decode cX1_opens 66 = .ok (.aload_n 0, 1) := by decide +kernel
theorem dX1_opens_67 : decode cX1_opens 67 = .ok (.getfield 22, 3) := by decide +kernel
theorem dX1_opens_70 : decode cX1_opens 70 = .ok (.aload_n 0, 1) := by decide +kernel
theorem dX1_opens_71 : decode cX1_opens 71 = .ok (.getfield 25, 3) := by decide +kernel
theorem dX1_opens_74 : decode cX1_opens 74 = .ok (.aload_n 0, 1) := by decide +kernel
theorem dX1_opens_75 : decode cX1_opens 75 = .ok (.getfield 12, 3) := by decide +kernel
theorem dX1_opens_78 : decode cX1_opens 78 = .ok (.getfield 35, 3) := by decide +kernel
theorem dX1_opens_81 : decode cX1_opens 81 = .ok (.iastore, 1) := by decide +kernel
theorem dX1_opens_82 : decode cX1_opens 82 = .ok (.aload_n 0, 1) := by decide +kernel
theorem dX1_opens_83 : decode cX1_opens 83 = .ok (.dup, 1) := by decide +kernel
theorem dX1_opens_84 : decode cX1_opens 84 = .ok (.getfield 25, 3) := by decide +kernel
theorem dX1_opens_87 : decode cX1_opens 87 = .ok (.iconst 1, 1) := by decide +kernel
theorem dX1_opens_88 : decode cX1_opens 88 = .ok (.iadd, 1) := by decide +kernel
theorem dX1_opens_89 : decode cX1_opens 89 = .ok (.putfield 25, 3) := by decide +kernel
theorem dX1_opens_92 : decode cX1_opens 92 = .ok (.aload_n 0, 1) := by decide +kernel
theorem dX1_opens_93 : decode cX1_opens 93 = .ok (.iconst 2, 1) := by decide +kernel
theorem dX1_opens_94 : decode cX1_opens 94 = .ok (.putfield 32, 3) := by decide +kernel
theorem dX1_opens_97 : decode cX1_opens 97 = .ok (.iconst 1, 1) := by decide +kernel
theorem dX1_opens_98 : decode cX1_opens 98 = .ok (.ireturn, 1) := by decide +kernel
theorem dX1_closes_0 : decode cX1_closes 0 = .ok (.aload_n 0, 1) := by decide +kernel
theorem dX1_closes_1 : decode cX1_closes 1 = .ok (.getfield 32, 3) := by decide +kernel
theorem dX1_closes_4 : decode cX1_closes 4 = .ok (.iconst 2, 1) := by decide +kernel
theorem dX1_closes_5 : decode cX1_closes 5 = .ok (.if_icmp .eq 10, 3) := by decide +kernel
theorem dX1_closes_8 : decode cX1_closes 8 = .ok (.aload_n 0, 1) := by decide +kernel
theorem dX1_closes_9 : decode cX1_closes 9 = .ok (.getfield 25, 3) := by decide +kernel
theorem dX1_closes_12 : decode cX1_closes 12 = .ok (.ifCond .ne 5, 3) := by decide +kernel
theorem dX1_closes_15 : decode cX1_closes 15 = .ok (.iconst 0, 1) := by decide +kernel
theorem dX1_closes_16 : decode cX1_closes 16 = .ok (.ireturn, 1) := by decide +kernel
theorem dX1_closes_17 : decode cX1_closes 17 = .ok (.aload_n 0, 1) := by decide +kernel
theorem dX1_closes_18 : decode cX1_closes 18 = .ok (.dup, 1) := by decide +kernel
theorem dX1_closes_19 : decode cX1_closes 19 = .ok (.getfield 25, 3) := by decide +kernel
theorem dX1_closes_22 : decode cX1_closes 22 = .ok (.iconst 1, 1) := by decide +kernel
theorem dX1_closes_23 : decode cX1_closes 23 = .ok (.isub, 1) := by decide +kernel
theorem dX1_closes_24 : decode cX1_closes 24 = .ok (.putfield 25, 3) := by decide +kernel
theorem dX1_closes_27 : decode cX1_closes 27 = .ok (.aload_n 0, 1) := by decide +kernel
theorem dX1_closes_28 : decode cX1_closes 28 = .ok (.getfield 12, 3) := by decide +kernel
theorem dX1_closes_31 : decode cX1_closes 31 = .ok (.aload_n 0, 1) := by decide +kernel
theorem dX1_closes_32 : decode cX1_closes 32 = .ok (.getfield 18, 3) := by decide +kernel
theorem dX1_closes_35 : decode cX1_closes 35 = .ok (.aload_n 0, 1) := by decide +kernel
theorem dX1_closes_36 : decode cX1_closes 36 = .ok (.getfield 25, 3) := by decide +kernel
theorem dX1_closes_39 : decode cX1_closes 39 = .ok (.iaload, 1) := by decide +kernel
theorem dX1_closes_40 : decode cX1_closes 40 = .ok (.aload_n 0, 1) := by decide +kernel
theorem dX1_closes_41 : decode cX1_closes 41 = .ok (.getfield 12, 3) := by decide +kernel
theorem dX1_closes_44 : decode cX1_closes 44 = .ok (.getfield 35, 3) := by decide +kernel
theorem dX1_closes_47 : decode cX1_closes 47 = .ok (.aload_n 0, 1) := by decide +kernel
theorem dX1_closes_48 : decode cX1_closes 48 = .ok (.getfield 22, 3) := by decide +kernel
theorem dX1_closes_51 : decode cX1_closes 51 = .ok (.aload_n 0, 1) := by decide +kernel
theorem dX1_closes_52 : decode cX1_closes 52 = .ok (.getfield 25, 3) := by decide +kernel
theorem dX1_closes_55 : decode cX1_closes 55 = .ok (.iaload, 1) := by decide +kernel
theorem dX1_closes_56 : decode cX1_closes 56 = .ok (.isub, 1) := by decide +kernel
theorem dX1_closes_57 : decode cX1_closes 57 = .ok (.iconst 1, 1) := by decide +kernel
theorem dX1_closes_58 : decode cX1_closes 58 = .ok (.iadd, 1) := by decide +kernel
theorem dX1_closes_59 : decode cX1_closes 59 = .ok (.invokevirtual 65, 3) := by decide +kernel
theorem dX1_closes_62 : decode cX1_closes 62 = .ok (.aload_n 0, 1) := by decide +kernel
theorem dX1_closes_63 : decode cX1_closes 63 = .ok (.iconst 3, 1) := by decide +kernel
theorem dX1_closes_64 : decode cX1_closes 64 = .ok (.putfield 32, 3) := by decide +kernel
theorem dX1_closes_67 : decode cX1_closes 67 = .ok (.iconst 1, 1) := by decide +kernel
theorem dX1_closes_68 : decode cX1_closes 68 = .ok (.ireturn, 1) := by decide +kernel
theorem dX2_init_0 : decode cX2_init 0 = .ok (.aload_n 0, 1) := by decide +kernel
theorem dX2_init_1 : decode cX2_init 1 = .ok (.invokespecial 3, 3) := by decide +kernel
theorem dX2_init_4 : decode cX2_init 4 = .ok (.aload_n 0, 1) := by decide +kernel
theorem dX2_init_5 : decode cX2_init 5 = .ok (.iconst (-1), 1) := by decide +kernel
theorem dX2_init_6 : decode cX2_init 6 = .ok (.putfield 9, 3) := by decide +kernel
theorem dX2_init_9 : decode cX2_init 9 = .ok (.aload_n 0, 1) := by decide +kernel
theorem dX2_init_10 : decode cX2_init 10 = .ok (.bipush 40, 2) := by decide +kernel
theorem dX2_init_12 : decode cX2_init 12 = .ok (.newarray .int, 2) := by decide +kernel
theorem dX2_init_14 : decode cX2_init 14 = .ok (.putfield 15, 3) := by decide +kernel
theorem dX2_init_17 : decode cX2_init 17 = .ok (.return_, 1) := by decide +kernel
theorem dX2_begin_0 : decode cX2_begin 0 = .ok (.aload_n 0, 1) := by decide +kernel
theorem dX2_begin_1 : decode cX2_begin 1 = .ok (.iload_n 1, 1) := by decide +kernel
theorem dX2_begin_2 : decode cX2_begin 2 = .ok (.putfield 9, 3) := by decide +kernel
theorem dX2_begin_5 : decode cX2_begin 5 = .ok (.iconst 0, 1) := by decide +kernel
theorem dX2_begin_6 : decode cX2_begin 6 = .ok (.istore_n 2, 1) := by decide +kernel
theorem dX2_begin_7 : decode cX2_begin 7 = .ok (.iload_n 2, 1) := by decide +kernel
theorem dX2_begin_8 : decode cX2_begin 8 = .ok (.bipush 40, 2) := by decide +kernel
theorem dX2_begin_10 : decode cX2_begin 10 = .ok (.if_icmp .ge 16, 3) := by decide +kernel
theorem dX2_begin_13 : decode cX2_begin 13 = .ok (.aload_n 0, 1) := by decide +kernel
theorem dX2_begin_14 : decode cX2_begin 14 = .ok (.getfield 15, 3) := by decide +kernel
theorem dX2_begin_17 : decode cX2_begin 17 = .ok (.iload_n 2, 1) := by decide +kernel
theorem dX2_begin_18 : decode cX2_begin 18 = .ok (.iconst 0, 1) := by decide +kernel
theorem dX2_begin_19 : decode cX2_begin 19 = .ok (.iastore, 1) := by decide +kernel
theorem dX2_begin_20 : decode cX2_begin 20 = .ok (.iinc 2 1, 3) := by decide +kernel
theorem dX2_begin_23 : decode cX2_begin 23 = .ok (.goto (-16), 3) := by decide +kernel
theorem dX2_begin_26 : decode cX2_begin 26 = .ok (.return_, 1) := by decide +kernel
theorem dX2_lacks_0 : decode cX2_lacks 0 = .ok (.iload_n 1, 1) := by decide +kernel
theorem dX2_lacks_1 : decode cX2_lacks 1 = .ok (.ifCond .lt 17, 3) := by decide +kernel
theorem dX2_lacks_4 : decode cX2_lacks 4 = .ok (.iload_n 1, 1) := by decide +kernel
theorem dX2_lacks_5 : decode cX2_lacks 5 = .ok (.i2l, 1) := by decide +kernel
theorem dX2_lacks_6 : decode cX2_lacks 6 = .ok (.iload_n 2, 1) := by decide +kernel
theorem dX2_lacks_7 : decode cX2_lacks 7 = .ok (.i2l, 1) := by decide +kernel
theorem dX2_lacks_8 : decode cX2_lacks 8 = .ok (.ladd, 1) := by decide +kernel
theorem dX2_lacks_9 : decode cX2_lacks 9 = .ok (.aload_n 0, 1) := by decide +kernel
theorem dX2_lacks_10 : decode cX2_lacks 10 = .ok (.getfield 9, 3) := by decide +kernel
theorem dX2_lacks_13 : decode cX2_lacks 13 = .ok (.i2l, 1) := by decide +kernel
theorem dX2_lacks_14 : decode cX2_lacks 14 = .ok (.lcmp, 1) := by decide +kernel
theorem dX2_lacks_15 : decode cX2_lacks 15 = .ok (.ifCond .le 7, 3) := by decide +kernel
theorem dX2_lacks_18 : decode cX2_lacks 18 = .ok (.iconst 1, 1) := by decide +kernel
theorem dX2_lacks_19 : decode cX2_lacks 19 = .ok (.goto 4, 3) := by decide +kernel
theorem dX2_lacks_22 : decode cX2_lacks 22 = .ok (.iconst 0, 1) := by decide +kernel
theorem dX2_lacks_23 : decode cX2_lacks 23 = .ok (.ireturn, 1) := by decide +kernel
theorem dX2_sum_0 : decode cX2_sum 0 = .ok (.lconst 0, 1) := by decide +kernel
theorem dX2_sum_1 : decode cX2_sum 1 = .ok (.lstore_n 1, 1) := by decide +kernel
theorem dX2_sum_2 : decode cX2_sum 2 = .ok (.iconst 0, 1) := by decide +kernel
theorem dX2_sum_3 : decode cX2_sum 3 = .ok (.istore_n 3, 1) := by decide +kernel
theorem dX2_sum_4 : decode cX2_sum 4 = .ok (.iload_n 3, 1) := by decide +kernel
theorem dX2_sum_5 : decode cX2_sum 5 = .ok (.aload_n 0, 1) := by decide +kernel
theorem dX2_sum_6 : decode cX2_sum 6 = .ok (.getfield 9, 3) := by decide +kernel
theorem dX2_sum_9 : decode cX2_sum 9 = .ok (.if_icmp .ge 19, 3) := by decide +kernel
theorem dX2_sum_12 : decode cX2_sum 12 = .ok (.lload_n 1, 1) := by decide +kernel
theorem dX2_sum_13 : decode cX2_sum 13 = .ok (.aload_n 0, 1) := by decide +kernel
theorem dX2_sum_14 : decode cX2_sum 14 = .ok (.getfield 15, 3) := by decide +kernel
theorem dX2_sum_17 : decode cX2_sum 17 = .ok (.iload_n 3, 1) := by decide +kernel
theorem dX2_sum_18 : decode cX2_sum 18 = .ok (.iaload, 1) := by decide +kernel
theorem dX2_sum_19 : decode cX2_sum 19 = .ok (.i2l, 1) := by decide +kernel
theorem dX2_sum_20 : decode cX2_sum 20 = .ok (.ladd, 1) := by decide +kernel
theorem dX2_sum_21 : decode cX2_sum 21 = .ok (.lstore_n 1, 1) := by decide +kernel
theorem dX2_sum_22 : decode cX2_sum 22 = .ok (.iinc 3 1, 3) := by decide +kernel
theorem dX2_sum_25 : decode cX2_sum 25 = .ok (.goto (-21), 3) := by decide +kernel
theorem dX2_sum_28 : decode cX2_sum 28 = .ok (.lload_n 1, 1) := by decide +kernel
theorem dX2_sum_29 : decode cX2_sum 29 = .ok (.lreturn, 1) := by decide +kernel
theorem dX2_digestAfter_0 : decode cX2_digestAfter 0 = .ok (.ldc2_w 19, 3) := by decide +kernel
theorem dX2_digestAfter_3 : decode cX2_digestAfter 3 = .ok (.lload_n 1, 1) := by decide +kernel
theorem dX2_digestAfter_4 : decode cX2_digestAfter 4 = .ok (.lmul, 1) := by decide +kernel
theorem dX2_digestAfter_5 : decode cX2_digestAfter 5 = .ok (.aload_n 0, 1) := by decide +kernel
theorem dX2_digestAfter_6 : decode cX2_digestAfter 6 = .ok (.getfield 9, 3) := by decide +kernel
theorem dX2_digestAfter_9 : decode cX2_digestAfter 9 = .ok (.i2l, 1) := by decide +kernel
theorem dX2_digestAfter_10 : decode cX2_digestAfter 10 = .ok (.ladd, 1) := by decide +kernel
theorem dX2_digestAfter_11 : decode cX2_digestAfter 11 = .ok (.lstore_n 3, 1) := by decide +kernel
theorem dX2_digestAfter_12 : decode cX2_digestAfter 12 = .ok (.iconst 0, 1) := by decide +kernel
theorem dX2_digestAfter_13 : decode cX2_digestAfter 13 = .ok (.istore 5, 2) := by decide +kernel
theorem dX2_digestAfter_15 : decode cX2_digestAfter 15 = .ok (.iload 5, 2) := by decide +kernel
theorem dX2_digestAfter_17 : decode cX2_digestAfter 17 = .ok (.aload_n 0, 1) := by decide +kernel
theorem dX2_digestAfter_18 : decode cX2_digestAfter 18 = .ok (.getfield 9, 3) := by decide +kernel
theorem dX2_digestAfter_21 : decode cX2_digestAfter 21 = .ok (.if_icmp .ge 24, 3) := by decide +kernel
theorem dX2_digestAfter_24 : decode cX2_digestAfter 24 = .ok (.ldc2_w 19, 3) := by decide +kernel
theorem dX2_digestAfter_27 : decode cX2_digestAfter 27 = .ok (.lload_n 3, 1) := by decide +kernel
theorem dX2_digestAfter_28 : decode cX2_digestAfter 28 = .ok (.lmul, 1) := by decide +kernel
theorem dX2_digestAfter_29 : decode cX2_digestAfter 29 = .ok (.aload_n 0, 1) := by decide +kernel
theorem dX2_digestAfter_30 : decode cX2_digestAfter 30 = .ok (.getfield 15, 3) := by decide +kernel
theorem dX2_digestAfter_33 : decode cX2_digestAfter 33 = .ok (.iload 5, 2) := by decide +kernel
theorem dX2_digestAfter_35 : decode cX2_digestAfter 35 = .ok (.iaload, 1) := by decide +kernel
theorem dX2_digestAfter_36 : decode cX2_digestAfter 36 = .ok (.i2l, 1) := by decide +kernel
theorem dX2_digestAfter_37 : decode cX2_digestAfter 37 = .ok (.ladd, 1) := by decide +kernel
theorem dX2_digestAfter_38 : decode cX2_digestAfter 38 = .ok (.lstore_n 3, 1) := by decide +kernel
theorem dX2_digestAfter_39 : decode cX2_digestAfter 39 = .ok (.iinc 5 1, 3) := by decide +kernel
theorem dX2_digestAfter_42 : decode cX2_digestAfter 42 = .ok (.goto (-27), 3) := by decide +kernel
theorem dX2_digestAfter_45 : decode cX2_digestAfter 45 = .ok (.lload_n 3, 1) := by decide +kernel
theorem dX2_digestAfter_46 : decode cX2_digestAfter 46 = .ok (.lreturn, 1) := by decide +kernel
theorem dX3_init_0 : decode cX3_init 0 = .ok (.aload_n 0, 1) := by decide +kernel
theorem dX3_init_1 : decode cX3_init 1 = .ok (.invokespecial 5, 3) := by decide +kernel
theorem dX3_init_4 : decode cX3_init 4 = .ok (.aload_n 0, 1) := by decide +kernel
theorem dX3_init_5 : decode cX3_init 5 = .ok (.new 11, 3) := by decide +kernel
theorem dX3_init_8 : decode cX3_init 8 = .ok (.dup, 1) := by decide +kernel
theorem dX3_init_9 : decode cX3_init 9 = .ok (.invokespecial 13, 3) := by decide +kernel
theorem dX3_init_12 : decode cX3_init 12 = .ok (.putfield 14, 3) := by decide +kernel
theorem dX3_init_15 : decode cX3_init 15 = .ok (.aload_n 0, 1) := by decide +kernel
theorem dX3_init_16 : decode cX3_init 16 = .ok (.new 11, 3) := by decide +kernel
theorem dX3_init_19 : decode cX3_init 19 = .ok (.dup, 1) := by decide +kernel
theorem dX3_init_20 : decode cX3_init 20 = .ok (.invokespecial 13, 3) := by decide +kernel
theorem dX3_init_23 : decode cX3_init 23 = .ok (.putfield 18, 3) := by decide +kernel
theorem dX3_init_26 : decode cX3_init 26 = .ok (.aload_n 0, 1) := by decide +kernel
theorem dX3_init_27 : decode cX3_init 27 = .ok (.iconst 3, 1) := by decide +kernel
theorem dX3_init_28 : decode cX3_init 28 = .ok (.newarray .int, 2) := by decide +kernel
theorem dX3_init_30 : decode cX3_init 30 = .ok (.dup, 1) := by decide +kernel
theorem dX3_init_31 : decode cX3_init 31 = .ok (.iconst 0, 1) := by decide +kernel
theorem dX3_init_32 : decode cX3_init 32 = .ok (.iconst 1, 1) := by decide +kernel
theorem dX3_init_33 : decode cX3_init 33 = .ok (.iastore, 1) := by decide +kernel
theorem dX3_init_34 : decode cX3_init 34 = .ok (.dup, 1) := by decide +kernel
theorem dX3_init_35 : decode cX3_init 35 = .ok (.iconst 1, 1) := by decide +kernel
theorem dX3_init_36 : decode cX3_init 36 = .ok (.iconst 1, 1) := by decide +kernel
theorem dX3_init_37 : decode cX3_init 37 = .ok (.iastore, 1) := by decide +kernel
theorem dX3_init_38 : decode cX3_init 38 = .ok (.dup, 1) := by decide +kernel
theorem dX3_init_39 : decode cX3_init 39 = .ok (.iconst 2, 1) := by decide +kernel
theorem dX3_init_40 : decode cX3_init 40 = .ok (.iconst 1, 1) := by decide +kernel
theorem dX3_init_41 : decode cX3_init 41 = .ok (.iastore, 1) := by decide +kernel
theorem dX3_init_42 : decode cX3_init 42 = .ok (.putfield 21, 3) := by decide +kernel
theorem dX3_init_45 : decode cX3_init 45 = .ok (.return_, 1) := by decide +kernel
theorem dX3_tree_0 : decode cX3_tree 0 = .ok (.iload_n 1, 1) := by decide +kernel
theorem dX3_tree_1 : decode cX3_tree 1 = .ok (.ifCond .ne 10, 3) := by decide +kernel
theorem dX3_tree_4 : decode cX3_tree 4 = .ok (.aload_n 0, 1) := by decide +kernel
theorem dX3_tree_5 : decode cX3_tree 5 = .ok (.getfield 14, 3) := by decide +kernel
theorem dX3_tree_8 : decode cX3_tree 8 = .ok (.goto 7, 3) := by decide +kernel
theorem dX3_tree_11 : decode cX3_tree 11 = .ok (.aload_n 0, 1) := by decide +kernel
theorem dX3_tree_12 : decode cX3_tree 12 = .ok (.getfield 18, 3) := by decide +kernel
theorem dX3_tree_15 : decode cX3_tree 15 = .ok (.areturn, 1) := by decide +kernel
theorem dX3_isWhole_0 : decode cX3_isWhole 0 = .ok (.aload_n 0, 1) := by decide +kernel
theorem dX3_isWhole_1 : decode cX3_isWhole 1 = .ok (.getfield 14, 3) := by decide +kernel
theorem dX3_isWhole_4 : decode cX3_isWhole 4 = .ok (.getfield 25, 3) := by decide +kernel
theorem dX3_isWhole_7 : decode cX3_isWhole 7 = .ok (.ifCond .le 17, 3) := by decide +kernel
theorem dX3_isWhole_10 : decode cX3_isWhole 10 = .ok (.aload_n 0, 1) := by decide +kernel
theorem dX3_isWhole_11 : decode cX3_isWhole 11 = .ok (.getfield 18, 3) := by decide +kernel
theorem dX3_isWhole_14 : decode cX3_isWhole 14 = .ok (.getfield 25, 3) := by decide +kernel
theorem dX3_isWhole_17 : decode cX3_isWhole 17 = .ok (.ifCond .le 7, 3) := by decide +kernel
theorem dX3_isWhole_20 : decode cX3_isWhole 20 = .ok (.iconst 1, 1) := by decide +kernel
theorem dX3_isWhole_21 : decode cX3_isWhole 21 = .ok (.goto 4, 3) := by decide +kernel
theorem dX3_isWhole_24 : decode cX3_isWhole 24 = .ok (.iconst 0, 1) := by decide +kernel
theorem dX3_isWhole_25 : decode cX3_isWhole 25 = .ok (.ireturn, 1) := by decide +kernel
theorem dX3_insertion_0 : decode cX3_insertion 0 = .ok (.aload_n 0, 1) := by decide +kernel
theorem dX3_insertion_1 : decode cX3_insertion 1 = .ok (.getfield 21, 3) := by decide +kernel
theorem dX3_insertion_4 : decode cX3_insertion 4 = .ok (.iconst 0, 1) := by decide +kernel
theorem dX3_insertion_5 : decode cX3_insertion 5 = .ok (.iaload, 1) := by decide +kernel
theorem dX3_insertion_6 : decode cX3_insertion 6 = .ok (.iload_n 1, 1) := by decide +kernel
theorem dX3_insertion_7 : decode cX3_insertion 7 = .ok (.invokestatic 29, 3) := by decide +kernel
theorem dX3_insertion_10 : decode cX3_insertion 10 = .ok (.imul, 1) := by decide +kernel
theorem dX3_insertion_11 : decode cX3_insertion 11 = .ok (.ireturn, 1) := by decide +kernel
theorem dX3_deletion_0 : decode cX3_deletion 0 = .ok (.aload_n 0, 1) := by decide +kernel
theorem dX3_deletion_1 : decode cX3_deletion 1 = .ok (.getfield 21, 3) := by decide +kernel
theorem dX3_deletion_4 : decode cX3_deletion 4 = .ok (.iconst 1, 1) := by decide +kernel
theorem dX3_deletion_5 : decode cX3_deletion 5 = .ok (.iaload, 1) := by decide +kernel
theorem dX3_deletion_6 : decode cX3_deletion 6 = .ok (.iload_n 1, 1) := by decide +kernel
theorem dX3_deletion_7 : decode cX3_deletion 7 = .ok (.invokestatic 29, 3) := by decide +kernel
theorem dX3_deletion_10 : decode cX3_deletion 10 = .ok (.imul, 1) := by decide +kernel
theorem dX3_deletion_11 : decode cX3_deletion 11 = .ok (.ireturn, 1) := by decide +kernel
theorem dX3_relabelling_0 : decode cX3_relabelling 0 = .ok (.iload_n 1, 1) := by decide +kernel
theorem dX3_relabelling_1 : decode cX3_relabelling 1 = .ok (.iload_n 2, 1) := by decide +kernel
theorem dX3_relabelling_2 : decode cX3_relabelling 2 = .ok (.if_icmp .ne 5, 3) := by decide +kernel
theorem dX3_relabelling_5 : decode cX3_relabelling 5 = .ok (.iconst 0, 1) := by decide +kernel
theorem dX3_relabelling_6 : decode cX3_relabelling 6 = .ok (.ireturn, 1) := by decide +kernel
theorem dX3_relabelling_7 : decode cX3_relabelling 7 = .ok (.iload_n 1, 1) := by decide +kernel
theorem dX3_relabelling_8 : decode cX3_relabelling 8 = .ok (.invokestatic 33, 3) := by decide +kernel
theorem dX3_relabelling_11 : decode cX3_relabelling 11 = .ok (.istore_n 3, 1) := by decide +kernel
theorem dX3_relabelling_12 : decode cX3_relabelling 12 = .ok (.iload_n 3, 1) := by decide +kernel
theorem dX3_relabelling_13 : decode cX3_relabelling 13 = .ok (.iload_n 2, 1) := by decide +kernel
theorem dX3_relabelling_14 : decode cX3_relabelling 14 = .ok (.invokestatic 33, 3) := by decide +kernel
theorem dX3_relabelling_17 : decode cX3_relabelling 17 = .ok (.if_icmp .eq 12, 3) := by decide +kernel
theorem dX3_relabelling_20 : decode cX3_relabelling 20 = .ok (.iconst 2, 1) := by decide +kernel
theorem dX3_relabelling_21 : decode cX3_relabelling 21 = .ok (.aload_n 0, 1) := by decide +kernel
theorem dX3_relabelling_22 : decode cX3_relabelling 22 = .ok (.getfield 21, 3) := by decide +kernel
theorem dX3_relabelling_25 : decode cX3_relabelling 25 = .ok (.iconst 2, 1) := by decide +kernel
theorem dX3_relabelling_26 : decode cX3_relabelling 26 = .ok (.iaload, 1) := by decide +kernel
theorem dX3_relabelling_27 : decode cX3_relabelling 27 = .ok (.imul, 1) := by decide +kernel
theorem dX3_relabelling_28 : decode cX3_relabelling 28 = .ok (.ireturn, 1) := by decide +kernel
theorem dX3_relabelling_29 : decode cX3_relabelling 29 = .ok (.iload_n 3, 1) := by decide +kernel
theorem dX3_relabelling_30 : decode cX3_relabelling 30 = .ok (.iconst 2, 1) := by decide +kernel
theorem dX3_relabelling_31 : decode cX3_relabelling 31 = .ok (.if_icmp .ne 23, 3) := by decide +kernel
theorem dX3_relabelling_34 : decode cX3_relabelling 34 = .ok (.aload_n 0, 1) := by decide +kernel
theorem dX3_relabelling_35 : decode cX3_relabelling 35 = .ok (.getfield 21, 3) := by decide +kernel
theorem dX3_relabelling_38 : decode cX3_relabelling 38 = .ok (.iconst 2, 1) := by decide +kernel
theorem dX3_relabelling_39 : decode cX3_relabelling 39 = .ok (.iaload, 1) := by decide +kernel
theorem dX3_relabelling_40 : decode cX3_relabelling 40 = .ok (.iconst 3, 1) := by decide +kernel
theorem dX3_relabelling_41 : decode cX3_relabelling 41 = .ok (.iload_n 1, 1) := by decide +kernel
theorem dX3_relabelling_42 : decode cX3_relabelling 42 = .ok (.iload_n 2, 1) := by decide +kernel
theorem dX3_relabelling_43 : decode cX3_relabelling 43 = .ok (.isub, 1) := by decide +kernel
theorem dX3_relabelling_44 : decode cX3_relabelling 44 = .ok (.invokestatic 36, 3) := by decide +kernel
theorem dX3_relabelling_47 : decode cX3_relabelling 47 = .ok (.invokestatic 41, 3) := by decide +kernel
theorem dX3_relabelling_50 : decode cX3_relabelling 50 = .ok (.imul, 1) := by decide +kernel
theorem dX3_relabelling_51 : decode cX3_relabelling 51 = .ok (.goto 9, 3) := by decide +kernel
theorem dX3_relabelling_54 : decode cX3_relabelling 54 = .ok (.aload_n 0, 1) := by decide +kernel
theorem dX3_relabelling_55 : decode cX3_relabelling 55 = .ok (.getfield 21, 3) := by decide +kernel
theorem dX3_relabelling_58 : decode cX3_relabelling 58 = .ok (.iconst 2, 1) := by decide +kernel
theorem dX3_relabelling_59 : decode cX3_relabelling 59 = .ok (.iaload, 1) := by decide +kernel
theorem dX3_relabelling_60 : decode cX3_relabelling 60 = .ok (.ireturn, 1) := by decide +kernel
theorem dX3_pack_0 : decode cX3_pack 0 = .ok (.aload_n 0, 1) := by decide +kernel
theorem dX3_pack_1 : decode cX3_pack 1 = .ok (.getfield 21, 3) := by decide +kernel
theorem dX3_pack_4 : decode cX3_pack 4 = .ok (.iconst 0, 1) := by decide +kernel
theorem dX3_pack_5 : decode cX3_pack 5 = .ok (.aload_n 1, 1) := by decide +kernel
theorem dX3_pack_6 : decode cX3_pack 6 = .ok (.iload_n 2, 1) := by decide +kernel
theorem dX3_pack_7 : decode cX3_pack 7 = .ok (.iconst 3, 1) := by decide +kernel
theorem dX3_pack_8 : decode cX3_pack 8 = .ok (.invokestatic 45, 3) := by decide +kernel
theorem dX3_pack_11 : decode cX3_pack 11 = .ok (.aload_n 0, 1) := by decide +kernel
theorem dX3_pack_12 : decode cX3_pack 12 = .ok (.getfield 14, 3) := by decide +kernel
theorem dX3_pack_15 : decode cX3_pack 15 = .ok (.aload_n 1, 1) := by decide +kernel
theorem dX3_pack_16 : decode cX3_pack 16 = .ok (.iload_n 2, 1) := by decide +kernel
theorem dX3_pack_17 : decode cX3_pack 17 = .ok (.iconst 3, 1) := by decide +kernel
theorem dX3_pack_18 : decode cX3_pack 18 = .ok (.iadd, 1) := by decide +kernel
theorem dX3_pack_19 : decode cX3_pack 19 = .ok (.invokestatic 51, 3) := by decide +kernel
theorem dX3_pack_22 : decode cX3_pack 22 = .ok (.aload_n 0, 1) := by decide +kernel
theorem dX3_pack_23 : decode cX3_pack 23 = .ok (.getfield 18, 3) := by decide +kernel
theorem dX3_pack_26 : decode cX3_pack 26 = .ok (.aload_n 1, 1) := by decide +kernel
theorem dX3_pack_27 : decode cX3_pack 27 = .ok (.iload_n 2, 1) := by decide +kernel
theorem dX3_pack_28 : decode cX3_pack 28 = .ok (.iconst 3, 1) := by decide +kernel
theorem dX3_pack_29 : decode cX3_pack 29 = .ok (.iadd, 1) := by decide +kernel
theorem dX3_pack_30 : decode cX3_pack 30 = .ok (.bipush 13, 2) := by decide +kernel
theorem dX3_pack_32 : decode cX3_pack 32 = .ok (.iadd, 1) := by decide +kernel
theorem dX3_pack_33 : decode cX3_pack 33 = .ok (.invokestatic 51, 3) := by decide +kernel
theorem dX3_pack_36 : decode cX3_pack 36 = .ok (.return_, 1) := by decide +kernel
theorem dX3_unpack_0 : decode cX3_unpack 0 = .ok (.aload_n 1, 1) := by decide +kernel
theorem dX3_unpack_1 : decode cX3_unpack 1 = .ok (.iload_n 2, 1) := by decide +kernel
theorem dX3_unpack_2 : decode cX3_unpack 2 = .ok (.aload_n 0, 1) := by decide +kernel
theorem dX3_unpack_3 : decode cX3_unpack 3 = .ok (.getfield 21, 3) := by decide +kernel
theorem dX3_unpack_6 : decode cX3_unpack 6 = .ok (.iconst 0, 1) := by decide +kernel
theorem dX3_unpack_7 : decode cX3_unpack 7 = .ok (.iconst 3, 1) := by decide +kernel
theorem dX3_unpack_8 : decode cX3_unpack 8 = .ok (.invokestatic 45, 3) := by decide +kernel
theorem dX3_unpack_11 : decode cX3_unpack 11 = .ok (.aload_n 0, 1) := by decide +kernel
theorem dX3_unpack_12 : decode cX3_unpack 12 = .ok (.getfield 14, 3) := by decide +kernel
theorem dX3_unpack_15 : decode cX3_unpack 15 = .ok (.aload_n 1, 1) := by decide +kernel
theorem dX3_unpack_16 : decode cX3_unpack 16 = .ok (.iload_n 2, 1) := by decide +kernel
theorem dX3_unpack_17 : decode cX3_unpack 17 = .ok (.iconst 3, 1) := by decide +kernel
theorem dX3_unpack_18 : decode cX3_unpack 18 = .ok (.iadd, 1) := by decide +kernel
theorem dX3_unpack_19 : decode cX3_unpack 19 = .ok (.invokestatic 55, 3) := by decide +kernel
theorem dX3_unpack_22 : decode cX3_unpack 22 = .ok (.aload_n 0, 1) := by decide +kernel
theorem dX3_unpack_23 : decode cX3_unpack 23 = .ok (.getfield 18, 3) := by decide +kernel
theorem dX3_unpack_26 : decode cX3_unpack 26 = .ok (.aload_n 1, 1) := by decide +kernel
theorem dX3_unpack_27 : decode cX3_unpack 27 = .ok (.iload_n 2, 1) := by decide +kernel
theorem dX3_unpack_28 : decode cX3_unpack 28 = .ok (.iconst 3, 1) := by decide +kernel
theorem dX3_unpack_29 : decode cX3_unpack 29 = .ok (.iadd, 1) := by decide +kernel
theorem dX3_unpack_30 : decode cX3_unpack 30 = .ok (.bipush 13, 2) := by decide +kernel
theorem dX3_unpack_32 : decode cX3_unpack 32 = .ok (.iadd, 1) := by decide +kernel
theorem dX3_unpack_33 : decode cX3_unpack 33 = .ok (.invokestatic 55, 3) := by decide +kernel
theorem dX3_unpack_36 : decode cX3_unpack 36 = .ok (.return_, 1) := by decide +kernel
theorem dX3_packTree_0 : decode cX3_packTree 0 = .ok (.aload_n 1, 1) := by decide +kernel
theorem dX3_packTree_1 : decode cX3_packTree 1 = .ok (.iload_n 2, 1) := by decide +kernel
theorem dX3_packTree_2 : decode cX3_packTree 2 = .ok (.aload_n 0, 1) := by decide +kernel
theorem dX3_packTree_3 : decode cX3_packTree 3 = .ok (.getfield 25, 3) := by decide +kernel
theorem dX3_packTree_6 : decode cX3_packTree 6 = .ok (.iastore, 1) := by decide +kernel
theorem dX3_packTree_7 : decode cX3_packTree 7 = .ok (.iconst 0, 1) := by decide +kernel
theorem dX3_packTree_8 : decode cX3_packTree 8 = .ok (.istore_n 3, 1) := by decide +kernel
theorem dX3_packTree_9 : decode cX3_packTree 9 = .ok (.iload_n 3, 1) := by decide +kernel
theorem dX3_packTree_10 : decode cX3_packTree 10 = .ok (.aload_n 0, 1) := by decide +kernel
theorem dX3_packTree_11 : decode cX3_packTree 11 = .ok (.getfield 25, 3) := by decide +kernel
theorem dX3_packTree_14 : decode cX3_packTree 14 = .ok (.if_icmp .ge 31, 3) := by decide +kernel
theorem dX3_packTree_17 : decode cX3_packTree 17 = .ok (.aload_n 1, 1) := by decide +kernel
theorem dX3_packTree_18 : decode cX3_packTree 18 = .ok (.iload_n 2, 1) := by decide +kernel
theorem dX3_packTree_19 : decode cX3_packTree 19 = .ok (.iconst 1, 1) := by decide +kernel
theorem dX3_packTree_20 : decode cX3_packTree 20 = .ok (.iadd, 1) := by decide +kernel
theorem dX3_packTree_21 : decode cX3_packTree 21 = .ok (.iload_n 3, 1) := by decide +kernel
theorem dX3_packTree_22 : decode cX3_packTree 22 = .ok (.iadd, 1) := by decide +kernel
theorem dX3_packTree_23 : decode cX3_packTree 23 = .ok (.aload_n 0, 1) := by decide +kernel
theorem dX3_packTree_24 : decode cX3_packTree 24 = .ok (.getfield 58, 3) := by decide +kernel
theorem dX3_packTree_27 : decode cX3_packTree 27 = .ok (.iload_n 3, 1) := by decide +kernel
theorem dX3_packTree_28 : decode cX3_packTree 28 = .ok (.iaload, 1) := by decide +kernel
theorem dX3_packTree_29 : decode cX3_packTree 29 = .ok (.iconst 4, 1) := by decide +kernel
theorem dX3_packTree_30 : decode cX3_packTree 30 = .ok (.ishl, 1) := by decide +kernel
theorem dX3_packTree_31 : decode cX3_packTree 31 = .ok (.aload_n 0, 1) := by decide +kernel
theorem dX3_packTree_32 : decode cX3_packTree 32 = .ok (.getfield 61, 3) := by decide +kernel
theorem dX3_packTree_35 : decode cX3_packTree 35 = .ok (.iload_n 3, 1) := by decide +kernel
theorem dX3_packTree_36 : decode cX3_packTree 36 = .ok (.iaload, 1) := by decide +kernel
theorem dX3_packTree_37 : decode cX3_packTree 37 = .ok (.ior, 1) := by decide +kernel
theorem dX3_packTree_38 : decode cX3_packTree 38 = .ok (.iastore, 1) := by decide +kernel
theorem dX3_packTree_39 : decode cX3_packTree 39 = .ok (.iinc 3 1, 3) := by decide +kernel
theorem dX3_packTree_42 : decode cX3_packTree 42 = .ok (.goto (-33), 3) := by decide +kernel
theorem dX3_packTree_45 : decode cX3_packTree 45 = .ok (.return_, 1) := by decide +kernel
theorem dX3_unpackTree_0 : decode cX3_unpackTree 0 = .ok (.aload_n 0, 1) := by decide +kernel
theorem dX3_unpackTree_1 : decode cX3_unpackTree 1 = .ok (.aload_n 1, 1) := by decide +kernel
theorem dX3_unpackTree_2 : decode cX3_unpackTree 2 = .ok (.iload_n 2, 1) := by decide +kernel
theorem dX3_unpackTree_3 : decode cX3_unpackTree 3 = .ok (.iaload, 1) := by decide +kernel
theorem dX3_unpackTree_4 : decode cX3_unpackTree 4 = .ok (.putfield 25, 3) := by decide +kernel
theorem dX3_unpackTree_7 : decode cX3_unpackTree 7 = .ok (.iconst 0, 1) := by decide +kernel
theorem dX3_unpackTree_8 : decode cX3_unpackTree 8 = .ok (.istore_n 3, 1) := by decide +kernel
theorem dX3_unpackTree_9 : decode cX3_unpackTree 9 = .ok (.iload_n 3, 1) := by decide +kernel
theorem dX3_unpackTree_10 : decode cX3_unpackTree 10 = .ok (.aload_n 0, 1) := by decide +kernel
theorem dX3_unpackTree_11 : decode cX3_unpackTree 11 = .ok (.getfield 25, 3) := by decide +kernel
theorem dX3_unpackTree_14 : decode cX3_unpackTree 14 = .ok (.if_icmp .ge 40, 3) := by decide +kernel
theorem dX3_unpackTree_17 : decode cX3_unpackTree 17 = .ok (.aload_n 0, 1) := by decide +kernel
theorem dX3_unpackTree_18 : decode cX3_unpackTree 18 = .ok (.getfield 58, 3) := by decide +kernel
theorem dX3_unpackTree_21 : decode cX3_unpackTree 21 = .ok (.iload_n 3, 1) := by decide +kernel
theorem dX3_unpackTree_22 : decode cX3_unpackTree 22 = .ok (.aload_n 1, 1) := by decide +kernel
theorem dX3_unpackTree_23 : decode cX3_unpackTree 23 = .ok (.iload_n 2, 1) := by decide +kernel
theorem dX3_unpackTree_24 : decode cX3_unpackTree 24 = .ok (.iconst 1, 1) := by decide +kernel
theorem dX3_unpackTree_25 : decode cX3_unpackTree 25 = .ok (.iadd, 1) := by decide +kernel
theorem dX3_unpackTree_26 : decode cX3_unpackTree 26 = .ok (.iload_n 3, 1) := by decide +kernel
theorem dX3_unpackTree_27 : decode cX3_unpackTree 27 = .ok (.iadd, 1) := by decide +kernel
theorem dX3_unpackTree_28 : decode cX3_unpackTree 28 = .ok (.iaload, 1) := by decide +kernel
theorem dX3_unpackTree_29 : decode cX3_unpackTree 29 = .ok (.iconst 4, 1) := by decide +kernel
theorem dX3_unpackTree_30 : decode cX3_unpackTree 30 = .ok (.ishr, 1) := by decide +kernel
theorem dX3_unpackTree_31 : decode cX3_unpackTree 31 = .ok (.iastore, 1) := by decide +kernel
theorem dX3_unpackTree_32 : decode cX3_unpackTree 32 = .ok (.aload_n 0, 1) := by decide +kernel
theorem dX3_unpackTree_33 : decode cX3_unpackTree 33 = .ok (.getfield 61, 3) := by decide +kernel
theorem dX3_unpackTree_36 : decode cX3_unpackTree 36 = .ok (.iload_n 3, 1) := by decide +kernel
theorem dX3_unpackTree_37 : decode cX3_unpackTree 37 = .ok (.aload_n 1, 1) := by decide +kernel
theorem dX3_unpackTree_38 : decode cX3_unpackTree 38 = .ok (.iload_n 2, 1) := by decide +kernel
theorem dX3_unpackTree_39 : decode cX3_unpackTree 39 = .ok (.iconst 1, 1) := by decide +kernel
theorem dX3_unpackTree_40 : decode cX3_unpackTree 40 = .ok (.iadd, 1) := by decide +kernel
theorem dX3_unpackTree_41 : decode cX3_unpackTree 41 = .ok (.iload_n 3, 1) := by decide +kernel
theorem dX3_unpackTree_42 : decode cX3_unpackTree 42 = .ok (.iadd, 1) := by decide +kernel
theorem dX3_unpackTree_43 : decode cX3_unpackTree 43 = .ok (.iaload, 1) := by decide +kernel
theorem dX3_unpackTree_44 : decode cX3_unpackTree 44 = .ok (.bipush 15, 2) := by decide +kernel
theorem dX3_unpackTree_46 : decode cX3_unpackTree 46 = .ok (.iand, 1) := by decide +kernel
theorem dX3_unpackTree_47 : decode cX3_unpackTree 47 = .ok (.iastore, 1) := by decide +kernel
theorem dX3_unpackTree_48 : decode cX3_unpackTree 48 = .ok (.iinc 3 1, 3) := by decide +kernel
theorem dX3_unpackTree_51 : decode cX3_unpackTree 51 = .ok (.goto (-42), 3) := by decide +kernel
theorem dX3_unpackTree_54 : decode cX3_unpackTree 54 = .ok (.return_, 1) := by decide +kernel
theorem dX4_init_0 : decode cX4_init 0 = .ok (.aload_n 0, 1) := by decide +kernel
theorem dX4_init_1 : decode cX4_init 1 = .ok (.invokespecial 3, 3) := by decide +kernel
theorem dX4_init_4 : decode cX4_init 4 = .ok (.aload_n 0, 1) := by decide +kernel
theorem dX4_init_5 : decode cX4_init 5 = .ok (.iconst 0, 1) := by decide +kernel
theorem dX4_init_6 : decode cX4_init 6 = .ok (.putfield 9, 3) := by decide +kernel
theorem dX4_init_9 : decode cX4_init 9 = .ok (.aload_n 0, 1) := by decide +kernel
theorem dX4_init_10 : decode cX4_init 10 = .ok (.bipush 24, 2) := by decide +kernel
theorem dX4_init_12 : decode cX4_init 12 = .ok (.newarray .int, 2) := by decide +kernel
theorem dX4_init_14 : decode cX4_init 14 = .ok (.putfield 15, 3) := by decide +kernel
theorem dX4_init_17 : decode cX4_init 17 = .ok (.aload_n 0, 1) := by decide +kernel
theorem dX4_init_18 : decode cX4_init 18 = .ok (.bipush 24, 2) := by decide +kernel
theorem dX4_init_20 : decode cX4_init 20 = .ok (.newarray .int, 2) := by decide +kernel
theorem dX4_init_22 : decode cX4_init 22 = .ok (.putfield 19, 3) := by decide +kernel
theorem dX4_init_25 : decode cX4_init 25 = .ok (.aload_n 0, 1) := by decide +kernel
theorem dX4_init_26 : decode cX4_init 26 = .ok (.bipush 24, 2) := by decide +kernel
theorem dX4_init_28 : decode cX4_init 28 = .ok (.newarray .int, 2) := by decide +kernel
theorem dX4_init_30 : decode cX4_init 30 = .ok (.putfield 22, 3) := by decide +kernel
theorem dX4_init_33 : decode cX4_init 33 = .ok (.return_, 1) := by decide +kernel
theorem dX4_append_0 : decode cX4_append 0 = .ok (.aload_n 0, 1) := by decide +kernel
theorem dX4_append_1 : decode cX4_append 1 = .ok (.getfield 9, 3) := by decide +kernel
theorem dX4_append_4 : decode cX4_append 4 = .ok (.bipush 24, 2) := by decide +kernel
theorem dX4_append_6 : decode cX4_append 6 = .ok (.if_icmp .ge 43, 3) := by decide +kernel
theorem dX4_append_9 : decode cX4_append 9 = .ok (.aload_n 0, 1) := by decide +kernel
theorem dX4_append_10 : decode cX4_append 10 = .ok (.getfield 15, 3) := by decide +kernel
theorem dX4_append_13 : decode cX4_append 13 = .ok (.aload_n 0, 1) := by decide +kernel
theorem dX4_append_14 : decode cX4_append 14 = .ok (.getfield 9, 3) := by decide +kernel
theorem dX4_append_17 : decode cX4_append 17 = .ok (.iload_n 1, 1) := by decide +kernel
theorem dX4_append_18 : decode cX4_append 18 = .ok (.iastore, 1) := by decide +kernel
theorem dX4_append_19 : decode cX4_append 19 = .ok (.aload_n 0, 1) := by decide +kernel
theorem dX4_append_20 : decode cX4_append 20 = .ok (.getfield 19, 3) := by decide +kernel
theorem dX4_append_23 : decode cX4_append 23 = .ok (.aload_n 0, 1) := by decide +kernel
theorem dX4_append_24 : decode cX4_append 24 = .ok (.getfield 9, 3) := by decide +kernel
theorem dX4_append_27 : decode cX4_append 27 = .ok (.iload_n 2, 1) := by decide +kernel
theorem dX4_append_28 : decode cX4_append 28 = .ok (.iastore, 1) := by decide +kernel
theorem dX4_append_29 : decode cX4_append 29 = .ok (.aload_n 0, 1) := by decide +kernel
theorem dX4_append_30 : decode cX4_append 30 = .ok (.getfield 22, 3) := by decide +kernel
theorem dX4_append_33 : decode cX4_append 33 = .ok (.aload_n 0, 1) := by decide +kernel
theorem dX4_append_34 : decode cX4_append 34 = .ok (.getfield 9, 3) := by decide +kernel
theorem dX4_append_37 : decode cX4_append 37 = .ok (.iload_n 3, 1) := by decide +kernel
theorem dX4_append_38 : decode cX4_append 38 = .ok (.iastore, 1) := by decide +kernel
theorem dX4_append_39 : decode cX4_append 39 = .ok (.aload_n 0, 1) := by decide +kernel
theorem dX4_append_40 : decode cX4_append 40 = .ok (.dup, 1) := by decide +kernel
theorem dX4_append_41 : decode cX4_append 41 = .ok (.getfield 9, 3) := by decide +kernel
theorem dX4_append_44 : decode cX4_append 44 = .ok (.iconst 1, 1) := by decide +kernel
theorem dX4_append_45 : decode cX4_append 45 = .ok (.iadd, 1) := by decide +kernel
theorem dX4_append_46 : decode cX4_append 46 = .ok (.putfield 9, 3) := by decide +kernel
theorem dX4_append_49 : decode cX4_append 49 = .ok (.return_, 1) := by decide +kernel
theorem dX5_init_0 : decode cX5_init 0 = .ok (.aload_n 0, 1) := by decide +kernel
theorem dX5_init_1 : decode cX5_init 1 = .ok (.invokespecial 3, 3) := by decide +kernel
theorem dX5_init_4 : decode cX5_init 4 = .ok (.aload_n 0, 1) := by decide +kernel
theorem dX5_init_5 : decode cX5_init 5 = .ok (.iconst (-1), 1) := by decide +kernel
theorem dX5_init_6 : decode cX5_init 6 = .ok (.putfield 9, 3) := by decide +kernel
theorem dX5_init_9 : decode cX5_init 9 = .ok (.aload_n 0, 1) := by decide +kernel
theorem dX5_init_10 : decode cX5_init 10 = .ok (.bipush 60, 2) := by decide +kernel
theorem dX5_init_12 : decode cX5_init 12 = .ok (.newarray .byte, 2) := by decide +kernel
theorem dX5_init_14 : decode cX5_init 14 = .ok (.putfield 15, 3) := by decide +kernel
theorem dX5_init_17 : decode cX5_init 17 = .ok (.return_, 1) := by decide +kernel
theorem dX5_begin_0 : decode cX5_begin 0 = .ok (.aload_n 0, 1) := by decide +kernel
theorem dX5_begin_1 : decode cX5_begin 1 = .ok (.iload_n 1, 1) := by decide +kernel
theorem dX5_begin_2 : decode cX5_begin 2 = .ok (.putfield 9, 3) := by decide +kernel
theorem dX5_begin_5 : decode cX5_begin 5 = .ok (.iconst 0, 1) := by decide +kernel
theorem dX5_begin_6 : decode cX5_begin 6 = .ok (.istore_n 2, 1) := by decide +kernel
theorem dX5_begin_7 : decode cX5_begin 7 = .ok (.iload_n 2, 1) := by decide +kernel
theorem dX5_begin_8 : decode cX5_begin 8 = .ok (.bipush 60, 2) := by decide +kernel
theorem dX5_begin_10 : decode cX5_begin 10 = .ok (.if_icmp .ge 17, 3) := by decide +kernel
theorem dX5_begin_13 : decode cX5_begin 13 = .ok (.aload_n 0, 1) := by decide +kernel
theorem dX5_begin_14 : decode cX5_begin 14 = .ok (.getfield 15, 3) := by decide +kernel
theorem dX5_begin_17 : decode cX5_begin 17 = .ok (.iload_n 2, 1) := by decide +kernel
theorem dX5_begin_18 : decode cX5_begin 18 = .ok (.bipush 32, 2) := by decide +kernel
theorem dX5_begin_20 : decode cX5_begin 20 = .ok (.bastore, 1) := by decide +kernel
theorem dX5_begin_21 : decode cX5_begin 21 = .ok (.iinc 2 1, 3) := by decide +kernel
theorem dX5_begin_24 : decode cX5_begin 24 = .ok (.goto (-17), 3) := by decide +kernel
theorem dX5_begin_27 : decode cX5_begin 27 = .ok (.return_, 1) := by decide +kernel
theorem dX5_print_0 : decode cX5_print 0 = .ok (.aload_n 0, 1) := by decide +kernel
theorem dX5_print_1 : decode cX5_print 1 = .ok (.iconst 0, 1) := by decide +kernel
theorem dX5_print_2 : decode cX5_print 2 = .ok (.putfield 9, 3) := by decide +kernel
theorem dX5_print_5 : decode cX5_print 5 = .ok (.iconst 0, 1) := by decide +kernel
theorem dX5_print_6 : decode cX5_print 6 = .ok (.istore_n 2, 1) := by decide +kernel
theorem dX5_print_7 : decode cX5_print 7 = .ok (.iload_n 2, 1) := by decide +kernel
theorem dX5_print_8 : decode cX5_print 8 = .ok (.aload_n 1, 1) := by decide +kernel
theorem dX5_print_9 : decode cX5_print 9 = .ok (.getfield 19, 3) := by decide +kernel
theorem dX5_print_12 : decode cX5_print 12 = .ok (.if_icmp .ge 34, 3) := by decide +kernel
theorem dX5_print_15 : decode cX5_print 15 = .ok (.aload_n 1, 1) := by decide +kernel
theorem dX5_print_16 : decode cX5_print 16 = .ok (.getfield 24, 3) := by decide +kernel
theorem dX5_print_19 : decode cX5_print 19 = .ok (.iload_n 2, 1) := by decide +kernel
theorem dX5_print_20 : decode cX5_print 20 = .ok (.iaload, 1) := by decide +kernel
theorem dX5_print_21 : decode cX5_print 21 = .ok (.iconst 1, 1) := by decide +kernel
theorem dX5_print_22 : decode cX5_print 22 = .ok (.if_icmp .le 12, 3) := by decide +kernel
theorem dX5_print_25 : decode cX5_print 25 = .ok (.aload_n 0, 1) := by decide +kernel
theorem dX5_print_26 : decode cX5_print 26 = .ok (.bipush 41, 2) := by decide +kernel
theorem dX5_print_28 : decode cX5_print 28 = .ok (.invokevirtual 28, 3) := by decide +kernel
theorem dX5_print_31 : decode cX5_print 31 = .ok (.goto 9, 3) := by decide +kernel
theorem dX5_print_34 : decode cX5_print 34 = .ok (.aload_n 0, 1) := by decide +kernel
theorem dX5_print_35 : decode cX5_print 35 = .ok (.iload_n 2, 1) := by decide +kernel
theorem dX5_print_36 : decode cX5_print 36 = .ok (.aload_n 1, 1) := by decide +kernel
theorem dX5_print_37 : decode cX5_print 37 = .ok (.invokevirtual 32, 3) := by decide +kernel
theorem dX5_print_40 : decode cX5_print 40 = .ok (.iinc 2 1, 3) := by decide +kernel
theorem dX5_print_43 : decode cX5_print 43 = .ok (.goto (-36), 3) := by decide +kernel
theorem dX5_print_46 : decode cX5_print 46 = .ok (.aload_n 0, 1) := by decide +kernel
theorem dX5_print_47 : decode cX5_print 47 = .ok (.getfield 9, 3) := by decide +kernel
theorem dX5_print_50 : decode cX5_print 50 = .ok (.ireturn, 1) := by decide +kernel
theorem dX5_printDownTo_0 : decode cX5_printDownTo 0 = .ok (.aload_n 2, 1) := by decide +kernel
theorem dX5_printDownTo_1 : decode cX5_printDownTo 1 = .ok (.getfield 19, 3) := by decide +kernel
theorem dX5_printDownTo_4 : decode cX5_printDownTo 4 = .ok (.iconst 1, 1) := by decide +kernel
theorem dX5_printDownTo_5 : decode cX5_printDownTo 5 = .ok (.isub, 1) := by decide +kernel
theorem dX5_printDownTo_6 : decode cX5_printDownTo 6 = .ok (.istore_n 3, 1) := by decide +kernel
theorem dX5_printDownTo_7 : decode cX5_printDownTo 7 = .ok (.iload_n 3, 1) := by decide +kernel
theorem dX5_printDownTo_8 : decode cX5_printDownTo 8 = .ok (.iload_n 1, 1) := by decide +kernel
theorem dX5_printDownTo_9 : decode cX5_printDownTo 9 = .ok (.if_icmp .lt 39, 3) := by decide +kernel
theorem dX5_printDownTo_12 : decode cX5_printDownTo 12 = .ok (.aload_n 2, 1) := by decide +kernel
theorem dX5_printDownTo_13 : decode cX5_printDownTo 13 = .ok (.iload_n 3, 1) := by decide +kernel
theorem dX5_printDownTo_14 : decode cX5_printDownTo 14 = .ok (.invokevirtual 36, 3) := by decide +kernel
theorem dX5_printDownTo_17 : decode cX5_printDownTo 17 = .ok (.iload_n 1, 1) := by decide +kernel
theorem dX5_printDownTo_18 : decode cX5_printDownTo 18 = .ok (.if_icmp .ne 24, 3) := by decide +kernel
theorem dX5_printDownTo_21 : decode cX5_printDownTo 21 = .ok (.aload_n 0, 1) := by decide +kernel
theorem dX5_printDownTo_22 : decode cX5_printDownTo 22 = .ok (.aload_n 2, 1) := by decide +kernel
theorem dX5_printDownTo_23 : decode cX5_printDownTo 23 = .ok (.getfield 40, 3) := by decide +kernel
theorem dX5_printDownTo_26 : decode cX5_printDownTo 26 = .ok (.iload_n 3, 1) := by decide +kernel
theorem dX5_printDownTo_27 : decode cX5_printDownTo 27 = .ok (.iaload, 1) := by decide +kernel
theorem dX5_printDownTo_28 : decode cX5_printDownTo 28 = .ok (.invokevirtual 28, 3) := by decide +kernel
theorem dX5_printDownTo_31 : decode cX5_printDownTo 31 = .ok (.iload_n 3, 1) := by decide +kernel
theorem dX5_printDownTo_32 : decode cX5_printDownTo 32 = .ok (.iload_n 1, 1) := by decide +kernel
