theorem dX5_printDownTo_33 : decode cX5_printDownTo 33 = .ok (.if_icmp .le 9, 3) := by decide +kernel
theorem dX5_printDownTo_36 : decode cX5_printDownTo 36 = .ok (.aload_n 0, 1) := by decide +kernel
theorem dX5_printDownTo_37 : decode cX5_printDownTo 37 = .ok (.bipush 40, 2) := by decide +kernel
theorem dX5_printDownTo_39 : decode cX5_printDownTo 39 = .ok (.invokevirtual 28, 3) := by decide +kernel
theorem dX5_printDownTo_42 : decode cX5_printDownTo 42 = .ok (.iinc 3 (-1), 3) := by decide +kernel
theorem dX5_printDownTo_45 : decode cX5_printDownTo 45 = .ok (.goto (-38), 3) := by decide +kernel
theorem dX5_printDownTo_48 : decode cX5_printDownTo 48 = .ok (.return_, 1) := by decide +kernel
theorem dX5_append_0 : decode cX5_append 0 = .ok (.aload_n 0, 1) := by decide +kernel
theorem dX5_append_1 : decode cX5_append 1 = .ok (.getfield 9, 3) := by decide +kernel
theorem dX5_append_4 : decode cX5_append 4 = .ok (.ifCond .lt 33, 3) := by decide +kernel
theorem dX5_append_7 : decode cX5_append 7 = .ok (.aload_n 0, 1) := by decide +kernel
theorem dX5_append_8 : decode cX5_append 8 = .ok (.getfield 9, 3) := by decide +kernel
theorem dX5_append_11 : decode cX5_append 11 = .ok (.bipush 60, 2) := by decide +kernel
theorem dX5_append_13 : decode cX5_append 13 = .ok (.if_icmp .ge 24, 3) := by decide +kernel
theorem dX5_append_16 : decode cX5_append 16 = .ok (.aload_n 0, 1) := by decide +kernel
theorem dX5_append_17 : decode cX5_append 17 = .ok (.getfield 15, 3) := by decide +kernel
theorem dX5_append_20 : decode cX5_append 20 = .ok (.aload_n 0, 1) := by decide +kernel
theorem dX5_append_21 : decode cX5_append 21 = .ok (.getfield 9, 3) := by decide +kernel
theorem dX5_append_24 : decode cX5_append 24 = .ok (.iload_n 1, 1) := by decide +kernel
theorem dX5_append_25 : decode cX5_append 25 = .ok (.i2b, 1) := by decide +kernel
theorem dX5_append_26 : decode cX5_append 26 = .ok (.bastore, 1) := by decide +kernel
theorem dX5_append_27 : decode cX5_append 27 = .ok (.aload_n 0, 1) := by decide +kernel
theorem dX5_append_28 : decode cX5_append 28 = .ok (.dup, 1) := by decide +kernel
theorem dX5_append_29 : decode cX5_append 29 = .ok (.getfield 9, 3) := by decide +kernel
theorem dX5_append_32 : decode cX5_append 32 = .ok (.iconst 1, 1) := by decide +kernel
theorem dX5_append_33 : decode cX5_append 33 = .ok (.iadd, 1) := by decide +kernel
theorem dX5_append_34 : decode cX5_append 34 = .ok (.putfield 9, 3) := by decide +kernel
theorem dX5_append_37 : decode cX5_append 37 = .ok (.return_, 1) := by decide +kernel
theorem dX5_digestAfter_0 : decode cX5_digestAfter 0 = .ok (.ldc2_w 43, 3) := by decide +kernel
theorem dX5_digestAfter_3 : decode cX5_digestAfter 3 = .ok (.lload_n 1, 1) := by decide +kernel
theorem dX5_digestAfter_4 : decode cX5_digestAfter 4 = .ok (.lmul, 1) := by decide +kernel
theorem dX5_digestAfter_5 : decode cX5_digestAfter 5 = .ok (.aload_n 0, 1) := by decide +kernel
theorem dX5_digestAfter_6 : decode cX5_digestAfter 6 = .ok (.getfield 9, 3) := by decide +kernel
theorem dX5_digestAfter_9 : decode cX5_digestAfter 9 = .ok (.i2l, 1) := by decide +kernel
theorem dX5_digestAfter_10 : decode cX5_digestAfter 10 = .ok (.ladd, 1) := by decide +kernel
theorem dX5_digestAfter_11 : decode cX5_digestAfter 11 = .ok (.lstore_n 3, 1) := by decide +kernel
theorem dX5_digestAfter_12 : decode cX5_digestAfter 12 = .ok (.iconst 0, 1) := by decide +kernel
theorem dX5_digestAfter_13 : decode cX5_digestAfter 13 = .ok (.istore 5, 2) := by decide +kernel
theorem dX5_digestAfter_15 : decode cX5_digestAfter 15 = .ok (.iload 5, 2) := by decide +kernel
theorem dX5_digestAfter_17 : decode cX5_digestAfter 17 = .ok (.aload_n 0, 1) := by decide +kernel
theorem dX5_digestAfter_18 : decode cX5_digestAfter 18 = .ok (.getfield 9, 3) := by decide +kernel
theorem dX5_digestAfter_21 : decode cX5_digestAfter 21 = .ok (.if_icmp .ge 24, 3) := by decide +kernel
theorem dX5_digestAfter_24 : decode cX5_digestAfter 24 = .ok (.ldc2_w 43, 3) := by decide +kernel
theorem dX5_digestAfter_27 : decode cX5_digestAfter 27 = .ok (.lload_n 3, 1) := by decide +kernel
theorem dX5_digestAfter_28 : decode cX5_digestAfter 28 = .ok (.lmul, 1) := by decide +kernel
theorem dX5_digestAfter_29 : decode cX5_digestAfter 29 = .ok (.aload_n 0, 1) := by decide +kernel
theorem dX5_digestAfter_30 : decode cX5_digestAfter 30 = .ok (.getfield 15, 3) := by decide +kernel
theorem dX5_digestAfter_33 : decode cX5_digestAfter 33 = .ok (.iload 5, 2) := by decide +kernel
theorem dX5_digestAfter_35 : decode cX5_digestAfter 35 = .ok (.baload, 1) := by decide +kernel
theorem dX5_digestAfter_36 : decode cX5_digestAfter 36 = .ok (.i2l, 1) := by decide +kernel
theorem dX5_digestAfter_37 : decode cX5_digestAfter 37 = .ok (.ladd, 1) := by decide +kernel
theorem dX5_digestAfter_38 : decode cX5_digestAfter 38 = .ok (.lstore_n 3, 1) := by decide +kernel
theorem dX5_digestAfter_39 : decode cX5_digestAfter 39 = .ok (.iinc 5 1, 3) := by decide +kernel
theorem dX5_digestAfter_42 : decode cX5_digestAfter 42 = .ok (.goto (-27), 3) := by decide +kernel
theorem dX5_digestAfter_45 : decode cX5_digestAfter 45 = .ok (.lload_n 3, 1) := by decide +kernel
theorem dX5_digestAfter_46 : decode cX5_digestAfter 46 = .ok (.lreturn, 1) := by decide +kernel
theorem dX6_init_0 : decode cX6_init 0 = .ok (.aload_n 0, 1) := by decide +kernel
theorem dX6_init_1 : decode cX6_init 1 = .ok (.invokespecial 3, 3) := by decide +kernel
theorem dX6_init_4 : decode cX6_init 4 = .ok (.aload_n 0, 1) := by decide +kernel
theorem dX6_init_5 : decode cX6_init 5 = .ok (.iconst 0, 1) := by decide +kernel
theorem dX6_init_6 : decode cX6_init 6 = .ok (.putfield 9, 3) := by decide +kernel
theorem dX6_init_9 : decode cX6_init 9 = .ok (.aload_n 0, 1) := by decide +kernel
theorem dX6_init_10 : decode cX6_init 10 = .ok (.bipush 12, 2) := by decide +kernel
theorem dX6_init_12 : decode cX6_init 12 = .ok (.newarray .int, 2) := by decide +kernel
theorem dX6_init_14 : decode cX6_init 14 = .ok (.putfield 15, 3) := by decide +kernel
theorem dX6_init_17 : decode cX6_init 17 = .ok (.aload_n 0, 1) := by decide +kernel
theorem dX6_init_18 : decode cX6_init 18 = .ok (.bipush 12, 2) := by decide +kernel
theorem dX6_init_20 : decode cX6_init 20 = .ok (.newarray .int, 2) := by decide +kernel
theorem dX6_init_22 : decode cX6_init 22 = .ok (.putfield 19, 3) := by decide +kernel
theorem dX6_init_25 : decode cX6_init 25 = .ok (.return_, 1) := by decide +kernel
theorem dX6_has_0 : decode cX6_has 0 = .ok (.iload_n 1, 1) := by decide +kernel
theorem dX6_has_1 : decode cX6_has 1 = .ok (.ifCond .lt 15, 3) := by decide +kernel
theorem dX6_has_4 : decode cX6_has 4 = .ok (.iload_n 1, 1) := by decide +kernel
theorem dX6_has_5 : decode cX6_has 5 = .ok (.aload_n 0, 1) := by decide +kernel
theorem dX6_has_6 : decode cX6_has 6 = .ok (.getfield 9, 3) := by decide +kernel
theorem dX6_has_9 : decode cX6_has 9 = .ok (.if_icmp .ge 7, 3) := by decide +kernel
theorem dX6_has_12 : decode cX6_has 12 = .ok (.iconst 1, 1) := by decide +kernel
theorem dX6_has_13 : decode cX6_has 13 = .ok (.goto 4, 3) := by decide +kernel
theorem dX6_has_16 : decode cX6_has 16 = .ok (.iconst 0, 1) := by decide +kernel
theorem dX6_has_17 : decode cX6_has 17 = .ok (.ireturn, 1) := by decide +kernel
theorem dX6_leftmost_0 : decode cX6_leftmost 0 = .ok (.iload_n 1, 1) := by decide +kernel
theorem dX6_leftmost_1 : decode cX6_leftmost 1 = .ok (.aload_n 0, 1) := by decide +kernel
theorem dX6_leftmost_2 : decode cX6_leftmost 2 = .ok (.getfield 19, 3) := by decide +kernel
theorem dX6_leftmost_5 : decode cX6_leftmost 5 = .ok (.iload_n 1, 1) := by decide +kernel
theorem dX6_leftmost_6 : decode cX6_leftmost 6 = .ok (.iaload, 1) := by decide +kernel
theorem dX6_leftmost_7 : decode cX6_leftmost 7 = .ok (.isub, 1) := by decide +kernel
theorem dX6_leftmost_8 : decode cX6_leftmost 8 = .ok (.iconst 1, 1) := by decide +kernel
theorem dX6_leftmost_9 : decode cX6_leftmost 9 = .ok (.iadd, 1) := by decide +kernel
theorem dX6_leftmost_10 : decode cX6_leftmost 10 = .ok (.ireturn, 1) := by decide +kernel
theorem dX6_parent_0 : decode cX6_parent 0 = .ok (.iload_n 1, 1) := by decide +kernel
theorem dX6_parent_1 : decode cX6_parent 1 = .ok (.iconst 1, 1) := by decide +kernel
theorem dX6_parent_2 : decode cX6_parent 2 = .ok (.iadd, 1) := by decide +kernel
theorem dX6_parent_3 : decode cX6_parent 3 = .ok (.istore_n 2, 1) := by decide +kernel
theorem dX6_parent_4 : decode cX6_parent 4 = .ok (.iload_n 2, 1) := by decide +kernel
theorem dX6_parent_5 : decode cX6_parent 5 = .ok (.aload_n 0, 1) := by decide +kernel
theorem dX6_parent_6 : decode cX6_parent 6 = .ok (.getfield 9, 3) := by decide +kernel
theorem dX6_parent_9 : decode cX6_parent 9 = .ok (.if_icmp .ge 20, 3) := by decide +kernel
theorem dX6_parent_12 : decode cX6_parent 12 = .ok (.aload_n 0, 1) := by decide +kernel
theorem dX6_parent_13 : decode cX6_parent 13 = .ok (.iload_n 2, 1) := by decide +kernel
theorem dX6_parent_14 : decode cX6_parent 14 = .ok (.invokevirtual 22, 3) := by decide +kernel
theorem dX6_parent_17 : decode cX6_parent 17 = .ok (.iload_n 1, 1) := by decide +kernel
theorem dX6_parent_18 : decode cX6_parent 18 = .ok (.if_icmp .gt 5, 3) := by decide +kernel
theorem dX6_parent_21 : decode cX6_parent 21 = .ok (.iload_n 2, 1) := by decide +kernel
theorem dX6_parent_22 : decode cX6_parent 22 = .ok (.ireturn, 1) := by decide +kernel
theorem dX6_parent_23 : decode cX6_parent 23 = .ok (.iinc 2 1, 3) := by decide +kernel
theorem dX6_parent_26 : decode cX6_parent 26 = .ok (.goto (-22), 3) := by decide +kernel
theorem dX6_parent_29 : decode cX6_parent 29 = .ok (.bipush (-9), 2) := by decide +kernel
theorem dX6_parent_31 : decode cX6_parent 31 = .ok (.ireturn, 1) := by decide +kernel
theorem dX6_children_0 : decode cX6_children 0 = .ok (.iconst 0, 1) := by decide +kernel
theorem dX6_children_1 : decode cX6_children 1 = .ok (.istore_n 2, 1) := by decide +kernel
theorem dX6_children_2 : decode cX6_children 2 = .ok (.aload_n 0, 1) := by decide +kernel
theorem dX6_children_3 : decode cX6_children 3 = .ok (.iload_n 1, 1) := by decide +kernel
theorem dX6_children_4 : decode cX6_children 4 = .ok (.invokevirtual 22, 3) := by decide +kernel
theorem dX6_children_7 : decode cX6_children 7 = .ok (.istore_n 3, 1) := by decide +kernel
theorem dX6_children_8 : decode cX6_children 8 = .ok (.iload_n 3, 1) := by decide +kernel
theorem dX6_children_9 : decode cX6_children 9 = .ok (.iload_n 1, 1) := by decide +kernel
theorem dX6_children_10 : decode cX6_children 10 = .ok (.if_icmp .ge 21, 3) := by decide +kernel
theorem dX6_children_13 : decode cX6_children 13 = .ok (.aload_n 0, 1) := by decide +kernel
theorem dX6_children_14 : decode cX6_children 14 = .ok (.iload_n 3, 1) := by decide +kernel
theorem dX6_children_15 : decode cX6_children 15 = .ok (.invokevirtual 26, 3) := by decide +kernel
theorem dX6_children_18 : decode cX6_children 18 = .ok (.iload_n 1, 1) := by decide +kernel
theorem dX6_children_19 : decode cX6_children 19 = .ok (.if_icmp .ne 6, 3) := by decide +kernel
theorem dX6_children_22 : decode cX6_children 22 = .ok (.iinc 2 1, 3) := by decide +kernel
theorem dX6_children_25 : decode cX6_children 25 = .ok (.iinc 3 1, 3) := by decide +kernel
theorem dX6_children_28 : decode cX6_children 28 = .ok (.goto (-20), 3) := by decide +kernel
theorem dX6_children_31 : decode cX6_children 31 = .ok (.iload_n 2, 1) := by decide +kernel
theorem dX6_children_32 : decode cX6_children 32 = .ok (.ireturn, 1) := by decide +kernel
theorem dX6_ancestors_0 : decode cX6_ancestors 0 = .ok (.iconst 0, 1) := by decide +kernel
theorem dX6_ancestors_1 : decode cX6_ancestors 1 = .ok (.istore_n 2, 1) := by decide +kernel
theorem dX6_ancestors_2 : decode cX6_ancestors 2 = .ok (.iload_n 1, 1) := by decide +kernel
theorem dX6_ancestors_3 : decode cX6_ancestors 3 = .ok (.iconst 1, 1) := by decide +kernel
theorem dX6_ancestors_4 : decode cX6_ancestors 4 = .ok (.iadd, 1) := by decide +kernel
theorem dX6_ancestors_5 : decode cX6_ancestors 5 = .ok (.istore_n 3, 1) := by decide +kernel
theorem dX6_ancestors_6 : decode cX6_ancestors 6 = .ok (.iload_n 3, 1) := by decide +kernel
theorem dX6_ancestors_7 : decode cX6_ancestors 7 = .ok (.aload_n 0, 1) := by decide +kernel
theorem dX6_ancestors_8 : decode cX6_ancestors 8 = .ok (.getfield 9, 3) := by decide +kernel
theorem dX6_ancestors_11 : decode cX6_ancestors 11 = .ok (.if_icmp .ge 21, 3) := by decide +kernel
theorem dX6_ancestors_14 : decode cX6_ancestors 14 = .ok (.aload_n 0, 1) := by decide +kernel
theorem dX6_ancestors_15 : decode cX6_ancestors 15 = .ok (.iload_n 3, 1) := by decide +kernel
theorem dX6_ancestors_16 : decode cX6_ancestors 16 = .ok (.invokevirtual 22, 3) := by decide +kernel
theorem dX6_ancestors_19 : decode cX6_ancestors 19 = .ok (.iload_n 1, 1) := by decide +kernel
theorem dX6_ancestors_20 : decode cX6_ancestors 20 = .ok (.if_icmp .gt 6, 3) := by decide +kernel
theorem dX6_ancestors_23 : decode cX6_ancestors 23 = .ok (.iinc 2 1, 3) := by decide +kernel
theorem dX6_ancestors_26 : decode cX6_ancestors 26 = .ok (.iinc 3 1, 3) := by decide +kernel
theorem dX6_ancestors_29 : decode cX6_ancestors 29 = .ok (.goto (-23), 3) := by decide +kernel
theorem dX6_ancestors_32 : decode cX6_ancestors 32 = .ok (.iload_n 2, 1) := by decide +kernel
theorem dX6_ancestors_33 : decode cX6_ancestors 33 = .ok (.ireturn, 1) := by decide +kernel
theorem dX6_headsBelow_0 : decode cX6_headsBelow 0 = .ok (.iconst 0, 1) := by decide +kernel
theorem dX6_headsBelow_1 : decode cX6_headsBelow 1 = .ok (.istore_n 2, 1) := by decide +kernel
theorem dX6_headsBelow_2 : decode cX6_headsBelow 2 = .ok (.aload_n 0, 1) := by decide +kernel
theorem dX6_headsBelow_3 : decode cX6_headsBelow 3 = .ok (.iload_n 1, 1) := by decide +kernel
theorem dX6_headsBelow_4 : decode cX6_headsBelow 4 = .ok (.invokevirtual 22, 3) := by decide +kernel
theorem dX6_headsBelow_7 : decode cX6_headsBelow 7 = .ok (.istore_n 3, 1) := by decide +kernel
theorem dX6_headsBelow_8 : decode cX6_headsBelow 8 = .ok (.iload_n 3, 1) := by decide +kernel
theorem dX6_headsBelow_9 : decode cX6_headsBelow 9 = .ok (.iload_n 1, 1) := by decide +kernel
theorem dX6_headsBelow_10 : decode cX6_headsBelow 10 = .ok (.if_icmp .ge 28, 3) := by decide +kernel
theorem dX6_headsBelow_13 : decode cX6_headsBelow 13 = .ok (.aload_n 0, 1) := by decide +kernel
theorem dX6_headsBelow_14 : decode cX6_headsBelow 14 = .ok (.getfield 15, 3) := by decide +kernel
theorem dX6_headsBelow_17 : decode cX6_headsBelow 17 = .ok (.iload_n 3, 1) := by decide +kernel
theorem dX6_headsBelow_18 : decode cX6_headsBelow 18 = .ok (.iaload, 1) := by decide +kernel
theorem dX6_headsBelow_19 : decode cX6_headsBelow 19 = .ok (.invokestatic 29, 3) := by decide +kernel
theorem dX6_headsBelow_22 : decode cX6_headsBelow 22 = .ok (.iconst 1, 1) := by decide +kernel
theorem dX6_headsBelow_23 : decode cX6_headsBelow 23 = .ok (.invokestatic 32, 3) := by decide +kernel
theorem dX6_headsBelow_26 : decode cX6_headsBelow 26 = .ok (.ifCond .eq 6, 3) := by decide +kernel
theorem dX6_headsBelow_29 : decode cX6_headsBelow 29 = .ok (.iinc 2 1, 3) := by decide +kernel
theorem dX6_headsBelow_32 : decode cX6_headsBelow 32 = .ok (.iinc 3 1, 3) := by decide +kernel
theorem dX6_headsBelow_35 : decode cX6_headsBelow 35 = .ok (.goto (-27), 3) := by decide +kernel
theorem dX6_headsBelow_38 : decode cX6_headsBelow 38 = .ok (.iload_n 2, 1) := by decide +kernel
theorem dX6_headsBelow_39 : decode cX6_headsBelow 39 = .ok (.ireturn, 1) := by decide +kernel
theorem dX6_nodesWith_0 : decode cX6_nodesWith 0 = .ok (.iconst 0, 1) := by decide +kernel
theorem dX6_nodesWith_1 : decode cX6_nodesWith 1 = .ok (.istore_n 2, 1) := by decide +kernel
theorem dX6_nodesWith_2 : decode cX6_nodesWith 2 = .ok (.iconst 0, 1) := by decide +kernel
theorem dX6_nodesWith_3 : decode cX6_nodesWith 3 = .ok (.istore_n 3, 1) := by decide +kernel
theorem dX6_nodesWith_4 : decode cX6_nodesWith 4 = .ok (.iload_n 3, 1) := by decide +kernel
theorem dX6_nodesWith_5 : decode cX6_nodesWith 5 = .ok (.aload_n 0, 1) := by decide +kernel
theorem dX6_nodesWith_6 : decode cX6_nodesWith 6 = .ok (.getfield 9, 3) := by decide +kernel
theorem dX6_nodesWith_9 : decode cX6_nodesWith 9 = .ok (.if_icmp .ge 22, 3) := by decide +kernel
theorem dX6_nodesWith_12 : decode cX6_nodesWith 12 = .ok (.aload_n 0, 1) := by decide +kernel
theorem dX6_nodesWith_13 : decode cX6_nodesWith 13 = .ok (.getfield 15, 3) := by decide +kernel
theorem dX6_nodesWith_16 : decode cX6_nodesWith 16 = .ok (.iload_n 3, 1) := by decide +kernel
theorem dX6_nodesWith_17 : decode cX6_nodesWith 17 = .ok (.iaload, 1) := by decide +kernel
theorem dX6_nodesWith_18 : decode cX6_nodesWith 18 = .ok (.iload_n 1, 1) := by decide +kernel
theorem dX6_nodesWith_19 : decode cX6_nodesWith 19 = .ok (.if_icmp .ne 6, 3) := by decide +kernel
theorem dX6_nodesWith_22 : decode cX6_nodesWith 22 = .ok (.iinc 2 1, 3) := by decide +kernel
theorem dX6_nodesWith_25 : decode cX6_nodesWith 25 = .ok (.iinc 3 1, 3) := by decide +kernel
theorem dX6_nodesWith_28 : decode cX6_nodesWith 28 = .ok (.goto (-24), 3) := by decide +kernel
theorem dX6_nodesWith_31 : decode cX6_nodesWith 31 = .ok (.iload_n 2, 1) := by decide +kernel
theorem dX6_nodesWith_32 : decode cX6_nodesWith 32 = .ok (.ireturn, 1) := by decide +kernel
theorem dX6_isKey_0 : decode cX6_isKey 0 = .ok (.aload_n 0, 1) := by decide +kernel
theorem dX6_isKey_1 : decode cX6_isKey 1 = .ok (.iload_n 1, 1) := by decide +kernel
theorem dX6_isKey_2 : decode cX6_isKey 2 = .ok (.invokevirtual 26, 3) := by decide +kernel
theorem dX6_isKey_5 : decode cX6_isKey 5 = .ok (.istore_n 3, 1) := by decide +kernel
theorem dX6_isKey_6 : decode cX6_isKey 6 = .ok (.iload_n 3, 1) := by decide +kernel
theorem dX6_isKey_7 : decode cX6_isKey 7 = .ok (.bipush (-9), 2) := by decide +kernel
theorem dX6_isKey_9 : decode cX6_isKey 9 = .ok (.if_icmp .ne 5, 3) := by decide +kernel
theorem dX6_isKey_12 : decode cX6_isKey 12 = .ok (.iconst 1, 1) := by decide +kernel
theorem dX6_isKey_13 : decode cX6_isKey 13 = .ok (.ireturn, 1) := by decide +kernel
theorem dX6_isKey_14 : decode cX6_isKey 14 = .ok (.iload_n 2, 1) := by decide +kernel
theorem dX6_isKey_15 : decode cX6_isKey 15 = .ok (.ifCond .ne 24, 3) := by decide +kernel
theorem dX6_isKey_18 : decode cX6_isKey 18 = .ok (.aload_n 0, 1) := by decide +kernel
theorem dX6_isKey_19 : decode cX6_isKey 19 = .ok (.iload_n 3, 1) := by decide +kernel
theorem dX6_isKey_20 : decode cX6_isKey 20 = .ok (.invokevirtual 22, 3) := by decide +kernel
theorem dX6_isKey_23 : decode cX6_isKey 23 = .ok (.aload_n 0, 1) := by decide +kernel
theorem dX6_isKey_24 : decode cX6_isKey 24 = .ok (.iload_n 1, 1) := by decide +kernel
theorem dX6_isKey_25 : decode cX6_isKey 25 = .ok (.invokevirtual 22, 3) := by decide +kernel
theorem dX6_isKey_28 : decode cX6_isKey 28 = .ok (.if_icmp .eq 7, 3) := by decide +kernel
theorem dX6_isKey_31 : decode cX6_isKey 31 = .ok (.iconst 1, 1) := by decide +kernel
theorem dX6_isKey_32 : decode cX6_isKey 32 = .ok (.goto 19, 3) := by decide +kernel
theorem dX6_isKey_35 : decode cX6_isKey 35 = .ok (.iconst 0, 1) := by decide +kernel
theorem dX6_isKey_36 : decode cX6_isKey 36 = .ok (.goto 15, 3) := by decide +kernel
theorem dX6_isKey_39 : decode cX6_isKey 39 = .ok (.iload_n 3, 1) := by decide +kernel
theorem dX6_isKey_40 : decode cX6_isKey 40 = .ok (.iload_n 1, 1) := by decide +kernel
theorem dX6_isKey_41 : decode cX6_isKey 41 = .ok (.iconst 1, 1) := by decide +kernel
theorem dX6_isKey_42 : decode cX6_isKey 42 = .ok (.iadd, 1) := by decide +kernel
theorem dX6_isKey_43 : decode cX6_isKey 43 = .ok (.if_icmp .eq 7, 3) := by decide +kernel
theorem dX6_isKey_46 : decode cX6_isKey 46 = .ok (.iconst 1, 1) := by decide +kernel
theorem dX6_isKey_47 : decode cX6_isKey 47 = .ok (.goto 4, 3) := by decide +kernel
theorem dX6_isKey_50 : decode cX6_isKey 50 = .ok (.iconst 0, 1) := by decide +kernel
theorem dX6_isKey_51 : decode cX6_isKey 51 = .ok (.ireturn, 1) := by decide +kernel
theorem dX6_keys_0 : decode cX6_keys 0 = .ok (.iconst 0, 1) := by decide +kernel
theorem dX6_keys_1 : decode cX6_keys 1 = .ok (.istore_n 2, 1) := by decide +kernel
theorem dX6_keys_2 : decode cX6_keys 2 = .ok (.iconst 0, 1) := by decide +kernel
theorem dX6_keys_3 : decode cX6_keys 3 = .ok (.istore_n 3, 1) := by decide +kernel
theorem dX6_keys_4 : decode cX6_keys 4 = .ok (.iload_n 3, 1) := by decide +kernel
theorem dX6_keys_5 : decode cX6_keys 5 = .ok (.aload_n 0, 1) := by decide +kernel
theorem dX6_keys_6 : decode cX6_keys 6 = .ok (.getfield 9, 3) := by decide +kernel
theorem dX6_keys_9 : decode cX6_keys 9 = .ok (.if_icmp .ge 21, 3) := by decide +kernel
theorem dX6_keys_12 : decode cX6_keys 12 = .ok (.aload_n 0, 1) := by decide +kernel
theorem dX6_keys_13 : decode cX6_keys 13 = .ok (.iload_n 3, 1) := by decide +kernel
theorem dX6_keys_14 : decode cX6_keys 14 = .ok (.iload_n 1, 1) := by decide +kernel
theorem dX6_keys_15 : decode cX6_keys 15 = .ok (.invokevirtual 36, 3) := by decide +kernel
theorem dX6_keys_18 : decode cX6_keys 18 = .ok (.ifCond .eq 6, 3) := by decide +kernel
theorem dX6_keys_21 : decode cX6_keys 21 = .ok (.iinc 2 1, 3) := by decide +kernel
theorem dX6_keys_24 : decode cX6_keys 24 = .ok (.iinc 3 1, 3) := by decide +kernel
theorem dX6_keys_27 : decode cX6_keys 27 = .ok (.goto (-23), 3) := by decide +kernel
theorem dX6_keys_30 : decode cX6_keys 30 = .ok (.iload_n 2, 1) := by decide +kernel
theorem dX6_keys_31 : decode cX6_keys 31 = .ok (.ireturn, 1) := by decide +kernel
theorem dX6_keySizes_0 : decode cX6_keySizes 0 = .ok (.iconst 0, 1) := by decide +kernel
theorem dX6_keySizes_1 : decode cX6_keySizes 1 = .ok (.istore_n 2, 1) := by decide +kernel
theorem dX6_keySizes_2 : decode cX6_keySizes 2 = .ok (.iconst 0, 1) := by decide +kernel
theorem dX6_keySizes_3 : decode cX6_keySizes 3 = .ok (.istore_n 3, 1) := by decide +kernel
theorem dX6_keySizes_4 : decode cX6_keySizes 4 = .ok (.iload_n 3, 1) := by decide +kernel
theorem dX6_keySizes_5 : decode cX6_keySizes 5 = .ok (.aload_n 0, 1) := by decide +kernel
theorem dX6_keySizes_6 : decode cX6_keySizes 6 = .ok (.getfield 9, 3) := by decide +kernel
theorem dX6_keySizes_9 : decode cX6_keySizes 9 = .ok (.if_icmp .ge 27, 3) := by decide +kernel
theorem dX6_keySizes_12 : decode cX6_keySizes 12 = .ok (.aload_n 0, 1) := by decide +kernel
theorem dX6_keySizes_13 : decode cX6_keySizes 13 = .ok (.iload_n 3, 1) := by decide +kernel
theorem dX6_keySizes_14 : decode cX6_keySizes 14 = .ok (.iload_n 1, 1) := by decide +kernel
theorem dX6_keySizes_15 : decode cX6_keySizes 15 = .ok (.invokevirtual 36, 3) := by decide +kernel
theorem dX6_keySizes_18 : decode cX6_keySizes 18 = .ok (.ifCond .eq 12, 3) := by decide +kernel
theorem dX6_keySizes_21 : decode cX6_keySizes 21 = .ok (.iload_n 2, 1) := by decide +kernel
theorem dX6_keySizes_22 : decode cX6_keySizes 22 = .ok (.aload_n 0, 1) := by decide +kernel
theorem dX6_keySizes_23 : decode cX6_keySizes 23 = .ok (.getfield 19, 3) := by decide +kernel
theorem dX6_keySizes_26 : decode cX6_keySizes 26 = .ok (.iload_n 3, 1) := by decide +kernel
theorem dX6_keySizes_27 : decode cX6_keySizes 27 = .ok (.iaload, 1) := by decide +kernel
theorem dX6_keySizes_28 : decode cX6_keySizes 28 = .ok (.iadd, 1) := by decide +kernel
theorem dX6_keySizes_29 : decode cX6_keySizes 29 = .ok (.istore_n 2, 1) := by decide +kernel
theorem dX6_keySizes_30 : decode cX6_keySizes 30 = .ok (.iinc 3 1, 3) := by decide +kernel
theorem dX6_keySizes_33 : decode cX6_keySizes 33 = .ok (.goto (-29), 3) := by decide +kernel
theorem dX6_keySizes_36 : decode cX6_keySizes 36 = .ok (.iload_n 2, 1) := by decide +kernel
theorem dX6_keySizes_37 : decode cX6_keySizes 37 = .ok (.ireturn, 1) := by decide +kernel
theorem dX6_take_0 : decode cX6_take 0 = .ok (.aload_n 0, 1) := by decide +kernel
theorem dX6_take_1 : decode cX6_take 1 = .ok (.aload_n 1, 1) := by decide +kernel
theorem dX6_take_2 : decode cX6_take 2 = .ok (.getfield 9, 3) := by decide +kernel
theorem dX6_take_5 : decode cX6_take 5 = .ok (.putfield 9, 3) := by decide +kernel
theorem dX6_take_8 : decode cX6_take 8 = .ok (.aload_n 1, 1) := by decide +kernel
theorem dX6_take_9 : decode cX6_take 9 = .ok (.getfield 15, 3) := by decide +kernel
theorem dX6_take_12 : decode cX6_take 12 = .ok (.iconst 0, 1) := by decide +kernel
theorem dX6_take_13 : decode cX6_take 13 = .ok (.aload_n 0, 1) := by decide +kernel
theorem dX6_take_14 : decode cX6_take 14 = .ok (.getfield 15, 3) := by decide +kernel
theorem dX6_take_17 : decode cX6_take 17 = .ok (.iconst 0, 1) := by decide +kernel
theorem dX6_take_18 : decode cX6_take 18 = .ok (.bipush 12, 2) := by decide +kernel
theorem dX6_take_20 : decode cX6_take 20 = .ok (.invokestatic 39, 3) := by decide +kernel
theorem dX6_take_23 : decode cX6_take 23 = .ok (.aload_n 1, 1) := by decide +kernel
theorem dX6_take_24 : decode cX6_take 24 = .ok (.getfield 19, 3) := by decide +kernel
theorem dX6_take_27 : decode cX6_take 27 = .ok (.iconst 0, 1) := by decide +kernel
theorem dX6_take_28 : decode cX6_take 28 = .ok (.aload_n 0, 1) := by decide +kernel
theorem dX6_take_29 : decode cX6_take 29 = .ok (.getfield 19, 3) := by decide +kernel
theorem dX6_take_32 : decode cX6_take 32 = .ok (.iconst 0, 1) := by decide +kernel
theorem dX6_take_33 : decode cX6_take 33 = .ok (.bipush 12, 2) := by decide +kernel
theorem dX6_take_35 : decode cX6_take 35 = .ok (.invokestatic 39, 3) := by decide +kernel
theorem dX6_take_38 : decode cX6_take 38 = .ok (.return_, 1) := by decide +kernel
theorem dX6_append_0 : decode cX6_append 0 = .ok (.aload_n 0, 1) := by decide +kernel
theorem dX6_append_1 : decode cX6_append 1 = .ok (.getfield 9, 3) := by decide +kernel
theorem dX6_append_4 : decode cX6_append 4 = .ok (.bipush 12, 2) := by decide +kernel
theorem dX6_append_6 : decode cX6_append 6 = .ok (.if_icmp .ge 33, 3) := by decide +kernel
theorem dX6_append_9 : decode cX6_append 9 = .ok (.aload_n 0, 1) := by decide +kernel
theorem dX6_append_10 : decode cX6_append 10 = .ok (.getfield 15, 3) := by decide +kernel
theorem dX6_append_13 : decode cX6_append 13 = .ok (.aload_n 0, 1) := by decide +kernel
theorem dX6_append_14 : decode cX6_append 14 = .ok (.getfield 9, 3) := by decide +kernel
theorem dX6_append_17 : decode cX6_append 17 = .ok (.iload_n 1, 1) := by decide +kernel
theorem dX6_append_18 : decode cX6_append 18 = .ok (.iastore, 1) := by decide +kernel
theorem dX6_append_19 : decode cX6_append 19 = .ok (.aload_n 0, 1) := by decide +kernel
theorem dX6_append_20 : decode cX6_append 20 = .ok (.getfield 19, 3) := by decide +kernel
theorem dX6_append_23 : decode cX6_append 23 = .ok (.aload_n 0, 1) := by decide +kernel
theorem dX6_append_24 : decode cX6_append 24 = .ok (.getfield 9, 3) := by decide +kernel
theorem dX6_append_27 : decode cX6_append 27 = .ok (.iload_n 2, 1) := by decide +kernel
theorem dX6_append_28 : decode cX6_append 28 = .ok (.iastore, 1) := by decide +kernel
theorem dX6_append_29 : decode cX6_append 29 = .ok (.aload_n 0, 1) := by decide +kernel
theorem dX6_append_30 : decode cX6_append 30 = .ok (.dup, 1) := by decide +kernel
theorem dX6_append_31 : decode cX6_append 31 = .ok (.getfield 9, 3) := by decide +kernel
theorem dX6_append_34 : decode cX6_append 34 = .ok (.iconst 1, 1) := by decide +kernel
theorem dX6_append_35 : decode cX6_append 35 = .ok (.iadd, 1) := by decide +kernel
theorem dX6_append_36 : decode cX6_append 36 = .ok (.putfield 9, 3) := by decide +kernel
theorem dX6_append_39 : decode cX6_append 39 = .ok (.return_, 1) := by decide +kernel
theorem dX6_canLose_0 : decode cX6_canLose 0 = .ok (.iload_n 1, 1) := by decide +kernel
theorem dX6_canLose_1 : decode cX6_canLose 1 = .ok (.aload_n 0, 1) := by decide +kernel
theorem dX6_canLose_2 : decode cX6_canLose 2 = .ok (.getfield 9, 3) := by decide +kernel
theorem dX6_canLose_5 : decode cX6_canLose 5 = .ok (.iconst 1, 1) := by decide +kernel
theorem dX6_canLose_6 : decode cX6_canLose 6 = .ok (.isub, 1) := by decide +kernel
theorem dX6_canLose_7 : decode cX6_canLose 7 = .ok (.if_icmp .ne 12, 3) := by decide +kernel
theorem dX6_canLose_10 : decode cX6_canLose 10 = .ok (.aload_n 0, 1) := by decide +kernel
theorem dX6_canLose_11 : decode cX6_canLose 11 = .ok (.iload_n 1, 1) := by decide +kernel
theorem dX6_canLose_12 : decode cX6_canLose 12 = .ok (.invokevirtual 45, 3) := by decide +kernel
theorem dX6_canLose_15 : decode cX6_canLose 15 = .ok (.iconst 1, 1) := by decide +kernel
theorem dX6_canLose_16 : decode cX6_canLose 16 = .ok (.if_icmp .ne 7, 3) := by decide +kernel
theorem dX6_canLose_19 : decode cX6_canLose 19 = .ok (.iconst 1, 1) := by decide +kernel
theorem dX6_canLose_20 : decode cX6_canLose 20 = .ok (.goto 4, 3) := by decide +kernel
theorem dX6_canLose_23 : decode cX6_canLose 23 = .ok (.iconst 0, 1) := by decide +kernel
theorem dX6_canLose_24 : decode cX6_canLose 24 = .ok (.ireturn, 1) := by decide +kernel
theorem dX6_remove_0 : decode cX6_remove 0 = .ok (.iload_n 1, 1) := by decide +kernel
theorem dX6_remove_1 : decode cX6_remove 1 = .ok (.iconst 1, 1) := by decide +kernel
theorem dX6_remove_2 : decode cX6_remove 2 = .ok (.iadd, 1) := by decide +kernel
theorem dX6_remove_3 : decode cX6_remove 3 = .ok (.istore_n 2, 1) := by decide +kernel
theorem dX6_remove_4 : decode cX6_remove 4 = .ok (.iload_n 2, 1) := by decide +kernel
theorem dX6_remove_5 : decode cX6_remove 5 = .ok (.aload_n 0, 1) := by decide +kernel
theorem dX6_remove_6 : decode cX6_remove 6 = .ok (.getfield 9, 3) := by decide +kernel
theorem dX6_remove_9 : decode cX6_remove 9 = .ok (.if_icmp .ge 28, 3) := by decide +kernel
theorem dX6_remove_12 : decode cX6_remove 12 = .ok (.aload_n 0, 1) := by decide +kernel
theorem dX6_remove_13 : decode cX6_remove 13 = .ok (.iload_n 2, 1) := by decide +kernel
theorem dX6_remove_14 : decode cX6_remove 14 = .ok (.invokevirtual 22, 3) := by decide +kernel
theorem dX6_remove_17 : decode cX6_remove 17 = .ok (.iload_n 1, 1) := by decide +kernel
theorem dX6_remove_18 : decode cX6_remove 18 = .ok (.if_icmp .gt 13, 3) := by decide +kernel
theorem dX6_remove_21 : decode cX6_remove 21 = .ok (.aload_n 0, 1) := by decide +kernel
theorem dX6_remove_22 : decode cX6_remove 22 = .ok (.getfield 19, 3) := by decide +kernel
theorem dX6_remove_25 : decode cX6_remove 25 = .ok (.iload_n 2, 1) := by decide +kernel
theorem dX6_remove_26 : decode cX6_remove 26 = .ok (.dup2, 1) := by decide +kernel
theorem dX6_remove_27 : decode cX6_remove 27 = .ok (.iaload, 1) := by decide +kernel
theorem dX6_remove_28 : decode cX6_remove 28 = .ok (.iconst 1, 1) := by decide +kernel
theorem dX6_remove_29 : decode cX6_remove 29 = .ok (.isub, 1) := by decide +kernel
theorem dX6_remove_30 : decode cX6_remove 30 = .ok (.iastore, 1) := by decide +kernel
theorem dX6_remove_31 : decode cX6_remove 31 = .ok (.iinc 2 1, 3) := by decide +kernel
theorem dX6_remove_34 : decode cX6_remove 34 = .ok (.goto (-30), 3) := by decide +kernel
theorem dX6_remove_37 : decode cX6_remove 37 = .ok (.iload_n 1, 1) := by decide +kernel
theorem dX6_remove_38 : decode cX6_remove 38 = .ok (.istore_n 2, 1) := by decide +kernel
theorem dX6_remove_39 : decode cX6_remove 39 = .ok (.iload_n 2, 1) := by decide +kernel
theorem dX6_remove_40 : decode cX6_remove 40 = .ok (.aload_n 0, 1) := by decide +kernel
theorem dX6_remove_41 : decode cX6_remove 41 = .ok (.getfield 9, 3) := by decide +kernel
theorem dX6_remove_44 : decode cX6_remove 44 = .ok (.iconst 1, 1) := by decide +kernel
theorem dX6_remove_45 : decode cX6_remove 45 = .ok (.isub, 1) := by decide +kernel
theorem dX6_remove_46 : decode cX6_remove 46 = .ok (.if_icmp .ge 37, 3) := by decide +kernel
theorem dX6_remove_49 : decode cX6_remove 49 = .ok (.aload_n 0, 1) := by decide +kernel
theorem dX6_remove_50 : decode cX6_remove 50 = .ok (.getfield 15, 3) := by decide +kernel
theorem dX6_remove_53 : decode cX6_remove 53 = .ok (.iload_n 2, 1) := by decide +kernel
theorem dX6_remove_54 : decode cX6_remove 54 = .ok (.aload_n 0, 1) := by decide +kernel
theorem dX6_remove_55 : decode cX6_remove 55 = .ok (.getfield 15, 3) := by decide +kernel
theorem dX6_remove_58 : decode cX6_remove 58 = .ok (.iload_n 2, 1) := by decide +kernel
theorem dX6_remove_59 : decode cX6_remove 59 = .ok (.iconst 1, 1) := by decide +kernel
theorem dX6_remove_60 : decode cX6_remove 60 = .ok (.iadd, 1) := by decide +kernel
theorem dX6_remove_61 : decode cX6_remove 61 = .ok (.iaload, 1) := by decide +kernel
theorem dX6_remove_62 : decode cX6_remove 62 = .ok (.iastore, 1) := by decide +kernel
theorem dX6_remove_63 : decode cX6_remove 63 = .ok (.aload_n 0, 1) := by decide +kernel
theorem dX6_remove_64 : decode cX6_remove 64 = .ok (.getfield 19, 3) := by decide +kernel
theorem dX6_remove_67 : decode cX6_remove 67 = .ok (.iload_n 2, 1) := by decide +kernel
theorem dX6_remove_68 : decode cX6_remove 68 = .ok (.aload_n 0, 1) := by decide +kernel
theorem dX6_remove_69 : decode cX6_remove 69 = .ok (.getfield 19, 3) := by decide +kernel
theorem dX6_remove_72 : decode cX6_remove 72 = .ok (.iload_n 2, 1) := by decide +kernel
theorem dX6_remove_73 : decode cX6_remove 73 = .ok (.iconst 1, 1) := by decide +kernel
theorem dX6_remove_74 : decode cX6_remove 74 = .ok (.iadd, 1) := by decide +kernel
theorem dX6_remove_75 : decode cX6_remove 75 = .ok (.iaload, 1) := by decide +kernel
theorem dX6_remove_76 : decode cX6_remove 76 = .ok (.iastore, 1) := by decide +kernel
theorem dX6_remove_77 : decode cX6_remove 77 = .ok (.iinc 2 1, 3) := by decide +kernel
theorem dX6_remove_80 : decode cX6_remove 80 = .ok (.goto (-41), 3) := by decide +kernel
theorem dX6_remove_83 : decode cX6_remove 83 = .ok (.aload_n 0, 1) := by decide +kernel
theorem dX6_remove_84 : decode cX6_remove 84 = .ok (.dup, 1) := by decide +kernel
theorem dX6_remove_85 : decode cX6_remove 85 = .ok (.getfield 9, 3) := by decide +kernel
theorem dX6_remove_88 : decode cX6_remove 88 = .ok (.iconst 1, 1) := by decide +kernel
theorem dX6_remove_89 : decode cX6_remove 89 = .ok (.isub, 1) := by decide +kernel
theorem dX6_remove_90 : decode cX6_remove 90 = .ok (.putfield 9, 3) := by decide +kernel
theorem dX6_remove_93 : decode cX6_remove 93 = .ok (.return_, 1) := by decide +kernel
theorem dX6_insert_0 : decode cX6_insert 0 = .ok (.aload_n 0, 1) := by decide +kernel
theorem dX6_insert_1 : decode cX6_insert 1 = .ok (.iload_n 1, 1) := by decide +kernel
theorem dX6_insert_2 : decode cX6_insert 2 = .ok (.iload_n 2, 1) := by decide +kernel
theorem dX6_insert_3 : decode cX6_insert 3 = .ok (.invokevirtual 48, 3) := by decide +kernel
theorem dX6_insert_6 : decode cX6_insert 6 = .ok (.istore 5, 2) := by decide +kernel
theorem dX6_insert_8 : decode cX6_insert 8 = .ok (.aload_n 0, 1) := by decide +kernel
theorem dX6_insert_9 : decode cX6_insert 9 = .ok (.iload_n 1, 1) := by decide +kernel
theorem dX6_insert_10 : decode cX6_insert 10 = .ok (.iload_n 2, 1) := by decide +kernel
theorem dX6_insert_11 : decode cX6_insert 11 = .ok (.iload_n 3, 1) := by decide +kernel
theorem dX6_insert_12 : decode cX6_insert 12 = .ok (.iadd, 1) := by decide +kernel
theorem dX6_insert_13 : decode cX6_insert 13 = .ok (.invokevirtual 48, 3) := by decide +kernel
theorem dX6_insert_16 : decode cX6_insert 16 = .ok (.istore 6, 2) := by decide +kernel
theorem dX6_insert_18 : decode cX6_insert 18 = .ok (.iload_n 1, 1) := by decide +kernel
theorem dX6_insert_19 : decode cX6_insert 19 = .ok (.istore 7, 2) := by decide +kernel
theorem dX6_insert_21 : decode cX6_insert 21 = .ok (.iload 7, 2) := by decide +kernel
theorem dX6_insert_23 : decode cX6_insert 23 = .ok (.aload_n 0, 1) := by decide +kernel
theorem dX6_insert_24 : decode cX6_insert 24 = .ok (.getfield 9, 3) := by decide +kernel
theorem dX6_insert_27 : decode cX6_insert 27 = .ok (.if_icmp .ge 30, 3) := by decide +kernel
theorem dX6_insert_30 : decode cX6_insert 30 = .ok (.aload_n 0, 1) := by decide +kernel
theorem dX6_insert_31 : decode cX6_insert 31 = .ok (.iload 7, 2) := by decide +kernel
theorem dX6_insert_33 : decode cX6_insert 33 = .ok (.invokevirtual 22, 3) := by decide +kernel
theorem dX6_insert_36 : decode cX6_insert 36 = .ok (.iload_n 1, 1) := by decide +kernel
theorem dX6_insert_37 : decode cX6_insert 37 = .ok (.if_icmp .gt 14, 3) := by decide +kernel
theorem dX6_insert_40 : decode cX6_insert 40 = .ok (.aload_n 0, 1) := by decide +kernel
theorem dX6_insert_41 : decode cX6_insert 41 = .ok (.getfield 19, 3) := by decide +kernel
theorem dX6_insert_44 : decode cX6_insert 44 = .ok (.iload 7, 2) := by decide +kernel
theorem dX6_insert_46 : decode cX6_insert 46 = .ok (.dup2, 1) := by decide +kernel
theorem dX6_insert_47 : decode cX6_insert 47 = .ok (.iaload, 1) := by decide +kernel
theorem dX6_insert_48 : decode cX6_insert 48 = .ok (.iconst 1, 1) := by decide +kernel
theorem dX6_insert_49 : decode cX6_insert 49 = .ok (.iadd, 1) := by decide +kernel
theorem dX6_insert_50 : decode cX6_insert 50 = .ok (.iastore, 1) := by decide +kernel
theorem dX6_insert_51 : decode cX6_insert 51 = .ok (.iinc 7 1, 3) := by decide +kernel
theorem dX6_insert_54 : decode cX6_insert 54 = .ok (.goto (-33), 3) := by decide +kernel
theorem dX6_insert_57 : decode cX6_insert 57 = .ok (.aload_n 0, 1) := by decide +kernel
theorem dX6_insert_58 : decode cX6_insert 58 = .ok (.getfield 9, 3) := by decide +kernel
theorem dX6_insert_61 : decode cX6_insert 61 = .ok (.istore 7, 2) := by decide +kernel
theorem dX6_insert_63 : decode cX6_insert 63 = .ok (.iload 7, 2) := by decide +kernel
theorem dX6_insert_65 : decode cX6_insert 65 = .ok (.iload 6, 2) := by decide +kernel
theorem dX6_insert_67 : decode cX6_insert 67 = .ok (.if_icmp .le 41, 3) := by decide +kernel
theorem dX6_insert_70 : decode cX6_insert 70 = .ok (.aload_n 0, 1) := by decide +kernel
theorem dX6_insert_71 : decode cX6_insert 71 = .ok (.getfield 15, 3) := by decide +kernel
theorem dX6_insert_74 : decode cX6_insert 74 = .ok (.iload 7, 2) := by decide +kernel
theorem dX6_insert_76 : decode cX6_insert 76 = .ok (.aload_n 0, 1) := by decide +kernel
theorem dX6_insert_77 : decode cX6_insert 77 = .ok (.getfield 15, 3) := by decide +kernel
theorem dX6_insert_80 : decode cX6_insert 80 = .ok (.iload 7, 2) := by decide +kernel
theorem dX6_insert_82 : decode cX6_insert 82 = .ok (.iconst 1, 1) := by decide +kernel
theorem dX6_insert_83 : decode cX6_insert 83 = .ok (.isub, 1) := by decide +kernel
theorem dX6_insert_84 : decode cX6_insert 84 = .ok (.iaload, 1) := by decide +kernel
theorem dX6_insert_85 : decode cX6_insert 85 = .ok (.iastore, 1) := by decide +kernel
theorem dX6_insert_86 : decode cX6_insert 86 = .ok (.aload_n 0, 1) := by decide +kernel
theorem dX6_insert_87 : decode cX6_insert 87 = .ok (.getfield 19, 3) := by decide +kernel
theorem dX6_insert_90 : decode cX6_insert 90 = .ok (.iload 7, 2) := by decide +kernel
theorem dX6_insert_92 : decode cX6_insert 92 = .ok (.aload_n 0, 1) := by decide +kernel
theorem dX6_insert_93 : decode cX6_insert 93 = .ok (.getfield 19, 3) := by decide +kernel
theorem dX6_insert_96 : decode cX6_insert 96 = .ok (.iload 7, 2) := by decide +kernel
theorem dX6_insert_98 : decode cX6_insert 98 = .ok (.iconst 1, 1) := by decide +kernel
theorem dX6_insert_99 : decode cX6_insert 99 = .ok (.isub, 1) := by decide +kernel
theorem dX6_insert_100 : decode cX6_insert 100 = .ok (.iaload, 1) := by decide +kernel
theorem dX6_insert_101 : decode cX6_insert 101 = .ok (.iastore, 1) := by decide +kernel
theorem dX6_insert_102 : decode cX6_insert 102 = .ok (.iinc 7 (-1), 3) := by decide +kernel
theorem dX6_insert_105 : decode cX6_insert 105 = .ok (.goto (-42), 3) := by decide +kernel
theorem dX6_insert_108 : decode cX6_insert 108 = .ok (.aload_n 0, 1) := by decide +kernel
theorem dX6_insert_109 : decode cX6_insert 109 = .ok (.getfield 15, 3) := by decide +kernel
theorem dX6_insert_112 : decode cX6_insert 112 = .ok (.iload 6, 2) := by decide +kernel
theorem dX6_insert_114 : decode cX6_insert 114 = .ok (.iload 4, 2) := by decide +kernel
theorem dX6_insert_116 : decode cX6_insert 116 = .ok (.iastore, 1) := by decide +kernel
theorem dX6_insert_117 : decode cX6_insert 117 = .ok (.aload_n 0, 1) := by decide +kernel
theorem dX6_insert_118 : decode cX6_insert 118 = .ok (.getfield 19, 3) := by decide +kernel
theorem dX6_insert_121 : decode cX6_insert 121 = .ok (.iload 6, 2) := by decide +kernel
theorem dX6_insert_123 : decode cX6_insert 123 = .ok (.iload 6, 2) := by decide +kernel
theorem dX6_insert_125 : decode cX6_insert 125 = .ok (.iload 5, 2) := by decide +kernel
theorem dX6_insert_127 : decode cX6_insert 127 = .ok (.isub, 1) := by decide +kernel
theorem dX6_insert_128 : decode cX6_insert 128 = .ok (.iconst 1, 1) := by decide +kernel
theorem dX6_insert_129 : decode cX6_insert 129 = .ok (.iadd, 1) := by decide +kernel
theorem dX6_insert_130 : decode cX6_insert 130 = .ok (.iastore, 1) := by decide +kernel
theorem dX6_insert_131 : decode cX6_insert 131 = .ok (.aload_n 0, 1) := by decide +kernel
theorem dX6_insert_132 : decode cX6_insert 132 = .ok (.dup, 1) := by decide +kernel
theorem dX6_insert_133 : decode cX6_insert 133 = .ok (.getfield 9, 3) := by decide +kernel
theorem dX6_insert_136 : decode cX6_insert 136 = .ok (.iconst 1, 1) := by decide +kernel
theorem dX6_insert_137 : decode cX6_insert 137 = .ok (.iadd, 1) := by decide +kernel
theorem dX6_insert_138 : decode cX6_insert 138 = .ok (.putfield 9, 3) := by decide +kernel
theorem dX6_insert_141 : decode cX6_insert 141 = .ok (.iload 6, 2) := by decide +kernel
theorem dX6_insert_143 : decode cX6_insert 143 = .ok (.ireturn, 1) := by decide +kernel
theorem dX6_endOfChildren_0 : decode cX6_endOfChildren 0 = .ok (.aload_n 0, 1) := by decide +kernel
theorem dX6_endOfChildren_1 : decode cX6_endOfChildren 1 = .ok (.iload_n 1, 1) := by decide +kernel
theorem dX6_endOfChildren_2 : decode cX6_endOfChildren 2 = .ok (.invokevirtual 22, 3) := by decide +kernel
theorem dX6_endOfChildren_5 : decode cX6_endOfChildren 5 = .ok (.istore_n 3, 1) := by decide +kernel
theorem dX6_endOfChildren_6 : decode cX6_endOfChildren 6 = .ok (.iconst 0, 1) := by decide +kernel
theorem dX6_endOfChildren_7 : decode cX6_endOfChildren 7 = .ok (.istore 4, 2) := by decide +kernel
theorem dX6_endOfChildren_9 : decode cX6_endOfChildren 9 = .ok (.aload_n 0, 1) := by decide +kernel
theorem dX6_endOfChildren_10 : decode cX6_endOfChildren 10 = .ok (.iload_n 1, 1) := by decide +kernel
theorem dX6_endOfChildren_11 : decode cX6_endOfChildren 11 = .ok (.invokevirtual 22, 3) := by decide +kernel
theorem dX6_endOfChildren_14 : decode cX6_endOfChildren 14 = .ok (.istore 5, 2) := by decide +kernel
theorem dX6_endOfChildren_16 : decode cX6_endOfChildren 16 = .ok (.iload 5, 2) := by decide +kernel
theorem dX6_endOfChildren_18 : decode cX6_endOfChildren 18 = .ok (.iload_n 1, 1) := by decide +kernel
theorem dX6_endOfChildren_19 : decode cX6_endOfChildren 19 = .ok (.if_icmp .ge 33, 3) := by decide +kernel
theorem dX6_endOfChildren_22 : decode cX6_endOfChildren 22 = .ok (.iload 4, 2) := by decide +kernel
theorem dX6_endOfChildren_24 : decode cX6_endOfChildren 24 = .ok (.iload_n 2, 1) := by decide +kernel
theorem dX6_endOfChildren_25 : decode cX6_endOfChildren 25 = .ok (.if_icmp .ge 27, 3) := by decide +kernel
theorem dX6_endOfChildren_28 : decode cX6_endOfChildren 28 = .ok (.aload_n 0, 1) := by decide +kernel
theorem dX6_endOfChildren_29 : decode cX6_endOfChildren 29 = .ok (.iload 5, 2) := by decide +kernel
theorem dX6_endOfChildren_31 : decode cX6_endOfChildren 31 = .ok (.invokevirtual 26, 3) := by decide +kernel
theorem dX6_endOfChildren_34 : decode cX6_endOfChildren 34 = .ok (.iload_n 1, 1) := by decide +kernel
theorem dX6_endOfChildren_35 : decode cX6_endOfChildren 35 = .ok (.if_icmp .ne 11, 3) := by decide +kernel
theorem dX6_endOfChildren_38 : decode cX6_endOfChildren 38 = .ok (.iload 5, 2) := by decide +kernel
theorem dX6_endOfChildren_40 : decode cX6_endOfChildren 40 = .ok (.iconst 1, 1) := by decide +kernel
theorem dX6_endOfChildren_41 : decode cX6_endOfChildren 41 = .ok (.iadd, 1) := by decide +kernel
theorem dX6_endOfChildren_42 : decode cX6_endOfChildren 42 = .ok (.istore_n 3, 1) := by decide +kernel
theorem dX6_endOfChildren_43 : decode cX6_endOfChildren 43 = .ok (.iinc 4 1, 3) := by decide +kernel
theorem dX6_endOfChildren_46 : decode cX6_endOfChildren 46 = .ok (.iinc 5 1, 3) := by decide +kernel
theorem dX6_endOfChildren_49 : decode cX6_endOfChildren 49 = .ok (.goto (-33), 3) := by decide +kernel
theorem dX6_endOfChildren_52 : decode cX6_endOfChildren 52 = .ok (.iload_n 3, 1) := by decide +kernel
theorem dX6_endOfChildren_53 : decode cX6_endOfChildren 53 = .ok (.ireturn, 1) := by decide +kernel
theorem dX7_init_0 : decode cX7_init 0 = .ok (.aload_n 0, 1) := by decide +kernel
theorem dX7_init_1 : decode cX7_init 1 = .ok (.invokespecial 3, 3) := by decide +kernel
theorem dX7_init_4 : decode cX7_init 4 = .ok (.aload_n 0, 1) := by decide +kernel
theorem dX7_init_5 : decode cX7_init 5 = .ok (.new 9, 3) := by decide +kernel
theorem dX7_init_8 : decode cX7_init 8 = .ok (.dup, 1) := by decide +kernel
theorem dX7_init_9 : decode cX7_init 9 = .ok (.invokespecial 11, 3) := by decide +kernel
theorem dX7_init_12 : decode cX7_init 12 = .ok (.putfield 12, 3) := by decide +kernel
theorem dX7_init_15 : decode cX7_init 15 = .ok (.aload_n 0, 1) := by decide +kernel
theorem dX7_init_16 : decode cX7_init 16 = .ok (.iconst 1, 1) := by decide +kernel
theorem dX7_init_17 : decode cX7_init 17 = .ok (.putfield 18, 3) := by decide +kernel
theorem dX7_init_20 : decode cX7_init 20 = .ok (.aload_n 0, 1) := by decide +kernel
theorem dX7_init_21 : decode cX7_init 21 = .ok (.iconst 0, 1) := by decide +kernel
theorem dX7_init_22 : decode cX7_init 22 = .ok (.putfield 22, 3) := by decide +kernel
theorem dX7_init_25 : decode cX7_init 25 = .ok (.aload_n 0, 1) := by decide +kernel
theorem dX7_init_26 : decode cX7_init 26 = .ok (.new 26, 3) := by decide +kernel
theorem dX7_init_29 : decode cX7_init 29 = .ok (.dup, 1) := by decide +kernel
theorem dX7_init_30 : decode cX7_init 30 = .ok (.invokespecial 28, 3) := by decide +kernel
theorem dX7_init_33 : decode cX7_init 33 = .ok (.putfield 29, 3) := by decide +kernel
theorem dX7_init_36 : decode cX7_init 36 = .ok (.aload_n 0, 1) := by decide +kernel
theorem dX7_init_37 : decode cX7_init 37 = .ok (.bipush 12, 2) := by decide +kernel
theorem dX7_init_39 : decode cX7_init 39 = .ok (.bipush 12, 2) := by decide +kernel
theorem dX7_init_41 : decode cX7_init 41 = .ok (.multianewarray 33 2, 4) := by decide +kernel
theorem dX7_init_45 : decode cX7_init 45 = .ok (.putfield 35, 3) := by decide +kernel
theorem dX7_init_48 : decode cX7_init 48 = .ok (.aload_n 0, 1) := by decide +kernel
theorem dX7_init_49 : decode cX7_init 49 = .ok (.bipush 12, 2) := by decide +kernel
theorem dX7_init_51 : decode cX7_init 51 = .ok (.bipush 12, 2) := by decide +kernel
theorem dX7_init_53 : decode cX7_init 53 = .ok (.multianewarray 33 2, 4) := by decide +kernel
theorem dX7_init_57 : decode cX7_init 57 = .ok (.putfield 38, 3) := by decide +kernel
theorem dX7_init_60 : decode cX7_init 60 = .ok (.aload_n 0, 1) := by decide +kernel
theorem dX7_init_61 : decode cX7_init 61 = .ok (.aload_n 0, 1) := by decide +kernel
theorem dX7_init_62 : decode cX7_init 62 = .ok (.getfield 12, 3) := by decide +kernel
theorem dX7_init_65 : decode cX7_init 65 = .ok (.getfield 41, 3) := by decide +kernel
theorem dX7_init_68 : decode cX7_init 68 = .ok (.putfield 45, 3) := by decide +kernel
theorem dX7_init_71 : decode cX7_init 71 = .ok (.aload_n 0, 1) := by decide +kernel
theorem dX7_init_72 : decode cX7_init 72 = .ok (.aload_n 0, 1) := by decide +kernel
theorem dX7_init_73 : decode cX7_init 73 = .ok (.getfield 12, 3) := by decide +kernel
theorem dX7_init_76 : decode cX7_init 76 = .ok (.getfield 46, 3) := by decide +kernel
theorem dX7_init_79 : decode cX7_init 79 = .ok (.putfield 49, 3) := by decide +kernel
theorem dX7_init_82 : decode cX7_init 82 = .ok (.aload_n 0, 1) := by decide +kernel
theorem dX7_init_83 : decode cX7_init 83 = .ok (.bipush 12, 2) := by decide +kernel
theorem dX7_init_85 : decode cX7_init 85 = .ok (.newarray .int, 2) := by decide +kernel
theorem dX7_init_87 : decode cX7_init 87 = .ok (.putfield 50, 3) := by decide +kernel
theorem dX7_init_90 : decode cX7_init 90 = .ok (.aload_n 0, 1) := by decide +kernel
theorem dX7_init_91 : decode cX7_init 91 = .ok (.bipush 12, 2) := by decide +kernel
theorem dX7_init_93 : decode cX7_init 93 = .ok (.newarray .int, 2) := by decide +kernel
theorem dX7_init_95 : decode cX7_init 95 = .ok (.putfield 54, 3) := by decide +kernel
theorem dX7_init_98 : decode cX7_init 98 = .ok (.aload_n 0, 1) := by decide +kernel
theorem dX7_init_99 : decode cX7_init 99 = .ok (.bipush 12, 2) := by decide +kernel
theorem dX7_init_101 : decode cX7_init 101 = .ok (.bipush 12, 2) := by decide +kernel
theorem dX7_init_103 : decode cX7_init 103 = .ok (.multianewarray 33 2, 4) := by decide +kernel
theorem dX7_init_107 : decode cX7_init 107 = .ok (.putfield 57, 3) := by decide +kernel
theorem dX7_init_110 : decode cX7_init 110 = .ok (.aload_n 0, 1) := by decide +kernel
theorem dX7_init_111 : decode cX7_init 111 = .ok (.bipush 13, 2) := by decide +kernel
theorem dX7_init_113 : decode cX7_init 113 = .ok (.bipush 13, 2) := by decide +kernel
theorem dX7_init_115 : decode cX7_init 115 = .ok (.multianewarray 33 2, 4) := by decide +kernel
theorem dX7_init_119 : decode cX7_init 119 = .ok (.putfield 60, 3) := by decide +kernel
theorem dX7_init_122 : decode cX7_init 122 = .ok (.aload_n 0, 1) := by decide +kernel
theorem dX7_init_123 : decode cX7_init 123 = .ok (.bipush 12, 2) := by decide +kernel
theorem dX7_init_125 : decode cX7_init 125 = .ok (.newarray .int, 2) := by decide +kernel
theorem dX7_init_127 : decode cX7_init 127 = .ok (.putfield 63, 3) := by decide +kernel
theorem dX7_init_130 : decode cX7_init 130 = .ok (.aload_n 0, 1) := by decide +kernel
theorem dX7_init_131 : decode cX7_init 131 = .ok (.bipush 12, 2) := by decide +kernel
theorem dX7_init_133 : decode cX7_init 133 = .ok (.newarray .int, 2) := by decide +kernel
theorem dX7_init_135 : decode cX7_init 135 = .ok (.putfield 66, 3) := by decide +kernel
theorem dX7_init_138 : decode cX7_init 138 = .ok (.return_, 1) := by decide +kernel
theorem dX7_refresh_0 : decode cX7_refresh 0 = .ok (.aload_n 0, 1) := by decide +kernel
theorem dX7_refresh_1 : decode cX7_refresh 1 = .ok (.getfield 18, 3) := by decide +kernel
theorem dX7_refresh_4 : decode cX7_refresh 4 = .ok (.ifCond .eq 30, 3) := by decide +kernel
theorem dX7_refresh_7 : decode cX7_refresh 7 = .ok (.aload_n 0, 1) := by decide +kernel
theorem dX7_refresh_8 : decode cX7_refresh 8 = .ok (.getfield 12, 3) := by decide +kernel
theorem dX7_refresh_11 : decode cX7_refresh 11 = .ok (.invokevirtual 69, 3) := by decide +kernel
theorem dX7_refresh_14 : decode cX7_refresh 14 = .ok (.ifCond .eq 20, 3) := by decide +kernel
theorem dX7_refresh_17 : decode cX7_refresh 17 = .ok (.aload_n 0, 1) := by decide +kernel
theorem dX7_refresh_18 : decode cX7_refresh 18 = .ok (.invokevirtual 73, 3) := by decide +kernel
theorem dX7_refresh_21 : decode cX7_refresh 21 = .ok (.aload_n 0, 1) := by decide +kernel
theorem dX7_refresh_22 : decode cX7_refresh 22 = .ok (.invokevirtual 76, 3) := by decide +kernel
theorem dX7_refresh_25 : decode cX7_refresh 25 = .ok (.aload_n 0, 1) := by decide +kernel
theorem dX7_refresh_26 : decode cX7_refresh 26 = .ok (.invokevirtual 79, 3) := by decide +kernel
theorem dX7_refresh_29 : decode cX7_refresh 29 = .ok (.aload_n 0, 1) := by decide +kernel
theorem dX7_refresh_30 : decode cX7_refresh 30 = .ok (.iconst 0, 1) := by decide +kernel
theorem dX7_refresh_31 : decode cX7_refresh 31 = .ok (.putfield 18, 3) := by decide +kernel
theorem dX7_refresh_34 : decode cX7_refresh 34 = .ok (.return_, 1) := by decide +kernel
theorem dX7_distance_0 : decode cX7_distance 0 = .ok (.aload_n 0, 1) := by decide +kernel
theorem dX7_distance_1 : decode cX7_distance 1 = .ok (.getfield 45, 3) := by decide +kernel
theorem dX7_distance_4 : decode cX7_distance 4 = .ok (.getfield 82, 3) := by decide +kernel
theorem dX7_distance_7 : decode cX7_distance 7 = .ok (.ifCond .le 40, 3) := by decide +kernel
theorem dX7_distance_10 : decode cX7_distance 10 = .ok (.aload_n 0, 1) := by decide +kernel
theorem dX7_distance_11 : decode cX7_distance 11 = .ok (.getfield 49, 3) := by decide +kernel
theorem dX7_distance_14 : decode cX7_distance 14 = .ok (.getfield 82, 3) := by decide +kernel
theorem dX7_distance_17 : decode cX7_distance 17 = .ok (.ifCond .le 30, 3) := by decide +kernel
theorem dX7_distance_20 : decode cX7_distance 20 = .ok (.aload_n 0, 1) := by decide +kernel
theorem dX7_distance_21 : decode cX7_distance 21 = .ok (.getfield 35, 3) := by decide +kernel
theorem dX7_distance_24 : decode cX7_distance 24 = .ok (.aload_n 0, 1) := by decide +kernel
theorem dX7_distance_25 : decode cX7_distance 25 = .ok (.getfield 45, 3) := by decide +kernel
theorem dX7_distance_28 : decode cX7_distance 28 = .ok (.getfield 82, 3) := by decide +kernel
theorem dX7_distance_31 : decode cX7_distance 31 = .ok (.iconst 1, 1) := by decide +kernel
theorem dX7_distance_32 : decode cX7_distance 32 = .ok (.isub, 1) := by decide +kernel
theorem dX7_distance_33 : decode cX7_distance 33 = .ok (.aaload, 1) := by decide +kernel
theorem dX7_distance_34 : decode cX7_distance 34 = .ok (.aload_n 0, 1) := by decide +kernel
theorem dX7_distance_35 : decode cX7_distance 35 = .ok (.getfield 49, 3) := by decide +kernel
theorem dX7_distance_38 : decode cX7_distance 38 = .ok (.getfield 82, 3) := by decide +kernel
theorem dX7_distance_41 : decode cX7_distance 41 = .ok (.iconst 1, 1) := by decide +kernel
theorem dX7_distance_42 : decode cX7_distance 42 = .ok (.isub, 1) := by decide +kernel
theorem dX7_distance_43 : decode cX7_distance 43 = .ok (.iaload, 1) := by decide +kernel
theorem dX7_distance_44 : decode cX7_distance 44 = .ok (.goto 4, 3) := by decide +kernel
theorem dX7_distance_47 : decode cX7_distance 47 = .ok (.iconst 0, 1) := by decide +kernel
theorem dX7_distance_48 : decode cX7_distance 48 = .ok (.ireturn, 1) := by decide +kernel
theorem dX7_between_0 : decode cX7_between 0 = .ok (.iload_n 1, 1) := by decide +kernel
theorem dX7_between_1 : decode cX7_between 1 = .ok (.ifCond .ne 14, 3) := by decide +kernel
theorem dX7_between_4 : decode cX7_between 4 = .ok (.aload_n 0, 1) := by decide +kernel
theorem dX7_between_5 : decode cX7_between 5 = .ok (.getfield 35, 3) := by decide +kernel
theorem dX7_between_8 : decode cX7_between 8 = .ok (.iload_n 2, 1) := by decide +kernel
theorem dX7_between_9 : decode cX7_between 9 = .ok (.aaload, 1) := by decide +kernel
theorem dX7_between_10 : decode cX7_between 10 = .ok (.iload_n 3, 1) := by decide +kernel
theorem dX7_between_11 : decode cX7_between 11 = .ok (.iaload, 1) := by decide +kernel
theorem dX7_between_12 : decode cX7_between 12 = .ok (.goto 11, 3) := by decide +kernel
theorem dX7_between_15 : decode cX7_between 15 = .ok (.aload_n 0, 1) := by decide +kernel
theorem dX7_between_16 : decode cX7_between 16 = .ok (.getfield 35, 3) := by decide +kernel
theorem dX7_between_19 : decode cX7_between 19 = .ok (.iload_n 3, 1) := by decide +kernel
theorem dX7_between_20 : decode cX7_between 20 = .ok (.aaload, 1) := by decide +kernel
theorem dX7_between_21 : decode cX7_between 21 = .ok (.iload_n 2, 1) := by decide +kernel
theorem dX7_between_22 : decode cX7_between 22 = .ok (.iaload, 1) := by decide +kernel
theorem dX7_between_23 : decode cX7_between 23 = .ok (.ireturn, 1) := by decide +kernel
theorem dX7_partnerOf_0 : decode cX7_partnerOf 0 = .ok (.iload_n 1, 1) := by decide +kernel
theorem dX7_partnerOf_1 : decode cX7_partnerOf 1 = .ok (.ifCond .ne 12, 3) := by decide +kernel
theorem dX7_partnerOf_4 : decode cX7_partnerOf 4 = .ok (.aload_n 0, 1) := by decide +kernel
theorem dX7_partnerOf_5 : decode cX7_partnerOf 5 = .ok (.getfield 63, 3) := by decide +kernel
theorem dX7_partnerOf_8 : decode cX7_partnerOf 8 = .ok (.iload_n 2, 1) := by decide +kernel
theorem dX7_partnerOf_9 : decode cX7_partnerOf 9 = .ok (.iaload, 1) := by decide +kernel
theorem dX7_partnerOf_10 : decode cX7_partnerOf 10 = .ok (.goto 9, 3) := by decide +kernel
theorem dX7_partnerOf_13 : decode cX7_partnerOf 13 = .ok (.aload_n 0, 1) := by decide +kernel
theorem dX7_partnerOf_14 : decode cX7_partnerOf 14 = .ok (.getfield 66, 3) := by decide +kernel
theorem dX7_partnerOf_17 : decode cX7_partnerOf 17 = .ok (.iload_n 2, 1) := by decide +kernel
theorem dX7_partnerOf_18 : decode cX7_partnerOf 18 = .ok (.iaload, 1) := by decide +kernel
theorem dX7_partnerOf_19 : decode cX7_partnerOf 19 = .ok (.ireturn, 1) := by decide +kernel
theorem dX7_measure_0 : decode cX7_measure 0 = .ok (.aload_n 0, 1) := by decide +kernel
theorem dX7_measure_1 : decode cX7_measure 1 = .ok (.invokevirtual 87, 3) := by decide +kernel
theorem dX7_measure_4 : decode cX7_measure 4 = .ok (.iconst 0, 1) := by decide +kernel
theorem dX7_measure_5 : decode cX7_measure 5 = .ok (.istore_n 1, 1) := by decide +kernel
theorem dX7_measure_6 : decode cX7_measure 6 = .ok (.iload_n 1, 1) := by decide +kernel
theorem dX7_measure_7 : decode cX7_measure 7 = .ok (.aload_n 0, 1) := by decide +kernel
theorem dX7_measure_8 : decode cX7_measure 8 = .ok (.getfield 45, 3) := by decide +kernel
theorem dX7_measure_11 : decode cX7_measure 11 = .ok (.getfield 82, 3) := by decide +kernel
theorem dX7_measure_14 : decode cX7_measure 14 = .ok (.if_icmp .ge 74, 3) := by decide +kernel
theorem dX7_measure_17 : decode cX7_measure 17 = .ok (.aload_n 0, 1) := by decide +kernel
theorem dX7_measure_18 : decode cX7_measure 18 = .ok (.getfield 45, 3) := by decide +kernel
theorem dX7_measure_21 : decode cX7_measure 21 = .ok (.iload_n 1, 1) := by decide +kernel
theorem dX7_measure_22 : decode cX7_measure 22 = .ok (.iconst 0, 1) := by decide +kernel
theorem dX7_measure_23 : decode cX7_measure 23 = .ok (.invokevirtual 90, 3) := by decide +kernel
theorem dX7_measure_26 : decode cX7_measure 26 = .ok (.ifCond .eq 56, 3) := by decide +kernel
theorem dX7_measure_29 : decode cX7_measure 29 = .ok (.iconst 0, 1) := by decide +kernel
theorem dX7_measure_30 : decode cX7_measure 30 = .ok (.istore_n 2, 1) := by decide +kernel
theorem dX7_measure_31 : decode cX7_measure 31 = .ok (.iload_n 2, 1) := by decide +kernel
theorem dX7_measure_32 : decode cX7_measure 32 = .ok (.aload_n 0, 1) := by decide +kernel
theorem dX7_measure_33 : decode cX7_measure 33 = .ok (.getfield 49, 3) := by decide +kernel
theorem dX7_measure_36 : decode cX7_measure 36 = .ok (.getfield 82, 3) := by decide +kernel
theorem dX7_measure_39 : decode cX7_measure 39 = .ok (.if_icmp .ge 43, 3) := by decide +kernel
theorem dX7_measure_42 : decode cX7_measure 42 = .ok (.aload_n 0, 1) := by decide +kernel
theorem dX7_measure_43 : decode cX7_measure 43 = .ok (.getfield 49, 3) := by decide +kernel
theorem dX7_measure_46 : decode cX7_measure 46 = .ok (.iload_n 2, 1) := by decide +kernel
theorem dX7_measure_47 : decode cX7_measure 47 = .ok (.iconst 0, 1) := by decide +kernel
theorem dX7_measure_48 : decode cX7_measure 48 = .ok (.invokevirtual 90, 3) := by decide +kernel
theorem dX7_measure_51 : decode cX7_measure 51 = .ok (.ifCond .eq 25, 3) := by decide +kernel
theorem dX7_measure_54 : decode cX7_measure 54 = .ok (.aload_n 0, 1) := by decide +kernel
theorem dX7_measure_55 : decode cX7_measure 55 = .ok (.aload_n 0, 1) := by decide +kernel
theorem dX7_measure_56 : decode cX7_measure 56 = .ok (.getfield 45, 3) := by decide +kernel
theorem dX7_measure_59 : decode cX7_measure 59 = .ok (.iload_n 1, 1) := by decide +kernel
theorem dX7_measure_60 : decode cX7_measure 60 = .ok (.invokevirtual 94, 3) := by decide +kernel
theorem dX7_measure_63 : decode cX7_measure 63 = .ok (.iload_n 1, 1) := by decide +kernel
theorem dX7_measure_64 : decode cX7_measure 64 = .ok (.aload_n 0, 1) := by decide +kernel
theorem dX7_measure_65 : decode cX7_measure 65 = .ok (.getfield 49, 3) := by decide +kernel
theorem dX7_measure_68 : decode cX7_measure 68 = .ok (.iload_n 2, 1) := by decide +kernel
theorem dX7_measure_69 : decode cX7_measure 69 = .ok (.invokevirtual 94, 3) := by decide +kernel
theorem dX7_measure_72 : decode cX7_measure 72 = .ok (.iload_n 2, 1) := by decide +kernel
theorem dX7_measure_73 : decode cX7_measure 73 = .ok (.invokevirtual 98, 3) := by decide +kernel
theorem dX7_measure_76 : decode cX7_measure 76 = .ok (.iinc 2 1, 3) := by decide +kernel
theorem dX7_measure_79 : decode cX7_measure 79 = .ok (.goto (-48), 3) := by decide +kernel
theorem dX7_measure_82 : decode cX7_measure 82 = .ok (.iinc 1 1, 3) := by decide +kernel
theorem dX7_measure_85 : decode cX7_measure 85 = .ok (.goto (-79), 3) := by decide +kernel
theorem dX7_measure_88 : decode cX7_measure 88 = .ok (.return_, 1) := by decide +kernel
theorem dX7_setPrices_0 : decode cX7_setPrices 0 = .ok (.iconst 0, 1) := by decide +kernel
theorem dX7_setPrices_1 : decode cX7_setPrices 1 = .ok (.istore_n 1, 1) := by decide +kernel
theorem dX7_setPrices_2 : decode cX7_setPrices 2 = .ok (.iload_n 1, 1) := by decide +kernel
theorem dX7_setPrices_3 : decode cX7_setPrices 3 = .ok (.aload_n 0, 1) := by decide +kernel
theorem dX7_setPrices_4 : decode cX7_setPrices 4 = .ok (.getfield 49, 3) := by decide +kernel
theorem dX7_setPrices_7 : decode cX7_setPrices 7 = .ok (.getfield 82, 3) := by decide +kernel
theorem dX7_setPrices_10 : decode cX7_setPrices 10 = .ok (.if_icmp .ge 31, 3) := by decide +kernel
theorem dX7_setPrices_13 : decode cX7_setPrices 13 = .ok (.aload_n 0, 1) := by decide +kernel
theorem dX7_setPrices_14 : decode cX7_setPrices 14 = .ok (.getfield 54, 3) := by decide +kernel
theorem dX7_setPrices_17 : decode cX7_setPrices 17 = .ok (.iload_n 1, 1) := by decide +kernel
theorem dX7_setPrices_18 : decode cX7_setPrices 18 = .ok (.aload_n 0, 1) := by decide +kernel
theorem dX7_setPrices_19 : decode cX7_setPrices 19 = .ok (.getfield 12, 3) := by decide +kernel
theorem dX7_setPrices_22 : decode cX7_setPrices 22 = .ok (.aload_n 0, 1) := by decide +kernel
theorem dX7_setPrices_23 : decode cX7_setPrices 23 = .ok (.getfield 49, 3) := by decide +kernel
theorem dX7_setPrices_26 : decode cX7_setPrices 26 = .ok (.getfield 102, 3) := by decide +kernel
theorem dX7_setPrices_29 : decode cX7_setPrices 29 = .ok (.iload_n 1, 1) := by decide +kernel
theorem dX7_setPrices_30 : decode cX7_setPrices 30 = .ok (.iaload, 1) := by decide +kernel
theorem dX7_setPrices_31 : decode cX7_setPrices 31 = .ok (.invokevirtual 105, 3) := by decide +kernel
theorem dX7_setPrices_34 : decode cX7_setPrices 34 = .ok (.iastore, 1) := by decide +kernel
theorem dX7_setPrices_35 : decode cX7_setPrices 35 = .ok (.iinc 1 1, 3) := by decide +kernel
theorem dX7_setPrices_38 : decode cX7_setPrices 38 = .ok (.goto (-36), 3) := by decide +kernel
theorem dX7_setPrices_41 : decode cX7_setPrices 41 = .ok (.iconst 0, 1) := by decide +kernel
theorem dX7_setPrices_42 : decode cX7_setPrices 42 = .ok (.istore_n 1, 1) := by decide +kernel
theorem dX7_setPrices_43 : decode cX7_setPrices 43 = .ok (.iload_n 1, 1) := by decide +kernel
theorem dX7_setPrices_44 : decode cX7_setPrices 44 = .ok (.aload_n 0, 1) := by decide +kernel
theorem dX7_setPrices_45 : decode cX7_setPrices 45 = .ok (.getfield 45, 3) := by decide +kernel
theorem dX7_setPrices_48 : decode cX7_setPrices 48 = .ok (.getfield 82, 3) := by decide +kernel
