def X9_isKey (i1 : Int) (i2 : Int) (i3 : Int) (s : St) : Rs := cl (X9_above i1 i2 s) (fun v1 s2 => cEq v1 (-9) (some (1, s2)) (cEq i3 0 (cl (X9_leftOf i1 i2 s2) (fun v3 s4 => cl (X9_leftOf i1 v1 s4) (fun v5 s6 => cLt v5 v3 (some (1, s6)) (some (0, s6))))) (cLt i2 (v1 - 1) (some (1, s2)) (some (0, s2)))))
theorem hd_X9_isKey : yX9_isKey.cls ≠ "java/lang/invoke/MethodHandle" ∧ yX9_isKey.cls ≠ "java/lang/invoke/VarHandle" ∧ (parseMethodDescriptor yX9_isKey.desc).map (fun d => d.parameters.length) = some 3 := by decide +kernel
set_option maxRecDepth 20000 in
set_option maxHeartbeats 4000000 in
theorem ct_X9_isKey  (i1 : Int) (i2 : Int) (i3 : Int) (s : St) : Ctr LM yX9_isKey cX9_isKey 5 (Option.some .boolean) 1 2 45 [vR 0, vI i1, vI i2, vI i3] s (X9_isKey i1 i2 i3 s) := by
  refine Ctr.of (by decide +kernel) (fun ρ => Nat.le_of_ble_eq_true rfl) (lv := [(0, vR 0), (1, vI i1), (2, vI i2), (3, vI i3)]) (fun ρ => rfl) (fun K X O hrt hfr hlo => ?_)
  unfold X9_isKey
  refine g_aload_n O dX9_isKey_0 rfl 0 rfl ?_
  refine g_iload_n O dX9_isKey_1 rfl 1 rfl ?_
  refine g_iload_n O dX9_isKey_2 rfl 2 rfl ?_
  refine g_callV1 (As := [vI i1, vI i2]) (rest := []) (b := 0) (ci := 9) O mw_5_26 mw_5_28 mp_3_13 mw_5_29 mw_1_10 hd_X9_above rfl ⟨_, _, rfl⟩ rfl dX9_isKey_3 (ct_X9_above i1 i2 s) (by rw [hfr]; decide) (by rw [hlo]; decide) (Nat.le_of_ble_eq_true rfl) (fun v1 s2 => ?_)
  refine g_istore (lv2 := [(4, vI v1), (0, vR 0), (1, vI i1), (2, vI i2), (3, vI i3)]) O dX9_isKey_6 (by decide) rfl ?_
  refine g_iload O dX9_isKey_8 0 rfl ?_
  refine g_bipush O dX9_isKey_10 (by decide +kernel) ?_
  refine g_icmp_eq (tgt := 46) O dX9_isKey_12 (by decide) ?_ ?_
  · refine g_iconst O dX9_isKey_46 ?_
    refine g_goto (tgt := 51) O dX9_isKey_47 (by decide) ?_
    exact g_iret O hrt (by decide +kernel) dX9_isKey_51
  refine g_iload_n O dX9_isKey_15 rfl 4 rfl ?_
  refine g_if_ne (tgt := 38) O dX9_isKey_16 (by decide) ?_ ?_
  · refine g_iload_n O dX9_isKey_38 rfl 3 rfl ?_
    refine g_iload O dX9_isKey_39 0 rfl ?_
    refine g_iconst O dX9_isKey_41 ?_
    refine g_isub O dX9_isKey_42 ?_
    refine g_icmp_ge (tgt := 50) O dX9_isKey_43 (by decide) ?_ ?_
    · refine g_iconst O dX9_isKey_50 ?_
      exact g_iret O hrt (by decide +kernel) dX9_isKey_51
    refine g_iconst O dX9_isKey_46 ?_
    refine g_goto (tgt := 51) O dX9_isKey_47 (by decide) ?_
    exact g_iret O hrt (by decide +kernel) dX9_isKey_51
  refine g_aload_n O dX9_isKey_19 rfl 1 rfl ?_
  refine g_iload_n O dX9_isKey_20 rfl 2 rfl ?_
  refine g_iload_n O dX9_isKey_21 rfl 3 rfl ?_
  refine g_callV1 (As := [vI i1, vI i2]) (rest := []) (b := 0) (ci := 9) O mw_4_235 mw_4_237 mp_3_7 mw_4_238 mw_1_10 hd_X9_leftOf rfl ⟨_, _, rfl⟩ rfl dX9_isKey_22 (ct_X9_leftOf i1 i2 s2) (by rw [hfr]; decide) (by rw [hlo]; decide) (Nat.le_of_ble_eq_true rfl) (fun v3 s4 => ?_)
  refine g_aload_n O dX9_isKey_25 rfl 1 rfl ?_
  refine g_iload_n O dX9_isKey_26 rfl 2 rfl ?_
  refine g_iload O dX9_isKey_27 0 rfl ?_
  refine g_callV1 (As := [vI i1, vI v1]) (rest := [vI v3]) (b := 0) (ci := 9) O mw_4_235 mw_4_237 mp_3_7 mw_4_238 mw_1_10 hd_X9_leftOf rfl ⟨_, _, rfl⟩ rfl dX9_isKey_29 (ct_X9_leftOf i1 v1 s4) (by rw [hfr]; decide) (by rw [hlo]; decide) (Nat.le_of_ble_eq_true rfl) (fun v5 s6 => ?_)
  refine g_icmp_le (tgt := 50) O dX9_isKey_32 (by decide) ?_ ?_
  · refine g_iconst O dX9_isKey_50 ?_
    exact g_iret O hrt (by decide +kernel) dX9_isKey_51
  refine g_goto (tgt := 46) O dX9_isKey_35 (by decide) ?_
  refine g_iconst O dX9_isKey_46 ?_
  refine g_goto (tgt := 51) O dX9_isKey_47 (by decide) ?_
  exact g_iret O hrt (by decide +kernel) dX9_isKey_51
def X9_weight (i0 : Int) (s : St) : Rs := cl (X9_kindOf i0 s) (fun v1 s2 => cEq v1 3 (some (3, s2)) (cEq v1 1 (some (2, s2)) (some (1, s2))))
theorem hd_X9_weight : yX9_weight.cls ≠ "java/lang/invoke/MethodHandle" ∧ yX9_weight.cls ≠ "java/lang/invoke/VarHandle" ∧ (parseMethodDescriptor yX9_weight.desc).map (fun d => d.parameters.length) = some 1 := by decide +kernel
set_option maxRecDepth 20000 in
set_option maxHeartbeats 4000000 in
theorem ct_X9_weight  (i0 : Int) (s : St) : Ctr LM yX9_weight cX9_weight 2 (Option.some .int) 1 1 20 [vI i0] s (X9_weight i0 s) := by
  refine Ctr.of (by decide +kernel) (fun ρ => Nat.le_of_ble_eq_true rfl) (lv := [(0, vI i0)]) (fun ρ => rfl) (fun K X O hrt hfr hlo => ?_)
  unfold X9_weight
  refine g_iload_n O dX9_weight_0 rfl 0 rfl ?_
  refine g_callS1 (As := [vI i0]) (rest := []) O mw_5_19 mw_5_20 mw_5_21 mw_1_10 hd_X9_kindOf rfl dX9_weight_1 (ct_X9_kindOf i0 s) (by rw [hfr]; decide) (by rw [hlo]; decide) (Nat.le_of_ble_eq_true rfl) (fun v1 s2 => ?_)
  refine g_istore_n (lv2 := [(1, vI v1), (0, vI i0)]) O dX9_weight_4 rfl (by decide) rfl ?_
  refine g_iload_n O dX9_weight_5 rfl 0 rfl ?_
  refine g_iconst O dX9_weight_6 ?_
  refine g_icmp_ne (tgt := 14) O dX9_weight_7 (by decide) ?_ ?_
  · refine g_iload_n O dX9_weight_14 rfl 0 rfl ?_
    refine g_iconst O dX9_weight_15 ?_
    refine g_icmp_ne (tgt := 23) O dX9_weight_16 (by decide) ?_ ?_
    · refine g_iconst O dX9_weight_23 ?_
      exact g_iret O hrt rfl dX9_weight_24
    refine g_iconst O dX9_weight_19 ?_
    refine g_goto (tgt := 24) O dX9_weight_20 (by decide) ?_
    exact g_iret O hrt rfl dX9_weight_24
  refine g_iconst O dX9_weight_10 ?_
  refine g_goto (tgt := 24) O dX9_weight_11 (by decide) ?_
  exact g_iret O hrt rfl dX9_weight_24
def X9_node (i1 : Int) (i2 : Int) (i3 : Int) (s : St) : Rs := cl (X9_isNode i1 i2 s) (fun v1 s2 => cEq v1 0 (some ((-1), s2)) (cl (X9_in i3 0 8 s2) (fun v3 s4 => cEq v3 0 (some ((-1), s4)) (gR i3 (if i3 = 0 then cl (X9_codeOf i1 i2 s4) (fun v5 s6 => cl (X9_tells v5 1 s6) (fun v7 s8 => some (v7, s8))) else (if i3 = 1 then cl (X9_codeOf i1 i2 s4) (fun v9 s10 => cl (X9_kindOf v9 s10) (fun v11 s12 => cl (X9_tells v11 1 s12) (fun v13 s14 => some (v13, s14)))) else (if i3 = 2 then cl (X9_leftOf i1 i2 s4) (fun v15 s16 => cl (X9_tells v15 1 s16) (fun v17 s18 => some (v17, s18))) else (if i3 = 3 then cl (X9_rightBeneath i1 i2 s4) (fun v19 s20 => cl (X9_tells v19 1 s20) (fun v21 s22 => some (v21, s22))) else (if i3 = 4 then cl (X9_above i1 i2 s4) (fun v23 s24 => cl (X9_tells v23 1 s24) (fun v25 s26 => some (v25, s26))) else (if i3 = 5 then cl (X9_isKey i1 i2 (i3 - 5) s4) (fun v27 s28 => cEq v27 0 (cl (X9_tells 0 1 s28) (fun v29 s30 => some (v29, s30))) (cl (X9_tells 1 1 s28) (fun v31 s32 => some (v31, s32)))) else (if i3 = 6 then cl (X9_isKey i1 i2 (i3 - 5) s4) (fun v33 s34 => cEq v33 0 (cl (X9_tells 0 1 s34) (fun v35 s36 => some (v35, s36))) (cl (X9_tells 1 1 s34) (fun v37 s38 => some (v37, s38)))) else (rd s4 5 53 ((50 + i3) - 7) (fun v39 => cl (X9_codeOf i1 i2 s4) (fun v40 s41 => cl (X9_weight v40 s41) (fun v42 s43 => cl (X9_tells (v39 * v42) 1 s43) (fun v44 s45 => some (v44, s45)))))))))))))))))
theorem hd_X9_node : yX9_node.cls ≠ "java/lang/invoke/MethodHandle" ∧ yX9_node.cls ≠ "java/lang/invoke/VarHandle" ∧ (parseMethodDescriptor yX9_node.desc).map (fun d => d.parameters.length) = some 3 := by decide +kernel
set_option maxRecDepth 20000 in
set_option maxHeartbeats 4000000 in
theorem ct_X9_node  (i1 : Int) (i2 : Int) (i3 : Int) (s : St) : Ctr LM yX9_node cX9_node 4 (Option.some .int) 1 3 69 [vR 0, vI i1, vI i2, vI i3] s (X9_node i1 i2 i3 s) := by
  refine Ctr.of (by decide +kernel) (fun ρ => Nat.le_of_ble_eq_true rfl) (lv := [(0, vR 0), (1, vI i1), (2, vI i2), (3, vI i3)]) (fun ρ => rfl) (fun K X O hrt hfr hlo => ?_)
  unfold X9_node
  refine g_aload_n O dX9_node_0 rfl 0 rfl ?_
  refine g_iload_n O dX9_node_1 rfl 1 rfl ?_
  refine g_iload_n O dX9_node_2 rfl 2 rfl ?_
  refine g_callV1 (As := [vI i1, vI i2]) (rest := []) (b := 0) (ci := 9) O mw_5_15 mw_5_17 mp_3_11 mw_5_18 mw_1_10 hd_X9_isNode rfl ⟨_, _, rfl⟩ rfl dX9_node_3 (ct_X9_isNode i1 i2 s) (by rw [hfr]; decide) (by rw [hlo]; decide) (Nat.le_of_ble_eq_true rfl) (fun v1 s2 => ?_)
  refine g_if_eq (tgt := 19) O dX9_node_6 (by decide) ?_ ?_
  · refine g_iconst O dX9_node_19 ?_
    exact g_iret O hrt rfl dX9_node_20
  refine g_iload_n O dX9_node_9 rfl 3 rfl ?_
  refine g_iconst O dX9_node_10 ?_
  refine g_bipush O dX9_node_11 (by decide +kernel) ?_
  refine g_callS1 (As := [vI i3, vI 0, vI 8]) (rest := []) O mw_4_133 mw_4_134 mw_4_135 mw_1_10 hd_X9_in rfl dX9_node_13 (ct_X9_in i3 0 8 s2) (by rw [hfr]; decide) (by rw [hlo]; decide) (Nat.le_of_ble_eq_true rfl) (fun v3 s4 => ?_)
  refine g_if_ne (tgt := 21) O dX9_node_16 (by decide) ?_ ?_
  · refine g_iload_n O dX9_node_21 rfl 3 rfl ?_
    refine g_gR (fun hr1 => ?_)
    refine g_ite (fun hc2 => ?_) (fun hc2 => ?_)
    · refine g_tin (k := 0) (tgt := 64) O dX9_node_22 hr1 hc2 (by decide) (by decide) rfl (by decide) ?_
      refine g_aload_n O dX9_node_64 rfl 0 rfl ?_
      refine g_aload_n O dX9_node_65 rfl 0 rfl ?_
      refine g_iload_n O dX9_node_66 rfl 1 rfl ?_
      refine g_iload_n O dX9_node_67 rfl 2 rfl ?_
      refine g_callV1 (As := [vI i1, vI i2]) (rest := [vR 0]) (b := 0) (ci := 9) O mw_4_220 mw_4_222 mp_3_4 mw_4_223 mw_1_10 hd_X9_codeOf rfl ⟨_, _, rfl⟩ rfl dX9_node_68 (ct_X9_codeOf i1 i2 s4) (by rw [hfr]; decide) (by rw [hlo]; decide) (Nat.le_of_ble_eq_true rfl) (fun v5 s6 => ?_)
      refine g_iconst O dX9_node_71 ?_
      refine g_callV1 (As := [vI v5, vI 1]) (rest := []) (b := 0) (ci := 9) O mw_4_152 mw_4_154 mp_2_15 mw_4_155 mw_1_10 hd_X9_tells rfl ⟨_, _, rfl⟩ rfl dX9_node_72 (ct_X9_tells v5 1 s6) (by rw [hfr]; decide) (by rw [hlo]; decide) (Nat.le_of_ble_eq_true rfl) (fun v7 s8 => ?_)
      exact g_iret O hrt rfl dX9_node_75
    refine g_ite (fun hc3 => ?_) (fun hc3 => ?_)
    · refine g_tin (k := 1) (tgt := 76) O dX9_node_22 hr1 hc3 (by decide) (by decide) rfl (by decide) ?_
      refine g_aload_n O dX9_node_76 rfl 0 rfl ?_
      refine g_aload_n O dX9_node_77 rfl 0 rfl ?_
      refine g_iload_n O dX9_node_78 rfl 1 rfl ?_
      refine g_iload_n O dX9_node_79 rfl 2 rfl ?_
      refine g_callV1 (As := [vI i1, vI i2]) (rest := [vR 0]) (b := 0) (ci := 9) O mw_4_220 mw_4_222 mp_3_4 mw_4_223 mw_1_10 hd_X9_codeOf rfl ⟨_, _, rfl⟩ rfl dX9_node_80 (ct_X9_codeOf i1 i2 s4) (by rw [hfr]; decide) (by rw [hlo]; decide) (Nat.le_of_ble_eq_true rfl) (fun v9 s10 => ?_)
      refine g_callS1 (As := [vI v9]) (rest := [vR 0]) O mw_5_19 mw_5_20 mw_5_21 mw_1_10 hd_X9_kindOf rfl dX9_node_83 (ct_X9_kindOf v9 s10) (by rw [hfr]; decide) (by rw [hlo]; decide) (Nat.le_of_ble_eq_true rfl) (fun v11 s12 => ?_)
      refine g_iconst O dX9_node_86 ?_
      refine g_callV1 (As := [vI v11, vI 1]) (rest := []) (b := 0) (ci := 9) O mw_4_152 mw_4_154 mp_2_15 mw_4_155 mw_1_10 hd_X9_tells rfl ⟨_, _, rfl⟩ rfl dX9_node_87 (ct_X9_tells v11 1 s12) (by rw [hfr]; decide) (by rw [hlo]; decide) (Nat.le_of_ble_eq_true rfl) (fun v13 s14 => ?_)
      exact g_iret O hrt rfl dX9_node_90
    refine g_ite (fun hc4 => ?_) (fun hc4 => ?_)
    · refine g_tin (k := 2) (tgt := 91) O dX9_node_22 hr1 hc4 (by decide) (by decide) rfl (by decide) ?_
      refine g_aload_n O dX9_node_91 rfl 0 rfl ?_
      refine g_aload_n O dX9_node_92 rfl 0 rfl ?_
      refine g_iload_n O dX9_node_93 rfl 1 rfl ?_
      refine g_iload_n O dX9_node_94 rfl 2 rfl ?_
      refine g_callV1 (As := [vI i1, vI i2]) (rest := [vR 0]) (b := 0) (ci := 9) O mw_4_235 mw_4_237 mp_3_7 mw_4_238 mw_1_10 hd_X9_leftOf rfl ⟨_, _, rfl⟩ rfl dX9_node_95 (ct_X9_leftOf i1 i2 s4) (by rw [hfr]; decide) (by rw [hlo]; decide) (Nat.le_of_ble_eq_true rfl) (fun v15 s16 => ?_)
      refine g_iconst O dX9_node_98 ?_
      refine g_callV1 (As := [vI v15, vI 1]) (rest := []) (b := 0) (ci := 9) O mw_4_152 mw_4_154 mp_2_15 mw_4_155 mw_1_10 hd_X9_tells rfl ⟨_, _, rfl⟩ rfl dX9_node_99 (ct_X9_tells v15 1 s16) (by rw [hfr]; decide) (by rw [hlo]; decide) (Nat.le_of_ble_eq_true rfl) (fun v17 s18 => ?_)
      exact g_iret O hrt rfl dX9_node_102
    refine g_ite (fun hc5 => ?_) (fun hc5 => ?_)
    · refine g_tin (k := 3) (tgt := 103) O dX9_node_22 hr1 hc5 (by decide) (by decide) rfl (by decide) ?_
      refine g_aload_n O dX9_node_103 rfl 0 rfl ?_
      refine g_aload_n O dX9_node_104 rfl 0 rfl ?_
      refine g_iload_n O dX9_node_105 rfl 1 rfl ?_
      refine g_iload_n O dX9_node_106 rfl 2 rfl ?_
      refine g_callV1 (As := [vI i1, vI i2]) (rest := [vR 0]) (b := 0) (ci := 9) O mw_5_22 mw_5_24 mp_3_12 mw_5_25 mw_1_10 hd_X9_rightBeneath rfl ⟨_, _, rfl⟩ rfl dX9_node_107 (ct_X9_rightBeneath i1 i2 s4) (by rw [hfr]; decide) (by rw [hlo]; decide) (Nat.le_of_ble_eq_true rfl) (fun v19 s20 => ?_)
      refine g_iconst O dX9_node_110 ?_
      refine g_callV1 (As := [vI v19, vI 1]) (rest := []) (b := 0) (ci := 9) O mw_4_152 mw_4_154 mp_2_15 mw_4_155 mw_1_10 hd_X9_tells rfl ⟨_, _, rfl⟩ rfl dX9_node_111 (ct_X9_tells v19 1 s20) (by rw [hfr]; decide) (by rw [hlo]; decide) (Nat.le_of_ble_eq_true rfl) (fun v21 s22 => ?_)
      exact g_iret O hrt rfl dX9_node_114
    refine g_ite (fun hc6 => ?_) (fun hc6 => ?_)
    · refine g_tin (k := 4) (tgt := 115) O dX9_node_22 hr1 hc6 (by decide) (by decide) rfl (by decide) ?_
      refine g_aload_n O dX9_node_115 rfl 0 rfl ?_
      refine g_aload_n O dX9_node_116 rfl 0 rfl ?_
      refine g_iload_n O dX9_node_117 rfl 1 rfl ?_
      refine g_iload_n O dX9_node_118 rfl 2 rfl ?_
      refine g_callV1 (As := [vI i1, vI i2]) (rest := [vR 0]) (b := 0) (ci := 9) O mw_5_26 mw_5_28 mp_3_13 mw_5_29 mw_1_10 hd_X9_above rfl ⟨_, _, rfl⟩ rfl dX9_node_119 (ct_X9_above i1 i2 s4) (by rw [hfr]; decide) (by rw [hlo]; decide) (Nat.le_of_ble_eq_true rfl) (fun v23 s24 => ?_)
      refine g_iconst O dX9_node_122 ?_
      refine g_callV1 (As := [vI v23, vI 1]) (rest := []) (b := 0) (ci := 9) O mw_4_152 mw_4_154 mp_2_15 mw_4_155 mw_1_10 hd_X9_tells rfl ⟨_, _, rfl⟩ rfl dX9_node_123 (ct_X9_tells v23 1 s24) (by rw [hfr]; decide) (by rw [hlo]; decide) (Nat.le_of_ble_eq_true rfl) (fun v25 s26 => ?_)
      exact g_iret O hrt rfl dX9_node_126
    refine g_ite (fun hc7 => ?_) (fun hc7 => ?_)
    · refine g_tin (k := 5) (tgt := 127) O dX9_node_22 hr1 hc7 (by decide) (by decide) rfl (by decide) ?_
      refine g_aload_n O dX9_node_127 rfl 0 rfl ?_
      refine g_aload_n O dX9_node_128 rfl 0 rfl ?_
      refine g_iload_n O dX9_node_129 rfl 1 rfl ?_
      refine g_iload_n O dX9_node_130 rfl 2 rfl ?_
      refine g_iload_n O dX9_node_131 rfl 3 rfl ?_
      refine g_iconst O dX9_node_132 ?_
      refine g_isub O dX9_node_133 ?_
      refine g_callV1 (As := [vI i1, vI i2, vI (i3 - 5)]) (rest := [vR 0]) (b := 0) (ci := 9) O mw_5_30 mw_5_32 mp_3_14 mw_5_33 mw_1_10 hd_X9_isKey rfl ⟨_, _, rfl⟩ rfl dX9_node_134 (ct_X9_isKey i1 i2 (i3 - 5) s4) (by rw [hfr]; decide) (by rw [hlo]; decide) (Nat.le_of_ble_eq_true rfl) (fun v27 s28 => ?_)
      refine g_if_eq (tgt := 144) O dX9_node_137 (by decide) ?_ ?_
      · refine g_iconst O dX9_node_144 ?_
        refine g_iconst O dX9_node_145 ?_
        refine g_callV1 (As := [vI 0, vI 1]) (rest := []) (b := 0) (ci := 9) O mw_4_152 mw_4_154 mp_2_15 mw_4_155 mw_1_10 hd_X9_tells rfl ⟨_, _, rfl⟩ rfl dX9_node_146 (ct_X9_tells 0 1 s28) (by rw [hfr]; decide) (by rw [hlo]; decide) (Nat.le_of_ble_eq_true rfl) (fun v29 s30 => ?_)
        exact g_iret O hrt rfl dX9_node_149
      refine g_iconst O dX9_node_140 ?_
      refine g_goto (tgt := 145) O dX9_node_141 (by decide) ?_
      refine g_iconst O dX9_node_145 ?_
      refine g_callV1 (As := [vI 1, vI 1]) (rest := []) (b := 0) (ci := 9) O mw_4_152 mw_4_154 mp_2_15 mw_4_155 mw_1_10 hd_X9_tells rfl ⟨_, _, rfl⟩ rfl dX9_node_146 (ct_X9_tells 1 1 s28) (by rw [hfr]; decide) (by rw [hlo]; decide) (Nat.le_of_ble_eq_true rfl) (fun v31 s32 => ?_)
      exact g_iret O hrt rfl dX9_node_149
    refine g_ite (fun hc8 => ?_) (fun hc8 => ?_)
    · refine g_tin (k := 6) (tgt := 127) O dX9_node_22 hr1 hc8 (by decide) (by decide) rfl (by decide) ?_
      refine g_aload_n O dX9_node_127 rfl 0 rfl ?_
      refine g_aload_n O dX9_node_128 rfl 0 rfl ?_
      refine g_iload_n O dX9_node_129 rfl 1 rfl ?_
      refine g_iload_n O dX9_node_130 rfl 2 rfl ?_
      refine g_iload_n O dX9_node_131 rfl 3 rfl ?_
      refine g_iconst O dX9_node_132 ?_
      refine g_isub O dX9_node_133 ?_
      refine g_callV1 (As := [vI i1, vI i2, vI (i3 - 5)]) (rest := [vR 0]) (b := 0) (ci := 9) O mw_5_30 mw_5_32 mp_3_14 mw_5_33 mw_1_10 hd_X9_isKey rfl ⟨_, _, rfl⟩ rfl dX9_node_134 (ct_X9_isKey i1 i2 (i3 - 5) s4) (by rw [hfr]; decide) (by rw [hlo]; decide) (Nat.le_of_ble_eq_true rfl) (fun v33 s34 => ?_)
      refine g_if_eq (tgt := 144) O dX9_node_137 (by decide) ?_ ?_
      · refine g_iconst O dX9_node_144 ?_
        refine g_iconst O dX9_node_145 ?_
        refine g_callV1 (As := [vI 0, vI 1]) (rest := []) (b := 0) (ci := 9) O mw_4_152 mw_4_154 mp_2_15 mw_4_155 mw_1_10 hd_X9_tells rfl ⟨_, _, rfl⟩ rfl dX9_node_146 (ct_X9_tells 0 1 s34) (by rw [hfr]; decide) (by rw [hlo]; decide) (Nat.le_of_ble_eq_true rfl) (fun v35 s36 => ?_)
        exact g_iret O hrt rfl dX9_node_149
      refine g_iconst O dX9_node_140 ?_
      refine g_goto (tgt := 145) O dX9_node_141 (by decide) ?_
      refine g_iconst O dX9_node_145 ?_
      refine g_callV1 (As := [vI 1, vI 1]) (rest := []) (b := 0) (ci := 9) O mw_4_152 mw_4_154 mp_2_15 mw_4_155 mw_1_10 hd_X9_tells rfl ⟨_, _, rfl⟩ rfl dX9_node_146 (ct_X9_tells 1 1 s34) (by rw [hfr]; decide) (by rw [hlo]; decide) (Nat.le_of_ble_eq_true rfl) (fun v37 s38 => ?_)
      exact g_iret O hrt rfl dX9_node_149
    refine g_tout (tgt := 150) O dX9_node_22 hr1 (by omega) (by decide) ?_
    refine g_aload_n O dX9_node_150 rfl 0 rfl ?_
    refine g_aload_n O dX9_node_151 rfl 0 rfl ?_
    refine g_getR O fw_9_22 rfl dX9_node_152 rfl ?_
    refine g_bipush O dX9_node_155 (by decide +kernel) ?_
    refine g_iload_n O dX9_node_157 rfl 3 rfl ?_
    refine g_iadd O dX9_node_158 ?_
    refine g_bipush O dX9_node_159 (by decide +kernel) ?_
    refine g_isub O dX9_node_161 ?_
    refine g_iald O rfl (by decide) dX9_node_162 (fun v39 => ?_)
    refine g_aload_n O dX9_node_163 rfl 0 rfl ?_
    refine g_iload_n O dX9_node_164 rfl 1 rfl ?_
    refine g_iload_n O dX9_node_165 rfl 2 rfl ?_
    refine g_callV1 (As := [vI i1, vI i2]) (rest := [vI v39, vR 0]) (b := 0) (ci := 9) O mw_4_220 mw_4_222 mp_3_4 mw_4_223 mw_1_10 hd_X9_codeOf rfl ⟨_, _, rfl⟩ rfl dX9_node_166 (ct_X9_codeOf i1 i2 s4) (by rw [hfr]; decide) (by rw [hlo]; decide) (Nat.le_of_ble_eq_true rfl) (fun v40 s41 => ?_)
    refine g_callS1 (As := [vI v40]) (rest := [vI v39, vR 0]) O mw_5_34 mw_5_35 mw_5_36 mw_1_10 hd_X9_weight rfl dX9_node_169 (ct_X9_weight v40 s41) (by rw [hfr]; decide) (by rw [hlo]; decide) (Nat.le_of_ble_eq_true rfl) (fun v42 s43 => ?_)
    refine g_imul O dX9_node_172 ?_
    refine g_iconst O dX9_node_173 ?_
    refine g_callV1 (As := [vI (v39 * v42), vI 1]) (rest := []) (b := 0) (ci := 9) O mw_4_152 mw_4_154 mp_2_15 mw_4_155 mw_1_10 hd_X9_tells rfl ⟨_, _, rfl⟩ rfl dX9_node_174 (ct_X9_tells (v39 * v42) 1 s43) (by rw [hfr]; decide) (by rw [hlo]; decide) (Nat.le_of_ble_eq_true rfl) (fun v44 s45 => ?_)
    exact g_iret O hrt rfl dX9_node_177
  refine g_iconst O dX9_node_19 ?_
  exact g_iret O hrt rfl dX9_node_20
def X9_headsBeneath_10 (i1 : Int) (i2 : Int) (k : Int → St → Rs) : Nat → Int → Int → St → Rs
  | 0, _, _, _ => none
  | n + 1, i3, i4, s => cLt i4 i2 (cl (X9_codeOf i1 i4 s) (fun v1 s2 => cl (X9_kindOf v1 s2) (fun v3 s4 => cl (X9_isA v3 1 s4) (fun v5 s6 => cEq v5 0 (X9_headsBeneath_10 i1 i2 k n (i3 + 0) (i4 + 1) s6) (X9_headsBeneath_10 i1 i2 k n (i3 + 1) (i4 + 1) s6))))) (k i3 s)
def X9_headsBeneath (i1 : Int) (i2 : Int) (s : St) : Rs := cl (X9_leftOf i1 i2 s) (fun v1 s2 => X9_headsBeneath_10 i1 i2 (fun x3 s4 => some (x3, s4)) FU 0 v1 s2)
set_option maxRecDepth 20000 in
set_option maxHeartbeats 4000000 in
theorem lt_X9_headsBeneath_10 {K : Cx} {X : Wx} (O : OKx LM K X yX9_headsBeneath.cls cX9_headsBeneath 5) (hrt : (kMe K).sig.returnType = (Option.some .int)) (hfr : (kR K).frames = 1) (hlo : (kR K).locals = 22) {i1 : Int} {i2 : Int} {k : Int → St → Rs}  (hk : ∀ (i3 : Int) (s : St), GX LM K X 5 1 47 [(3, vI i3)] [] s (k i3 s)) : ∀ (n : Nat) (i3 : Int) (i4 : Int) (s : St), GX LM K X 5 1 10 [(0, vR 0), (1, vI i1), (2, vI i2), (3, vI i3), (4, vI i4)] [] s (X9_headsBeneath_10 i1 i2 k n i3 i4 s) := by
  intro n
  induction n with
  | zero => intro i3 i4 s; exact GX.none
  | succ n ih =>
    intro i3 i4 s
    rw [X9_headsBeneath_10]
    refine g_iload O dX9_headsBeneath_10 4 rfl ?_
    refine g_iload_n O dX9_headsBeneath_12 rfl 2 rfl ?_
    refine g_icmp_ge (tgt := 47) O dX9_headsBeneath_13 (by decide) ?_ ?_
    · refine g_pick [3] rfl ?_
      exact hk i3 s
    refine g_iload_n O dX9_headsBeneath_16 rfl 3 rfl ?_
    refine g_aload_n O dX9_headsBeneath_17 rfl 0 rfl ?_
    refine g_iload_n O dX9_headsBeneath_18 rfl 1 rfl ?_
    refine g_iload O dX9_headsBeneath_19 4 rfl ?_
    refine g_callV1 (As := [vI i1, vI i4]) (rest := [vI i3]) (b := 0) (ci := 9) O mw_4_220 mw_4_222 mp_3_4 mw_4_223 mw_1_10 hd_X9_codeOf rfl ⟨_, _, rfl⟩ rfl dX9_headsBeneath_21 (ct_X9_codeOf i1 i4 s) (by rw [hfr]; decide) (by rw [hlo]; decide) (Nat.le_of_ble_eq_true rfl) (fun v1 s2 => ?_)
    refine g_callS1 (As := [vI v1]) (rest := [vI i3]) O mw_5_19 mw_5_20 mw_5_21 mw_1_10 hd_X9_kindOf rfl dX9_headsBeneath_24 (ct_X9_kindOf v1 s2) (by rw [hfr]; decide) (by rw [hlo]; decide) (Nat.le_of_ble_eq_true rfl) (fun v3 s4 => ?_)
    refine g_iconst O dX9_headsBeneath_27 ?_
    refine g_callS1 (As := [vI v3, vI 1]) (rest := [vI i3]) O mw_5_41 mw_5_42 mw_5_43 mw_1_10 hd_X9_isA rfl dX9_headsBeneath_28 (ct_X9_isA v3 1 s4) (by rw [hfr]; decide) (by rw [hlo]; decide) (Nat.le_of_ble_eq_true rfl) (fun v5 s6 => ?_)
    refine g_if_eq (tgt := 38) O dX9_headsBeneath_31 (by decide) ?_ ?_
    · refine g_iconst O dX9_headsBeneath_38 ?_
      refine g_iadd O dX9_headsBeneath_39 ?_
      refine g_istore_n (lv2 := [(3, vI (i3 + 0)), (0, vR 0), (1, vI i1), (2, vI i2), (4, vI i4)]) O dX9_headsBeneath_40 rfl (by decide) rfl ?_
      refine g_iinc (lv2 := [(4, vI (i4 + 1)), (3, vI (i3 + 0)), (0, vR 0), (1, vI i1), (2, vI i2)]) O dX9_headsBeneath_41 4 rfl (by decide) rfl ?_
      refine g_goto (tgt := 10) O dX9_headsBeneath_44 (by decide) ?_
      refine g_pick [2, 3, 4, 1, 0] rfl ?_
      exact ih (i3 + 0) (i4 + 1) s6
    refine g_iconst O dX9_headsBeneath_34 ?_
    refine g_goto (tgt := 39) O dX9_headsBeneath_35 (by decide) ?_
    refine g_iadd O dX9_headsBeneath_39 ?_
    refine g_istore_n (lv2 := [(3, vI (i3 + 1)), (0, vR 0), (1, vI i1), (2, vI i2), (4, vI i4)]) O dX9_headsBeneath_40 rfl (by decide) rfl ?_
    refine g_iinc (lv2 := [(4, vI (i4 + 1)), (3, vI (i3 + 1)), (0, vR 0), (1, vI i1), (2, vI i2)]) O dX9_headsBeneath_41 4 rfl (by decide) rfl ?_
    refine g_goto (tgt := 10) O dX9_headsBeneath_44 (by decide) ?_
    refine g_pick [2, 3, 4, 1, 0] rfl ?_
    exact ih (i3 + 1) (i4 + 1) s6
theorem hd_X9_headsBeneath : yX9_headsBeneath.cls ≠ "java/lang/invoke/MethodHandle" ∧ yX9_headsBeneath.cls ≠ "java/lang/invoke/VarHandle" ∧ (parseMethodDescriptor yX9_headsBeneath.desc).map (fun d => d.parameters.length) = some 2 := by decide +kernel
set_option maxRecDepth 20000 in
set_option maxHeartbeats 4000000 in
theorem ct_X9_headsBeneath  (i1 : Int) (i2 : Int) (s : St) : Ctr LM yX9_headsBeneath cX9_headsBeneath 5 (Option.some .int) 1 1 22 [vR 0, vI i1, vI i2] s (X9_headsBeneath i1 i2 s) := by
  refine Ctr.of (by decide +kernel) (fun ρ => Nat.le_of_ble_eq_true rfl) (lv := [(0, vR 0), (1, vI i1), (2, vI i2)]) (fun ρ => rfl) (fun K X O hrt hfr hlo => ?_)
  unfold X9_headsBeneath
  refine g_iconst O dX9_headsBeneath_0 ?_
  refine g_istore_n (lv2 := [(3, vI 0), (0, vR 0), (1, vI i1), (2, vI i2)]) O dX9_headsBeneath_1 rfl (by decide) rfl ?_
  refine g_aload_n O dX9_headsBeneath_2 rfl 1 rfl ?_
  refine g_iload_n O dX9_headsBeneath_3 rfl 2 rfl ?_
  refine g_iload_n O dX9_headsBeneath_4 rfl 3 rfl ?_
  refine g_callV1 (As := [vI i1, vI i2]) (rest := []) (b := 0) (ci := 9) O mw_4_235 mw_4_237 mp_3_7 mw_4_238 mw_1_10 hd_X9_leftOf rfl ⟨_, _, rfl⟩ rfl dX9_headsBeneath_5 (ct_X9_leftOf i1 i2 s) (by rw [hfr]; decide) (by rw [hlo]; decide) (Nat.le_of_ble_eq_true rfl) (fun v1 s2 => ?_)
  refine g_istore (lv2 := [(4, vI v1), (3, vI 0), (0, vR 0), (1, vI i1), (2, vI i2)]) O dX9_headsBeneath_8 (by decide) rfl ?_
  refine g_pick [2, 3, 4, 1, 0] rfl ?_
  refine lt_X9_headsBeneath_10 O hrt hfr hlo  (fun x3 s4 => ?_) FU 0 v1 s2
  refine g_iload_n O dX9_headsBeneath_47 rfl 0 rfl ?_
  exact g_iret O hrt rfl dX9_headsBeneath_48
def X9_alikeIn_5 (i1 : Int) (i2 : Int) (k : Int → St → Rs) : Nat → Int → Int → St → Rs
  | 0, _, _, _ => none
  | n + 1, i3, i4, s => cl (X9_many i1 s) (fun v1 s2 => cLt i4 v1 (cl (X9_codeOf i1 i4 s2) (fun v3 s4 => cEq v3 i2 (X9_alikeIn_5 i1 i2 k n (i3 + 1) (i4 + 1) s4) (X9_alikeIn_5 i1 i2 k n (i3 + 0) (i4 + 1) s4))) (k i3 s2))
def X9_alikeIn (i1 : Int) (i2 : Int) (s : St) : Rs := X9_alikeIn_5 i1 i2 (fun x1 s2 => some (x1, s2)) FU 0 0 s
set_option maxRecDepth 20000 in
set_option maxHeartbeats 4000000 in
theorem lt_X9_alikeIn_5 {K : Cx} {X : Wx} (O : OKx LM K X yX9_alikeIn.cls cX9_alikeIn 5) (hrt : (kMe K).sig.returnType = (Option.some .int)) (hfr : (kR K).frames = 1) (hlo : (kR K).locals = 22) {i1 : Int} {i2 : Int} {k : Int → St → Rs}  (hk : ∀ (i3 : Int) (s : St), GX LM K X 5 1 40 [(3, vI i3)] [] s (k i3 s)) : ∀ (n : Nat) (i3 : Int) (i4 : Int) (s : St), GX LM K X 5 1 5 [(0, vR 0), (1, vI i1), (2, vI i2), (3, vI i3), (4, vI i4)] [] s (X9_alikeIn_5 i1 i2 k n i3 i4 s) := by
  intro n
  induction n with
  | zero => intro i3 i4 s; exact GX.none
  | succ n ih =>
    intro i3 i4 s
    rw [X9_alikeIn_5]
    refine g_iload O dX9_alikeIn_5 4 rfl ?_
    refine g_aload_n O dX9_alikeIn_7 rfl 0 rfl ?_
    refine g_iload_n O dX9_alikeIn_8 rfl 1 rfl ?_
    refine g_callV1 (As := [vI i1]) (rest := [vI i4]) (b := 0) (ci := 9) O mw_4_216 mw_4_218 mp_3_3 mw_4_219 mw_1_10 hd_X9_many rfl ⟨_, _, rfl⟩ rfl dX9_alikeIn_9 (ct_X9_many i1 s) (by rw [hfr]; decide) (by rw [hlo]; decide) (Nat.le_of_ble_eq_true rfl) (fun v1 s2 => ?_)
    refine g_icmp_ge (tgt := 40) O dX9_alikeIn_12 (by decide) ?_ ?_
    · refine g_pick [3] rfl ?_
      exact hk i3 s2
    refine g_iload_n O dX9_alikeIn_15 rfl 3 rfl ?_
    refine g_aload_n O dX9_alikeIn_16 rfl 0 rfl ?_
    refine g_iload_n O dX9_alikeIn_17 rfl 1 rfl ?_
    refine g_iload O dX9_alikeIn_18 4 rfl ?_
    refine g_callV1 (As := [vI i1, vI i4]) (rest := [vI i3]) (b := 0) (ci := 9) O mw_4_220 mw_4_222 mp_3_4 mw_4_223 mw_1_10 hd_X9_codeOf rfl ⟨_, _, rfl⟩ rfl dX9_alikeIn_20 (ct_X9_codeOf i1 i4 s2) (by rw [hfr]; decide) (by rw [hlo]; decide) (Nat.le_of_ble_eq_true rfl) (fun v3 s4 => ?_)
    refine g_iload_n O dX9_alikeIn_23 rfl 2 rfl ?_
    refine g_icmp_ne (tgt := 31) O dX9_alikeIn_24 (by decide) ?_ ?_
    · refine g_iconst O dX9_alikeIn_31 ?_
      refine g_iadd O dX9_alikeIn_32 ?_
      refine g_istore_n (lv2 := [(3, vI (i3 + 0)), (0, vR 0), (1, vI i1), (2, vI i2), (4, vI i4)]) O dX9_alikeIn_33 rfl (by decide) rfl ?_
      refine g_iinc (lv2 := [(4, vI (i4 + 1)), (3, vI (i3 + 0)), (0, vR 0), (1, vI i1), (2, vI i2)]) O dX9_alikeIn_34 4 rfl (by decide) rfl ?_
      refine g_goto (tgt := 5) O dX9_alikeIn_37 (by decide) ?_
      refine g_pick [2, 3, 4, 1, 0] rfl ?_
      exact ih (i3 + 0) (i4 + 1) s4
    refine g_iconst O dX9_alikeIn_27 ?_
    refine g_goto (tgt := 32) O dX9_alikeIn_28 (by decide) ?_
    refine g_iadd O dX9_alikeIn_32 ?_
    refine g_istore_n (lv2 := [(3, vI (i3 + 1)), (0, vR 0), (1, vI i1), (2, vI i2), (4, vI i4)]) O dX9_alikeIn_33 rfl (by decide) rfl ?_
    refine g_iinc (lv2 := [(4, vI (i4 + 1)), (3, vI (i3 + 1)), (0, vR 0), (1, vI i1), (2, vI i2)]) O dX9_alikeIn_34 4 rfl (by decide) rfl ?_
    refine g_goto (tgt := 5) O dX9_alikeIn_37 (by decide) ?_
    refine g_pick [2, 3, 4, 1, 0] rfl ?_
    exact ih (i3 + 1) (i4 + 1) s4
theorem hd_X9_alikeIn : yX9_alikeIn.cls ≠ "java/lang/invoke/MethodHandle" ∧ yX9_alikeIn.cls ≠ "java/lang/invoke/VarHandle" ∧ (parseMethodDescriptor yX9_alikeIn.desc).map (fun d => d.parameters.length) = some 2 := by decide +kernel
set_option maxRecDepth 20000 in
set_option maxHeartbeats 4000000 in
theorem ct_X9_alikeIn  (i1 : Int) (i2 : Int) (s : St) : Ctr LM yX9_alikeIn cX9_alikeIn 5 (Option.some .int) 1 1 22 [vR 0, vI i1, vI i2] s (X9_alikeIn i1 i2 s) := by
  refine Ctr.of (by decide +kernel) (fun ρ => Nat.le_of_ble_eq_true rfl) (lv := [(0, vR 0), (1, vI i1), (2, vI i2)]) (fun ρ => rfl) (fun K X O hrt hfr hlo => ?_)
  unfold X9_alikeIn
  refine g_iconst O dX9_alikeIn_0 ?_
  refine g_istore_n (lv2 := [(3, vI 0), (0, vR 0), (1, vI i1), (2, vI i2)]) O dX9_alikeIn_1 rfl (by decide) rfl ?_
  refine g_iconst O dX9_alikeIn_2 ?_
  refine g_istore (lv2 := [(4, vI 0), (3, vI 0), (0, vR 0), (1, vI i1), (2, vI i2)]) O dX9_alikeIn_3 (by decide) rfl ?_
  refine g_pick [2, 3, 4, 1, 0] rfl ?_
  refine lt_X9_alikeIn_5 O hrt hfr hlo  (fun x1 s2 => ?_) FU 0 0 s
  refine g_iload_n O dX9_alikeIn_40 rfl 0 rfl ?_
  exact g_iret O hrt rfl dX9_alikeIn_41
def X9_deepOf_10 (i1 : Int) (k : Int → St → Rs) : Nat → Int → Int → St → Rs
  | 0, _, _, _ => none
  | n + 1, i3, i4, s => cEq i4 (-9) (k i3 s) (cl (X9_above i1 i4 s) (fun v1 s2 => X9_deepOf_10 i1 k n (i3 + 1) v1 s2))
def X9_deepOf (i1 : Int) (i2 : Int) (s : St) : Rs := cl (X9_above i1 i2 s) (fun v1 s2 => X9_deepOf_10 i1 (fun x3 s4 => some (x3, s4)) FU 0 v1 s2)
set_option maxRecDepth 20000 in
set_option maxHeartbeats 4000000 in
theorem lt_X9_deepOf_10 {K : Cx} {X : Wx} (O : OKx LM K X yX9_deepOf.cls cX9_deepOf 5) (hrt : (kMe K).sig.returnType = (Option.some .int)) (hfr : (kR K).frames = 2) (hlo : (kR K).locals = 45) {i1 : Int} {k : Int → St → Rs}  (hk : ∀ (i3 : Int) (s : St), GX LM K X 5 1 32 [(3, vI i3)] [] s (k i3 s)) : ∀ (n : Nat) (i3 : Int) (i4 : Int) (s : St), GX LM K X 5 1 10 [(0, vR 0), (1, vI i1), (3, vI i3), (4, vI i4)] [] s (X9_deepOf_10 i1 k n i3 i4 s) := by
  intro n
  induction n with
  | zero => intro i3 i4 s; exact GX.none
  | succ n ih =>
    intro i3 i4 s
    rw [X9_deepOf_10]
    refine g_iload O dX9_deepOf_10 3 rfl ?_
    refine g_bipush O dX9_deepOf_12 (by decide +kernel) ?_
    refine g_icmp_eq (tgt := 32) O dX9_deepOf_14 (by decide) ?_ ?_
    · refine g_pick [2] rfl ?_
      exact hk i3 s
    refine g_iinc (lv2 := [(3, vI (i3 + 1)), (0, vR 0), (1, vI i1), (4, vI i4)]) O dX9_deepOf_17 2 rfl (by decide) rfl ?_
    refine g_aload_n O dX9_deepOf_20 rfl 1 rfl ?_
    refine g_iload_n O dX9_deepOf_21 rfl 2 rfl ?_
    refine g_iload O dX9_deepOf_22 3 rfl ?_
    refine g_callV1 (As := [vI i1, vI i4]) (rest := []) (b := 0) (ci := 9) O mw_5_26 mw_5_28 mp_3_13 mw_5_29 mw_1_10 hd_X9_above rfl ⟨_, _, rfl⟩ rfl dX9_deepOf_24 (ct_X9_above i1 i4 s) (by rw [hfr]; decide) (by rw [hlo]; decide) (Nat.le_of_ble_eq_true rfl) (fun v1 s2 => ?_)
    refine g_istore (lv2 := [(4, vI v1), (3, vI (i3 + 1)), (0, vR 0), (1, vI i1)]) O dX9_deepOf_27 (by decide) rfl ?_
    refine g_goto (tgt := 10) O dX9_deepOf_29 (by decide) ?_
    refine g_pick [2, 3, 1, 0] rfl ?_
    exact ih (i3 + 1) v1 s2
theorem hd_X9_deepOf : yX9_deepOf.cls ≠ "java/lang/invoke/MethodHandle" ∧ yX9_deepOf.cls ≠ "java/lang/invoke/VarHandle" ∧ (parseMethodDescriptor yX9_deepOf.desc).map (fun d => d.parameters.length) = some 2 := by decide +kernel
set_option maxRecDepth 20000 in
set_option maxHeartbeats 4000000 in
theorem ct_X9_deepOf  (i1 : Int) (i2 : Int) (s : St) : Ctr LM yX9_deepOf cX9_deepOf 5 (Option.some .int) 1 2 45 [vR 0, vI i1, vI i2] s (X9_deepOf i1 i2 s) := by
  refine Ctr.of (by decide +kernel) (fun ρ => Nat.le_of_ble_eq_true rfl) (lv := [(0, vR 0), (1, vI i1), (2, vI i2)]) (fun ρ => rfl) (fun K X O hrt hfr hlo => ?_)
  unfold X9_deepOf
  refine g_iconst O dX9_deepOf_0 ?_
  refine g_istore_n (lv2 := [(3, vI 0), (0, vR 0), (1, vI i1), (2, vI i2)]) O dX9_deepOf_1 rfl (by decide) rfl ?_
  refine g_aload_n O dX9_deepOf_2 rfl 1 rfl ?_
  refine g_iload_n O dX9_deepOf_3 rfl 2 rfl ?_
  refine g_iload_n O dX9_deepOf_4 rfl 3 rfl ?_
  refine g_callV1 (As := [vI i1, vI i2]) (rest := []) (b := 0) (ci := 9) O mw_5_26 mw_5_28 mp_3_13 mw_5_29 mw_1_10 hd_X9_above rfl ⟨_, _, rfl⟩ rfl dX9_deepOf_5 (ct_X9_above i1 i2 s) (by rw [hfr]; decide) (by rw [hlo]; decide) (Nat.le_of_ble_eq_true rfl) (fun v1 s2 => ?_)
  refine g_istore (lv2 := [(4, vI v1), (3, vI 0), (0, vR 0), (1, vI i1), (2, vI i2)]) O dX9_deepOf_8 (by decide) rfl ?_
  refine g_pick [2, 3, 1, 0] rfl ?_
  refine lt_X9_deepOf_10 O hrt hfr hlo  (fun x3 s4 => ?_) FU 0 v1 s2
  refine g_iload_n O dX9_deepOf_32 rfl 0 rfl ?_
  exact g_iret O hrt rfl dX9_deepOf_33
def X9_mark (i1 : Int) (i2 : Int) (i3 : Int) (s : St) : Rs := cl (X9_isNode i1 i2 s) (fun v1 s2 => cEq v1 0 (some ((-1), s2)) (cl (X9_in i3 1 4 s2) (fun v3 s4 => cEq v3 0 (some ((-1), s4)) (cl (X9_codeOf i1 i2 s4) (fun v5 s6 => cl (X9_kindOf v5 s6) (fun v7 s8 => cl (X9_isA v7 i3 s8) (fun v9 s10 => cEq v9 0 (cl (X9_found 3 s10) (fun v29 s30 => some (v29, s30))) (gR i3 (if i3 = 1 then cl (X9_headsBeneath i1 i2 s10) (fun v11 s12 => cl (X9_tells v11 1 s12) (fun v13 s14 => some (v13, s14))) else (if i3 = 2 then cl (X9_codeOf i1 i2 s10) (fun v15 s16 => cl (X9_alikeIn (1 - i1) v15 s16) (fun v17 s18 => cl (X9_tells v17 1 s18) (fun v19 s20 => some (v19, s20)))) else (if i3 = 3 then cl (X9_deepOf i1 i2 s10) (fun v21 s22 => cl (X9_tells v21 1 s22) (fun v23 s24 => some (v23, s24))) else (cl (X9_many i1 s10) (fun v25 s26 => cl (X9_tells ((v25 - 1) - i2) 1 s26) (fun v27 s28 => some (v27, s28)))))))))))))))
theorem hd_X9_mark : yX9_mark.cls ≠ "java/lang/invoke/MethodHandle" ∧ yX9_mark.cls ≠ "java/lang/invoke/VarHandle" ∧ (parseMethodDescriptor yX9_mark.desc).map (fun d => d.parameters.length) = some 3 := by decide +kernel
set_option maxRecDepth 20000 in
set_option maxHeartbeats 4000000 in
theorem ct_X9_mark  (i1 : Int) (i2 : Int) (i3 : Int) (s : St) : Ctr LM yX9_mark cX9_mark 4 (Option.some .int) 1 3 69 [vR 0, vI i1, vI i2, vI i3] s (X9_mark i1 i2 i3 s) := by
  refine Ctr.of (by decide +kernel) (fun ρ => Nat.le_of_ble_eq_true rfl) (lv := [(0, vR 0), (1, vI i1), (2, vI i2), (3, vI i3)]) (fun ρ => rfl) (fun K X O hrt hfr hlo => ?_)
  unfold X9_mark
  refine g_aload_n O dX9_mark_0 rfl 0 rfl ?_
  refine g_iload_n O dX9_mark_1 rfl 1 rfl ?_
  refine g_iload_n O dX9_mark_2 rfl 2 rfl ?_
  refine g_callV1 (As := [vI i1, vI i2]) (rest := []) (b := 0) (ci := 9) O mw_5_15 mw_5_17 mp_3_11 mw_5_18 mw_1_10 hd_X9_isNode rfl ⟨_, _, rfl⟩ rfl dX9_mark_3 (ct_X9_isNode i1 i2 s) (by rw [hfr]; decide) (by rw [hlo]; decide) (Nat.le_of_ble_eq_true rfl) (fun v1 s2 => ?_)
  refine g_if_eq (tgt := 18) O dX9_mark_6 (by decide) ?_ ?_
  · refine g_iconst O dX9_mark_18 ?_
    exact g_iret O hrt rfl dX9_mark_19
  refine g_iload_n O dX9_mark_9 rfl 3 rfl ?_
  refine g_iconst O dX9_mark_10 ?_
  refine g_iconst O dX9_mark_11 ?_
  refine g_callS1 (As := [vI i3, vI 1, vI 4]) (rest := []) O mw_4_133 mw_4_134 mw_4_135 mw_1_10 hd_X9_in rfl dX9_mark_12 (ct_X9_in i3 1 4 s2) (by rw [hfr]; decide) (by rw [hlo]; decide) (Nat.le_of_ble_eq_true rfl) (fun v3 s4 => ?_)
  refine g_if_ne (tgt := 20) O dX9_mark_15 (by decide) ?_ ?_
  · refine g_aload_n O dX9_mark_20 rfl 0 rfl ?_
    refine g_iload_n O dX9_mark_21 rfl 1 rfl ?_
    refine g_iload_n O dX9_mark_22 rfl 2 rfl ?_
    refine g_callV1 (As := [vI i1, vI i2]) (rest := []) (b := 0) (ci := 9) O mw_4_220 mw_4_222 mp_3_4 mw_4_223 mw_1_10 hd_X9_codeOf rfl ⟨_, _, rfl⟩ rfl dX9_mark_23 (ct_X9_codeOf i1 i2 s4) (by rw [hfr]; decide) (by rw [hlo]; decide) (Nat.le_of_ble_eq_true rfl) (fun v5 s6 => ?_)
    refine g_callS1 (As := [vI v5]) (rest := []) O mw_5_19 mw_5_20 mw_5_21 mw_1_10 hd_X9_kindOf rfl dX9_mark_26 (ct_X9_kindOf v5 s6) (by rw [hfr]; decide) (by rw [hlo]; decide) (Nat.le_of_ble_eq_true rfl) (fun v7 s8 => ?_)
    refine g_iload_n O dX9_mark_29 rfl 3 rfl ?_
    refine g_callS1 (As := [vI v7, vI i3]) (rest := []) O mw_5_41 mw_5_42 mw_5_43 mw_1_10 hd_X9_isA rfl dX9_mark_30 (ct_X9_isA v7 i3 s8) (by rw [hfr]; decide) (by rw [hlo]; decide) (Nat.le_of_ble_eq_true rfl) (fun v9 s10 => ?_)
    refine g_if_ne (tgt := 42) O dX9_mark_33 (by decide) ?_ ?_
    · refine g_iload_n O dX9_mark_42 rfl 3 rfl ?_
      refine g_gR (fun hr1 => ?_)
      refine g_ite (fun hc2 => ?_) (fun hc2 => ?_)
      · refine g_tin (k := 1) (tgt := 68) O dX9_mark_43 hr1 hc2 (by decide) (by decide) rfl (by decide) ?_
        refine g_aload_n O dX9_mark_68 rfl 0 rfl ?_
        refine g_aload_n O dX9_mark_69 rfl 0 rfl ?_
        refine g_iload_n O dX9_mark_70 rfl 1 rfl ?_
        refine g_iload_n O dX9_mark_71 rfl 2 rfl ?_
        refine g_callV1 (As := [vI i1, vI i2]) (rest := [vR 0]) (b := 0) (ci := 9) O mw_5_44 mw_5_46 mp_3_15 mw_5_47 mw_1_10 hd_X9_headsBeneath rfl ⟨_, _, rfl⟩ rfl dX9_mark_72 (ct_X9_headsBeneath i1 i2 s10) (by rw [hfr]; decide) (by rw [hlo]; decide) (Nat.le_of_ble_eq_true rfl) (fun v11 s12 => ?_)
        refine g_iconst O dX9_mark_75 ?_
        refine g_callV1 (As := [vI v11, vI 1]) (rest := []) (b := 0) (ci := 9) O mw_4_152 mw_4_154 mp_2_15 mw_4_155 mw_1_10 hd_X9_tells rfl ⟨_, _, rfl⟩ rfl dX9_mark_76 (ct_X9_tells v11 1 s12) (by rw [hfr]; decide) (by rw [hlo]; decide) (Nat.le_of_ble_eq_true rfl) (fun v13 s14 => ?_)
        exact g_iret O hrt rfl dX9_mark_79
      refine g_ite (fun hc3 => ?_) (fun hc3 => ?_)
      · refine g_tin (k := 2) (tgt := 80) O dX9_mark_43 hr1 hc3 (by decide) (by decide) rfl (by decide) ?_
        refine g_aload_n O dX9_mark_80 rfl 0 rfl ?_
        refine g_aload_n O dX9_mark_81 rfl 0 rfl ?_
        refine g_iconst O dX9_mark_82 ?_
        refine g_iload_n O dX9_mark_83 rfl 1 rfl ?_
        refine g_isub O dX9_mark_84 ?_
        refine g_aload_n O dX9_mark_85 rfl 0 rfl ?_
        refine g_iload_n O dX9_mark_86 rfl 1 rfl ?_
        refine g_iload_n O dX9_mark_87 rfl 2 rfl ?_
        refine g_callV1 (As := [vI i1, vI i2]) (rest := [vI (1 - i1), vR 0, vR 0]) (b := 0) (ci := 9) O mw_4_220 mw_4_222 mp_3_4 mw_4_223 mw_1_10 hd_X9_codeOf rfl ⟨_, _, rfl⟩ rfl dX9_mark_88 (ct_X9_codeOf i1 i2 s10) (by rw [hfr]; decide) (by rw [hlo]; decide) (Nat.le_of_ble_eq_true rfl) (fun v15 s16 => ?_)
        refine g_callV1 (As := [vI (1 - i1), vI v15]) (rest := [vR 0]) (b := 0) (ci := 9) O mw_5_48 mw_5_50 mp_4_0 mw_5_51 mw_1_10 hd_X9_alikeIn rfl ⟨_, _, rfl⟩ rfl dX9_mark_91 (ct_X9_alikeIn (1 - i1) v15 s16) (by rw [hfr]; decide) (by rw [hlo]; decide) (Nat.le_of_ble_eq_true rfl) (fun v17 s18 => ?_)
        refine g_iconst O dX9_mark_94 ?_
        refine g_callV1 (As := [vI v17, vI 1]) (rest := []) (b := 0) (ci := 9) O mw_4_152 mw_4_154 mp_2_15 mw_4_155 mw_1_10 hd_X9_tells rfl ⟨_, _, rfl⟩ rfl dX9_mark_95 (ct_X9_tells v17 1 s18) (by rw [hfr]; decide) (by rw [hlo]; decide) (Nat.le_of_ble_eq_true rfl) (fun v19 s20 => ?_)
        exact g_iret O hrt rfl dX9_mark_98
      refine g_ite (fun hc4 => ?_) (fun hc4 => ?_)
      · refine g_tin (k := 3) (tgt := 99) O dX9_mark_43 hr1 hc4 (by decide) (by decide) rfl (by decide) ?_
        refine g_aload_n O dX9_mark_99 rfl 0 rfl ?_
        refine g_aload_n O dX9_mark_100 rfl 0 rfl ?_
        refine g_iload_n O dX9_mark_101 rfl 1 rfl ?_
        refine g_iload_n O dX9_mark_102 rfl 2 rfl ?_
        refine g_callV1 (As := [vI i1, vI i2]) (rest := [vR 0]) (b := 0) (ci := 9) O mw_5_52 mw_5_54 mp_4_1 mw_5_55 mw_1_10 hd_X9_deepOf rfl ⟨_, _, rfl⟩ rfl dX9_mark_103 (ct_X9_deepOf i1 i2 s10) (by rw [hfr]; decide) (by rw [hlo]; decide) (Nat.le_of_ble_eq_true rfl) (fun v21 s22 => ?_)
        refine g_iconst O dX9_mark_106 ?_
        refine g_callV1 (As := [vI v21, vI 1]) (rest := []) (b := 0) (ci := 9) O mw_4_152 mw_4_154 mp_2_15 mw_4_155 mw_1_10 hd_X9_tells rfl ⟨_, _, rfl⟩ rfl dX9_mark_107 (ct_X9_tells v21 1 s22) (by rw [hfr]; decide) (by rw [hlo]; decide) (Nat.le_of_ble_eq_true rfl) (fun v23 s24 => ?_)
        exact g_iret O hrt rfl dX9_mark_110
      refine g_tout (tgt := 111) O dX9_mark_43 hr1 (by omega) (by decide) ?_
      refine g_aload_n O dX9_mark_111 rfl 0 rfl ?_
      refine g_aload_n O dX9_mark_112 rfl 0 rfl ?_
      refine g_iload_n O dX9_mark_113 rfl 1 rfl ?_
      refine g_callV1 (As := [vI i1]) (rest := [vR 0]) (b := 0) (ci := 9) O mw_4_216 mw_4_218 mp_3_3 mw_4_219 mw_1_10 hd_X9_many rfl ⟨_, _, rfl⟩ rfl dX9_mark_114 (ct_X9_many i1 s10) (by rw [hfr]; decide) (by rw [hlo]; decide) (Nat.le_of_ble_eq_true rfl) (fun v25 s26 => ?_)
      refine g_iconst O dX9_mark_117 ?_
      refine g_isub O dX9_mark_118 ?_
      refine g_iload_n O dX9_mark_119 rfl 2 rfl ?_
      refine g_isub O dX9_mark_120 ?_
      refine g_iconst O dX9_mark_121 ?_
      refine g_callV1 (As := [vI ((v25 - 1) - i2), vI 1]) (rest := []) (b := 0) (ci := 9) O mw_4_152 mw_4_154 mp_2_15 mw_4_155 mw_1_10 hd_X9_tells rfl ⟨_, _, rfl⟩ rfl dX9_mark_122 (ct_X9_tells ((v25 - 1) - i2) 1 s26) (by rw [hfr]; decide) (by rw [hlo]; decide) (Nat.le_of_ble_eq_true rfl) (fun v27 s28 => ?_)
      exact g_iret O hrt rfl dX9_mark_125
    refine g_aload_n O dX9_mark_36 rfl 0 rfl ?_
    refine g_iconst O dX9_mark_37 ?_
    refine g_callV1 (As := [vI 3]) (rest := []) (b := 0) (ci := 9) O mw_4_136 mw_4_138 mp_2_12 mw_4_139 mw_1_10 hd_X9_found rfl ⟨_, _, rfl⟩ rfl dX9_mark_38 (ct_X9_found 3 s10) (by rw [hfr]; decide) (by rw [hlo]; decide) (Nat.le_of_ble_eq_true rfl) (fun v29 s30 => ?_)
    exact g_iret O hrt rfl dX9_mark_41
  refine g_iconst O dX9_mark_18 ?_
  exact g_iret O hrt rfl dX9_mark_19
def X9_changeOf (i1 : Int) (i2 : Int) (s : St) : Rs := cl (X9_kindOf i1 s) (fun v1 s2 => cEq i1 i2 (some (0, s2)) (jn (fun  (s3 : St) => cl (X9_kindOf i2 s3) (fun v5 s6 => cEq v1 v5 (rd s6 5 53 52 (fun v8 => some (v8, s6))) (rd s6 5 53 52 (fun v7 => some (2 * v7, s6))))) (fun k4 => cEq v1 2 (cl (X9_kindOf i2 s2) (fun v9 s10 => cEq v9 2 (jn (fun (x11 : Int) (s12 : St) => rd s12 5 53 52 (fun v14 => cLt 3 x11 (some (v14 * 3, s12)) (some (v14 * x11, s12)))) (fun k13 => cLt i2 i1 (k13 (i1 - i2) s10) (k13 (i2 - i1) s10))) (k4 s10))) (k4 s2))))
theorem hd_X9_changeOf : yX9_changeOf.cls ≠ "java/lang/invoke/MethodHandle" ∧ yX9_changeOf.cls ≠ "java/lang/invoke/VarHandle" ∧ (parseMethodDescriptor yX9_changeOf.desc).map (fun d => d.parameters.length) = some 2 := by decide +kernel
set_option maxRecDepth 20000 in
set_option maxHeartbeats 4000000 in
theorem ct_X9_changeOf  (i1 : Int) (i2 : Int) (s : St) : Ctr LM yX9_changeOf cX9_changeOf 5 (Option.some .int) 1 1 20 [vR 0, vI i1, vI i2] s (X9_changeOf i1 i2 s) := by
  refine Ctr.of (by decide +kernel) (fun ρ => Nat.le_of_ble_eq_true rfl) (lv := [(0, vR 0), (1, vI i1), (2, vI i2)]) (fun ρ => rfl) (fun K X O hrt hfr hlo => ?_)
  unfold X9_changeOf
  refine g_iload_n O dX9_changeOf_0 rfl 1 rfl ?_
  refine g_callS1 (As := [vI i1]) (rest := []) O mw_5_19 mw_5_20 mw_5_21 mw_1_10 hd_X9_kindOf rfl dX9_changeOf_1 (ct_X9_kindOf i1 s) (by rw [hfr]; decide) (by rw [hlo]; decide) (Nat.le_of_ble_eq_true rfl) (fun v1 s2 => ?_)
  refine g_istore_n (lv2 := [(3, vI v1), (0, vR 0), (1, vI i1), (2, vI i2)]) O dX9_changeOf_4 rfl (by decide) rfl ?_
  refine g_iload_n O dX9_changeOf_5 rfl 2 rfl ?_
  refine g_iload_n O dX9_changeOf_6 rfl 3 rfl ?_
  refine g_icmp_ne (tgt := 12) O dX9_changeOf_7 (by decide) ?_ ?_
  · refine g_iload_n O dX9_changeOf_12 rfl 0 rfl ?_
    refine g_iconst O dX9_changeOf_13 ?_
    refine g_jn (fun (j : St → Rs) => ∀  (s3 : St), GX LM K X 5 1 62 [(0, vR 0), (2, vI i2), (3, vI v1)] [] s3 (j  s3)) ?_ ?_
    · intro  s3
      refine g_iload_n O dX9_changeOf_62 rfl 2 rfl ?_
      refine g_iload_n O dX9_changeOf_63 rfl 1 rfl ?_
      refine g_callS1 (As := [vI i2]) (rest := [vI v1]) O mw_5_19 mw_5_20 mw_5_21 mw_1_10 hd_X9_kindOf rfl dX9_changeOf_64 (ct_X9_kindOf i2 s3) (by rw [hfr]; decide) (by rw [hlo]; decide) (Nat.le_of_ble_eq_true rfl) (fun v5 s6 => ?_)
      refine g_icmp_ne (tgt := 80) O dX9_changeOf_67 (by decide) ?_ ?_
      · refine g_iconst O dX9_changeOf_80 ?_
        refine g_aload_n O dX9_changeOf_81 rfl 0 rfl ?_
        refine g_getR O fw_9_22 rfl dX9_changeOf_82 rfl ?_
        refine g_bipush O dX9_changeOf_85 (by decide +kernel) ?_
        refine g_iald O rfl (by decide) dX9_changeOf_87 (fun v7 => ?_)
        refine g_imul O dX9_changeOf_88 ?_
        exact g_iret O hrt rfl dX9_changeOf_89
      refine g_aload_n O dX9_changeOf_70 rfl 0 rfl ?_
      refine g_getR O fw_9_22 rfl dX9_changeOf_71 rfl ?_
      refine g_bipush O dX9_changeOf_74 (by decide +kernel) ?_
      refine g_iald O rfl (by decide) dX9_changeOf_76 (fun v8 => ?_)
      refine g_goto (tgt := 89) O dX9_changeOf_77 (by decide) ?_
      exact g_iret O hrt rfl dX9_changeOf_89
    intro k4 hk4
    refine g_icmp_ne (tgt := 62) O dX9_changeOf_14 (by decide) ?_ ?_
    · refine g_pick [1, 3, 0] rfl ?_
      exact hk4 s2
    refine g_iload_n O dX9_changeOf_17 rfl 3 rfl ?_
    refine g_callS1 (As := [vI i2]) (rest := []) O mw_5_19 mw_5_20 mw_5_21 mw_1_10 hd_X9_kindOf rfl dX9_changeOf_18 (ct_X9_kindOf i2 s2) (by rw [hfr]; decide) (by rw [hlo]; decide) (Nat.le_of_ble_eq_true rfl) (fun v9 s10 => ?_)
    refine g_iconst O dX9_changeOf_21 ?_
    refine g_icmp_ne (tgt := 62) O dX9_changeOf_22 (by decide) ?_ ?_
    · refine g_pick [1, 3, 0] rfl ?_
      exact hk4 s10
    refine g_iload_n O dX9_changeOf_25 rfl 2 rfl ?_
    refine g_iload_n O dX9_changeOf_26 rfl 3 rfl ?_
    refine g_jn (fun (j : Int → St → Rs) => ∀ (x11 : Int) (s12 : St), GX LM K X 5 1 39 [(0, vR 0)] [vI x11] s12 (j x11 s12)) ?_ ?_
    · intro x11 s12
      refine g_istore (lv2 := [(4, vI x11), (0, vR 0)]) O dX9_changeOf_39 (by decide) rfl ?_
      refine g_aload_n O dX9_changeOf_41 rfl 1 rfl ?_
      refine g_getR O fw_9_22 rfl dX9_changeOf_42 rfl ?_
      refine g_bipush O dX9_changeOf_45 (by decide +kernel) ?_
      refine g_iald O rfl (by decide) dX9_changeOf_47 (fun v14 => ?_)
      refine g_iload O dX9_changeOf_48 0 rfl ?_
      refine g_iconst O dX9_changeOf_50 ?_
      refine g_icmp_le (tgt := 58) O dX9_changeOf_51 (by decide) ?_ ?_
      · refine g_iload O dX9_changeOf_58 0 rfl ?_
        refine g_imul O dX9_changeOf_60 ?_
        exact g_iret O hrt rfl dX9_changeOf_61
      refine g_iconst O dX9_changeOf_54 ?_
      refine g_goto (tgt := 60) O dX9_changeOf_55 (by decide) ?_
      refine g_imul O dX9_changeOf_60 ?_
      exact g_iret O hrt rfl dX9_changeOf_61
    intro k13 hk13
    refine g_icmp_le (tgt := 36) O dX9_changeOf_27 (by decide) ?_ ?_
    · refine g_iload_n O dX9_changeOf_36 rfl 3 rfl ?_
      refine g_iload_n O dX9_changeOf_37 rfl 2 rfl ?_
      refine g_isub O dX9_changeOf_38 ?_
      refine g_pick [1] rfl ?_
      exact hk13 (i2 - i1) s10
    refine g_iload_n O dX9_changeOf_30 rfl 2 rfl ?_
    refine g_iload_n O dX9_changeOf_31 rfl 3 rfl ?_
    refine g_isub O dX9_changeOf_32 ?_
    refine g_goto (tgt := 39) O dX9_changeOf_33 (by decide) ?_
    refine g_pick [1] rfl ?_
    exact hk13 (i1 - i2) s10
  refine g_iconst O dX9_changeOf_10 ?_
  exact g_iret O hrt rfl dX9_changeOf_11
def X9_laysPrices_36 (i1 : Int) (k : St → Rs) : Nat → Int → St → Rs
  | 0, _, _ => none
  | n + 1, i2, s => cl (X9_many 1 s) (fun v1 s2 => cLt i2 v1 (rd s2 5 53 50 (fun v3 => cl (X9_codeOf 1 i2 s2) (fun v4 s5 => cl (X9_weight v4 s5) (fun v6 s7 => wr s7 18 12 i2 (v3 * v6) (fun s8 => cl (X9_codeOf 0 i1 s8) (fun v9 s10 => cl (X9_codeOf 1 i2 s10) (fun v11 s12 => cl (X9_changeOf v9 v11 s12) (fun v13 s14 => wr s14 19 144 ((12 * i1) + i2) v13 (fun s15 => X9_laysPrices_36 i1 k n (i2 + 1) s15))))))))) (k s2))
def X9_laysPrices_2  (k : St → Rs) : Nat → Int → St → Rs
  | 0, _, _ => none
  | n + 1, i1, s => cl (X9_many 0 s) (fun v1 s2 => cLt i1 v1 (rd s2 5 53 51 (fun v3 => cl (X9_codeOf 0 i1 s2) (fun v4 s5 => cl (X9_weight v4 s5) (fun v6 s7 => wr s7 17 12 i1 (v3 * v6) (fun s8 => X9_laysPrices_36 i1 (fun s9 => X9_laysPrices_2 k n (i1 + 1) s9) FU 0 s8))))) (k s2))
def X9_laysPrices  (s : St) : Rs := X9_laysPrices_2  (fun s1 => some (0, s1)) FU 0 s
set_option maxRecDepth 20000 in
set_option maxHeartbeats 4000000 in
theorem lt_X9_laysPrices_36 {K : Cx} {X : Wx} (O : OKx LM K X yX9_laysPrices.cls cX9_laysPrices 3) (hrt : (kMe K).sig.returnType = none) (hfr : (kR K).frames = 2) (hlo : (kR K).locals = 44) {i1 : Int} {k : St → Rs}  (hk : ∀  (s : St), GX LM K X 3 0 101 [(0, vR 0), (1, vI i1)] [] s (k s)) : ∀ (n : Nat) (i2 : Int) (s : St), GX LM K X 3 0 36 [(0, vR 0), (1, vI i1), (2, vI i2)] [] s (X9_laysPrices_36 i1 k n i2 s) := by
  intro n
  induction n with
  | zero => intro i2 s; exact GX.none
  | succ n ih =>
    intro i2 s
    rw [X9_laysPrices_36]
    refine g_iload_n O dX9_laysPrices_36 rfl 2 rfl ?_
    refine g_aload_n O dX9_laysPrices_37 rfl 0 rfl ?_
    refine g_iconst O dX9_laysPrices_38 ?_
    refine g_callV1 (As := [vI 1]) (rest := [vI i2]) (b := 0) (ci := 9) O mw_4_216 mw_4_218 mp_3_3 mw_4_219 mw_1_10 hd_X9_many rfl ⟨_, _, rfl⟩ rfl dX9_laysPrices_39 (ct_X9_many 1 s) (by rw [hfr]; decide) (by rw [hlo]; decide) (Nat.le_of_ble_eq_true rfl) (fun v1 s2 => ?_)
    refine g_icmp_ge (tgt := 101) O dX9_laysPrices_42 (by decide) ?_ ?_
    · refine g_pick [0, 1] rfl ?_
      exact hk s2
    refine g_aload_n O dX9_laysPrices_45 rfl 0 rfl ?_
    refine g_getR O fw_9_62 rfl dX9_laysPrices_46 rfl ?_
    refine g_iload_n O dX9_laysPrices_49 rfl 2 rfl ?_
    refine g_aload_n O dX9_laysPrices_50 rfl 0 rfl ?_
    refine g_getR O fw_9_22 rfl dX9_laysPrices_51 rfl ?_
    refine g_bipush O dX9_laysPrices_54 (by decide +kernel) ?_
    refine g_iald O rfl (by decide) dX9_laysPrices_56 (fun v3 => ?_)
    refine g_aload_n O dX9_laysPrices_57 rfl 0 rfl ?_
    refine g_iconst O dX9_laysPrices_58 ?_
    refine g_iload_n O dX9_laysPrices_59 rfl 2 rfl ?_
    refine g_callV1 (As := [vI 1, vI i2]) (rest := [vI v3, vI i2, vR 18]) (b := 0) (ci := 9) O mw_4_220 mw_4_222 mp_3_4 mw_4_223 mw_1_10 hd_X9_codeOf rfl ⟨_, _, rfl⟩ rfl dX9_laysPrices_60 (ct_X9_codeOf 1 i2 s2) (by rw [hfr]; decide) (by rw [hlo]; decide) (Nat.le_of_ble_eq_true rfl) (fun v4 s5 => ?_)
    refine g_callS1 (As := [vI v4]) (rest := [vI v3, vI i2, vR 18]) O mw_5_34 mw_5_35 mw_5_36 mw_1_10 hd_X9_weight rfl dX9_laysPrices_63 (ct_X9_weight v4 s5) (by rw [hfr]; decide) (by rw [hlo]; decide) (Nat.le_of_ble_eq_true rfl) (fun v6 s7 => ?_)
    refine g_imul O dX9_laysPrices_66 ?_
    refine g_iast O rfl (by decide) dX9_laysPrices_67 (fun s8 => ?_)
    refine g_aload_n O dX9_laysPrices_68 rfl 0 rfl ?_
    refine g_getR O fw_9_65 rfl dX9_laysPrices_69 rfl ?_
    refine g_bipush O dX9_laysPrices_72 (by decide +kernel) ?_
    refine g_iload_n O dX9_laysPrices_74 rfl 1 rfl ?_
    refine g_imul O dX9_laysPrices_75 ?_
    refine g_iload_n O dX9_laysPrices_76 rfl 2 rfl ?_
    refine g_iadd O dX9_laysPrices_77 ?_
    refine g_aload_n O dX9_laysPrices_78 rfl 0 rfl ?_
    refine g_aload_n O dX9_laysPrices_79 rfl 0 rfl ?_
    refine g_iconst O dX9_laysPrices_80 ?_
    refine g_iload_n O dX9_laysPrices_81 rfl 1 rfl ?_
    refine g_callV1 (As := [vI 0, vI i1]) (rest := [vR 0, vI ((12 * i1) + i2), vR 19]) (b := 0) (ci := 9) O mw_4_220 mw_4_222 mp_3_4 mw_4_223 mw_1_10 hd_X9_codeOf rfl ⟨_, _, rfl⟩ rfl dX9_laysPrices_82 (ct_X9_codeOf 0 i1 s8) (by rw [hfr]; decide) (by rw [hlo]; decide) (Nat.le_of_ble_eq_true rfl) (fun v9 s10 => ?_)
    refine g_aload_n O dX9_laysPrices_85 rfl 0 rfl ?_
    refine g_iconst O dX9_laysPrices_86 ?_
    refine g_iload_n O dX9_laysPrices_87 rfl 2 rfl ?_
    refine g_callV1 (As := [vI 1, vI i2]) (rest := [vI v9, vR 0, vI ((12 * i1) + i2), vR 19]) (b := 0) (ci := 9) O mw_4_220 mw_4_222 mp_3_4 mw_4_223 mw_1_10 hd_X9_codeOf rfl ⟨_, _, rfl⟩ rfl dX9_laysPrices_88 (ct_X9_codeOf 1 i2 s10) (by rw [hfr]; decide) (by rw [hlo]; decide) (Nat.le_of_ble_eq_true rfl) (fun v11 s12 => ?_)
    refine g_callV1 (As := [vI v9, vI v11]) (rest := [vI ((12 * i1) + i2), vR 19]) (b := 0) (ci := 9) O mw_5_72 mw_5_74 mp_4_5 mw_5_75 mw_1_10 hd_X9_changeOf rfl ⟨_, _, rfl⟩ rfl dX9_laysPrices_91 (ct_X9_changeOf v9 v11 s12) (by rw [hfr]; decide) (by rw [hlo]; decide) (Nat.le_of_ble_eq_true rfl) (fun v13 s14 => ?_)
    refine g_iast O rfl (by decide) dX9_laysPrices_94 (fun s15 => ?_)
    refine g_iinc (lv2 := [(2, vI (i2 + 1)), (0, vR 0), (1, vI i1)]) O dX9_laysPrices_95 2 rfl (by decide) rfl ?_
    refine g_goto (tgt := 36) O dX9_laysPrices_98 (by decide) ?_
    refine g_pick [1, 2, 0] rfl ?_
    exact ih (i2 + 1) s15
set_option maxRecDepth 20000 in
set_option maxHeartbeats 4000000 in
theorem lt_X9_laysPrices_2 {K : Cx} {X : Wx} (O : OKx LM K X yX9_laysPrices.cls cX9_laysPrices 3) (hrt : (kMe K).sig.returnType = none) (hfr : (kR K).frames = 2) (hlo : (kR K).locals = 44)  {k : St → Rs}  (hk : ∀  (s : St), GX LM K X 3 0 107 [] [] s (k s)) : ∀ (n : Nat) (i1 : Int) (s : St), GX LM K X 3 0 2 [(0, vR 0), (1, vI i1)] [] s (X9_laysPrices_2 k n i1 s) := by
  intro n
  induction n with
  | zero => intro i1 s; exact GX.none
  | succ n ih =>
    intro i1 s
    rw [X9_laysPrices_2]
    refine g_iload_n O dX9_laysPrices_2 rfl 1 rfl ?_
    refine g_aload_n O dX9_laysPrices_3 rfl 0 rfl ?_
    refine g_iconst O dX9_laysPrices_4 ?_
    refine g_callV1 (As := [vI 0]) (rest := [vI i1]) (b := 0) (ci := 9) O mw_4_216 mw_4_218 mp_3_3 mw_4_219 mw_1_10 hd_X9_many rfl ⟨_, _, rfl⟩ rfl dX9_laysPrices_5 (ct_X9_many 0 s) (by rw [hfr]; decide) (by rw [hlo]; decide) (Nat.le_of_ble_eq_true rfl) (fun v1 s2 => ?_)
    refine g_icmp_ge (tgt := 107) O dX9_laysPrices_8 (by decide) ?_ ?_
    · refine g_pick [] rfl ?_
      exact hk s2
    refine g_aload_n O dX9_laysPrices_11 rfl 0 rfl ?_
    refine g_getR O fw_9_59 rfl dX9_laysPrices_12 rfl ?_
    refine g_iload_n O dX9_laysPrices_15 rfl 1 rfl ?_
    refine g_aload_n O dX9_laysPrices_16 rfl 0 rfl ?_
    refine g_getR O fw_9_22 rfl dX9_laysPrices_17 rfl ?_
    refine g_bipush O dX9_laysPrices_20 (by decide +kernel) ?_
    refine g_iald O rfl (by decide) dX9_laysPrices_22 (fun v3 => ?_)
    refine g_aload_n O dX9_laysPrices_23 rfl 0 rfl ?_
    refine g_iconst O dX9_laysPrices_24 ?_
    refine g_iload_n O dX9_laysPrices_25 rfl 1 rfl ?_
    refine g_callV1 (As := [vI 0, vI i1]) (rest := [vI v3, vI i1, vR 17]) (b := 0) (ci := 9) O mw_4_220 mw_4_222 mp_3_4 mw_4_223 mw_1_10 hd_X9_codeOf rfl ⟨_, _, rfl⟩ rfl dX9_laysPrices_26 (ct_X9_codeOf 0 i1 s2) (by rw [hfr]; decide) (by rw [hlo]; decide) (Nat.le_of_ble_eq_true rfl) (fun v4 s5 => ?_)
    refine g_callS1 (As := [vI v4]) (rest := [vI v3, vI i1, vR 17]) O mw_5_34 mw_5_35 mw_5_36 mw_1_10 hd_X9_weight rfl dX9_laysPrices_29 (ct_X9_weight v4 s5) (by rw [hfr]; decide) (by rw [hlo]; decide) (Nat.le_of_ble_eq_true rfl) (fun v6 s7 => ?_)
    refine g_imul O dX9_laysPrices_32 ?_
    refine g_iast O rfl (by decide) dX9_laysPrices_33 (fun s8 => ?_)
    refine g_iconst O dX9_laysPrices_34 ?_
    refine g_istore_n (lv2 := [(2, vI 0), (0, vR 0), (1, vI i1)]) O dX9_laysPrices_35 rfl (by decide) rfl ?_
    refine g_pick [1, 2, 0] rfl ?_
    refine lt_X9_laysPrices_36 O hrt hfr hlo  (fun s9 => ?_) FU 0 s8
    refine g_iinc (lv2 := [(1, vI (i1 + 1)), (0, vR 0)]) O dX9_laysPrices_101 1 rfl (by decide) rfl ?_
    refine g_goto (tgt := 2) O dX9_laysPrices_104 (by decide) ?_
    refine g_pick [1, 0] rfl ?_
    exact ih (i1 + 1) s9
theorem hd_X9_laysPrices : yX9_laysPrices.cls ≠ "java/lang/invoke/MethodHandle" ∧ yX9_laysPrices.cls ≠ "java/lang/invoke/VarHandle" ∧ (parseMethodDescriptor yX9_laysPrices.desc).map (fun d => d.parameters.length) = some 0 := by decide +kernel
set_option maxRecDepth 20000 in
set_option maxHeartbeats 4000000 in
theorem ct_X9_laysPrices   (s : St) : Ctr LM yX9_laysPrices cX9_laysPrices 3 none 0 2 44 [vR 0] s (X9_laysPrices s) := by
  refine Ctr.of (by decide +kernel) (fun ρ => Nat.le_of_ble_eq_true rfl) (lv := [(0, vR 0)]) (fun ρ => rfl) (fun K X O hrt hfr hlo => ?_)
  unfold X9_laysPrices
  refine g_iconst O dX9_laysPrices_0 ?_
  refine g_istore_n (lv2 := [(1, vI 0), (0, vR 0)]) O dX9_laysPrices_1 rfl (by decide) rfl ?_
  refine g_pick [1, 0] rfl ?_
  refine lt_X9_laysPrices_2 O hrt hfr hlo  (fun s1 => ?_) FU 0 s
  exact g_vret O hrt dX9_laysPrices_107
def X9_lesser (i0 : Int) (i1 : Int) (s : St) : Rs := cLt i0 i1 (some (i0, s)) (some (i1, s))
theorem hd_X9_lesser : yX9_lesser.cls ≠ "java/lang/invoke/MethodHandle" ∧ yX9_lesser.cls ≠ "java/lang/invoke/VarHandle" ∧ (parseMethodDescriptor yX9_lesser.desc).map (fun d => d.parameters.length) = some 2 := by decide +kernel
set_option maxRecDepth 20000 in
set_option maxHeartbeats 4000000 in
theorem ct_X9_lesser  (i0 : Int) (i1 : Int) (s : St) : Ctr LM yX9_lesser cX9_lesser 2 (Option.some .int) 1 0 0 [vI i0, vI i1] s (X9_lesser i0 i1 s) := by
  refine Ctr.of (by decide +kernel) (fun ρ => Nat.le_of_ble_eq_true rfl) (lv := [(0, vI i0), (1, vI i1)]) (fun ρ => rfl) (fun K X O hrt hfr hlo => ?_)
  unfold X9_lesser
  refine g_iload_n O dX9_lesser_0 rfl 0 rfl ?_
  refine g_iload_n O dX9_lesser_1 rfl 1 rfl ?_
  refine g_icmp_ge (tgt := 9) O dX9_lesser_2 (by decide) ?_ ?_
  · refine g_iload_n O dX9_lesser_9 rfl 1 rfl ?_
    exact g_iret O hrt rfl dX9_lesser_10
  refine g_iload_n O dX9_lesser_5 rfl 0 rfl ?_
  refine g_goto (tgt := 10) O dX9_lesser_6 (by decide) ?_
  exact g_iret O hrt rfl dX9_lesser_10
def X9_laysForest_29 (i1 : Int) (i2 : Int) (i3 : Int) (i4 : Int) (i5 : Int) (k : St → Rs) : Nat → Int → St → Rs
  | 0, _, _ => none
  | n + 1, i6, s => cLt i1 i6 (k s) (rd s 21 169 (i5 * (i6 - i3)) (fun v1 => rd s 17 12 i6 (fun v2 => wr s 21 169 (i5 * ((i6 - i3) + 1)) (v1 + v2) (fun s3 => X9_laysForest_29 i1 i2 i3 i4 i5 k n (i6 + 1) s3))))
def X9_laysForest_79 (i1 : Int) (i2 : Int) (i3 : Int) (i4 : Int) (i5 : Int) (k : St → Rs) : Nat → Int → St → Rs
  | 0, _, _ => none
  | n + 1, i6, s => cLt i2 i6 (k s) (rd s 21 169 (i6 - i4) (fun v1 => rd s 18 12 i6 (fun v2 => wr s 21 169 ((i6 - i4) + 1) (v1 + v2) (fun s3 => X9_laysForest_79 i1 i2 i3 i4 i5 k n (i6 + 1) s3))))
def X9_laysForest_134 (i1 : Int) (i2 : Int) (i3 : Int) (i4 : Int) (i5 : Int) (i6 : Int) (k : St → Rs) : Nat → Int → St → Rs
  | 0, _, _ => none
  | n + 1, i7, s => cLt i2 i7 (k s) (rd s 21 169 ((((i5 * (i6 - i3)) + i7) - i4) + 1) (fun v1 => rd s 17 12 i6 (fun v2 => rd s 21 169 (((i5 * ((i6 - i3) + 1)) + i7) - i4) (fun v3 => rd s 18 12 i7 (fun v4 => cl (X9_leftOf 0 i6 s) (fun v5 s6 => jn (fun (x7 : Int) (s8 : St) => jn (fun (x10 : Int) (s11 : St) => cl (X9_lesser (v1 + v2) (v3 + v4) s11) (fun v13 s14 => cl (X9_lesser x10 v13 s14) (fun v15 s16 => wr s16 21 169 ((((i5 * ((i6 - i3) + 1)) + i7) - i4) + 1) v15 (fun s17 => cEq x7 0 (X9_laysForest_134 i1 i2 i3 i4 i5 i6 k n (i7 + 1) s17) (wr s17 20 144 ((12 * i6) + i7) v15 (fun s18 => X9_laysForest_134 i1 i2 i3 i4 i5 i6 k n (i7 + 1) s18)))))) (fun k12 => cEq x7 0 (cl (X9_leftOf 0 i6 s8) (fun v19 s20 => cl (X9_leftOf 1 i7 s20) (fun v21 s22 => rd s22 21 169 (((i5 * (v19 - i3)) + v21) - i4) (fun v23 => rd s22 20 144 ((12 * i6) + i7) (fun v24 => k12 (v23 + v24) s22))))) (rd s8 21 169 (((i5 * (i6 - i3)) + i7) - i4) (fun v25 => rd s8 19 144 ((12 * i6) + i7) (fun v26 => k12 (v25 + v26) s8))))) (fun k9 => jn (fun  (s27 : St) => k9 0 s27) (fun k28 => cEq v5 i3 (cl (X9_leftOf 1 i7 s6) (fun v29 s30 => cEq v29 i4 (k9 1 s30) (k28 s30))) (k28 s6)))))))))
def X9_laysForest_124 (i1 : Int) (i2 : Int) (i3 : Int) (i4 : Int) (i5 : Int) (k : St → Rs) : Nat → Int → St → Rs
  | 0, _, _ => none
  | n + 1, i6, s => cLt i1 i6 (k s) (X9_laysForest_134 i1 i2 i3 i4 i5 i6 (fun s1 => X9_laysForest_124 i1 i2 i3 i4 i5 k n (i6 + 1) s1) FU i4 s)
def X9_laysForest (i1 : Int) (i2 : Int) (s : St) : Rs := cl (X9_leftOf 0 i1 s) (fun v1 s2 => cl (X9_leftOf 1 i2 s2) (fun v3 s4 => wr s4 21 169 0 0 (fun s5 => X9_laysForest_29 i1 i2 v1 v3 13 (fun s6 => X9_laysForest_79 i1 i2 v1 v3 13 (fun s7 => X9_laysForest_124 i1 i2 v1 v3 13 (fun s8 => some (0, s8)) FU v1 s7) FU v3 s6) FU v1 s5)))
set_option maxRecDepth 20000 in
set_option maxHeartbeats 4000000 in
theorem lt_X9_laysForest_29 {K : Cx} {X : Wx} (O : OKx LM K X yX9_laysForest.cls cX9_laysForest 13) (hrt : (kMe K).sig.returnType = none) (hfr : (kR K).frames = 1) (hlo : (kR K).locals = 22) {i1 : Int} {i2 : Int} {i3 : Int} {i4 : Int} {i5 : Int} {k : St → Rs}  (hk : ∀  (s : St), GX LM K X 13 0 75 [(0, vR 0), (1, vI i1), (2, vI i2), (3, vI i3), (4, vI i4), (5, vI i5)] [] s (k s)) : ∀ (n : Nat) (i6 : Int) (s : St), GX LM K X 13 0 29 [(0, vR 0), (1, vI i1), (2, vI i2), (3, vI i3), (4, vI i4), (5, vI i5), (6, vI i6)] [] s (X9_laysForest_29 i1 i2 i3 i4 i5 k n i6 s) := by
  intro n
  induction n with
  | zero => intro i6 s; exact GX.none
  | succ n ih =>
    intro i6 s
    rw [X9_laysForest_29]
    refine g_iload O dX9_laysForest_29 6 rfl ?_
    refine g_iload_n O dX9_laysForest_31 rfl 1 rfl ?_
    refine g_icmp_gt (tgt := 75) O dX9_laysForest_32 (by decide) ?_ ?_
    · refine g_pick [0, 1, 2, 3, 4, 5] rfl ?_
      exact hk s
    refine g_aload_n O dX9_laysForest_35 rfl 0 rfl ?_
    refine g_getR O fw_9_71 rfl dX9_laysForest_36 rfl ?_
    refine g_iload O dX9_laysForest_39 5 rfl ?_
    refine g_iload O dX9_laysForest_41 6 rfl ?_
    refine g_iload_n O dX9_laysForest_43 rfl 3 rfl ?_
    refine g_isub O dX9_laysForest_44 ?_
    refine g_iconst O dX9_laysForest_45 ?_
    refine g_iadd O dX9_laysForest_46 ?_
    refine g_imul O dX9_laysForest_47 ?_
    refine g_aload_n O dX9_laysForest_48 rfl 0 rfl ?_
    refine g_getR O fw_9_71 rfl dX9_laysForest_49 rfl ?_
    refine g_iload O dX9_laysForest_52 5 rfl ?_
    refine g_iload O dX9_laysForest_54 6 rfl ?_
    refine g_iload_n O dX9_laysForest_56 rfl 3 rfl ?_
    refine g_isub O dX9_laysForest_57 ?_
    refine g_imul O dX9_laysForest_58 ?_
    refine g_iald O rfl (by decide) dX9_laysForest_59 (fun v1 => ?_)
    refine g_aload_n O dX9_laysForest_60 rfl 0 rfl ?_
    refine g_getR O fw_9_59 rfl dX9_laysForest_61 rfl ?_
    refine g_iload O dX9_laysForest_64 6 rfl ?_
    refine g_iald O rfl (by decide) dX9_laysForest_66 (fun v2 => ?_)
    refine g_iadd O dX9_laysForest_67 ?_
    refine g_iast O rfl (by decide) dX9_laysForest_68 (fun s3 => ?_)
    refine g_iinc (lv2 := [(6, vI (i6 + 1)), (0, vR 0), (1, vI i1), (2, vI i2), (3, vI i3), (4, vI i4), (5, vI i5)]) O dX9_laysForest_69 6 rfl (by decide) rfl ?_
    refine g_goto (tgt := 29) O dX9_laysForest_72 (by decide) ?_
    refine g_pick [1, 2, 3, 4, 5, 6, 0] rfl ?_
    exact ih (i6 + 1) s3
set_option maxRecDepth 20000 in
set_option maxHeartbeats 4000000 in
theorem lt_X9_laysForest_79 {K : Cx} {X : Wx} (O : OKx LM K X yX9_laysForest.cls cX9_laysForest 13) (hrt : (kMe K).sig.returnType = none) (hfr : (kR K).frames = 1) (hlo : (kR K).locals = 22) {i1 : Int} {i2 : Int} {i3 : Int} {i4 : Int} {i5 : Int} {k : St → Rs}  (hk : ∀  (s : St), GX LM K X 13 0 121 [(0, vR 0), (1, vI i1), (2, vI i2), (3, vI i3), (4, vI i4), (5, vI i5)] [] s (k s)) : ∀ (n : Nat) (i6 : Int) (s : St), GX LM K X 13 0 79 [(0, vR 0), (1, vI i1), (2, vI i2), (3, vI i3), (4, vI i4), (5, vI i5), (6, vI i6)] [] s (X9_laysForest_79 i1 i2 i3 i4 i5 k n i6 s) := by
  intro n
  induction n with
  | zero => intro i6 s; exact GX.none
  | succ n ih =>
    intro i6 s
    rw [X9_laysForest_79]
    refine g_iload O dX9_laysForest_79 6 rfl ?_
    refine g_iload_n O dX9_laysForest_81 rfl 2 rfl ?_
    refine g_icmp_gt (tgt := 121) O dX9_laysForest_82 (by decide) ?_ ?_
    · refine g_pick [0, 1, 2, 3, 4, 5] rfl ?_
      exact hk s
    refine g_aload_n O dX9_laysForest_85 rfl 0 rfl ?_
    refine g_getR O fw_9_71 rfl dX9_laysForest_86 rfl ?_
    refine g_iload O dX9_laysForest_89 6 rfl ?_
    refine g_iload O dX9_laysForest_91 4 rfl ?_
    refine g_isub O dX9_laysForest_93 ?_
    refine g_iconst O dX9_laysForest_94 ?_
    refine g_iadd O dX9_laysForest_95 ?_
    refine g_aload_n O dX9_laysForest_96 rfl 0 rfl ?_
    refine g_getR O fw_9_71 rfl dX9_laysForest_97 rfl ?_
    refine g_iload O dX9_laysForest_100 6 rfl ?_
    refine g_iload O dX9_laysForest_102 4 rfl ?_
    refine g_isub O dX9_laysForest_104 ?_
    refine g_iald O rfl (by decide) dX9_laysForest_105 (fun v1 => ?_)
    refine g_aload_n O dX9_laysForest_106 rfl 0 rfl ?_
    refine g_getR O fw_9_62 rfl dX9_laysForest_107 rfl ?_
    refine g_iload O dX9_laysForest_110 6 rfl ?_
    refine g_iald O rfl (by decide) dX9_laysForest_112 (fun v2 => ?_)
    refine g_iadd O dX9_laysForest_113 ?_
    refine g_iast O rfl (by decide) dX9_laysForest_114 (fun s3 => ?_)
    refine g_iinc (lv2 := [(6, vI (i6 + 1)), (0, vR 0), (1, vI i1), (2, vI i2), (3, vI i3), (4, vI i4), (5, vI i5)]) O dX9_laysForest_115 6 rfl (by decide) rfl ?_
    refine g_goto (tgt := 79) O dX9_laysForest_118 (by decide) ?_
    refine g_pick [1, 2, 3, 4, 5, 6, 0] rfl ?_
    exact ih (i6 + 1) s3
set_option maxRecDepth 20000 in
set_option maxHeartbeats 4000000 in
theorem lt_X9_laysForest_134 {K : Cx} {X : Wx} (O : OKx LM K X yX9_laysForest.cls cX9_laysForest 13) (hrt : (kMe K).sig.returnType = none) (hfr : (kR K).frames = 1) (hlo : (kR K).locals = 22) {i1 : Int} {i2 : Int} {i3 : Int} {i4 : Int} {i5 : Int} {i6 : Int} {k : St → Rs}  (hk : ∀  (s : St), GX LM K X 13 0 378 [(0, vR 0), (1, vI i1), (2, vI i2), (3, vI i3), (4, vI i4), (5, vI i5), (6, vI i6)] [] s (k s)) : ∀ (n : Nat) (i7 : Int) (s : St), GX LM K X 13 0 134 [(0, vR 0), (1, vI i1), (2, vI i2), (3, vI i3), (4, vI i4), (5, vI i5), (6, vI i6), (7, vI i7)] [] s (X9_laysForest_134 i1 i2 i3 i4 i5 i6 k n i7 s) := by
  intro n
  induction n with
  | zero => intro i7 s; exact GX.none
  | succ n ih =>
    intro i7 s
    rw [X9_laysForest_134]
    refine g_iload O dX9_laysForest_134 7 rfl ?_
    refine g_iload_n O dX9_laysForest_136 rfl 2 rfl ?_
    refine g_icmp_gt (tgt := 378) O dX9_laysForest_137 (by decide) ?_ ?_
    · refine g_pick [0, 1, 2, 3, 4, 5, 6] rfl ?_
      exact hk s
    refine g_aload_n O dX9_laysForest_140 rfl 0 rfl ?_
    refine g_getR O fw_9_71 rfl dX9_laysForest_141 rfl ?_
    refine g_iload O dX9_laysForest_144 5 rfl ?_
    refine g_iload O dX9_laysForest_146 6 rfl ?_
    refine g_iload_n O dX9_laysForest_148 rfl 3 rfl ?_
    refine g_isub O dX9_laysForest_149 ?_
    refine g_imul O dX9_laysForest_150 ?_
    refine g_iload O dX9_laysForest_151 7 rfl ?_
    refine g_iadd O dX9_laysForest_153 ?_
    refine g_iload O dX9_laysForest_154 4 rfl ?_
    refine g_isub O dX9_laysForest_156 ?_
    refine g_iconst O dX9_laysForest_157 ?_
    refine g_iadd O dX9_laysForest_158 ?_
    refine g_iald O rfl (by decide) dX9_laysForest_159 (fun v1 => ?_)
    refine g_aload_n O dX9_laysForest_160 rfl 0 rfl ?_
    refine g_getR O fw_9_59 rfl dX9_laysForest_161 rfl ?_
    refine g_iload O dX9_laysForest_164 6 rfl ?_
    refine g_iald O rfl (by decide) dX9_laysForest_166 (fun v2 => ?_)
    refine g_iadd O dX9_laysForest_167 ?_
    refine g_istore (lv2 := [(8, vI (v1 + v2)), (0, vR 0), (1, vI i1), (2, vI i2), (3, vI i3), (4, vI i4), (5, vI i5), (6, vI i6), (7, vI i7)]) O dX9_laysForest_168 (by decide) rfl ?_
    refine g_aload_n O dX9_laysForest_170 rfl 1 rfl ?_
    refine g_getR O fw_9_71 rfl dX9_laysForest_171 rfl ?_
    refine g_iload O dX9_laysForest_174 6 rfl ?_
    refine g_iload O dX9_laysForest_176 7 rfl ?_
    refine g_iload_n O dX9_laysForest_178 rfl 4 rfl ?_
    refine g_isub O dX9_laysForest_179 ?_
    refine g_iconst O dX9_laysForest_180 ?_
    refine g_iadd O dX9_laysForest_181 ?_
    refine g_imul O dX9_laysForest_182 ?_
    refine g_iload O dX9_laysForest_183 8 rfl ?_
    refine g_iadd O dX9_laysForest_185 ?_
    refine g_iload O dX9_laysForest_186 5 rfl ?_
    refine g_isub O dX9_laysForest_188 ?_
    refine g_iald O rfl (by decide) dX9_laysForest_189 (fun v3 => ?_)
    refine g_aload_n O dX9_laysForest_190 rfl 1 rfl ?_
    refine g_getR O fw_9_62 rfl dX9_laysForest_191 rfl ?_
    refine g_iload O dX9_laysForest_194 8 rfl ?_
    refine g_iald O rfl (by decide) dX9_laysForest_196 (fun v4 => ?_)
    refine g_iadd O dX9_laysForest_197 ?_
    refine g_istore (lv2 := [(9, vI (v3 + v4)), (8, vI (v1 + v2)), (0, vR 0), (1, vI i1), (2, vI i2), (3, vI i3), (4, vI i4), (5, vI i5), (6, vI i6), (7, vI i7)]) O dX9_laysForest_198 (by decide) rfl ?_
    refine g_aload_n O dX9_laysForest_200 rfl 2 rfl ?_
    refine g_iconst O dX9_laysForest_201 ?_
    refine g_iload O dX9_laysForest_202 8 rfl ?_
    refine g_callV1 (As := [vI 0, vI i6]) (rest := []) (b := 0) (ci := 9) O mw_4_235 mw_4_237 mp_3_7 mw_4_238 mw_1_10 hd_X9_leftOf rfl ⟨_, _, rfl⟩ rfl dX9_laysForest_204 (ct_X9_leftOf 0 i6 s) (by rw [hfr]; decide) (by rw [hlo]; decide) (Nat.le_of_ble_eq_true rfl) (fun v5 s6 => ?_)
    refine g_iload_n O dX9_laysForest_207 rfl 5 rfl ?_
    refine g_jn (fun (j : Int → St → Rs) => ∀ (x7 : Int) (s8 : St), GX LM K X 13 0 228 [(0, vR 0), (1, vI i1), (2, vI i2), (3, vI i3), (4, vI i4), (5, vI i5), (6, vI i6), (7, vI i7), (8, vI (v1 + v2)), (9, vI (v3 + v4))] [vI x7] s8 (j x7 s8)) ?_ ?_
    · intro x7 s8
      refine g_istore (lv2 := [(10, vI x7), (0, vR 0), (1, vI i1), (2, vI i2), (3, vI i3), (4, vI i4), (5, vI i5), (6, vI i6), (7, vI i7), (8, vI (v1 + v2)), (9, vI (v3 + v4))]) O dX9_laysForest_228 (by decide) rfl ?_
      refine g_iload O dX9_laysForest_230 0 rfl ?_
      refine g_jn (fun (j : Int → St → Rs) => ∀ (x10 : Int) (s11 : St), GX LM K X 13 0 312 [(0, vR 0), (1, vI i1), (2, vI i2), (3, vI i3), (4, vI i4), (5, vI i5), (6, vI i6), (7, vI i7), (8, vI (v1 + v2)), (9, vI (v3 + v4)), (10, vI x7)] [vI x10] s11 (j x10 s11)) ?_ ?_
      · intro x10 s11
        refine g_istore (lv2 := [(11, vI x10), (0, vR 0), (1, vI i1), (2, vI i2), (3, vI i3), (4, vI i4), (5, vI i5), (6, vI i6), (7, vI i7), (8, vI (v1 + v2)), (9, vI (v3 + v4)), (10, vI x7)]) O dX9_laysForest_312 (by decide) rfl ?_
        refine g_iload O dX9_laysForest_314 0 rfl ?_
        refine g_iload O dX9_laysForest_316 9 rfl ?_
        refine g_iload O dX9_laysForest_318 10 rfl ?_
        refine g_callS1 (As := [vI (v1 + v2), vI (v3 + v4)]) (rest := [vI x10]) O mw_5_84 mw_5_85 mw_5_86 mw_1_10 hd_X9_lesser rfl dX9_laysForest_320 (ct_X9_lesser (v1 + v2) (v3 + v4) s11) (by rw [hfr]; decide) (by rw [hlo]; decide) (Nat.le_of_ble_eq_true rfl) (fun v13 s14 => ?_)
        refine g_callS1 (As := [vI x10, vI v13]) (rest := []) O mw_5_84 mw_5_85 mw_5_86 mw_1_10 hd_X9_lesser rfl dX9_laysForest_323 (ct_X9_lesser x10 v13 s14) (by rw [hfr]; decide) (by rw [hlo]; decide) (Nat.le_of_ble_eq_true rfl) (fun v15 s16 => ?_)
        refine g_istore (lv2 := [(12, vI v15), (11, vI x10), (0, vR 0), (1, vI i1), (2, vI i2), (3, vI i3), (4, vI i4), (5, vI i5), (6, vI i6), (7, vI i7), (8, vI (v1 + v2)), (9, vI (v3 + v4)), (10, vI x7)]) O dX9_laysForest_326 (by decide) rfl ?_
        refine g_aload_n O dX9_laysForest_328 rfl 2 rfl ?_
        refine g_getR O fw_9_71 rfl dX9_laysForest_329 rfl ?_
        refine g_iload O dX9_laysForest_332 7 rfl ?_
        refine g_iload O dX9_laysForest_334 8 rfl ?_
        refine g_iload_n O dX9_laysForest_336 rfl 5 rfl ?_
        refine g_isub O dX9_laysForest_337 ?_
        refine g_iconst O dX9_laysForest_338 ?_
        refine g_iadd O dX9_laysForest_339 ?_
        refine g_imul O dX9_laysForest_340 ?_
        refine g_iload O dX9_laysForest_341 9 rfl ?_
        refine g_iadd O dX9_laysForest_343 ?_
        refine g_iload O dX9_laysForest_344 6 rfl ?_
        refine g_isub O dX9_laysForest_346 ?_
        refine g_iconst O dX9_laysForest_347 ?_
        refine g_iadd O dX9_laysForest_348 ?_
        refine g_iload O dX9_laysForest_349 0 rfl ?_
        refine g_iast O rfl (by decide) dX9_laysForest_351 (fun s17 => ?_)
        refine g_iload O dX9_laysForest_352 12 rfl ?_
        refine g_if_eq (tgt := 372) O dX9_laysForest_354 (by decide) ?_ ?_
        · refine g_iinc (lv2 := [(7, vI (i7 + 1)), (12, vI v15), (11, vI x10), (0, vR 0), (1, vI i1), (2, vI i2), (3, vI i3), (4, vI i4), (5, vI i5), (6, vI i6), (8, vI (v1 + v2)), (9, vI (v3 + v4)), (10, vI x7)]) O dX9_laysForest_372 9 rfl (by decide) rfl ?_
          refine g_goto (tgt := 134) O dX9_laysForest_375 (by decide) ?_
          refine g_pick [3, 4, 5, 6, 7, 8, 9, 0] rfl ?_
          exact ih (i7 + 1) s17
        refine g_aload_n O dX9_laysForest_357 rfl 2 rfl ?_
        refine g_getR O fw_9_68 rfl dX9_laysForest_358 rfl ?_
        refine g_bipush O dX9_laysForest_361 (by decide +kernel) ?_
        refine g_iload O dX9_laysForest_363 8 rfl ?_
        refine g_imul O dX9_laysForest_365 ?_
        refine g_iload O dX9_laysForest_366 9 rfl ?_
        refine g_iadd O dX9_laysForest_368 ?_
        refine g_iload O dX9_laysForest_369 0 rfl ?_
        refine g_iast O rfl (by decide) dX9_laysForest_371 (fun s18 => ?_)
        refine g_iinc (lv2 := [(7, vI (i7 + 1)), (12, vI v15), (11, vI x10), (0, vR 0), (1, vI i1), (2, vI i2), (3, vI i3), (4, vI i4), (5, vI i5), (6, vI i6), (8, vI (v1 + v2)), (9, vI (v3 + v4)), (10, vI x7)]) O dX9_laysForest_372 9 rfl (by decide) rfl ?_
        refine g_goto (tgt := 134) O dX9_laysForest_375 (by decide) ?_
        refine g_pick [3, 4, 5, 6, 7, 8, 9, 0] rfl ?_
        exact ih (i7 + 1) s18
      intro k12 hk12
      refine g_if_eq (tgt := 270) O dX9_laysForest_232 (by decide) ?_ ?_
      · refine g_aload_n O dX9_laysForest_270 rfl 1 rfl ?_
        refine g_getR O fw_9_71 rfl dX9_laysForest_271 rfl ?_
        refine g_iload O dX9_laysForest_274 6 rfl ?_
        refine g_aload_n O dX9_laysForest_276 rfl 1 rfl ?_
        refine g_iconst O dX9_laysForest_277 ?_
        refine g_iload O dX9_laysForest_278 7 rfl ?_
        refine g_callV1 (As := [vI 0, vI i6]) (rest := [vI i5, vR 21]) (b := 0) (ci := 9) O mw_4_235 mw_4_237 mp_3_7 mw_4_238 mw_1_10 hd_X9_leftOf rfl ⟨_, _, rfl⟩ rfl dX9_laysForest_280 (ct_X9_leftOf 0 i6 s8) (by rw [hfr]; decide) (by rw [hlo]; decide) (Nat.le_of_ble_eq_true rfl) (fun v19 s20 => ?_)
        refine g_iload_n O dX9_laysForest_283 rfl 4 rfl ?_
        refine g_isub O dX9_laysForest_284 ?_
        refine g_imul O dX9_laysForest_285 ?_
        refine g_aload_n O dX9_laysForest_286 rfl 1 rfl ?_
        refine g_iconst O dX9_laysForest_287 ?_
        refine g_iload O dX9_laysForest_288 8 rfl ?_
        refine g_callV1 (As := [vI 1, vI i7]) (rest := [vI (i5 * (v19 - i3)), vR 21]) (b := 0) (ci := 9) O mw_4_235 mw_4_237 mp_3_7 mw_4_238 mw_1_10 hd_X9_leftOf rfl ⟨_, _, rfl⟩ rfl dX9_laysForest_290 (ct_X9_leftOf 1 i7 s20) (by rw [hfr]; decide) (by rw [hlo]; decide) (Nat.le_of_ble_eq_true rfl) (fun v21 s22 => ?_)
        refine g_iadd O dX9_laysForest_293 ?_
        refine g_iload O dX9_laysForest_294 5 rfl ?_
        refine g_isub O dX9_laysForest_296 ?_
        refine g_iald O rfl (by decide) dX9_laysForest_297 (fun v23 => ?_)
        refine g_aload_n O dX9_laysForest_298 rfl 1 rfl ?_
        refine g_getR O fw_9_68 rfl dX9_laysForest_299 rfl ?_
        refine g_bipush O dX9_laysForest_302 (by decide +kernel) ?_
        refine g_iload O dX9_laysForest_304 7 rfl ?_
        refine g_imul O dX9_laysForest_306 ?_
        refine g_iload O dX9_laysForest_307 8 rfl ?_
        refine g_iadd O dX9_laysForest_309 ?_
        refine g_iald O rfl (by decide) dX9_laysForest_310 (fun v24 => ?_)
        refine g_iadd O dX9_laysForest_311 ?_
        refine g_pick [1, 2, 3, 4, 5, 6, 7, 8, 9, 10, 0] rfl ?_
        exact hk12 (v23 + v24) s22
      refine g_aload_n O dX9_laysForest_235 rfl 1 rfl ?_
      refine g_getR O fw_9_71 rfl dX9_laysForest_236 rfl ?_
      refine g_iload O dX9_laysForest_239 6 rfl ?_
      refine g_iload O dX9_laysForest_241 7 rfl ?_
      refine g_iload_n O dX9_laysForest_243 rfl 4 rfl ?_
      refine g_isub O dX9_laysForest_244 ?_
      refine g_imul O dX9_laysForest_245 ?_
      refine g_iload O dX9_laysForest_246 8 rfl ?_
      refine g_iadd O dX9_laysForest_248 ?_
      refine g_iload O dX9_laysForest_249 5 rfl ?_
      refine g_isub O dX9_laysForest_251 ?_
      refine g_iald O rfl (by decide) dX9_laysForest_252 (fun v25 => ?_)
      refine g_aload_n O dX9_laysForest_253 rfl 1 rfl ?_
      refine g_getR O fw_9_65 rfl dX9_laysForest_254 rfl ?_
      refine g_bipush O dX9_laysForest_257 (by decide +kernel) ?_
      refine g_iload O dX9_laysForest_259 7 rfl ?_
      refine g_imul O dX9_laysForest_261 ?_
      refine g_iload O dX9_laysForest_262 8 rfl ?_
      refine g_iadd O dX9_laysForest_264 ?_
      refine g_iald O rfl (by decide) dX9_laysForest_265 (fun v26 => ?_)
      refine g_iadd O dX9_laysForest_266 ?_
      refine g_goto (tgt := 312) O dX9_laysForest_267 (by decide) ?_
      refine g_pick [1, 2, 3, 4, 5, 6, 7, 8, 9, 10, 0] rfl ?_
      exact hk12 (v25 + v26) s8
    intro k9 hk9
    refine g_jn (fun (j : St → Rs) => ∀  (s27 : St), GX LM K X 13 0 227 [(0, vR 0), (1, vI i1), (2, vI i2), (3, vI i3), (4, vI i4), (5, vI i5), (6, vI i6), (7, vI i7), (8, vI (v1 + v2)), (9, vI (v3 + v4))] [] s27 (j  s27)) ?_ ?_
    · intro  s27
      refine g_iconst O dX9_laysForest_227 ?_
      exact hk9 0 s27
    intro k28 hk28
    refine g_icmp_ne (tgt := 227) O dX9_laysForest_208 (by decide) ?_ ?_
    · refine g_pick [2, 3, 4, 5, 6, 7, 8, 9, 1, 0] rfl ?_
      exact hk28 s6
    refine g_aload_n O dX9_laysForest_211 rfl 2 rfl ?_
    refine g_iconst O dX9_laysForest_212 ?_
    refine g_iload O dX9_laysForest_213 9 rfl ?_
    refine g_callV1 (As := [vI 1, vI i7]) (rest := []) (b := 0) (ci := 9) O mw_4_235 mw_4_237 mp_3_7 mw_4_238 mw_1_10 hd_X9_leftOf rfl ⟨_, _, rfl⟩ rfl dX9_laysForest_215 (ct_X9_leftOf 1 i7 s6) (by rw [hfr]; decide) (by rw [hlo]; decide) (Nat.le_of_ble_eq_true rfl) (fun v29 s30 => ?_)
    refine g_iload O dX9_laysForest_218 6 rfl ?_
    refine g_icmp_ne (tgt := 227) O dX9_laysForest_220 (by decide) ?_ ?_
    · refine g_pick [2, 3, 4, 5, 6, 7, 8, 9, 1, 0] rfl ?_
      exact hk28 s30
    refine g_iconst O dX9_laysForest_223 ?_
    refine g_goto (tgt := 228) O dX9_laysForest_224 (by decide) ?_
    refine g_pick [2, 3, 4, 5, 6, 7, 8, 9, 1, 0] rfl ?_
    exact hk9 1 s30
set_option maxRecDepth 20000 in
set_option maxHeartbeats 4000000 in
theorem lt_X9_laysForest_124 {K : Cx} {X : Wx} (O : OKx LM K X yX9_laysForest.cls cX9_laysForest 13) (hrt : (kMe K).sig.returnType = none) (hfr : (kR K).frames = 1) (hlo : (kR K).locals = 22) {i1 : Int} {i2 : Int} {i3 : Int} {i4 : Int} {i5 : Int} {k : St → Rs}  (hk : ∀  (s : St), GX LM K X 13 0 384 [] [] s (k s)) : ∀ (n : Nat) (i6 : Int) (s : St), GX LM K X 13 0 124 [(0, vR 0), (1, vI i1), (2, vI i2), (3, vI i3), (4, vI i4), (5, vI i5), (6, vI i6)] [] s (X9_laysForest_124 i1 i2 i3 i4 i5 k n i6 s) := by
  intro n
  induction n with
  | zero => intro i6 s; exact GX.none
  | succ n ih =>
    intro i6 s
    rw [X9_laysForest_124]
    refine g_iload O dX9_laysForest_124 6 rfl ?_
    refine g_iload_n O dX9_laysForest_126 rfl 1 rfl ?_
    refine g_icmp_gt (tgt := 384) O dX9_laysForest_127 (by decide) ?_ ?_
    · refine g_pick [] rfl ?_
      exact hk s
    refine g_iload O dX9_laysForest_130 4 rfl ?_
    refine g_istore (lv2 := [(7, vI i4), (0, vR 0), (1, vI i1), (2, vI i2), (3, vI i3), (4, vI i4), (5, vI i5), (6, vI i6)]) O dX9_laysForest_132 (by decide) rfl ?_
    refine g_pick [1, 2, 3, 4, 5, 6, 7, 0] rfl ?_
    refine lt_X9_laysForest_134 O hrt hfr hlo  (fun s1 => ?_) FU i4 s
    refine g_iinc (lv2 := [(6, vI (i6 + 1)), (0, vR 0), (1, vI i1), (2, vI i2), (3, vI i3), (4, vI i4), (5, vI i5)]) O dX9_laysForest_378 6 rfl (by decide) rfl ?_
    refine g_goto (tgt := 124) O dX9_laysForest_381 (by decide) ?_
    refine g_pick [1, 2, 3, 4, 5, 6, 0] rfl ?_
    exact ih (i6 + 1) s1
theorem hd_X9_laysForest : yX9_laysForest.cls ≠ "java/lang/invoke/MethodHandle" ∧ yX9_laysForest.cls ≠ "java/lang/invoke/VarHandle" ∧ (parseMethodDescriptor yX9_laysForest.desc).map (fun d => d.parameters.length) = some 2 := by decide +kernel
set_option maxRecDepth 20000 in
set_option maxHeartbeats 4000000 in
theorem ct_X9_laysForest  (i1 : Int) (i2 : Int) (s : St) : Ctr LM yX9_laysForest cX9_laysForest 13 none 0 1 22 [vR 0, vI i1, vI i2] s (X9_laysForest i1 i2 s) := by
  refine Ctr.of (by decide +kernel) (fun ρ => Nat.le_of_ble_eq_true rfl) (lv := [(0, vR 0), (1, vI i1), (2, vI i2)]) (fun ρ => rfl) (fun K X O hrt hfr hlo => ?_)
  unfold X9_laysForest
  refine g_aload_n O dX9_laysForest_0 rfl 0 rfl ?_
  refine g_iconst O dX9_laysForest_1 ?_
  refine g_iload_n O dX9_laysForest_2 rfl 1 rfl ?_
  refine g_callV1 (As := [vI 0, vI i1]) (rest := []) (b := 0) (ci := 9) O mw_4_235 mw_4_237 mp_3_7 mw_4_238 mw_1_10 hd_X9_leftOf rfl ⟨_, _, rfl⟩ rfl dX9_laysForest_3 (ct_X9_leftOf 0 i1 s) (by rw [hfr]; decide) (by rw [hlo]; decide) (Nat.le_of_ble_eq_true rfl) (fun v1 s2 => ?_)
  refine g_istore_n (lv2 := [(3, vI v1), (0, vR 0), (1, vI i1), (2, vI i2)]) O dX9_laysForest_6 rfl (by decide) rfl ?_
  refine g_aload_n O dX9_laysForest_7 rfl 1 rfl ?_
  refine g_iconst O dX9_laysForest_8 ?_
  refine g_iload_n O dX9_laysForest_9 rfl 3 rfl ?_
  refine g_callV1 (As := [vI 1, vI i2]) (rest := []) (b := 0) (ci := 9) O mw_4_235 mw_4_237 mp_3_7 mw_4_238 mw_1_10 hd_X9_leftOf rfl ⟨_, _, rfl⟩ rfl dX9_laysForest_10 (ct_X9_leftOf 1 i2 s2) (by rw [hfr]; decide) (by rw [hlo]; decide) (Nat.le_of_ble_eq_true rfl) (fun v3 s4 => ?_)
  refine g_istore (lv2 := [(4, vI v3), (3, vI v1), (0, vR 0), (1, vI i1), (2, vI i2)]) O dX9_laysForest_13 (by decide) rfl ?_
  refine g_bipush O dX9_laysForest_15 (by decide +kernel) ?_
  refine g_istore (lv2 := [(5, vI 13), (4, vI v3), (3, vI v1), (0, vR 0), (1, vI i1), (2, vI i2)]) O dX9_laysForest_17 (by decide) rfl ?_
  refine g_aload_n O dX9_laysForest_19 rfl 3 rfl ?_
  refine g_getR O fw_9_71 rfl dX9_laysForest_20 rfl ?_
  refine g_iconst O dX9_laysForest_23 ?_
  refine g_iconst O dX9_laysForest_24 ?_
  refine g_iast O rfl (by decide) dX9_laysForest_25 (fun s5 => ?_)
  refine g_iload_n O dX9_laysForest_26 rfl 2 rfl ?_
  refine g_istore (lv2 := [(6, vI v1), (5, vI 13), (4, vI v3), (3, vI v1), (0, vR 0), (1, vI i1), (2, vI i2)]) O dX9_laysForest_27 (by decide) rfl ?_
  refine g_pick [4, 5, 6, 3, 2, 1, 0] rfl ?_
  refine lt_X9_laysForest_29 O hrt hfr hlo  (fun s6 => ?_) FU v1 s5
  refine g_iload O dX9_laysForest_75 4 rfl ?_
  refine g_istore (lv2 := [(6, vI v3), (0, vR 0), (1, vI i1), (2, vI i2), (3, vI v1), (4, vI v3), (5, vI 13)]) O dX9_laysForest_77 (by decide) rfl ?_
  refine g_pick [1, 2, 3, 4, 5, 6, 0] rfl ?_
  refine lt_X9_laysForest_79 O hrt hfr hlo  (fun s7 => ?_) FU v3 s6
  refine g_iload_n O dX9_laysForest_121 rfl 3 rfl ?_
  refine g_istore (lv2 := [(6, vI v1), (0, vR 0), (1, vI i1), (2, vI i2), (3, vI v1), (4, vI v3), (5, vI 13)]) O dX9_laysForest_122 (by decide) rfl ?_
  refine g_pick [1, 2, 3, 4, 5, 6, 0] rfl ?_
  refine lt_X9_laysForest_124 O hrt hfr hlo  (fun s8 => ?_) FU v1 s7
  exact g_vret O hrt dX9_laysForest_384
def X9_laysCosts_13 (i1 : Int) (k : St → Rs) : Nat → Int → St → Rs
  | 0, _, _ => none
  | n + 1, i2, s => cl (X9_many 1 s) (fun v1 s2 => cLt i2 v1 (cl (X9_isKey 0 i1 0 s2) (fun v3 s4 => cEq v3 0 (X9_laysCosts_13 i1 k n (i2 + 1) s4) (cl (X9_isKey 1 i2 0 s4) (fun v5 s6 => cEq v5 0 (X9_laysCosts_13 i1 k n (i2 + 1) s6) (cl (X9_laysForest i1 i2 s6) (fun _ s8 => X9_laysCosts_13 i1 k n (i2 + 1) s8)))))) (k s2))
def X9_laysCosts_2  (k : St → Rs) : Nat → Int → St → Rs
  | 0, _, _ => none
  | n + 1, i1, s => cl (X9_many 0 s) (fun v1 s2 => cLt i1 v1 (X9_laysCosts_13 i1 (fun s3 => X9_laysCosts_2 k n (i1 + 1) s3) FU 0 s2) (k s2))
def X9_laysCosts  (s : St) : Rs := X9_laysCosts_2  (fun s1 => cl (X9_many 0 s1) (fun v2 s3 => cl (X9_many 1 s3) (fun v4 s5 => rd s5 20 144 (((12 * (v2 - 1)) + v4) - 1) (fun v6 => some (v6, s5))))) FU 0 s
set_option maxRecDepth 20000 in
set_option maxHeartbeats 4000000 in
theorem lt_X9_laysCosts_13 {K : Cx} {X : Wx} (O : OKx LM K X yX9_laysCosts.cls cX9_laysCosts 3) (hrt : (kMe K).sig.returnType = (Option.some .int)) (hfr : (kR K).frames = 3) (hlo : (kR K).locals = 69) {i1 : Int} {k : St → Rs}  (hk : ∀  (s : St), GX LM K X 3 1 54 [(0, vR 0), (1, vI i1)] [] s (k s)) : ∀ (n : Nat) (i2 : Int) (s : St), GX LM K X 3 1 13 [(0, vR 0), (1, vI i1), (2, vI i2)] [] s (X9_laysCosts_13 i1 k n i2 s) := by
  intro n
  induction n with
  | zero => intro i2 s; exact GX.none
  | succ n ih =>
    intro i2 s
    rw [X9_laysCosts_13]
    refine g_iload_n O dX9_laysCosts_13 rfl 2 rfl ?_
    refine g_aload_n O dX9_laysCosts_14 rfl 0 rfl ?_
    refine g_iconst O dX9_laysCosts_15 ?_
    refine g_callV1 (As := [vI 1]) (rest := [vI i2]) (b := 0) (ci := 9) O mw_4_216 mw_4_218 mp_3_3 mw_4_219 mw_1_10 hd_X9_many rfl ⟨_, _, rfl⟩ rfl dX9_laysCosts_16 (ct_X9_many 1 s) (by rw [hfr]; decide) (by rw [hlo]; decide) (Nat.le_of_ble_eq_true rfl) (fun v1 s2 => ?_)
    refine g_icmp_ge (tgt := 54) O dX9_laysCosts_19 (by decide) ?_ ?_
    · refine g_pick [0, 1] rfl ?_
      exact hk s2
    refine g_aload_n O dX9_laysCosts_22 rfl 0 rfl ?_
    refine g_iconst O dX9_laysCosts_23 ?_
    refine g_iload_n O dX9_laysCosts_24 rfl 1 rfl ?_
    refine g_iconst O dX9_laysCosts_25 ?_
    refine g_callV1 (As := [vI 0, vI i1, vI 0]) (rest := []) (b := 0) (ci := 9) O mw_5_30 mw_5_32 mp_3_14 mw_5_33 mw_1_10 hd_X9_isKey rfl ⟨_, _, rfl⟩ rfl dX9_laysCosts_26 (ct_X9_isKey 0 i1 0 s2) (by rw [hfr]; decide) (by rw [hlo]; decide) (Nat.le_of_ble_eq_true rfl) (fun v3 s4 => ?_)
    refine g_if_eq (tgt := 48) O dX9_laysCosts_29 (by decide) ?_ ?_
    · refine g_iinc (lv2 := [(2, vI (i2 + 1)), (0, vR 0), (1, vI i1)]) O dX9_laysCosts_48 2 rfl (by decide) rfl ?_
      refine g_goto (tgt := 13) O dX9_laysCosts_51 (by decide) ?_
      refine g_pick [1, 2, 0] rfl ?_
      exact ih (i2 + 1) s4
    refine g_aload_n O dX9_laysCosts_32 rfl 0 rfl ?_
    refine g_iconst O dX9_laysCosts_33 ?_
    refine g_iload_n O dX9_laysCosts_34 rfl 2 rfl ?_
    refine g_iconst O dX9_laysCosts_35 ?_
    refine g_callV1 (As := [vI 1, vI i2, vI 0]) (rest := []) (b := 0) (ci := 9) O mw_5_30 mw_5_32 mp_3_14 mw_5_33 mw_1_10 hd_X9_isKey rfl ⟨_, _, rfl⟩ rfl dX9_laysCosts_36 (ct_X9_isKey 1 i2 0 s4) (by rw [hfr]; decide) (by rw [hlo]; decide) (Nat.le_of_ble_eq_true rfl) (fun v5 s6 => ?_)
    refine g_if_eq (tgt := 48) O dX9_laysCosts_39 (by decide) ?_ ?_
    · refine g_iinc (lv2 := [(2, vI (i2 + 1)), (0, vR 0), (1, vI i1)]) O dX9_laysCosts_48 2 rfl (by decide) rfl ?_
      refine g_goto (tgt := 13) O dX9_laysCosts_51 (by decide) ?_
      refine g_pick [1, 2, 0] rfl ?_
      exact ih (i2 + 1) s6
    refine g_aload_n O dX9_laysCosts_42 rfl 0 rfl ?_
    refine g_iload_n O dX9_laysCosts_43 rfl 1 rfl ?_
    refine g_iload_n O dX9_laysCosts_44 rfl 2 rfl ?_
    refine g_callV0 (As := [vI i1, vI i2]) (rest := []) (b := 0) (ci := 9) O mw_5_80 mw_5_82 mp_4_7 mw_5_83 mw_1_10 hd_X9_laysForest rfl ⟨_, _, rfl⟩ rfl dX9_laysCosts_45 (ct_X9_laysForest i1 i2 s6) (by rw [hfr]; decide) (by rw [hlo]; decide) (Nat.le_of_ble_eq_true rfl) (fun _ s8 => ?_)
    refine g_iinc (lv2 := [(2, vI (i2 + 1)), (0, vR 0), (1, vI i1)]) O dX9_laysCosts_48 2 rfl (by decide) rfl ?_
    refine g_goto (tgt := 13) O dX9_laysCosts_51 (by decide) ?_
    refine g_pick [1, 2, 0] rfl ?_
    exact ih (i2 + 1) s8
set_option maxRecDepth 20000 in
set_option maxHeartbeats 4000000 in
theorem lt_X9_laysCosts_2 {K : Cx} {X : Wx} (O : OKx LM K X yX9_laysCosts.cls cX9_laysCosts 3) (hrt : (kMe K).sig.returnType = (Option.some .int)) (hfr : (kR K).frames = 3) (hlo : (kR K).locals = 69)  {k : St → Rs}  (hk : ∀  (s : St), GX LM K X 3 1 60 [(0, vR 0)] [] s (k s)) : ∀ (n : Nat) (i1 : Int) (s : St), GX LM K X 3 1 2 [(0, vR 0), (1, vI i1)] [] s (X9_laysCosts_2 k n i1 s) := by
  intro n
  induction n with
  | zero => intro i1 s; exact GX.none
  | succ n ih =>
    intro i1 s
    rw [X9_laysCosts_2]
    refine g_iload_n O dX9_laysCosts_2 rfl 1 rfl ?_
    refine g_aload_n O dX9_laysCosts_3 rfl 0 rfl ?_
    refine g_iconst O dX9_laysCosts_4 ?_
    refine g_callV1 (As := [vI 0]) (rest := [vI i1]) (b := 0) (ci := 9) O mw_4_216 mw_4_218 mp_3_3 mw_4_219 mw_1_10 hd_X9_many rfl ⟨_, _, rfl⟩ rfl dX9_laysCosts_5 (ct_X9_many 0 s) (by rw [hfr]; decide) (by rw [hlo]; decide) (Nat.le_of_ble_eq_true rfl) (fun v1 s2 => ?_)
    refine g_icmp_ge (tgt := 60) O dX9_laysCosts_8 (by decide) ?_ ?_
    · refine g_pick [0] rfl ?_
      exact hk s2
    refine g_iconst O dX9_laysCosts_11 ?_
    refine g_istore_n (lv2 := [(2, vI 0), (0, vR 0), (1, vI i1)]) O dX9_laysCosts_12 rfl (by decide) rfl ?_
    refine g_pick [1, 2, 0] rfl ?_
    refine lt_X9_laysCosts_13 O hrt hfr hlo  (fun s3 => ?_) FU 0 s2
    refine g_iinc (lv2 := [(1, vI (i1 + 1)), (0, vR 0)]) O dX9_laysCosts_54 1 rfl (by decide) rfl ?_
    refine g_goto (tgt := 2) O dX9_laysCosts_57 (by decide) ?_
    refine g_pick [1, 0] rfl ?_
    exact ih (i1 + 1) s3
theorem hd_X9_laysCosts : yX9_laysCosts.cls ≠ "java/lang/invoke/MethodHandle" ∧ yX9_laysCosts.cls ≠ "java/lang/invoke/VarHandle" ∧ (parseMethodDescriptor yX9_laysCosts.desc).map (fun d => d.parameters.length) = some 0 := by decide +kernel
set_option maxRecDepth 20000 in
set_option maxHeartbeats 4000000 in
theorem ct_X9_laysCosts   (s : St) : Ctr LM yX9_laysCosts cX9_laysCosts 3 (Option.some .int) 1 3 69 [vR 0] s (X9_laysCosts s) := by
  refine Ctr.of (by decide +kernel) (fun ρ => Nat.le_of_ble_eq_true rfl) (lv := [(0, vR 0)]) (fun ρ => rfl) (fun K X O hrt hfr hlo => ?_)
  unfold X9_laysCosts
  refine g_iconst O dX9_laysCosts_0 ?_
  refine g_istore_n (lv2 := [(1, vI 0), (0, vR 0)]) O dX9_laysCosts_1 rfl (by decide) rfl ?_
  refine g_pick [1, 0] rfl ?_
  refine lt_X9_laysCosts_2 O hrt hfr hlo  (fun s1 => ?_) FU 0 s
  refine g_aload_n O dX9_laysCosts_60 rfl 0 rfl ?_
  refine g_getR O fw_9_68 rfl dX9_laysCosts_61 rfl ?_
  refine g_bipush O dX9_laysCosts_64 (by decide +kernel) ?_
  refine g_aload_n O dX9_laysCosts_66 rfl 0 rfl ?_
  refine g_iconst O dX9_laysCosts_67 ?_
  refine g_callV1 (As := [vI 0]) (rest := [vI 12, vR 20]) (b := 0) (ci := 9) O mw_4_216 mw_4_218 mp_3_3 mw_4_219 mw_1_10 hd_X9_many rfl ⟨_, _, rfl⟩ rfl dX9_laysCosts_68 (ct_X9_many 0 s1) (by rw [hfr]; decide) (by rw [hlo]; decide) (Nat.le_of_ble_eq_true rfl) (fun v2 s3 => ?_)
  refine g_iconst O dX9_laysCosts_71 ?_
  refine g_isub O dX9_laysCosts_72 ?_
  refine g_imul O dX9_laysCosts_73 ?_
  refine g_aload_n O dX9_laysCosts_74 rfl 0 rfl ?_
  refine g_iconst O dX9_laysCosts_75 ?_
  refine g_callV1 (As := [vI 1]) (rest := [vI (12 * (v2 - 1)), vR 20]) (b := 0) (ci := 9) O mw_4_216 mw_4_218 mp_3_3 mw_4_219 mw_1_10 hd_X9_many rfl ⟨_, _, rfl⟩ rfl dX9_laysCosts_76 (ct_X9_many 1 s3) (by rw [hfr]; decide) (by rw [hlo]; decide) (Nat.le_of_ble_eq_true rfl) (fun v4 s5 => ?_)
  refine g_iadd O dX9_laysCosts_79 ?_
  refine g_iconst O dX9_laysCosts_80 ?_
  refine g_isub O dX9_laysCosts_81 ?_
  refine g_iald O rfl (by decide) dX9_laysCosts_82 (fun v6 => ?_)
  exact g_iret O hrt rfl dX9_laysCosts_83
def X9_areBoth  (s : St) : Rs := cl (X9_many 0 s) (fun v1 s2 => cLt 0 v1 (cl (X9_many 1 s2) (fun v3 s4 => cLt 0 v3 (some (1, s4)) (some (0, s4)))) (some (0, s2)))
theorem hd_X9_areBoth : yX9_areBoth.cls ≠ "java/lang/invoke/MethodHandle" ∧ yX9_areBoth.cls ≠ "java/lang/invoke/VarHandle" ∧ (parseMethodDescriptor yX9_areBoth.desc).map (fun d => d.parameters.length) = some 0 := by decide +kernel
set_option maxRecDepth 20000 in
set_option maxHeartbeats 4000000 in
theorem ct_X9_areBoth   (s : St) : Ctr LM yX9_areBoth cX9_areBoth 1 (Option.some .boolean) 1 1 21 [vR 0] s (X9_areBoth s) := by
  refine Ctr.of (by decide +kernel) (fun ρ => Nat.le_of_ble_eq_true rfl) (lv := [(0, vR 0)]) (fun ρ => rfl) (fun K X O hrt hfr hlo => ?_)
  unfold X9_areBoth
  refine g_aload_n O dX9_areBoth_0 rfl 0 rfl ?_
  refine g_iconst O dX9_areBoth_1 ?_
  refine g_callV1 (As := [vI 0]) (rest := []) (b := 0) (ci := 9) O mw_4_216 mw_4_218 mp_3_3 mw_4_219 mw_1_10 hd_X9_many rfl ⟨_, _, rfl⟩ rfl dX9_areBoth_2 (ct_X9_many 0 s) (by rw [hfr]; decide) (by rw [hlo]; decide) (Nat.le_of_ble_eq_true rfl) (fun v1 s2 => ?_)
  refine g_if_le (tgt := 20) O dX9_areBoth_5 (by decide) ?_ ?_
  · refine g_iconst O dX9_areBoth_20 ?_
    exact g_iret O hrt (by decide +kernel) dX9_areBoth_21
  refine g_aload_n O dX9_areBoth_8 rfl 0 rfl ?_
  refine g_iconst O dX9_areBoth_9 ?_
  refine g_callV1 (As := [vI 1]) (rest := []) (b := 0) (ci := 9) O mw_4_216 mw_4_218 mp_3_3 mw_4_219 mw_1_10 hd_X9_many rfl ⟨_, _, rfl⟩ rfl dX9_areBoth_10 (ct_X9_many 1 s2) (by rw [hfr]; decide) (by rw [hlo]; decide) (Nat.le_of_ble_eq_true rfl) (fun v3 s4 => ?_)
  refine g_if_le (tgt := 20) O dX9_areBoth_13 (by decide) ?_ ?_
  · refine g_iconst O dX9_areBoth_20 ?_
    exact g_iret O hrt (by decide +kernel) dX9_areBoth_21
  refine g_iconst O dX9_areBoth_16 ?_
  refine g_goto (tgt := 21) O dX9_areBoth_17 (by decide) ?_
  exact g_iret O hrt (by decide +kernel) dX9_areBoth_21
def X9_leastOf  (s : St) : Rs := cl (X9_laysPrices s) (fun _ s2 => cl (X9_laysCosts s2) (fun v3 s4 => some (v3, s4)))
theorem hd_X9_leastOf : yX9_leastOf.cls ≠ "java/lang/invoke/MethodHandle" ∧ yX9_leastOf.cls ≠ "java/lang/invoke/VarHandle" ∧ (parseMethodDescriptor yX9_leastOf.desc).map (fun d => d.parameters.length) = some 0 := by decide +kernel
set_option maxRecDepth 20000 in
set_option maxHeartbeats 4000000 in
theorem ct_X9_leastOf   (s : St) : Ctr LM yX9_leastOf cX9_leastOf 1 (Option.some .int) 1 4 91 [vR 0] s (X9_leastOf s) := by
  refine Ctr.of (by decide +kernel) (fun ρ => Nat.le_of_ble_eq_true rfl) (lv := [(0, vR 0)]) (fun ρ => rfl) (fun K X O hrt hfr hlo => ?_)
  unfold X9_leastOf
  refine g_aload_n O dX9_leastOf_0 rfl 0 rfl ?_
  refine g_callV0 (As := []) (rest := []) (b := 0) (ci := 9) O mw_5_68 mw_5_70 mp_4_4 mw_5_71 mw_1_10 hd_X9_laysPrices rfl ⟨_, _, rfl⟩ rfl dX9_leastOf_1 (ct_X9_laysPrices  s) (by rw [hfr]; decide) (by rw [hlo]; decide) (Nat.le_of_ble_eq_true rfl) (fun _ s2 => ?_)
  refine g_aload_n O dX9_leastOf_4 rfl 0 rfl ?_
  refine g_callV1 (As := []) (rest := []) (b := 0) (ci := 9) O mw_5_76 mw_5_78 mp_4_6 mw_5_79 mw_1_10 hd_X9_laysCosts rfl ⟨_, _, rfl⟩ rfl dX9_leastOf_5 (ct_X9_laysCosts  s2) (by rw [hfr]; decide) (by rw [hlo]; decide) (Nat.le_of_ble_eq_true rfl) (fun v3 s4 => ?_)
  exact g_iret O hrt rfl dX9_leastOf_8
def X9_least  (s : St) : Rs := cl (X9_areBoth s) (fun v1 s2 => cEq v1 0 (some ((-4), s2)) (cl (X9_leastOf s2) (fun v3 s4 => some (v3, s4))))
theorem hd_X9_least : yX9_least.cls ≠ "java/lang/invoke/MethodHandle" ∧ yX9_least.cls ≠ "java/lang/invoke/VarHandle" ∧ (parseMethodDescriptor yX9_least.desc).map (fun d => d.parameters.length) = some 0 := by decide +kernel
set_option maxRecDepth 20000 in
set_option maxHeartbeats 4000000 in
theorem ct_X9_least   (s : St) : Ctr LM yX9_least cX9_least 1 (Option.some .int) 1 5 111 [vR 0] s (X9_least s) := by
  refine Ctr.of (by decide +kernel) (fun ρ => Nat.le_of_ble_eq_true rfl) (lv := [(0, vR 0)]) (fun ρ => rfl) (fun K X O hrt hfr hlo => ?_)
  unfold X9_least
  refine g_aload_n O dX9_least_0 rfl 0 rfl ?_
  refine g_callV1 (As := []) (rest := []) (b := 0) (ci := 9) O mw_5_60 mw_5_62 mp_4_2 mw_5_63 mw_1_10 hd_X9_areBoth rfl ⟨_, _, rfl⟩ rfl dX9_least_1 (ct_X9_areBoth  s) (by rw [hfr]; decide) (by rw [hlo]; decide) (Nat.le_of_ble_eq_true rfl) (fun v1 s2 => ?_)
  refine g_if_eq (tgt := 14) O dX9_least_4 (by decide) ?_ ?_
  · refine g_bipush O dX9_least_14 (by decide +kernel) ?_
    exact g_iret O hrt rfl dX9_least_16
  refine g_aload_n O dX9_least_7 rfl 0 rfl ?_
  refine g_callV1 (As := []) (rest := []) (b := 0) (ci := 9) O mw_5_64 mw_5_66 mp_4_3 mw_5_67 mw_1_10 hd_X9_leastOf rfl ⟨_, _, rfl⟩ rfl dX9_least_8 (ct_X9_leastOf  s2) (by rw [hfr]; decide) (by rw [hlo]; decide) (Nat.le_of_ble_eq_true rfl) (fun v3 s4 => ?_)
  refine g_goto (tgt := 16) O dX9_least_11 (by decide) ?_
  exact g_iret O hrt rfl dX9_least_16
def X9_cost (i1 : Int) (i2 : Int) (s : St) : Rs := cl (X9_isNode 0 i1 s) (fun v1 s2 => cEq v1 0 (some ((-1), s2)) (cl (X9_isNode 1 i2 s2) (fun v3 s4 => cEq v3 0 (some ((-1), s4)) (cl (X9_leastOf s4) (fun v5 s6 => rd s6 19 144 ((12 * i1) + i2) (fun v7 => rd s6 20 144 ((12 * i1) + i2) (fun v8 => cl (X9_tells v7 v8 s6) (fun v9 s10 => some (v9, s10)))))))))
theorem hd_X9_cost : yX9_cost.cls ≠ "java/lang/invoke/MethodHandle" ∧ yX9_cost.cls ≠ "java/lang/invoke/VarHandle" ∧ (parseMethodDescriptor yX9_cost.desc).map (fun d => d.parameters.length) = some 2 := by decide +kernel
set_option maxRecDepth 20000 in
set_option maxHeartbeats 4000000 in
theorem ct_X9_cost  (i1 : Int) (i2 : Int) (s : St) : Ctr LM yX9_cost cX9_cost 3 (Option.some .int) 1 5 111 [vR 0, vI i1, vI i2] s (X9_cost i1 i2 s) := by
  refine Ctr.of (by decide +kernel) (fun ρ => Nat.le_of_ble_eq_true rfl) (lv := [(0, vR 0), (1, vI i1), (2, vI i2)]) (fun ρ => rfl) (fun K X O hrt hfr hlo => ?_)
  unfold X9_cost
  refine g_aload_n O dX9_cost_0 rfl 0 rfl ?_
  refine g_iconst O dX9_cost_1 ?_
  refine g_iload_n O dX9_cost_2 rfl 1 rfl ?_
  refine g_callV1 (As := [vI 0, vI i1]) (rest := []) (b := 0) (ci := 9) O mw_5_15 mw_5_17 mp_3_11 mw_5_18 mw_1_10 hd_X9_isNode rfl ⟨_, _, rfl⟩ rfl dX9_cost_3 (ct_X9_isNode 0 i1 s) (by rw [hfr]; decide) (by rw [hlo]; decide) (Nat.le_of_ble_eq_true rfl) (fun v1 s2 => ?_)
  refine g_if_eq (tgt := 18) O dX9_cost_6 (by decide) ?_ ?_
  · refine g_iconst O dX9_cost_18 ?_
    exact g_iret O hrt rfl dX9_cost_19
  refine g_aload_n O dX9_cost_9 rfl 0 rfl ?_
  refine g_iconst O dX9_cost_10 ?_
  refine g_iload_n O dX9_cost_11 rfl 2 rfl ?_
  refine g_callV1 (As := [vI 1, vI i2]) (rest := []) (b := 0) (ci := 9) O mw_5_15 mw_5_17 mp_3_11 mw_5_18 mw_1_10 hd_X9_isNode rfl ⟨_, _, rfl⟩ rfl dX9_cost_12 (ct_X9_isNode 1 i2 s2) (by rw [hfr]; decide) (by rw [hlo]; decide) (Nat.le_of_ble_eq_true rfl) (fun v3 s4 => ?_)
  refine g_if_ne (tgt := 20) O dX9_cost_15 (by decide) ?_ ?_
  · refine g_aload_n O dX9_cost_20 rfl 0 rfl ?_
    refine g_callV1 (As := []) (rest := []) (b := 0) (ci := 9) O mw_5_64 mw_5_66 mp_4_3 mw_5_67 mw_1_10 hd_X9_leastOf rfl ⟨_, _, rfl⟩ rfl dX9_cost_21 (ct_X9_leastOf  s4) (by rw [hfr]; decide) (by rw [hlo]; decide) (Nat.le_of_ble_eq_true rfl) (fun v5 s6 => ?_)
    refine g_pop O dX9_cost_24 rfl ?_
    refine g_aload_n O dX9_cost_25 rfl 0 rfl ?_
    refine g_aload_n O dX9_cost_26 rfl 0 rfl ?_
    refine g_getR O fw_9_65 rfl dX9_cost_27 rfl ?_
    refine g_bipush O dX9_cost_30 (by decide +kernel) ?_
    refine g_iload_n O dX9_cost_32 rfl 1 rfl ?_
    refine g_imul O dX9_cost_33 ?_
    refine g_iload_n O dX9_cost_34 rfl 2 rfl ?_
    refine g_iadd O dX9_cost_35 ?_
    refine g_iald O rfl (by decide) dX9_cost_36 (fun v7 => ?_)
    refine g_aload_n O dX9_cost_37 rfl 0 rfl ?_
    refine g_getR O fw_9_68 rfl dX9_cost_38 rfl ?_
    refine g_bipush O dX9_cost_41 (by decide +kernel) ?_
    refine g_iload_n O dX9_cost_43 rfl 1 rfl ?_
    refine g_imul O dX9_cost_44 ?_
    refine g_iload_n O dX9_cost_45 rfl 2 rfl ?_
    refine g_iadd O dX9_cost_46 ?_
    refine g_iald O rfl (by decide) dX9_cost_47 (fun v8 => ?_)
    refine g_callV1 (As := [vI v7, vI v8]) (rest := []) (b := 0) (ci := 9) O mw_4_152 mw_4_154 mp_2_15 mw_4_155 mw_1_10 hd_X9_tells rfl ⟨_, _, rfl⟩ rfl dX9_cost_48 (ct_X9_tells v7 v8 s6) (by rw [hfr]; decide) (by rw [hlo]; decide) (Nat.le_of_ble_eq_true rfl) (fun v9 s10 => ?_)
    exact g_iret O hrt rfl dX9_cost_51
  refine g_iconst O dX9_cost_18 ?_
  exact g_iret O hrt rfl dX9_cost_19
def X9_shuts_2 (i1 : Int) (i2 : Int) (k : St → Rs) : Nat → Int → St → Rs
  | 0, _, _ => none
  | n + 1, i3, s => cl (X9_many 1 s) (fun v1 s2 => cLt i3 v1 (cEq i3 i2 (rd s2 19 144 ((12 * i1) + i3) (fun v4 => wr s2 19 144 ((12 * i1) + i3) v4 (fun s5 => X9_shuts_2 i1 i2 k n (i3 + 1) s5))) (wr s2 19 144 ((12 * i1) + i3) 100000 (fun s3 => X9_shuts_2 i1 i2 k n (i3 + 1) s3))) (k s2))
def X9_shuts_73 (i1 : Int) (i2 : Int) (k : St → Rs) : Nat → Int → St → Rs
  | 0, _, _ => none
  | n + 1, i3, s => cl (X9_many 0 s) (fun v1 s2 => cLt i3 v1 (cEq i3 i1 (rd s2 19 144 ((12 * i3) + i2) (fun v4 => wr s2 19 144 ((12 * i3) + i2) v4 (fun s5 => X9_shuts_73 i1 i2 k n (i3 + 1) s5))) (wr s2 19 144 ((12 * i3) + i2) 100000 (fun s3 => X9_shuts_73 i1 i2 k n (i3 + 1) s3))) (k s2))
def X9_shuts (i1 : Int) (i2 : Int) (s : St) : Rs := X9_shuts_2 i1 i2 (fun s1 => cEq i2 (-9) (some (0, s1)) (wr s1 17 12 i1 100000 (fun s2 => wr s2 18 12 i2 100000 (fun s3 => X9_shuts_73 i1 i2 (fun s4 => some (0, s4)) FU 0 s3)))) FU 0 s
set_option maxRecDepth 20000 in
set_option maxHeartbeats 4000000 in
theorem lt_X9_shuts_2 {K : Cx} {X : Wx} (O : OKx LM K X yX9_shuts.cls cX9_shuts 4) (hrt : (kMe K).sig.returnType = none) (hfr : (kR K).frames = 1) (hlo : (kR K).locals = 21) {i1 : Int} {i2 : Int} {k : St → Rs}  (hk : ∀  (s : St), GX LM K X 4 0 49 [(0, vR 0), (1, vI i1), (2, vI i2)] [] s (k s)) : ∀ (n : Nat) (i3 : Int) (s : St), GX LM K X 4 0 2 [(0, vR 0), (1, vI i1), (2, vI i2), (3, vI i3)] [] s (X9_shuts_2 i1 i2 k n i3 s) := by
  intro n
  induction n with
  | zero => intro i3 s; exact GX.none
  | succ n ih =>
    intro i3 s
    rw [X9_shuts_2]
    refine g_iload_n O dX9_shuts_2 rfl 3 rfl ?_
    refine g_aload_n O dX9_shuts_3 rfl 0 rfl ?_
    refine g_iconst O dX9_shuts_4 ?_
    refine g_callV1 (As := [vI 1]) (rest := [vI i3]) (b := 0) (ci := 9) O mw_4_216 mw_4_218 mp_3_3 mw_4_219 mw_1_10 hd_X9_many rfl ⟨_, _, rfl⟩ rfl dX9_shuts_5 (ct_X9_many 1 s) (by rw [hfr]; decide) (by rw [hlo]; decide) (Nat.le_of_ble_eq_true rfl) (fun v1 s2 => ?_)
    refine g_icmp_ge (tgt := 49) O dX9_shuts_8 (by decide) ?_ ?_
    · refine g_pick [0, 1, 2] rfl ?_
      exact hk s2
    refine g_aload_n O dX9_shuts_11 rfl 0 rfl ?_
    refine g_getR O fw_9_65 rfl dX9_shuts_12 rfl ?_
    refine g_bipush O dX9_shuts_15 (by decide +kernel) ?_
    refine g_iload_n O dX9_shuts_17 rfl 1 rfl ?_
    refine g_imul O dX9_shuts_18 ?_
    refine g_iload_n O dX9_shuts_19 rfl 3 rfl ?_
    refine g_iadd O dX9_shuts_20 ?_
    refine g_iload_n O dX9_shuts_21 rfl 3 rfl ?_
    refine g_iload_n O dX9_shuts_22 rfl 2 rfl ?_
    refine g_icmp_ne (tgt := 40) O dX9_shuts_23 (by decide) ?_ ?_
    · refine g_ldc (x := 100000) O dX9_shuts_40 mw_5_107 (by decide +kernel) ?_
      refine g_iast O rfl (by decide) dX9_shuts_42 (fun s3 => ?_)
      refine g_iinc (lv2 := [(3, vI (i3 + 1)), (0, vR 0), (1, vI i1), (2, vI i2)]) O dX9_shuts_43 3 rfl (by decide) rfl ?_
      refine g_goto (tgt := 2) O dX9_shuts_46 (by decide) ?_
      refine g_pick [1, 2, 3, 0] rfl ?_
      exact ih (i3 + 1) s3
    refine g_aload_n O dX9_shuts_26 rfl 0 rfl ?_
    refine g_getR O fw_9_65 rfl dX9_shuts_27 rfl ?_
    refine g_bipush O dX9_shuts_30 (by decide +kernel) ?_
    refine g_iload_n O dX9_shuts_32 rfl 1 rfl ?_
    refine g_imul O dX9_shuts_33 ?_
    refine g_iload_n O dX9_shuts_34 rfl 3 rfl ?_
    refine g_iadd O dX9_shuts_35 ?_
    refine g_iald O rfl (by decide) dX9_shuts_36 (fun v4 => ?_)
    refine g_goto (tgt := 42) O dX9_shuts_37 (by decide) ?_
    refine g_iast O rfl (by decide) dX9_shuts_42 (fun s5 => ?_)
    refine g_iinc (lv2 := [(3, vI (i3 + 1)), (0, vR 0), (1, vI i1), (2, vI i2)]) O dX9_shuts_43 3 rfl (by decide) rfl ?_
    refine g_goto (tgt := 2) O dX9_shuts_46 (by decide) ?_
    refine g_pick [1, 2, 3, 0] rfl ?_
    exact ih (i3 + 1) s5
set_option maxRecDepth 20000 in
set_option maxHeartbeats 4000000 in
theorem lt_X9_shuts_73 {K : Cx} {X : Wx} (O : OKx LM K X yX9_shuts.cls cX9_shuts 4) (hrt : (kMe K).sig.returnType = none) (hfr : (kR K).frames = 1) (hlo : (kR K).locals = 21) {i1 : Int} {i2 : Int} {k : St → Rs}  (hk : ∀  (s : St), GX LM K X 4 0 120 [] [] s (k s)) : ∀ (n : Nat) (i3 : Int) (s : St), GX LM K X 4 0 73 [(0, vR 0), (1, vI i1), (2, vI i2), (3, vI i3)] [] s (X9_shuts_73 i1 i2 k n i3 s) := by
  intro n
  induction n with
  | zero => intro i3 s; exact GX.none
  | succ n ih =>
    intro i3 s
    rw [X9_shuts_73]
    refine g_iload_n O dX9_shuts_73 rfl 3 rfl ?_
    refine g_aload_n O dX9_shuts_74 rfl 0 rfl ?_
    refine g_iconst O dX9_shuts_75 ?_
    refine g_callV1 (As := [vI 0]) (rest := [vI i3]) (b := 0) (ci := 9) O mw_4_216 mw_4_218 mp_3_3 mw_4_219 mw_1_10 hd_X9_many rfl ⟨_, _, rfl⟩ rfl dX9_shuts_76 (ct_X9_many 0 s) (by rw [hfr]; decide) (by rw [hlo]; decide) (Nat.le_of_ble_eq_true rfl) (fun v1 s2 => ?_)
    refine g_icmp_ge (tgt := 120) O dX9_shuts_79 (by decide) ?_ ?_
    · refine g_pick [] rfl ?_
      exact hk s2
    refine g_aload_n O dX9_shuts_82 rfl 0 rfl ?_
    refine g_getR O fw_9_65 rfl dX9_shuts_83 rfl ?_
    refine g_bipush O dX9_shuts_86 (by decide +kernel) ?_
    refine g_iload_n O dX9_shuts_88 rfl 3 rfl ?_
    refine g_imul O dX9_shuts_89 ?_
    refine g_iload_n O dX9_shuts_90 rfl 2 rfl ?_
    refine g_iadd O dX9_shuts_91 ?_
    refine g_iload_n O dX9_shuts_92 rfl 3 rfl ?_
    refine g_iload_n O dX9_shuts_93 rfl 1 rfl ?_
    refine g_icmp_ne (tgt := 111) O dX9_shuts_94 (by decide) ?_ ?_
    · refine g_ldc (x := 100000) O dX9_shuts_111 mw_5_107 (by decide +kernel) ?_
      refine g_iast O rfl (by decide) dX9_shuts_113 (fun s3 => ?_)
      refine g_iinc (lv2 := [(3, vI (i3 + 1)), (0, vR 0), (1, vI i1), (2, vI i2)]) O dX9_shuts_114 3 rfl (by decide) rfl ?_
      refine g_goto (tgt := 73) O dX9_shuts_117 (by decide) ?_
      refine g_pick [1, 2, 3, 0] rfl ?_
      exact ih (i3 + 1) s3
    refine g_aload_n O dX9_shuts_97 rfl 0 rfl ?_
    refine g_getR O fw_9_65 rfl dX9_shuts_98 rfl ?_
    refine g_bipush O dX9_shuts_101 (by decide +kernel) ?_
    refine g_iload_n O dX9_shuts_103 rfl 3 rfl ?_
    refine g_imul O dX9_shuts_104 ?_
    refine g_iload_n O dX9_shuts_105 rfl 2 rfl ?_
    refine g_iadd O dX9_shuts_106 ?_
    refine g_iald O rfl (by decide) dX9_shuts_107 (fun v4 => ?_)
    refine g_goto (tgt := 113) O dX9_shuts_108 (by decide) ?_
    refine g_iast O rfl (by decide) dX9_shuts_113 (fun s5 => ?_)
    refine g_iinc (lv2 := [(3, vI (i3 + 1)), (0, vR 0), (1, vI i1), (2, vI i2)]) O dX9_shuts_114 3 rfl (by decide) rfl ?_
    refine g_goto (tgt := 73) O dX9_shuts_117 (by decide) ?_
    refine g_pick [1, 2, 3, 0] rfl ?_
    exact ih (i3 + 1) s5
theorem hd_X9_shuts : yX9_shuts.cls ≠ "java/lang/invoke/MethodHandle" ∧ yX9_shuts.cls ≠ "java/lang/invoke/VarHandle" ∧ (parseMethodDescriptor yX9_shuts.desc).map (fun d => d.parameters.length) = some 2 := by decide +kernel
set_option maxRecDepth 20000 in
set_option maxHeartbeats 4000000 in
theorem ct_X9_shuts  (i1 : Int) (i2 : Int) (s : St) : Ctr LM yX9_shuts cX9_shuts 4 none 0 1 21 [vR 0, vI i1, vI i2] s (X9_shuts i1 i2 s) := by
  refine Ctr.of (by decide +kernel) (fun ρ => Nat.le_of_ble_eq_true rfl) (lv := [(0, vR 0), (1, vI i1), (2, vI i2)]) (fun ρ => rfl) (fun K X O hrt hfr hlo => ?_)
  unfold X9_shuts
  refine g_iconst O dX9_shuts_0 ?_
  refine g_istore_n (lv2 := [(3, vI 0), (0, vR 0), (1, vI i1), (2, vI i2)]) O dX9_shuts_1 rfl (by decide) rfl ?_
  refine g_pick [1, 2, 3, 0] rfl ?_
  refine lt_X9_shuts_2 O hrt hfr hlo  (fun s1 => ?_) FU 0 s
  refine g_iload_n O dX9_shuts_49 rfl 2 rfl ?_
  refine g_bipush O dX9_shuts_50 (by decide +kernel) ?_
  refine g_icmp_eq (tgt := 120) O dX9_shuts_52 (by decide) ?_ ?_
  · exact g_vret O hrt dX9_shuts_120
  refine g_aload_n O dX9_shuts_55 rfl 0 rfl ?_
  refine g_getR O fw_9_59 rfl dX9_shuts_56 rfl ?_
  refine g_iload_n O dX9_shuts_59 rfl 1 rfl ?_
  refine g_ldc (x := 100000) O dX9_shuts_60 mw_5_107 (by decide +kernel) ?_
  refine g_iast O rfl (by decide) dX9_shuts_62 (fun s2 => ?_)
  refine g_aload_n O dX9_shuts_63 rfl 0 rfl ?_
  refine g_getR O fw_9_62 rfl dX9_shuts_64 rfl ?_
  refine g_iload_n O dX9_shuts_67 rfl 2 rfl ?_
  refine g_ldc (x := 100000) O dX9_shuts_68 mw_5_107 (by decide +kernel) ?_
  refine g_iast O rfl (by decide) dX9_shuts_70 (fun s3 => ?_)
  refine g_iconst O dX9_shuts_71 ?_
  refine g_istore_n (lv2 := [(3, vI 0), (0, vR 0), (1, vI i1), (2, vI i2)]) O dX9_shuts_72 rfl (by decide) rfl ?_
  refine g_pick [1, 2, 3, 0] rfl ?_
  refine lt_X9_shuts_73 O hrt hfr hlo  (fun s4 => ?_) FU 0 s3
  exact g_vret O hrt dX9_shuts_120
def X9_laysKnown_12 (i1 : Int) (k : St → Rs) : Nat → Int → St → Rs
  | 0, _, _ => none
  | n + 1, i2, s => cLt i1 i2 (rd s 22 12 i2 (fun v1 => cl (X9_shuts i2 v1 s) (fun _ s3 => X9_laysKnown_12 i1 k n (i2 + (-1)) s3))) (k s)
def X9_laysKnown (i1 : Int) (s : St) : Rs := cl (X9_laysPrices s) (fun _ s2 => cl (X9_many 0 s2) (fun v3 s4 => X9_laysKnown_12 i1 (fun s5 => some (0, s5)) FU (v3 - 1) s4))
set_option maxRecDepth 20000 in
set_option maxHeartbeats 4000000 in
theorem lt_X9_laysKnown_12 {K : Cx} {X : Wx} (O : OKx LM K X yX9_laysKnown.cls cX9_laysKnown 3) (hrt : (kMe K).sig.returnType = none) (hfr : (kR K).frames = 3) (hlo : (kR K).locals = 66) {i1 : Int} {k : St → Rs}  (hk : ∀  (s : St), GX LM K X 3 0 34 [] [] s (k s)) : ∀ (n : Nat) (i2 : Int) (s : St), GX LM K X 3 0 12 [(0, vR 0), (1, vI i1), (2, vI i2)] [] s (X9_laysKnown_12 i1 k n i2 s) := by
  intro n
  induction n with
  | zero => intro i2 s; exact GX.none
  | succ n ih =>
    intro i2 s
    rw [X9_laysKnown_12]
    refine g_iload_n O dX9_laysKnown_12 rfl 2 rfl ?_
    refine g_iload_n O dX9_laysKnown_13 rfl 1 rfl ?_
    refine g_icmp_le (tgt := 34) O dX9_laysKnown_14 (by decide) ?_ ?_
    · refine g_pick [] rfl ?_
      exact hk s
    refine g_aload_n O dX9_laysKnown_17 rfl 0 rfl ?_
    refine g_iload_n O dX9_laysKnown_18 rfl 2 rfl ?_
    refine g_aload_n O dX9_laysKnown_19 rfl 0 rfl ?_
    refine g_getR O fw_9_74 rfl dX9_laysKnown_20 rfl ?_
    refine g_iload_n O dX9_laysKnown_23 rfl 2 rfl ?_
    refine g_iald O rfl (by decide) dX9_laysKnown_24 (fun v1 => ?_)
    refine g_callV0 (As := [vI i2, vI v1]) (rest := []) (b := 0) (ci := 9) O mw_5_103 mw_5_105 mp_4_10 mw_5_106 mw_1_10 hd_X9_shuts rfl ⟨_, _, rfl⟩ rfl dX9_laysKnown_25 (ct_X9_shuts i2 v1 s) (by rw [hfr]; decide) (by rw [hlo]; decide) (Nat.le_of_ble_eq_true rfl) (fun _ s3 => ?_)
    refine g_iinc (lv2 := [(2, vI (i2 + (-1))), (0, vR 0), (1, vI i1)]) O dX9_laysKnown_28 2 rfl (by decide) rfl ?_
    refine g_goto (tgt := 12) O dX9_laysKnown_31 (by decide) ?_
    refine g_pick [1, 2, 0] rfl ?_
    exact ih (i2 + (-1)) s3
theorem hd_X9_laysKnown : yX9_laysKnown.cls ≠ "java/lang/invoke/MethodHandle" ∧ yX9_laysKnown.cls ≠ "java/lang/invoke/VarHandle" ∧ (parseMethodDescriptor yX9_laysKnown.desc).map (fun d => d.parameters.length) = some 1 := by decide +kernel
set_option maxRecDepth 20000 in
set_option maxHeartbeats 4000000 in
theorem ct_X9_laysKnown  (i1 : Int) (s : St) : Ctr LM yX9_laysKnown cX9_laysKnown 3 none 0 3 66 [vR 0, vI i1] s (X9_laysKnown i1 s) := by
  refine Ctr.of (by decide +kernel) (fun ρ => Nat.le_of_ble_eq_true rfl) (lv := [(0, vR 0), (1, vI i1)]) (fun ρ => rfl) (fun K X O hrt hfr hlo => ?_)
  unfold X9_laysKnown
  refine g_aload_n O dX9_laysKnown_0 rfl 0 rfl ?_
  refine g_callV0 (As := []) (rest := []) (b := 0) (ci := 9) O mw_5_68 mw_5_70 mp_4_4 mw_5_71 mw_1_10 hd_X9_laysPrices rfl ⟨_, _, rfl⟩ rfl dX9_laysKnown_1 (ct_X9_laysPrices  s) (by rw [hfr]; decide) (by rw [hlo]; decide) (Nat.le_of_ble_eq_true rfl) (fun _ s2 => ?_)
  refine g_aload_n O dX9_laysKnown_4 rfl 0 rfl ?_
  refine g_iconst O dX9_laysKnown_5 ?_
  refine g_callV1 (As := [vI 0]) (rest := []) (b := 0) (ci := 9) O mw_4_216 mw_4_218 mp_3_3 mw_4_219 mw_1_10 hd_X9_many rfl ⟨_, _, rfl⟩ rfl dX9_laysKnown_6 (ct_X9_many 0 s2) (by rw [hfr]; decide) (by rw [hlo]; decide) (Nat.le_of_ble_eq_true rfl) (fun v3 s4 => ?_)
  refine g_iconst O dX9_laysKnown_9 ?_
  refine g_isub O dX9_laysKnown_10 ?_
  refine g_istore_n (lv2 := [(2, vI (v3 - 1)), (0, vR 0), (1, vI i1)]) O dX9_laysKnown_11 rfl (by decide) rfl ?_
  refine g_pick [1, 2, 0] rfl ?_
  refine lt_X9_laysKnown_12 O hrt hfr hlo  (fun s5 => ?_) FU (v3 - 1) s4
  exact g_vret O hrt dX9_laysKnown_34
def X9_laysWay_7 (i1 : Int) (k : St → Rs) : Nat → Int → St → Rs
  | 0, _, _ => none
  | n + 1, i2, s => cLt i2 12 (wr s 23 12 i2 (-9) (fun s1 => X9_laysWay_7 i1 k n (i2 + 1) s1)) (k s)
def X9_laysWay_55 (i1 : Int) (i2 : Int) (k : St → Rs) : Nat → Int → St → Rs
  | 0, _, _ => none
  | n + 1, i3, s => cLt i3 0 (k s) (rd s 22 12 i2 (fun v1 => cEq v1 (-9) (rd s 23 12 i3 (fun v2 => cEq v2 (-9) (cl (X9_laysKnown i2 s) (fun _ s4 => cl (X9_shuts i2 i3 s4) (fun _ s6 => cl (X9_laysCosts s6) (fun v7 s8 => cEq v7 i1 (wr s8 22 12 i2 i3 (fun s9 => wr s9 23 12 i3 i2 (fun s10 => X9_laysWay_55 i1 i2 k n (i3 + (-1)) s10))) (X9_laysWay_55 i1 i2 k n (i3 + (-1)) s8))))) (X9_laysWay_55 i1 i2 k n (i3 + (-1)) s))) (k s)))
def X9_laysWay_35 (i1 : Int) (k : St → Rs) : Nat → Int → St → Rs
  | 0, _, _ => none
  | n + 1, i2, s => cLt i2 0 (k s) (wr s 22 12 i2 (-9) (fun s1 => cl (X9_many 1 s1) (fun v2 s3 => X9_laysWay_55 i1 i2 (fun s4 => X9_laysWay_35 i1 k n (i2 + (-1)) s4) FU (v2 - 1) s3)))
def X9_laysWay  (s : St) : Rs := cl (X9_leastOf s) (fun v1 s2 => X9_laysWay_7 v1 (fun s3 => cl (X9_many 0 s3) (fun v4 s5 => X9_laysWay_35 v1 (fun s6 => cl (X9_leastOf s6) (fun v7 s8 => some (0, s8))) FU (v4 - 1) s5)) FU 0 s2)
set_option maxRecDepth 20000 in
set_option maxHeartbeats 4000000 in
theorem lt_X9_laysWay_7 {K : Cx} {X : Wx} (O : OKx LM K X yX9_laysWay.cls cX9_laysWay 4) (hrt : (kMe K).sig.returnType = none) (hfr : (kR K).frames = 5) (hlo : (kR K).locals = 111) {i1 : Int} {k : St → Rs}  (hk : ∀  (s : St), GX LM K X 4 0 27 [(0, vR 0), (1, vI i1)] [] s (k s)) : ∀ (n : Nat) (i2 : Int) (s : St), GX LM K X 4 0 7 [(0, vR 0), (1, vI i1), (2, vI i2)] [] s (X9_laysWay_7 i1 k n i2 s) := by
  intro n
  induction n with
  | zero => intro i2 s; exact GX.none
  | succ n ih =>
    intro i2 s
    rw [X9_laysWay_7]
    refine g_iload_n O dX9_laysWay_7 rfl 2 rfl ?_
    refine g_bipush O dX9_laysWay_8 (by decide +kernel) ?_
    refine g_icmp_ge (tgt := 27) O dX9_laysWay_10 (by decide) ?_ ?_
    · refine g_pick [0, 1] rfl ?_
      exact hk s
    refine g_aload_n O dX9_laysWay_13 rfl 0 rfl ?_
    refine g_getR O fw_9_77 rfl dX9_laysWay_14 rfl ?_
    refine g_iload_n O dX9_laysWay_17 rfl 2 rfl ?_
    refine g_bipush O dX9_laysWay_18 (by decide +kernel) ?_
    refine g_iast O rfl (by decide) dX9_laysWay_20 (fun s1 => ?_)
    refine g_iinc (lv2 := [(2, vI (i2 + 1)), (0, vR 0), (1, vI i1)]) O dX9_laysWay_21 2 rfl (by decide) rfl ?_
    refine g_goto (tgt := 7) O dX9_laysWay_24 (by decide) ?_
    refine g_pick [1, 2, 0] rfl ?_
    exact ih (i2 + 1) s1
set_option maxRecDepth 20000 in
set_option maxHeartbeats 4000000 in
theorem lt_X9_laysWay_55 {K : Cx} {X : Wx} (O : OKx LM K X yX9_laysWay.cls cX9_laysWay 4) (hrt : (kMe K).sig.returnType = none) (hfr : (kR K).frames = 5) (hlo : (kR K).locals = 111) {i1 : Int} {i2 : Int} {k : St → Rs}  (hk : ∀  (s : St), GX LM K X 4 0 120 [(0, vR 0), (1, vI i1), (2, vI i2)] [] s (k s)) : ∀ (n : Nat) (i3 : Int) (s : St), GX LM K X 4 0 55 [(0, vR 0), (1, vI i1), (2, vI i2), (3, vI i3)] [] s (X9_laysWay_55 i1 i2 k n i3 s) := by
  intro n
  induction n with
  | zero => intro i3 s; exact GX.none
  | succ n ih =>
    intro i3 s
    rw [X9_laysWay_55]
    refine g_iload_n O dX9_laysWay_55 rfl 3 rfl ?_
    refine g_if_lt (tgt := 120) O dX9_laysWay_56 (by decide) ?_ ?_
    · refine g_pick [0, 1, 2] rfl ?_
      exact hk s
    refine g_aload_n O dX9_laysWay_59 rfl 0 rfl ?_
    refine g_getR O fw_9_74 rfl dX9_laysWay_60 rfl ?_
    refine g_iload_n O dX9_laysWay_63 rfl 2 rfl ?_
    refine g_iald O rfl (by decide) dX9_laysWay_64 (fun v1 => ?_)
    refine g_bipush O dX9_laysWay_65 (by decide +kernel) ?_
    refine g_icmp_ne (tgt := 120) O dX9_laysWay_67 (by decide) ?_ ?_
    · refine g_pick [0, 1, 2] rfl ?_
      exact hk s
    refine g_aload_n O dX9_laysWay_70 rfl 0 rfl ?_
    refine g_getR O fw_9_77 rfl dX9_laysWay_71 rfl ?_
    refine g_iload_n O dX9_laysWay_74 rfl 3 rfl ?_
    refine g_iald O rfl (by decide) dX9_laysWay_75 (fun v2 => ?_)
    refine g_bipush O dX9_laysWay_76 (by decide +kernel) ?_
    refine g_icmp_ne (tgt := 114) O dX9_laysWay_78 (by decide) ?_ ?_
    · refine g_iinc (lv2 := [(3, vI (i3 + (-1))), (0, vR 0), (1, vI i1), (2, vI i2)]) O dX9_laysWay_114 3 rfl (by decide) rfl ?_
      refine g_goto (tgt := 55) O dX9_laysWay_117 (by decide) ?_
      refine g_pick [1, 2, 3, 0] rfl ?_
      exact ih (i3 + (-1)) s
    refine g_aload_n O dX9_laysWay_81 rfl 0 rfl ?_
    refine g_iload_n O dX9_laysWay_82 rfl 2 rfl ?_
    refine g_callV0 (As := [vI i2]) (rest := []) (b := 0) (ci := 9) O mw_5_99 mw_5_101 mp_4_9 mw_5_102 mw_1_10 hd_X9_laysKnown rfl ⟨_, _, rfl⟩ rfl dX9_laysWay_83 (ct_X9_laysKnown i2 s) (by rw [hfr]; decide) (by rw [hlo]; decide) (Nat.le_of_ble_eq_true rfl) (fun _ s4 => ?_)
    refine g_aload_n O dX9_laysWay_86 rfl 0 rfl ?_
    refine g_iload_n O dX9_laysWay_87 rfl 2 rfl ?_
    refine g_iload_n O dX9_laysWay_88 rfl 3 rfl ?_
    refine g_callV0 (As := [vI i2, vI i3]) (rest := []) (b := 0) (ci := 9) O mw_5_103 mw_5_105 mp_4_10 mw_5_106 mw_1_10 hd_X9_shuts rfl ⟨_, _, rfl⟩ rfl dX9_laysWay_89 (ct_X9_shuts i2 i3 s4) (by rw [hfr]; decide) (by rw [hlo]; decide) (Nat.le_of_ble_eq_true rfl) (fun _ s6 => ?_)
    refine g_aload_n O dX9_laysWay_92 rfl 0 rfl ?_
    refine g_callV1 (As := []) (rest := []) (b := 0) (ci := 9) O mw_5_76 mw_5_78 mp_4_6 mw_5_79 mw_1_10 hd_X9_laysCosts rfl ⟨_, _, rfl⟩ rfl dX9_laysWay_93 (ct_X9_laysCosts  s6) (by rw [hfr]; decide) (by rw [hlo]; decide) (Nat.le_of_ble_eq_true rfl) (fun v7 s8 => ?_)
    refine g_iload_n O dX9_laysWay_96 rfl 1 rfl ?_
    refine g_icmp_ne (tgt := 114) O dX9_laysWay_97 (by decide) ?_ ?_
    · refine g_iinc (lv2 := [(3, vI (i3 + (-1))), (0, vR 0), (1, vI i1), (2, vI i2)]) O dX9_laysWay_114 3 rfl (by decide) rfl ?_
      refine g_goto (tgt := 55) O dX9_laysWay_117 (by decide) ?_
      refine g_pick [1, 2, 3, 0] rfl ?_
      exact ih (i3 + (-1)) s8
    refine g_aload_n O dX9_laysWay_100 rfl 0 rfl ?_
    refine g_getR O fw_9_74 rfl dX9_laysWay_101 rfl ?_
    refine g_iload_n O dX9_laysWay_104 rfl 2 rfl ?_
    refine g_iload_n O dX9_laysWay_105 rfl 3 rfl ?_
    refine g_iast O rfl (by decide) dX9_laysWay_106 (fun s9 => ?_)
    refine g_aload_n O dX9_laysWay_107 rfl 0 rfl ?_
    refine g_getR O fw_9_77 rfl dX9_laysWay_108 rfl ?_
    refine g_iload_n O dX9_laysWay_111 rfl 3 rfl ?_
    refine g_iload_n O dX9_laysWay_112 rfl 2 rfl ?_
    refine g_iast O rfl (by decide) dX9_laysWay_113 (fun s10 => ?_)
    refine g_iinc (lv2 := [(3, vI (i3 + (-1))), (0, vR 0), (1, vI i1), (2, vI i2)]) O dX9_laysWay_114 3 rfl (by decide) rfl ?_
    refine g_goto (tgt := 55) O dX9_laysWay_117 (by decide) ?_
    refine g_pick [1, 2, 3, 0] rfl ?_
    exact ih (i3 + (-1)) s10
set_option maxRecDepth 20000 in
set_option maxHeartbeats 4000000 in
theorem lt_X9_laysWay_35 {K : Cx} {X : Wx} (O : OKx LM K X yX9_laysWay.cls cX9_laysWay 4) (hrt : (kMe K).sig.returnType = none) (hfr : (kR K).frames = 5) (hlo : (kR K).locals = 111) {i1 : Int} {k : St → Rs}  (hk : ∀  (s : St), GX LM K X 4 0 126 [(0, vR 0)] [] s (k s)) : ∀ (n : Nat) (i2 : Int) (s : St), GX LM K X 4 0 35 [(0, vR 0), (1, vI i1), (2, vI i2)] [] s (X9_laysWay_35 i1 k n i2 s) := by
  intro n
  induction n with
  | zero => intro i2 s; exact GX.none
  | succ n ih =>
    intro i2 s
    rw [X9_laysWay_35]
    refine g_iload_n O dX9_laysWay_35 rfl 2 rfl ?_
    refine g_if_lt (tgt := 126) O dX9_laysWay_36 (by decide) ?_ ?_
    · refine g_pick [0] rfl ?_
      exact hk s
    refine g_aload_n O dX9_laysWay_39 rfl 0 rfl ?_
    refine g_getR O fw_9_74 rfl dX9_laysWay_40 rfl ?_
    refine g_iload_n O dX9_laysWay_43 rfl 2 rfl ?_
    refine g_bipush O dX9_laysWay_44 (by decide +kernel) ?_
    refine g_iast O rfl (by decide) dX9_laysWay_46 (fun s1 => ?_)
    refine g_aload_n O dX9_laysWay_47 rfl 0 rfl ?_
    refine g_iconst O dX9_laysWay_48 ?_
    refine g_callV1 (As := [vI 1]) (rest := []) (b := 0) (ci := 9) O mw_4_216 mw_4_218 mp_3_3 mw_4_219 mw_1_10 hd_X9_many rfl ⟨_, _, rfl⟩ rfl dX9_laysWay_49 (ct_X9_many 1 s1) (by rw [hfr]; decide) (by rw [hlo]; decide) (Nat.le_of_ble_eq_true rfl) (fun v2 s3 => ?_)
    refine g_iconst O dX9_laysWay_52 ?_
    refine g_isub O dX9_laysWay_53 ?_
    refine g_istore_n (lv2 := [(3, vI (v2 - 1)), (0, vR 0), (1, vI i1), (2, vI i2)]) O dX9_laysWay_54 rfl (by decide) rfl ?_
    refine g_pick [1, 2, 3, 0] rfl ?_
    refine lt_X9_laysWay_55 O hrt hfr hlo  (fun s4 => ?_) FU (v2 - 1) s3
    refine g_iinc (lv2 := [(2, vI (i2 + (-1))), (0, vR 0), (1, vI i1)]) O dX9_laysWay_120 2 rfl (by decide) rfl ?_
    refine g_goto (tgt := 35) O dX9_laysWay_123 (by decide) ?_
    refine g_pick [1, 2, 0] rfl ?_
    exact ih (i2 + (-1)) s4
theorem hd_X9_laysWay : yX9_laysWay.cls ≠ "java/lang/invoke/MethodHandle" ∧ yX9_laysWay.cls ≠ "java/lang/invoke/VarHandle" ∧ (parseMethodDescriptor yX9_laysWay.desc).map (fun d => d.parameters.length) = some 0 := by decide +kernel
set_option maxRecDepth 20000 in
set_option maxHeartbeats 4000000 in
theorem ct_X9_laysWay   (s : St) : Ctr LM yX9_laysWay cX9_laysWay 4 none 0 5 111 [vR 0] s (X9_laysWay s) := by
  refine Ctr.of (by decide +kernel) (fun ρ => Nat.le_of_ble_eq_true rfl) (lv := [(0, vR 0)]) (fun ρ => rfl) (fun K X O hrt hfr hlo => ?_)
  unfold X9_laysWay
  refine g_aload_n O dX9_laysWay_0 rfl 0 rfl ?_
  refine g_callV1 (As := []) (rest := []) (b := 0) (ci := 9) O mw_5_64 mw_5_66 mp_4_3 mw_5_67 mw_1_10 hd_X9_leastOf rfl ⟨_, _, rfl⟩ rfl dX9_laysWay_1 (ct_X9_leastOf  s) (by rw [hfr]; decide) (by rw [hlo]; decide) (Nat.le_of_ble_eq_true rfl) (fun v1 s2 => ?_)
  refine g_istore_n (lv2 := [(1, vI v1), (0, vR 0)]) O dX9_laysWay_4 rfl (by decide) rfl ?_
  refine g_iconst O dX9_laysWay_5 ?_
  refine g_istore_n (lv2 := [(2, vI 0), (1, vI v1), (0, vR 0)]) O dX9_laysWay_6 rfl (by decide) rfl ?_
  refine g_pick [2, 1, 0] rfl ?_
  refine lt_X9_laysWay_7 O hrt hfr hlo  (fun s3 => ?_) FU 0 s2
  refine g_aload_n O dX9_laysWay_27 rfl 0 rfl ?_
  refine g_iconst O dX9_laysWay_28 ?_
  refine g_callV1 (As := [vI 0]) (rest := []) (b := 0) (ci := 9) O mw_4_216 mw_4_218 mp_3_3 mw_4_219 mw_1_10 hd_X9_many rfl ⟨_, _, rfl⟩ rfl dX9_laysWay_29 (ct_X9_many 0 s3) (by rw [hfr]; decide) (by rw [hlo]; decide) (Nat.le_of_ble_eq_true rfl) (fun v4 s5 => ?_)
  refine g_iconst O dX9_laysWay_32 ?_
  refine g_isub O dX9_laysWay_33 ?_
  refine g_istore_n (lv2 := [(2, vI (v4 - 1)), (0, vR 0), (1, vI v1)]) O dX9_laysWay_34 rfl (by decide) rfl ?_
  refine g_pick [1, 2, 0] rfl ?_
  refine lt_X9_laysWay_35 O hrt hfr hlo  (fun s6 => ?_) FU (v4 - 1) s5
  refine g_aload_n O dX9_laysWay_126 rfl 0 rfl ?_
  refine g_callV1 (As := []) (rest := []) (b := 0) (ci := 9) O mw_5_64 mw_5_66 mp_4_3 mw_5_67 mw_1_10 hd_X9_leastOf rfl ⟨_, _, rfl⟩ rfl dX9_laysWay_127 (ct_X9_leastOf  s6) (by rw [hfr]; decide) (by rw [hlo]; decide) (Nat.le_of_ble_eq_true rfl) (fun v7 s8 => ?_)
  refine g_pop O dX9_laysWay_130 rfl ?_
  exact g_vret O hrt dX9_laysWay_131
def X9_partner (i1 : Int) (i2 : Int) (s : St) : Rs := cl (X9_isNode i1 i2 s) (fun v1 s2 => cEq v1 0 (some ((-1), s2)) (cl (X9_areBoth s2) (fun v3 s4 => cEq v3 0 (some ((-4), s4)) (cl (X9_laysWay s4) (fun _ s6 => cEq i1 0 (rd s6 22 12 i2 (fun v8 => some (v8, s6))) (rd s6 23 12 i2 (fun v7 => some (v7, s6))))))))
theorem hd_X9_partner : yX9_partner.cls ≠ "java/lang/invoke/MethodHandle" ∧ yX9_partner.cls ≠ "java/lang/invoke/VarHandle" ∧ (parseMethodDescriptor yX9_partner.desc).map (fun d => d.parameters.length) = some 2 := by decide +kernel
set_option maxRecDepth 20000 in
set_option maxHeartbeats 4000000 in
theorem ct_X9_partner  (i1 : Int) (i2 : Int) (s : St) : Ctr LM yX9_partner cX9_partner 3 (Option.some .int) 1 6 134 [vR 0, vI i1, vI i2] s (X9_partner i1 i2 s) := by
  refine Ctr.of (by decide +kernel) (fun ρ => Nat.le_of_ble_eq_true rfl) (lv := [(0, vR 0), (1, vI i1), (2, vI i2)]) (fun ρ => rfl) (fun K X O hrt hfr hlo => ?_)
  unfold X9_partner
  refine g_aload_n O dX9_partner_0 rfl 0 rfl ?_
  refine g_iload_n O dX9_partner_1 rfl 1 rfl ?_
  refine g_iload_n O dX9_partner_2 rfl 2 rfl ?_
  refine g_callV1 (As := [vI i1, vI i2]) (rest := []) (b := 0) (ci := 9) O mw_5_15 mw_5_17 mp_3_11 mw_5_18 mw_1_10 hd_X9_isNode rfl ⟨_, _, rfl⟩ rfl dX9_partner_3 (ct_X9_isNode i1 i2 s) (by rw [hfr]; decide) (by rw [hlo]; decide) (Nat.le_of_ble_eq_true rfl) (fun v1 s2 => ?_)
  refine g_if_ne (tgt := 11) O dX9_partner_6 (by decide) ?_ ?_
  · refine g_aload_n O dX9_partner_11 rfl 0 rfl ?_
    refine g_callV1 (As := []) (rest := []) (b := 0) (ci := 9) O mw_5_60 mw_5_62 mp_4_2 mw_5_63 mw_1_10 hd_X9_areBoth rfl ⟨_, _, rfl⟩ rfl dX9_partner_12 (ct_X9_areBoth  s2) (by rw [hfr]; decide) (by rw [hlo]; decide) (Nat.le_of_ble_eq_true rfl) (fun v3 s4 => ?_)
    refine g_if_ne (tgt := 21) O dX9_partner_15 (by decide) ?_ ?_
    · refine g_aload_n O dX9_partner_21 rfl 0 rfl ?_
      refine g_callV0 (As := []) (rest := []) (b := 0) (ci := 9) O mw_5_95 mw_5_97 mp_4_8 mw_5_98 mw_1_10 hd_X9_laysWay rfl ⟨_, _, rfl⟩ rfl dX9_partner_22 (ct_X9_laysWay  s4) (by rw [hfr]; decide) (by rw [hlo]; decide) (Nat.le_of_ble_eq_true rfl) (fun _ s6 => ?_)
      refine g_iload_n O dX9_partner_25 rfl 1 rfl ?_
      refine g_if_ne (tgt := 38) O dX9_partner_26 (by decide) ?_ ?_
      · refine g_aload_n O dX9_partner_38 rfl 0 rfl ?_
        refine g_getR O fw_9_77 rfl dX9_partner_39 rfl ?_
        refine g_iload_n O dX9_partner_42 rfl 2 rfl ?_
        refine g_iald O rfl (by decide) dX9_partner_43 (fun v7 => ?_)
        exact g_iret O hrt rfl dX9_partner_44
      refine g_aload_n O dX9_partner_29 rfl 0 rfl ?_
      refine g_getR O fw_9_74 rfl dX9_partner_30 rfl ?_
      refine g_iload_n O dX9_partner_33 rfl 2 rfl ?_
      refine g_iald O rfl (by decide) dX9_partner_34 (fun v8 => ?_)
      refine g_goto (tgt := 44) O dX9_partner_35 (by decide) ?_
      exact g_iret O hrt rfl dX9_partner_44
    refine g_bipush O dX9_partner_18 (by decide +kernel) ?_
    exact g_iret O hrt rfl dX9_partner_20
  refine g_iconst O dX9_partner_9 ?_
  exact g_iret O hrt rfl dX9_partner_10
