def X8_weightOf (i0 : Int) (s : St) : Rs := cl (X8_kindOf i0 s) (fun v1 s2 => cEq v1 3 (some (3, s2)) (cEq v1 1 (some (2, s2)) (some (1, s2))))
theorem hd_X8_weightOf : yX8_weightOf.cls ≠ "java/lang/invoke/MethodHandle" ∧ yX8_weightOf.cls ≠ "java/lang/invoke/VarHandle" ∧ (parseMethodDescriptor yX8_weightOf.desc).map (fun d => d.parameters.length) = some 1 := by decide +kernel
set_option maxRecDepth 20000 in
set_option maxHeartbeats 4000000 in
theorem ct_X8_weightOf  (i0 : Int) (s : St) : Ctr LC yX8_weightOf cX8_weightOf 2 (Option.some .int) 1 1 20 [vI i0] s (X8_weightOf i0 s) := by
  refine Ctr.of (by decide +kernel) (fun ρ => Nat.le_of_ble_eq_true rfl) (lv := [(0, vI i0)]) (fun ρ => rfl) (fun K X O hrt hfr hlo => ?_)
  unfold X8_weightOf
  refine g_iload_n O dX8_weightOf_0 rfl 0 rfl ?_
  refine g_callS1 (As := [vI i0]) (rest := []) O mw_2_176 mw_2_118 mw_2_119 mw_1_1 hd_X8_kindOf rfl dX8_weightOf_1 (ct_X8_kindOf i0 s) (by rw [hfr]; decide) (by rw [hlo]; decide) (Nat.le_of_ble_eq_true rfl) (fun v1 s2 => ?_)
  refine g_istore_n (lv2 := [(1, vI v1), (0, vI i0)]) O dX8_weightOf_4 rfl (by decide) rfl ?_
  refine g_iload_n O dX8_weightOf_5 rfl 0 rfl ?_
  refine g_iconst O dX8_weightOf_6 ?_
  refine g_icmp_ne (tgt := 12) O dX8_weightOf_7 (by decide) ?_ ?_
  · refine g_iload_n O dX8_weightOf_12 rfl 0 rfl ?_
    refine g_iconst O dX8_weightOf_13 ?_
    refine g_icmp_ne (tgt := 21) O dX8_weightOf_14 (by decide) ?_ ?_
    · refine g_iconst O dX8_weightOf_21 ?_
      exact g_iret O hrt rfl dX8_weightOf_22
    refine g_iconst O dX8_weightOf_17 ?_
    refine g_goto (tgt := 22) O dX8_weightOf_18 (by decide) ?_
    exact g_iret O hrt rfl dX8_weightOf_22
  refine g_iconst O dX8_weightOf_10 ?_
  exact g_iret O hrt rfl dX8_weightOf_11
def X3_insertion (i1 : Int) (s : St) : Rs := rd s 7 3 0 (fun v1 => cl (X8_weightOf i1 s) (fun v2 s3 => some (v1 * v2, s3)))
theorem hd_X3_insertion : yX3_insertion.cls ≠ "java/lang/invoke/MethodHandle" ∧ yX3_insertion.cls ≠ "java/lang/invoke/VarHandle" ∧ (parseMethodDescriptor yX3_insertion.desc).map (fun d => d.parameters.length) = some 1 := by decide +kernel
set_option maxRecDepth 20000 in
set_option maxHeartbeats 4000000 in
theorem ct_X3_insertion  (i1 : Int) (s : St) : Ctr LC yX3_insertion cX3_insertion 2 (Option.some .int) 1 2 41 [vR 6, vI i1] s (X3_insertion i1 s) := by
  refine Ctr.of (by decide +kernel) (fun ρ => Nat.le_of_ble_eq_true rfl) (lv := [(0, vR 6), (1, vI i1)]) (fun ρ => rfl) (fun K X O hrt hfr hlo => ?_)
  unfold X3_insertion
  refine g_aload_n O dX3_insertion_0 rfl 0 rfl ?_
  refine g_getR O fw_3_21 rfl dX3_insertion_1 rfl ?_
  refine g_iconst O dX3_insertion_4 ?_
  refine g_iald O rfl (by decide) dX3_insertion_5 (fun v1 => ?_)
  refine g_iload_n O dX3_insertion_6 rfl 1 rfl ?_
  refine g_callN1 (As := [vI i1]) (rest := [vI v1]) O O.2.2.2.2.2.2.2.1.2.1 mw_2_197 mw_2_198 mw_1_1 hd_X8_weightOf rfl dX3_insertion_7 (ct_X8_weightOf i1 s) (by rw [hfr]; decide) (by rw [hlo]; decide) (Nat.le_of_ble_eq_true rfl) (fun v2 s3 => ?_)
  refine g_imul O dX3_insertion_10 ?_
  exact g_iret O hrt rfl dX3_insertion_11
def X3_deletion (i1 : Int) (s : St) : Rs := rd s 7 3 1 (fun v1 => cl (X8_weightOf i1 s) (fun v2 s3 => some (v1 * v2, s3)))
theorem hd_X3_deletion : yX3_deletion.cls ≠ "java/lang/invoke/MethodHandle" ∧ yX3_deletion.cls ≠ "java/lang/invoke/VarHandle" ∧ (parseMethodDescriptor yX3_deletion.desc).map (fun d => d.parameters.length) = some 1 := by decide +kernel
set_option maxRecDepth 20000 in
set_option maxHeartbeats 4000000 in
theorem ct_X3_deletion  (i1 : Int) (s : St) : Ctr LC yX3_deletion cX3_deletion 2 (Option.some .int) 1 2 41 [vR 6, vI i1] s (X3_deletion i1 s) := by
  refine Ctr.of (by decide +kernel) (fun ρ => Nat.le_of_ble_eq_true rfl) (lv := [(0, vR 6), (1, vI i1)]) (fun ρ => rfl) (fun K X O hrt hfr hlo => ?_)
  unfold X3_deletion
  refine g_aload_n O dX3_deletion_0 rfl 0 rfl ?_
  refine g_getR O fw_3_21 rfl dX3_deletion_1 rfl ?_
  refine g_iconst O dX3_deletion_4 ?_
  refine g_iald O rfl (by decide) dX3_deletion_5 (fun v1 => ?_)
  refine g_iload_n O dX3_deletion_6 rfl 1 rfl ?_
  refine g_callN1 (As := [vI i1]) (rest := [vI v1]) O O.2.2.2.2.2.2.2.1.2.1 mw_2_197 mw_2_198 mw_1_1 hd_X8_weightOf rfl dX3_deletion_7 (ct_X8_weightOf i1 s) (by rw [hfr]; decide) (by rw [hlo]; decide) (Nat.le_of_ble_eq_true rfl) (fun v2 s3 => ?_)
  refine g_imul O dX3_deletion_10 ?_
  exact g_iret O hrt rfl dX3_deletion_11
def X8_property (a1 : Nat) (i2 : Int) (i3 : Int) (s : St) : Rs := gR i3 (if i3 = 0 then rd s (a1 + 1) 12 i2 (fun v1 => some (v1, s)) else (if i3 = 1 then rd s (a1 + 1) 12 i2 (fun v2 => cl (X8_kindOf v2 s) (fun v3 s4 => some (v3, s4))) else (if i3 = 2 then cl (X6_leftmost a1 i2 s) (fun v5 s6 => some (v5, s6)) else (if i3 = 3 then cl (X6_children a1 i2 s) (fun v7 s8 => some (v7, s8)) else (if i3 = 4 then cl (X6_parent a1 i2 s) (fun v9 s10 => some (v9, s10)) else (if i3 = 5 then cl (X6_isKey a1 i2 0 s) (fun v11 s12 => cEq v11 0 (some (0, s12)) (some (1, s12))) else (if i3 = 6 then cl (X6_isKey a1 i2 1 s) (fun v13 s14 => cEq v13 0 (some (0, s14)) (some (1, s14))) else (if i3 = 7 then rd s (a1 + 1) 12 i2 (fun v15 => cl (X3_insertion v15 s) (fun v16 s17 => some (v16, s17))) else (rd s (a1 + 1) 12 i2 (fun v18 => cl (X3_deletion v18 s) (fun v19 s20 => some (v19, s20))))))))))))
theorem hd_X8_property : yX8_property.cls ≠ "java/lang/invoke/MethodHandle" ∧ yX8_property.cls ≠ "java/lang/invoke/VarHandle" ∧ (parseMethodDescriptor yX8_property.desc).map (fun d => d.parameters.length) = some 3 := by decide +kernel
set_option maxRecDepth 20000 in
set_option maxHeartbeats 4000000 in
theorem ct_X8_property {a1 : Nat} (ha1 : Kd LC a1 16) (i2 : Int) (i3 : Int) (s : St) : Ctr LC yX8_property cX8_property 4 (Option.some .int) 1 3 66 [vR 0, vR a1, vI i2, vI i3] s (X8_property a1 i2 i3 s) := by
  refine Ctr.of (by decide +kernel) (fun ρ => Nat.le_of_ble_eq_true rfl) (lv := [(0, vR 0), (1, vR a1), (2, vI i2), (3, vI i3)]) (fun ρ => rfl) (fun K X O hrt hfr hlo => ?_)
  unfold X8_property
  refine g_iload_n O dX8_property_0 rfl 3 rfl ?_
  refine g_gR (fun hr1 => ?_)
  refine g_ite (fun hc2 => ?_) (fun hc2 => ?_)
  · refine g_tin (k := 0) (tgt := 48) O dX8_property_1 hr1 hc2 (by decide) (by decide) rfl (by decide) ?_
    refine g_aload_n O dX8_property_48 rfl 1 rfl ?_
    refine g_getR O fw_8_156 (tree_c ha1) dX8_property_49 rfl ?_
    refine g_iload_n O dX8_property_52 rfl 2 rfl ?_
    refine g_iald O (tree_1 ha1) (by decide) dX8_property_53 (fun v1 => ?_)
    exact g_iret O hrt rfl dX8_property_54
  refine g_ite (fun hc3 => ?_) (fun hc3 => ?_)
  · refine g_tin (k := 1) (tgt := 55) O dX8_property_1 hr1 hc3 (by decide) (by decide) rfl (by decide) ?_
    refine g_aload_n O dX8_property_55 rfl 1 rfl ?_
    refine g_getR O fw_8_156 (tree_c ha1) dX8_property_56 rfl ?_
    refine g_iload_n O dX8_property_59 rfl 2 rfl ?_
    refine g_iald O (tree_1 ha1) (by decide) dX8_property_60 (fun v2 => ?_)
    refine g_callS1 (As := [vI v2]) (rest := []) O mw_2_176 mw_2_118 mw_2_119 mw_1_1 hd_X8_kindOf rfl dX8_property_61 (ct_X8_kindOf v2 s) (by rw [hfr]; decide) (by rw [hlo]; decide) (Nat.le_of_ble_eq_true rfl) (fun v3 s4 => ?_)
    exact g_iret O hrt rfl dX8_property_64
  refine g_ite (fun hc4 => ?_) (fun hc4 => ?_)
  · refine g_tin (k := 2) (tgt := 65) O dX8_property_1 hr1 hc4 (by decide) (by decide) rfl (by decide) ?_
    refine g_aload_n O dX8_property_65 rfl 1 rfl ?_
    refine g_iload_n O dX8_property_66 rfl 2 rfl ?_
    refine g_callV1 (As := [vI i2]) (rest := []) (b := a1) (ci := 6) O mw_2_177 mw_2_157 mw_2_158 mw_2_159 mw_1_4 hd_X6_leftmost rfl ha1 rfl dX8_property_67 (ct_X6_leftmost ha1 i2 s) (by rw [hfr]; decide) (by rw [hlo]; decide) (Nat.le_of_ble_eq_true rfl) (fun v5 s6 => ?_)
    exact g_iret O hrt rfl dX8_property_70
  refine g_ite (fun hc5 => ?_) (fun hc5 => ?_)
  · refine g_tin (k := 3) (tgt := 71) O dX8_property_1 hr1 hc5 (by decide) (by decide) rfl (by decide) ?_
    refine g_aload_n O dX8_property_71 rfl 1 rfl ?_
    refine g_iload_n O dX8_property_72 rfl 2 rfl ?_
    refine g_callV1 (As := [vI i2]) (rest := []) (b := a1) (ci := 6) O mw_2_178 mw_2_179 mw_2_180 mw_2_181 mw_1_4 hd_X6_children rfl ha1 rfl dX8_property_73 (ct_X6_children ha1 i2 s) (by rw [hfr]; decide) (by rw [hlo]; decide) (Nat.le_of_ble_eq_true rfl) (fun v7 s8 => ?_)
    exact g_iret O hrt rfl dX8_property_76
  refine g_ite (fun hc6 => ?_) (fun hc6 => ?_)
  · refine g_tin (k := 4) (tgt := 77) O dX8_property_1 hr1 hc6 (by decide) (by decide) rfl (by decide) ?_
    refine g_aload_n O dX8_property_77 rfl 1 rfl ?_
    refine g_iload_n O dX8_property_78 rfl 2 rfl ?_
    refine g_callV1 (As := [vI i2]) (rest := []) (b := a1) (ci := 6) O mw_2_187 mw_2_184 mw_2_185 mw_2_186 mw_1_4 hd_X6_parent rfl ha1 rfl dX8_property_79 (ct_X6_parent ha1 i2 s) (by rw [hfr]; decide) (by rw [hlo]; decide) (Nat.le_of_ble_eq_true rfl) (fun v9 s10 => ?_)
    exact g_iret O hrt rfl dX8_property_82
  refine g_ite (fun hc7 => ?_) (fun hc7 => ?_)
  · refine g_tin (k := 5) (tgt := 83) O dX8_property_1 hr1 hc7 (by decide) (by decide) rfl (by decide) ?_
    refine g_aload_n O dX8_property_83 rfl 1 rfl ?_
    refine g_iload_n O dX8_property_84 rfl 2 rfl ?_
    refine g_iconst O dX8_property_85 ?_
    refine g_callV1 (As := [vI i2, vI 0]) (rest := []) (b := a1) (ci := 6) O mw_2_188 mw_2_189 mw_2_190 mw_2_191 mw_1_4 hd_X6_isKey rfl ha1 rfl dX8_property_86 (ct_X6_isKey ha1 i2 0 s) (by rw [hfr]; decide) (by rw [hlo]; decide) (Nat.le_of_ble_eq_true rfl) (fun v11 s12 => ?_)
    refine g_if_eq (tgt := 96) O dX8_property_89 (by decide) ?_ ?_
    · refine g_iconst O dX8_property_96 ?_
      exact g_iret O hrt rfl dX8_property_97
    refine g_iconst O dX8_property_92 ?_
    refine g_goto (tgt := 97) O dX8_property_93 (by decide) ?_
    exact g_iret O hrt rfl dX8_property_97
  refine g_ite (fun hc8 => ?_) (fun hc8 => ?_)
  · refine g_tin (k := 6) (tgt := 98) O dX8_property_1 hr1 hc8 (by decide) (by decide) rfl (by decide) ?_
    refine g_aload_n O dX8_property_98 rfl 1 rfl ?_
    refine g_iload_n O dX8_property_99 rfl 2 rfl ?_
    refine g_iconst O dX8_property_100 ?_
    refine g_callV1 (As := [vI i2, vI 1]) (rest := []) (b := a1) (ci := 6) O mw_2_188 mw_2_189 mw_2_190 mw_2_191 mw_1_4 hd_X6_isKey rfl ha1 rfl dX8_property_101 (ct_X6_isKey ha1 i2 1 s) (by rw [hfr]; decide) (by rw [hlo]; decide) (Nat.le_of_ble_eq_true rfl) (fun v13 s14 => ?_)
    refine g_if_eq (tgt := 111) O dX8_property_104 (by decide) ?_ ?_
    · refine g_iconst O dX8_property_111 ?_
      exact g_iret O hrt rfl dX8_property_112
    refine g_iconst O dX8_property_107 ?_
    refine g_goto (tgt := 112) O dX8_property_108 (by decide) ?_
    exact g_iret O hrt rfl dX8_property_112
  refine g_ite (fun hc9 => ?_) (fun hc9 => ?_)
  · refine g_tin (k := 7) (tgt := 113) O dX8_property_1 hr1 hc9 (by decide) (by decide) rfl (by decide) ?_
    refine g_aload_n O dX8_property_113 rfl 0 rfl ?_
    refine g_getR O fw_8_32 rfl dX8_property_114 rfl ?_
    refine g_aload_n O dX8_property_117 rfl 1 rfl ?_
    refine g_getR O fw_8_156 (tree_c ha1) dX8_property_118 rfl ?_
    refine g_iload_n O dX8_property_121 rfl 2 rfl ?_
    refine g_iald O (tree_1 ha1) (by decide) dX8_property_122 (fun v15 => ?_)
    refine g_callV1 (As := [vI v15]) (rest := []) (b := 6) (ci := 3) O mw_2_192 mw_2_193 mw_2_194 mw_2_195 mw_1_3 hd_X3_insertion rfl ⟨_, _, rfl⟩ rfl dX8_property_123 (ct_X3_insertion v15 s) (by rw [hfr]; decide) (by rw [hlo]; decide) (Nat.le_of_ble_eq_true rfl) (fun v16 s17 => ?_)
    exact g_iret O hrt rfl dX8_property_126
  refine g_tout (tgt := 127) O dX8_property_1 hr1 (by omega) (by decide) ?_
  refine g_aload_n O dX8_property_127 rfl 0 rfl ?_
  refine g_getR O fw_8_32 rfl dX8_property_128 rfl ?_
  refine g_aload_n O dX8_property_131 rfl 1 rfl ?_
  refine g_getR O fw_8_156 (tree_c ha1) dX8_property_132 rfl ?_
  refine g_iload_n O dX8_property_135 rfl 2 rfl ?_
  refine g_iald O (tree_1 ha1) (by decide) dX8_property_136 (fun v18 => ?_)
  refine g_callV1 (As := [vI v18]) (rest := []) (b := 6) (ci := 3) O mw_2_199 mw_2_200 mw_2_201 mw_2_202 mw_1_3 hd_X3_deletion rfl ⟨_, _, rfl⟩ rfl dX8_property_137 (ct_X3_deletion v18 s) (by rw [hfr]; decide) (by rw [hlo]; decide) (Nat.le_of_ble_eq_true rfl) (fun v19 s20 => ?_)
  exact g_iret O hrt rfl dX8_property_140
def X8_node (i1 : Int) (i2 : Int) (i3 : Int) (s : St) : Rs := cl (X8_noNode i1 i2 s) (fun v1 s2 => cEq v1 0 (cLt i3 0 (some ((-1), s2)) (cLt 8 i3 (some ((-1), s2)) (cl (X3_tree i1 s2) (fun v3 s4 => gK LC v3.toNat 16 (cl (X8_property v3.toNat i2 i3 s4) (fun v5 s6 => cl (X8_tell v5 s6) (fun v7 s8 => some (v7, s8)))))))) (some ((-1), s2)))
theorem hd_X8_node : yX8_node.cls ≠ "java/lang/invoke/MethodHandle" ∧ yX8_node.cls ≠ "java/lang/invoke/VarHandle" ∧ (parseMethodDescriptor yX8_node.desc).map (fun d => d.parameters.length) = some 3 := by decide +kernel
set_option maxRecDepth 20000 in
set_option maxHeartbeats 4000000 in
theorem ct_X8_node  (i1 : Int) (i2 : Int) (i3 : Int) (s : St) : Ctr LC yX8_node cX8_node 4 (Option.some .int) 1 4 89 [vR 0, vI i1, vI i2, vI i3] s (X8_node i1 i2 i3 s) := by
  refine Ctr.of (by decide +kernel) (fun ρ => Nat.le_of_ble_eq_true rfl) (lv := [(0, vR 0), (1, vI i1), (2, vI i2), (3, vI i3)]) (fun ρ => rfl) (fun K X O hrt hfr hlo => ?_)
  unfold X8_node
  refine g_aload_n O dX8_node_0 rfl 0 rfl ?_
  refine g_iload_n O dX8_node_1 rfl 1 rfl ?_
  refine g_iload_n O dX8_node_2 rfl 2 rfl ?_
  refine g_callV1 (As := [vI i1, vI i2]) (rest := []) (b := 0) (ci := 8) O mw_2_164 mw_2_166 mp_1_8 mw_2_167 mw_1_1 hd_X8_noNode rfl ⟨_, _, rfl⟩ rfl dX8_node_3 (ct_X8_noNode i1 i2 s) (by rw [hfr]; decide) (by rw [hlo]; decide) (Nat.le_of_ble_eq_true rfl) (fun v1 s2 => ?_)
  refine g_if_ne (tgt := 19) O dX8_node_6 (by decide) ?_ ?_
  · refine g_iconst O dX8_node_19 ?_
    exact g_iret O hrt rfl dX8_node_20
  refine g_iload_n O dX8_node_9 rfl 3 rfl ?_
  refine g_if_lt (tgt := 19) O dX8_node_10 (by decide) ?_ ?_
  · refine g_iconst O dX8_node_19 ?_
    exact g_iret O hrt rfl dX8_node_20
  refine g_iload_n O dX8_node_13 rfl 3 rfl ?_
  refine g_bipush O dX8_node_14 (by decide +kernel) ?_
  refine g_icmp_le (tgt := 21) O dX8_node_16 (by decide) ?_ ?_
  · refine g_aload_n O dX8_node_21 rfl 0 rfl ?_
    refine g_aload_n O dX8_node_22 rfl 0 rfl ?_
    refine g_aload_n O dX8_node_23 rfl 0 rfl ?_
    refine g_getR O fw_8_32 rfl dX8_node_24 rfl ?_
    refine g_iload_n O dX8_node_27 rfl 1 rfl ?_
    refine g_callV3 (As := [vI i1]) (rest := [vR 0, vR 0]) (b := 6) (ci := 3) O mw_2_131 mw_2_132 mw_2_133 mw_2_134 mw_1_3 hd_X3_tree rfl ⟨_, _, rfl⟩ rfl dX8_node_28 (ct_X3_tree i1 s2) (by rw [hfr]; decide) (by rw [hlo]; decide) (Nat.le_of_ble_eq_true rfl) (fun v3 s4 => ?_)
    refine g_gK (by decide) (fun hk1 => ?_)
    refine g_iload_n O dX8_node_31 rfl 2 rfl ?_
    refine g_iload_n O dX8_node_32 rfl 3 rfl ?_
    refine g_callV1 (As := [vR v3.toNat, vI i2, vI i3]) (rest := [vR 0]) (b := 0) (ci := 8) O mw_2_172 mw_2_174 mp_1_9 mw_2_175 mw_1_1 hd_X8_property rfl ⟨_, _, rfl⟩ rfl dX8_node_33 (ct_X8_property hk1 i2 i3 s4) (by rw [hfr]; decide) (by rw [hlo]; decide) (Nat.le_of_ble_eq_true rfl) (fun v5 s6 => ?_)
    refine g_callV1 (As := [vI v5]) (rest := []) (b := 0) (ci := 8) O mw_2_47 mw_2_49 mp_1_1 mw_2_50 mw_1_1 hd_X8_tell rfl ⟨_, _, rfl⟩ rfl dX8_node_36 (ct_X8_tell v5 s6) (by rw [hfr]; decide) (by rw [hlo]; decide) (Nat.le_of_ble_eq_true rfl) (fun v7 s8 => ?_)
    exact g_iret O hrt rfl dX8_node_39
  refine g_iconst O dX8_node_19 ?_
  exact g_iret O hrt rfl dX8_node_20
def X8_isOf (i0 : Int) (i1 : Int) (s : St) : Rs := cEq i0 i1 (some (1, s)) (jn (fun  (s1 : St) => cEq i0 4 (cEq i1 2 (some (1, s1)) (some (0, s1))) (some (0, s1))) (fun k2 => cEq i0 3 (cEq i1 1 (some (1, s)) (k2 s)) (k2 s)))
theorem hd_X8_isOf : yX8_isOf.cls ≠ "java/lang/invoke/MethodHandle" ∧ yX8_isOf.cls ≠ "java/lang/invoke/VarHandle" ∧ (parseMethodDescriptor yX8_isOf.desc).map (fun d => d.parameters.length) = some 2 := by decide +kernel
set_option maxRecDepth 20000 in
set_option maxHeartbeats 4000000 in
theorem ct_X8_isOf  (i0 : Int) (i1 : Int) (s : St) : Ctr LC yX8_isOf cX8_isOf 2 (Option.some .boolean) 1 0 0 [vI i0, vI i1] s (X8_isOf i0 i1 s) := by
  refine Ctr.of (by decide +kernel) (fun ρ => Nat.le_of_ble_eq_true rfl) (lv := [(0, vI i0), (1, vI i1)]) (fun ρ => rfl) (fun K X O hrt hfr hlo => ?_)
  unfold X8_isOf
  refine g_iload_n O dX8_isOf_0 rfl 0 rfl ?_
  refine g_iload_n O dX8_isOf_1 rfl 1 rfl ?_
  refine g_icmp_eq (tgt := 25) O dX8_isOf_2 (by decide) ?_ ?_
  · refine g_iconst O dX8_isOf_25 ?_
    refine g_goto (tgt := 30) O dX8_isOf_26 (by decide) ?_
    exact g_iret O hrt (by decide +kernel) dX8_isOf_30
  refine g_iload_n O dX8_isOf_5 rfl 0 rfl ?_
  refine g_iconst O dX8_isOf_6 ?_
  refine g_jn (fun (j : St → Rs) => ∀  (s1 : St), GX LC K X 2 1 15 [(0, vI i0), (1, vI i1)] [] s1 (j  s1)) ?_ ?_
  · intro  s1
    refine g_iload_n O dX8_isOf_15 rfl 0 rfl ?_
    refine g_iconst O dX8_isOf_16 ?_
    refine g_icmp_ne (tgt := 29) O dX8_isOf_17 (by decide) ?_ ?_
    · refine g_iconst O dX8_isOf_29 ?_
      exact g_iret O hrt (by decide +kernel) dX8_isOf_30
    refine g_iload_n O dX8_isOf_20 rfl 1 rfl ?_
    refine g_iconst O dX8_isOf_21 ?_
    refine g_icmp_ne (tgt := 29) O dX8_isOf_22 (by decide) ?_ ?_
    · refine g_iconst O dX8_isOf_29 ?_
      exact g_iret O hrt (by decide +kernel) dX8_isOf_30
    refine g_iconst O dX8_isOf_25 ?_
    refine g_goto (tgt := 30) O dX8_isOf_26 (by decide) ?_
    exact g_iret O hrt (by decide +kernel) dX8_isOf_30
  intro k2 hk2
  refine g_icmp_ne (tgt := 15) O dX8_isOf_7 (by decide) ?_ ?_
  · exact hk2 s
  refine g_iload_n O dX8_isOf_10 rfl 1 rfl ?_
  refine g_iconst O dX8_isOf_11 ?_
  refine g_icmp_eq (tgt := 25) O dX8_isOf_12 (by decide) ?_ ?_
  · refine g_iconst O dX8_isOf_25 ?_
    refine g_goto (tgt := 30) O dX8_isOf_26 (by decide) ?_
    exact g_iret O hrt (by decide +kernel) dX8_isOf_30
  exact hk2 s
def X6_headsBelow_8 (a0 : Nat) (i1 : Int) (k : Int → St → Rs) : Nat → Int → Int → St → Rs
  | 0, _, _, _ => none
  | n + 1, i2, i3, s => cLt i3 i1 (rd s (a0 + 1) 12 i3 (fun v1 => cl (X8_kindOf v1 s) (fun v2 s3 => cl (X8_isOf v2 1 s3) (fun v4 s5 => cEq v4 0 (X6_headsBelow_8 a0 i1 k n i2 (i3 + 1) s5) (X6_headsBelow_8 a0 i1 k n (i2 + 1) (i3 + 1) s5))))) (k i2 s)
def X6_headsBelow (a0 : Nat) (i1 : Int) (s : St) : Rs := cl (X6_leftmost a0 i1 s) (fun v1 s2 => X6_headsBelow_8 a0 i1 (fun x3 s4 => some (x3, s4)) FU 0 v1 s2)
set_option maxRecDepth 20000 in
set_option maxHeartbeats 4000000 in
theorem lt_X6_headsBelow_8 {K : Cx} {X : Wx} (O : OKx LC K X yX6_headsBelow.cls cX6_headsBelow 4) (hrt : (kMe K).sig.returnType = (Option.some .int)) (hfr : (kR K).frames = 1) (hlo : (kR K).locals = 21) {a0 : Nat} {i1 : Int} {k : Int → St → Rs} (ha0 : Kd LC a0 16) (hk : ∀ (i2 : Int) (s : St), GX LC K X 4 1 38 [(2, vI i2)] [] s (k i2 s)) : ∀ (n : Nat) (i2 : Int) (i3 : Int) (s : St), GX LC K X 4 1 8 [(0, vR a0), (1, vI i1), (2, vI i2), (3, vI i3)] [] s (X6_headsBelow_8 a0 i1 k n i2 i3 s) := by
  intro n
  induction n with
  | zero => intro i2 i3 s; exact GX.none
  | succ n ih =>
    intro i2 i3 s
    rw [X6_headsBelow_8]
    refine g_iload_n O dX6_headsBelow_8 rfl 3 rfl ?_
    refine g_iload_n O dX6_headsBelow_9 rfl 1 rfl ?_
    refine g_icmp_ge (tgt := 38) O dX6_headsBelow_10 (by decide) ?_ ?_
    · refine g_pick [2] rfl ?_
      exact hk i2 s
    refine g_aload_n O dX6_headsBelow_13 rfl 0 rfl ?_
    refine g_getR O fw_6_15 (tree_c ha0) dX6_headsBelow_14 rfl ?_
    refine g_iload_n O dX6_headsBelow_17 rfl 3 rfl ?_
    refine g_iald O (tree_1 ha0) (by decide) dX6_headsBelow_18 (fun v1 => ?_)
    refine g_callN1 (As := [vI v1]) (rest := []) O O.2.2.2.2.2.2.2.1.2.2.1 mw_2_118 mw_2_119 mw_1_1 hd_X8_kindOf rfl dX6_headsBelow_19 (ct_X8_kindOf v1 s) (by rw [hfr]; decide) (by rw [hlo]; decide) (Nat.le_of_ble_eq_true rfl) (fun v2 s3 => ?_)
    refine g_iconst O dX6_headsBelow_22 ?_
    refine g_callN1 (As := [vI v2, vI 1]) (rest := []) O O.2.2.2.2.2.2.2.1.2.2.2.1 mw_2_208 mw_2_209 mw_1_1 hd_X8_isOf rfl dX6_headsBelow_23 (ct_X8_isOf v2 1 s3) (by rw [hfr]; decide) (by rw [hlo]; decide) (Nat.le_of_ble_eq_true rfl) (fun v4 s5 => ?_)
    refine g_if_eq (tgt := 32) O dX6_headsBelow_26 (by decide) ?_ ?_
    · refine g_iinc (lv2 := [(3, vI (i3 + 1)), (0, vR a0), (1, vI i1), (2, vI i2)]) O dX6_headsBelow_32 3 rfl (by decide) rfl ?_
      refine g_goto (tgt := 8) O dX6_headsBelow_35 (by decide) ?_
      refine g_pick [1, 2, 3, 0] rfl ?_
      exact ih i2 (i3 + 1) s5
    refine g_iinc (lv2 := [(2, vI (i2 + 1)), (0, vR a0), (1, vI i1), (3, vI i3)]) O dX6_headsBelow_29 2 rfl (by decide) rfl ?_
    refine g_iinc (lv2 := [(3, vI (i3 + 1)), (2, vI (i2 + 1)), (0, vR a0), (1, vI i1)]) O dX6_headsBelow_32 3 rfl (by decide) rfl ?_
    refine g_goto (tgt := 8) O dX6_headsBelow_35 (by decide) ?_
    refine g_pick [2, 3, 1, 0] rfl ?_
    exact ih (i2 + 1) (i3 + 1) s5
theorem hd_X6_headsBelow : yX6_headsBelow.cls ≠ "java/lang/invoke/MethodHandle" ∧ yX6_headsBelow.cls ≠ "java/lang/invoke/VarHandle" ∧ (parseMethodDescriptor yX6_headsBelow.desc).map (fun d => d.parameters.length) = some 1 := by decide +kernel
set_option maxRecDepth 20000 in
set_option maxHeartbeats 4000000 in
theorem ct_X6_headsBelow {a0 : Nat} (ha0 : Kd LC a0 16) (i1 : Int) (s : St) : Ctr LC yX6_headsBelow cX6_headsBelow 4 (Option.some .int) 1 1 21 [vR a0, vI i1] s (X6_headsBelow a0 i1 s) := by
  refine Ctr.of (by decide +kernel) (fun ρ => Nat.le_of_ble_eq_true rfl) (lv := [(0, vR a0), (1, vI i1)]) (fun ρ => rfl) (fun K X O hrt hfr hlo => ?_)
  unfold X6_headsBelow
  refine g_iconst O dX6_headsBelow_0 ?_
  refine g_istore_n (lv2 := [(2, vI 0), (0, vR a0), (1, vI i1)]) O dX6_headsBelow_1 rfl (by decide) rfl ?_
  refine g_aload_n O dX6_headsBelow_2 rfl 1 rfl ?_
  refine g_iload_n O dX6_headsBelow_3 rfl 2 rfl ?_
  refine g_callV1 (As := [vI i1]) (rest := []) (b := a0) (ci := 6) O mw_2_182 mw_2_157 mw_2_158 mw_2_159 mw_1_4 hd_X6_leftmost rfl ha0 rfl dX6_headsBelow_4 (ct_X6_leftmost ha0 i1 s) (by rw [hfr]; decide) (by rw [hlo]; decide) (Nat.le_of_ble_eq_true rfl) (fun v1 s2 => ?_)
  refine g_istore_n (lv2 := [(3, vI v1), (2, vI 0), (0, vR a0), (1, vI i1)]) O dX6_headsBelow_7 rfl (by decide) rfl ?_
  refine g_pick [2, 3, 1, 0] rfl ?_
  refine lt_X6_headsBelow_8 O hrt hfr hlo ha0 (fun x3 s4 => ?_) FU 0 v1 s2
  refine g_iload_n O dX6_headsBelow_38 rfl 0 rfl ?_
  exact g_iret O hrt rfl dX6_headsBelow_39
def X6_nodesWith_4 (a0 : Nat) (i1 : Int) (k : Int → St → Rs) : Nat → Int → Int → St → Rs
  | 0, _, _, _ => none
  | n + 1, i2, i3, s => cLt i3 (s a0 0) (rd s (a0 + 1) 12 i3 (fun v1 => cEq v1 i1 (X6_nodesWith_4 a0 i1 k n (i2 + 1) (i3 + 1) s) (X6_nodesWith_4 a0 i1 k n i2 (i3 + 1) s))) (k i2 s)
def X6_nodesWith (a0 : Nat) (i1 : Int) (s : St) : Rs := X6_nodesWith_4 a0 i1 (fun x1 s2 => some (x1, s2)) FU 0 0 s
set_option maxRecDepth 20000 in
set_option maxHeartbeats 4000000 in
theorem lt_X6_nodesWith_4 {K : Cx} {X : Wx} (O : OKx LC K X yX6_nodesWith.cls cX6_nodesWith 4) (hrt : (kMe K).sig.returnType = (Option.some .int)) (hfr : (kR K).frames = 0) (hlo : (kR K).locals = 0) {a0 : Nat} {i1 : Int} {k : Int → St → Rs} (ha0 : Kd LC a0 16) (hk : ∀ (i2 : Int) (s : St), GX LC K X 4 1 31 [(2, vI i2)] [] s (k i2 s)) : ∀ (n : Nat) (i2 : Int) (i3 : Int) (s : St), GX LC K X 4 1 4 [(0, vR a0), (1, vI i1), (2, vI i2), (3, vI i3)] [] s (X6_nodesWith_4 a0 i1 k n i2 i3 s) := by
  intro n
  induction n with
  | zero => intro i2 i3 s; exact GX.none
  | succ n ih =>
    intro i2 i3 s
    rw [X6_nodesWith_4]
    refine g_iload_n O dX6_nodesWith_4 rfl 3 rfl ?_
    refine g_aload_n O dX6_nodesWith_5 rfl 0 rfl ?_
    refine g_getI O fw_6_9 (tree_c ha0) dX6_nodesWith_6 rfl ?_
    refine g_icmp_ge (tgt := 31) O dX6_nodesWith_9 (by decide) ?_ ?_
    · refine g_pick [2] rfl ?_
      exact hk i2 s
    refine g_aload_n O dX6_nodesWith_12 rfl 0 rfl ?_
    refine g_getR O fw_6_15 (tree_c ha0) dX6_nodesWith_13 rfl ?_
    refine g_iload_n O dX6_nodesWith_16 rfl 3 rfl ?_
    refine g_iald O (tree_1 ha0) (by decide) dX6_nodesWith_17 (fun v1 => ?_)
    refine g_iload_n O dX6_nodesWith_18 rfl 1 rfl ?_
    refine g_icmp_ne (tgt := 25) O dX6_nodesWith_19 (by decide) ?_ ?_
    · refine g_iinc (lv2 := [(3, vI (i3 + 1)), (0, vR a0), (1, vI i1), (2, vI i2)]) O dX6_nodesWith_25 3 rfl (by decide) rfl ?_
      refine g_goto (tgt := 4) O dX6_nodesWith_28 (by decide) ?_
      refine g_pick [1, 2, 3, 0] rfl ?_
      exact ih i2 (i3 + 1) s
    refine g_iinc (lv2 := [(2, vI (i2 + 1)), (0, vR a0), (1, vI i1), (3, vI i3)]) O dX6_nodesWith_22 2 rfl (by decide) rfl ?_
    refine g_iinc (lv2 := [(3, vI (i3 + 1)), (2, vI (i2 + 1)), (0, vR a0), (1, vI i1)]) O dX6_nodesWith_25 3 rfl (by decide) rfl ?_
    refine g_goto (tgt := 4) O dX6_nodesWith_28 (by decide) ?_
    refine g_pick [2, 3, 1, 0] rfl ?_
    exact ih (i2 + 1) (i3 + 1) s
theorem hd_X6_nodesWith : yX6_nodesWith.cls ≠ "java/lang/invoke/MethodHandle" ∧ yX6_nodesWith.cls ≠ "java/lang/invoke/VarHandle" ∧ (parseMethodDescriptor yX6_nodesWith.desc).map (fun d => d.parameters.length) = some 1 := by decide +kernel
set_option maxRecDepth 20000 in
set_option maxHeartbeats 4000000 in
theorem ct_X6_nodesWith {a0 : Nat} (ha0 : Kd LC a0 16) (i1 : Int) (s : St) : Ctr LC yX6_nodesWith cX6_nodesWith 4 (Option.some .int) 1 0 0 [vR a0, vI i1] s (X6_nodesWith a0 i1 s) := by
  refine Ctr.of (by decide +kernel) (fun ρ => Nat.le_of_ble_eq_true rfl) (lv := [(0, vR a0), (1, vI i1)]) (fun ρ => rfl) (fun K X O hrt hfr hlo => ?_)
  unfold X6_nodesWith
  refine g_iconst O dX6_nodesWith_0 ?_
  refine g_istore_n (lv2 := [(2, vI 0), (0, vR a0), (1, vI i1)]) O dX6_nodesWith_1 rfl (by decide) rfl ?_
  refine g_iconst O dX6_nodesWith_2 ?_
  refine g_istore_n (lv2 := [(3, vI 0), (2, vI 0), (0, vR a0), (1, vI i1)]) O dX6_nodesWith_3 rfl (by decide) rfl ?_
  refine g_pick [2, 3, 1, 0] rfl ?_
  refine lt_X6_nodesWith_4 O hrt hfr hlo ha0 (fun x1 s2 => ?_) FU 0 0 s
  refine g_iload_n O dX6_nodesWith_31 rfl 0 rfl ?_
  exact g_iret O hrt rfl dX6_nodesWith_32
def X6_ancestors_6 (a0 : Nat) (i1 : Int) (k : Int → St → Rs) : Nat → Int → Int → St → Rs
  | 0, _, _, _ => none
  | n + 1, i2, i3, s => cLt i3 (s a0 0) (cl (X6_leftmost a0 i3 s) (fun v1 s2 => cLt i1 v1 (X6_ancestors_6 a0 i1 k n i2 (i3 + 1) s2) (X6_ancestors_6 a0 i1 k n (i2 + 1) (i3 + 1) s2))) (k i2 s)
def X6_ancestors (a0 : Nat) (i1 : Int) (s : St) : Rs := X6_ancestors_6 a0 i1 (fun x1 s2 => some (x1, s2)) FU 0 (i1 + 1) s
set_option maxRecDepth 20000 in
set_option maxHeartbeats 4000000 in
theorem lt_X6_ancestors_6 {K : Cx} {X : Wx} (O : OKx LC K X yX6_ancestors.cls cX6_ancestors 4) (hrt : (kMe K).sig.returnType = (Option.some .int)) (hfr : (kR K).frames = 1) (hlo : (kR K).locals = 21) {a0 : Nat} {i1 : Int} {k : Int → St → Rs} (ha0 : Kd LC a0 16) (hk : ∀ (i2 : Int) (s : St), GX LC K X 4 1 32 [(2, vI i2)] [] s (k i2 s)) : ∀ (n : Nat) (i2 : Int) (i3 : Int) (s : St), GX LC K X 4 1 6 [(0, vR a0), (1, vI i1), (2, vI i2), (3, vI i3)] [] s (X6_ancestors_6 a0 i1 k n i2 i3 s) := by
  intro n
  induction n with
  | zero => intro i2 i3 s; exact GX.none
  | succ n ih =>
    intro i2 i3 s
    rw [X6_ancestors_6]
    refine g_iload_n O dX6_ancestors_6 rfl 3 rfl ?_
    refine g_aload_n O dX6_ancestors_7 rfl 0 rfl ?_
    refine g_getI O fw_6_9 (tree_c ha0) dX6_ancestors_8 rfl ?_
    refine g_icmp_ge (tgt := 32) O dX6_ancestors_11 (by decide) ?_ ?_
    · refine g_pick [2] rfl ?_
      exact hk i2 s
    refine g_aload_n O dX6_ancestors_14 rfl 0 rfl ?_
    refine g_iload_n O dX6_ancestors_15 rfl 3 rfl ?_
    refine g_callV1 (As := [vI i3]) (rest := []) (b := a0) (ci := 6) O mw_2_182 mw_2_157 mw_2_158 mw_2_159 mw_1_4 hd_X6_leftmost rfl ha0 rfl dX6_ancestors_16 (ct_X6_leftmost ha0 i3 s) (by rw [hfr]; decide) (by rw [hlo]; decide) (Nat.le_of_ble_eq_true rfl) (fun v1 s2 => ?_)
    refine g_iload_n O dX6_ancestors_19 rfl 1 rfl ?_
    refine g_icmp_gt (tgt := 26) O dX6_ancestors_20 (by decide) ?_ ?_
    · refine g_iinc (lv2 := [(3, vI (i3 + 1)), (0, vR a0), (1, vI i1), (2, vI i2)]) O dX6_ancestors_26 3 rfl (by decide) rfl ?_
      refine g_goto (tgt := 6) O dX6_ancestors_29 (by decide) ?_
      refine g_pick [1, 2, 3, 0] rfl ?_
      exact ih i2 (i3 + 1) s2
    refine g_iinc (lv2 := [(2, vI (i2 + 1)), (0, vR a0), (1, vI i1), (3, vI i3)]) O dX6_ancestors_23 2 rfl (by decide) rfl ?_
    refine g_iinc (lv2 := [(3, vI (i3 + 1)), (2, vI (i2 + 1)), (0, vR a0), (1, vI i1)]) O dX6_ancestors_26 3 rfl (by decide) rfl ?_
    refine g_goto (tgt := 6) O dX6_ancestors_29 (by decide) ?_
    refine g_pick [2, 3, 1, 0] rfl ?_
    exact ih (i2 + 1) (i3 + 1) s2
theorem hd_X6_ancestors : yX6_ancestors.cls ≠ "java/lang/invoke/MethodHandle" ∧ yX6_ancestors.cls ≠ "java/lang/invoke/VarHandle" ∧ (parseMethodDescriptor yX6_ancestors.desc).map (fun d => d.parameters.length) = some 1 := by decide +kernel
set_option maxRecDepth 20000 in
set_option maxHeartbeats 4000000 in
theorem ct_X6_ancestors {a0 : Nat} (ha0 : Kd LC a0 16) (i1 : Int) (s : St) : Ctr LC yX6_ancestors cX6_ancestors 4 (Option.some .int) 1 1 21 [vR a0, vI i1] s (X6_ancestors a0 i1 s) := by
  refine Ctr.of (by decide +kernel) (fun ρ => Nat.le_of_ble_eq_true rfl) (lv := [(0, vR a0), (1, vI i1)]) (fun ρ => rfl) (fun K X O hrt hfr hlo => ?_)
  unfold X6_ancestors
  refine g_iconst O dX6_ancestors_0 ?_
  refine g_istore_n (lv2 := [(2, vI 0), (0, vR a0), (1, vI i1)]) O dX6_ancestors_1 rfl (by decide) rfl ?_
  refine g_iload_n O dX6_ancestors_2 rfl 2 rfl ?_
  refine g_iconst O dX6_ancestors_3 ?_
  refine g_iadd O dX6_ancestors_4 ?_
  refine g_istore_n (lv2 := [(3, vI (i1 + 1)), (2, vI 0), (0, vR a0), (1, vI i1)]) O dX6_ancestors_5 rfl (by decide) rfl ?_
  refine g_pick [2, 3, 1, 0] rfl ?_
  refine lt_X6_ancestors_6 O hrt hfr hlo ha0 (fun x1 s2 => ?_) FU 0 (i1 + 1) s
  refine g_iload_n O dX6_ancestors_32 rfl 0 rfl ?_
  exact g_iret O hrt rfl dX6_ancestors_33
def X8_mark (i1 : Int) (i2 : Int) (i3 : Int) (s : St) : Rs := cl (X8_noNode i1 i2 s) (fun v1 s2 => cEq v1 0 (cLt i3 1 (some ((-1), s2)) (cLt 4 i3 (some ((-1), s2)) (cl (X3_tree i1 s2) (fun v3 s4 => gK LC v3.toNat 16 (rd s4 (v3.toNat + 1) 12 i2 (fun v5 => cl (X8_kindOf v5 s4) (fun v6 s7 => cl (X8_isOf v6 i3 s7) (fun v8 s9 => cEq v8 0 (cl (X8_found 3 s9) (fun v27 s28 => some (v27, s28))) (gR i3 (if i3 = 1 then cl (X6_headsBelow v3.toNat i2 s9) (fun v10 s11 => cl (X8_tell v10 s11) (fun v12 s13 => some (v12, s13))) else (if i3 = 2 then cl (X3_tree (1 - i1) s9) (fun v14 s15 => gK LC v14.toNat 16 (rd s15 (v3.toNat + 1) 12 i2 (fun v16 => cl (X6_nodesWith v14.toNat v16 s15) (fun v17 s18 => cl (X8_tell v17 s18) (fun v19 s20 => some (v19, s20)))))) else (if i3 = 3 then cl (X6_ancestors v3.toNat i2 s9) (fun v21 s22 => cl (X8_tell v21 s22) (fun v23 s24 => some (v23, s24))) else (cl (X8_tell (((s9 v3.toNat 0) - 1) - i2) s9) (fun v25 s26 => some (v25, s26))))))))))))))) (some ((-1), s2)))
theorem hd_X8_mark : yX8_mark.cls ≠ "java/lang/invoke/MethodHandle" ∧ yX8_mark.cls ≠ "java/lang/invoke/VarHandle" ∧ (parseMethodDescriptor yX8_mark.desc).map (fun d => d.parameters.length) = some 3 := by decide +kernel
set_option maxRecDepth 20000 in
set_option maxHeartbeats 4000000 in
theorem ct_X8_mark  (i1 : Int) (i2 : Int) (i3 : Int) (s : St) : Ctr LC yX8_mark cX8_mark 5 (Option.some .int) 1 2 44 [vR 0, vI i1, vI i2, vI i3] s (X8_mark i1 i2 i3 s) := by
  refine Ctr.of (by decide +kernel) (fun ρ => Nat.le_of_ble_eq_true rfl) (lv := [(0, vR 0), (1, vI i1), (2, vI i2), (3, vI i3)]) (fun ρ => rfl) (fun K X O hrt hfr hlo => ?_)
  unfold X8_mark
  refine g_aload_n O dX8_mark_0 rfl 0 rfl ?_
  refine g_iload_n O dX8_mark_1 rfl 1 rfl ?_
  refine g_iload_n O dX8_mark_2 rfl 2 rfl ?_
  refine g_callV1 (As := [vI i1, vI i2]) (rest := []) (b := 0) (ci := 8) O mw_2_164 mw_2_166 mp_1_8 mw_2_167 mw_1_1 hd_X8_noNode rfl ⟨_, _, rfl⟩ rfl dX8_mark_3 (ct_X8_noNode i1 i2 s) (by rw [hfr]; decide) (by rw [hlo]; decide) (Nat.le_of_ble_eq_true rfl) (fun v1 s2 => ?_)
  refine g_if_ne (tgt := 19) O dX8_mark_6 (by decide) ?_ ?_
  · refine g_iconst O dX8_mark_19 ?_
    exact g_iret O hrt rfl dX8_mark_20
  refine g_iload_n O dX8_mark_9 rfl 3 rfl ?_
  refine g_iconst O dX8_mark_10 ?_
  refine g_icmp_lt (tgt := 19) O dX8_mark_11 (by decide) ?_ ?_
  · refine g_iconst O dX8_mark_19 ?_
    exact g_iret O hrt rfl dX8_mark_20
  refine g_iload_n O dX8_mark_14 rfl 3 rfl ?_
  refine g_iconst O dX8_mark_15 ?_
  refine g_icmp_le (tgt := 21) O dX8_mark_16 (by decide) ?_ ?_
  · refine g_aload_n O dX8_mark_21 rfl 0 rfl ?_
    refine g_getR O fw_8_32 rfl dX8_mark_22 rfl ?_
    refine g_iload_n O dX8_mark_25 rfl 1 rfl ?_
    refine g_callV3 (As := [vI i1]) (rest := []) (b := 6) (ci := 3) O mw_2_131 mw_2_132 mw_2_133 mw_2_134 mw_1_3 hd_X3_tree rfl ⟨_, _, rfl⟩ rfl dX8_mark_26 (ct_X3_tree i1 s2) (by rw [hfr]; decide) (by rw [hlo]; decide) (Nat.le_of_ble_eq_true rfl) (fun v3 s4 => ?_)
    refine g_gK (by decide) (fun hk1 => ?_)
    refine g_astore (lv2 := [(4, vR v3.toNat), (0, vR 0), (1, vI i1), (2, vI i2), (3, vI i3)]) O dX8_mark_29 (by decide) rfl ?_
    refine g_aload O dX8_mark_31 0 rfl ?_
    refine g_getR O fw_8_156 (tree_c hk1) dX8_mark_33 rfl ?_
    refine g_iload_n O dX8_mark_36 rfl 3 rfl ?_
    refine g_iald O (tree_1 hk1) (by decide) dX8_mark_37 (fun v5 => ?_)
    refine g_callS1 (As := [vI v5]) (rest := []) O mw_2_176 mw_2_118 mw_2_119 mw_1_1 hd_X8_kindOf rfl dX8_mark_38 (ct_X8_kindOf v5 s4) (by rw [hfr]; decide) (by rw [hlo]; decide) (Nat.le_of_ble_eq_true rfl) (fun v6 s7 => ?_)
    refine g_iload_n O dX8_mark_41 rfl 4 rfl ?_
    refine g_callS1 (As := [vI v6, vI i3]) (rest := []) O mw_2_207 mw_2_208 mw_2_209 mw_1_1 hd_X8_isOf rfl dX8_mark_42 (ct_X8_isOf v6 i3 s7) (by rw [hfr]; decide) (by rw [hlo]; decide) (Nat.le_of_ble_eq_true rfl) (fun v8 s9 => ?_)
    refine g_if_ne (tgt := 54) O dX8_mark_45 (by decide) ?_ ?_
    · refine g_iload_n O dX8_mark_54 rfl 4 rfl ?_
      refine g_gR (fun hr2 => ?_)
      refine g_ite (fun hc3 => ?_) (fun hc3 => ?_)
      · refine g_tin (k := 1) (tgt := 80) O dX8_mark_55 hr2 hc3 (by decide) (by decide) rfl (by decide) ?_
        refine g_aload_n O dX8_mark_80 rfl 1 rfl ?_
        refine g_aload O dX8_mark_81 0 rfl ?_
        refine g_iload_n O dX8_mark_83 rfl 3 rfl ?_
        refine g_callV1 (As := [vI i2]) (rest := [vR 0]) (b := v3.toNat) (ci := 6) O mw_2_210 mw_2_211 mw_2_212 mw_2_213 mw_1_4 hd_X6_headsBelow rfl hk1 rfl dX8_mark_84 (ct_X6_headsBelow hk1 i2 s9) (by rw [hfr]; decide) (by rw [hlo]; decide) (Nat.le_of_ble_eq_true rfl) (fun v10 s11 => ?_)
        refine g_callV1 (As := [vI v10]) (rest := []) (b := 0) (ci := 8) O mw_2_47 mw_2_49 mp_1_1 mw_2_50 mw_1_1 hd_X8_tell rfl ⟨_, _, rfl⟩ rfl dX8_mark_87 (ct_X8_tell v10 s11) (by rw [hfr]; decide) (by rw [hlo]; decide) (Nat.le_of_ble_eq_true rfl) (fun v12 s13 => ?_)
        exact g_iret O hrt rfl dX8_mark_90
      refine g_ite (fun hc4 => ?_) (fun hc4 => ?_)
      · refine g_tin (k := 2) (tgt := 91) O dX8_mark_55 hr2 hc4 (by decide) (by decide) rfl (by decide) ?_
        refine g_aload_n O dX8_mark_91 rfl 1 rfl ?_
        refine g_aload_n O dX8_mark_92 rfl 1 rfl ?_
        refine g_getR O fw_8_32 rfl dX8_mark_93 rfl ?_
        refine g_iconst O dX8_mark_96 ?_
        refine g_iload_n O dX8_mark_97 rfl 2 rfl ?_
        refine g_isub O dX8_mark_98 ?_
        refine g_callV3 (As := [vI (1 - i1)]) (rest := [vR 0]) (b := 6) (ci := 3) O mw_2_131 mw_2_132 mw_2_133 mw_2_134 mw_1_3 hd_X3_tree rfl ⟨_, _, rfl⟩ rfl dX8_mark_99 (ct_X3_tree (1 - i1) s9) (by rw [hfr]; decide) (by rw [hlo]; decide) (Nat.le_of_ble_eq_true rfl) (fun v14 s15 => ?_)
        refine g_gK (by decide) (fun hk5 => ?_)
        refine g_aload O dX8_mark_102 0 rfl ?_
        refine g_getR O fw_8_156 (tree_c hk1) dX8_mark_104 rfl ?_
        refine g_iload_n O dX8_mark_107 rfl 3 rfl ?_
        refine g_iald O (tree_1 hk1) (by decide) dX8_mark_108 (fun v16 => ?_)
        refine g_callV1 (As := [vI v16]) (rest := [vR 0]) (b := v14.toNat) (ci := 6) O mw_2_216 mw_2_217 mw_2_218 mw_2_219 mw_1_4 hd_X6_nodesWith rfl hk5 rfl dX8_mark_109 (ct_X6_nodesWith hk5 v16 s15) (by rw [hfr]; decide) (by rw [hlo]; decide) (Nat.le_of_ble_eq_true rfl) (fun v17 s18 => ?_)
        refine g_callV1 (As := [vI v17]) (rest := []) (b := 0) (ci := 8) O mw_2_47 mw_2_49 mp_1_1 mw_2_50 mw_1_1 hd_X8_tell rfl ⟨_, _, rfl⟩ rfl dX8_mark_112 (ct_X8_tell v17 s18) (by rw [hfr]; decide) (by rw [hlo]; decide) (Nat.le_of_ble_eq_true rfl) (fun v19 s20 => ?_)
        exact g_iret O hrt rfl dX8_mark_115
      refine g_ite (fun hc6 => ?_) (fun hc6 => ?_)
      · refine g_tin (k := 3) (tgt := 116) O dX8_mark_55 hr2 hc6 (by decide) (by decide) rfl (by decide) ?_
        refine g_aload_n O dX8_mark_116 rfl 1 rfl ?_
        refine g_aload O dX8_mark_117 0 rfl ?_
        refine g_iload_n O dX8_mark_119 rfl 3 rfl ?_
        refine g_callV1 (As := [vI i2]) (rest := [vR 0]) (b := v3.toNat) (ci := 6) O mw_2_220 mw_2_221 mw_2_222 mw_2_223 mw_1_4 hd_X6_ancestors rfl hk1 rfl dX8_mark_120 (ct_X6_ancestors hk1 i2 s9) (by rw [hfr]; decide) (by rw [hlo]; decide) (Nat.le_of_ble_eq_true rfl) (fun v21 s22 => ?_)
        refine g_callV1 (As := [vI v21]) (rest := []) (b := 0) (ci := 8) O mw_2_47 mw_2_49 mp_1_1 mw_2_50 mw_1_1 hd_X8_tell rfl ⟨_, _, rfl⟩ rfl dX8_mark_123 (ct_X8_tell v21 s22) (by rw [hfr]; decide) (by rw [hlo]; decide) (Nat.le_of_ble_eq_true rfl) (fun v23 s24 => ?_)
        exact g_iret O hrt rfl dX8_mark_126
      refine g_tout (tgt := 127) O dX8_mark_55 hr2 (by omega) (by decide) ?_
      refine g_aload_n O dX8_mark_127 rfl 1 rfl ?_
      refine g_aload O dX8_mark_128 0 rfl ?_
      refine g_getI O fw_8_142 (tree_c hk1) dX8_mark_130 rfl ?_
      refine g_iconst O dX8_mark_133 ?_
      refine g_isub O dX8_mark_134 ?_
      refine g_iload_n O dX8_mark_135 rfl 3 rfl ?_
      refine g_isub O dX8_mark_136 ?_
      refine g_callV1 (As := [vI (((s9 v3.toNat 0) - 1) - i2)]) (rest := []) (b := 0) (ci := 8) O mw_2_47 mw_2_49 mp_1_1 mw_2_50 mw_1_1 hd_X8_tell rfl ⟨_, _, rfl⟩ rfl dX8_mark_137 (ct_X8_tell (((s9 v3.toNat 0) - 1) - i2) s9) (by rw [hfr]; decide) (by rw [hlo]; decide) (Nat.le_of_ble_eq_true rfl) (fun v25 s26 => ?_)
      exact g_iret O hrt rfl dX8_mark_140
    refine g_aload_n O dX8_mark_48 rfl 1 rfl ?_
    refine g_iconst O dX8_mark_49 ?_
    refine g_callV1 (As := [vI 3]) (rest := []) (b := 0) (ci := 8) O mw_2_35 mw_2_37 mp_1_0 mw_2_38 mw_1_1 hd_X8_found rfl ⟨_, _, rfl⟩ rfl dX8_mark_50 (ct_X8_found 3 s9) (by rw [hfr]; decide) (by rw [hlo]; decide) (Nat.le_of_ble_eq_true rfl) (fun v27 s28 => ?_)
    exact g_iret O hrt rfl dX8_mark_53
  refine g_iconst O dX8_mark_19 ?_
  exact g_iret O hrt rfl dX8_mark_20
def X3_isWhole  (s : St) : Rs := cLt 0 (s 38 0) (cLt 0 (s 41 0) (some (1, s)) (some (0, s))) (some (0, s))
theorem hd_X3_isWhole : yX3_isWhole.cls ≠ "java/lang/invoke/MethodHandle" ∧ yX3_isWhole.cls ≠ "java/lang/invoke/VarHandle" ∧ (parseMethodDescriptor yX3_isWhole.desc).map (fun d => d.parameters.length) = some 0 := by decide +kernel
set_option maxRecDepth 20000 in
set_option maxHeartbeats 4000000 in
theorem ct_X3_isWhole   (s : St) : Ctr LC yX3_isWhole cX3_isWhole 1 (Option.some .boolean) 1 0 0 [vR 6] s (X3_isWhole s) := by
  refine Ctr.of (by decide +kernel) (fun ρ => Nat.le_of_ble_eq_true rfl) (lv := [(0, vR 6)]) (fun ρ => rfl) (fun K X O hrt hfr hlo => ?_)
  unfold X3_isWhole
  refine g_aload_n O dX3_isWhole_0 rfl 0 rfl ?_
  refine g_getR O fw_3_14 rfl dX3_isWhole_1 rfl ?_
  refine g_getI O fw_3_25 rfl dX3_isWhole_4 rfl ?_
  refine g_if_le (tgt := 24) O dX3_isWhole_7 (by decide) ?_ ?_
  · refine g_iconst O dX3_isWhole_24 ?_
    exact g_iret O hrt (by decide +kernel) dX3_isWhole_25
  refine g_aload_n O dX3_isWhole_10 rfl 0 rfl ?_
  refine g_getR O fw_3_18 rfl dX3_isWhole_11 rfl ?_
  refine g_getI O fw_3_25 rfl dX3_isWhole_14 rfl ?_
  refine g_if_le (tgt := 24) O dX3_isWhole_17 (by decide) ?_ ?_
  · refine g_iconst O dX3_isWhole_24 ?_
    exact g_iret O hrt (by decide +kernel) dX3_isWhole_25
  refine g_iconst O dX3_isWhole_20 ?_
  refine g_goto (tgt := 25) O dX3_isWhole_21 (by decide) ?_
  exact g_iret O hrt (by decide +kernel) dX3_isWhole_25
def X3_relabelling (i1 : Int) (i2 : Int) (s : St) : Rs := cEq i1 i2 (some (0, s)) (cl (X8_kindOf i1 s) (fun v1 s2 => cl (X8_kindOf i2 s2) (fun v3 s4 => cEq v1 v3 (cEq v1 2 (rd s4 7 3 2 (fun v6 => mAbs (i1 - i2) (fun v7 => mMin 3 v7 (fun v8 => some (v6 * v8, s4))))) (rd s4 7 3 2 (fun v5 => some (v5, s4)))) (rd s4 7 3 2 (fun v9 => some (2 * v9, s4))))))
theorem hd_X3_relabelling : yX3_relabelling.cls ≠ "java/lang/invoke/MethodHandle" ∧ yX3_relabelling.cls ≠ "java/lang/invoke/VarHandle" ∧ (parseMethodDescriptor yX3_relabelling.desc).map (fun d => d.parameters.length) = some 2 := by decide +kernel
set_option maxRecDepth 20000 in
set_option maxHeartbeats 4000000 in
theorem ct_X3_relabelling  (i1 : Int) (i2 : Int) (s : St) : Ctr LC yX3_relabelling cX3_relabelling 4 (Option.some .int) 1 1 26 [vR 6, vI i1, vI i2] s (X3_relabelling i1 i2 s) := by
  refine Ctr.of (by decide +kernel) (fun ρ => Nat.le_of_ble_eq_true rfl) (lv := [(0, vR 6), (1, vI i1), (2, vI i2)]) (fun ρ => rfl) (fun K X O hrt hfr hlo => ?_)
  unfold X3_relabelling
  refine g_iload_n O dX3_relabelling_0 rfl 1 rfl ?_
  refine g_iload_n O dX3_relabelling_1 rfl 2 rfl ?_
  refine g_icmp_ne (tgt := 7) O dX3_relabelling_2 (by decide) ?_ ?_
  · refine g_iload_n O dX3_relabelling_7 rfl 1 rfl ?_
    refine g_callN1 (As := [vI i1]) (rest := []) O O.2.2.2.2.2.2.2.1.2.2.2.2 mw_2_118 mw_2_119 mw_1_1 hd_X8_kindOf rfl dX3_relabelling_8 (ct_X8_kindOf i1 s) (by rw [hfr]; decide) (by rw [hlo]; decide) (Nat.le_of_ble_eq_true rfl) (fun v1 s2 => ?_)
    refine g_istore_n (lv2 := [(3, vI v1), (0, vR 6), (1, vI i1), (2, vI i2)]) O dX3_relabelling_11 rfl (by decide) rfl ?_
    refine g_iload_n O dX3_relabelling_12 rfl 0 rfl ?_
    refine g_iload_n O dX3_relabelling_13 rfl 3 rfl ?_
    refine g_callN1 (As := [vI i2]) (rest := [vI v1]) O O.2.2.2.2.2.2.2.1.2.2.2.2 mw_2_118 mw_2_119 mw_1_1 hd_X8_kindOf rfl dX3_relabelling_14 (ct_X8_kindOf i2 s2) (by rw [hfr]; decide) (by rw [hlo]; decide) (Nat.le_of_ble_eq_true rfl) (fun v3 s4 => ?_)
    refine g_icmp_eq (tgt := 29) O dX3_relabelling_17 (by decide) ?_ ?_
    · refine g_iload_n O dX3_relabelling_29 rfl 0 rfl ?_
      refine g_iconst O dX3_relabelling_30 ?_
      refine g_icmp_ne (tgt := 54) O dX3_relabelling_31 (by decide) ?_ ?_
      · refine g_aload_n O dX3_relabelling_54 rfl 1 rfl ?_
        refine g_getR O fw_3_21 rfl dX3_relabelling_55 rfl ?_
        refine g_iconst O dX3_relabelling_58 ?_
        refine g_iald O rfl (by decide) dX3_relabelling_59 (fun v5 => ?_)
        exact g_iret O hrt rfl dX3_relabelling_60
      refine g_aload_n O dX3_relabelling_34 rfl 1 rfl ?_
      refine g_getR O fw_3_21 rfl dX3_relabelling_35 rfl ?_
      refine g_iconst O dX3_relabelling_38 ?_
      refine g_iald O rfl (by decide) dX3_relabelling_39 (fun v6 => ?_)
      refine g_iconst O dX3_relabelling_40 ?_
      refine g_iload_n O dX3_relabelling_41 rfl 2 rfl ?_
      refine g_iload_n O dX3_relabelling_42 rfl 3 rfl ?_
      refine g_isub O dX3_relabelling_43 ?_
      refine g_abs O mw_3_12 mw_3_13 mw_1_12 mw_3_14 (by rw [hfr]; decide) (by rw [hlo]; exact Nat.le_of_ble_eq_true rfl) dX3_relabelling_44 (fun v7 => ?_)
      refine g_min O mw_3_15 mw_3_16 mw_1_12 mw_3_17 (by rw [hfr]; decide) (by rw [hlo]; exact Nat.le_of_ble_eq_true rfl) dX3_relabelling_47 (fun v8 => ?_)
      refine g_imul O dX3_relabelling_50 ?_
      refine g_goto (tgt := 60) O dX3_relabelling_51 (by decide) ?_
      exact g_iret O hrt rfl dX3_relabelling_60
    refine g_iconst O dX3_relabelling_20 ?_
    refine g_aload_n O dX3_relabelling_21 rfl 1 rfl ?_
    refine g_getR O fw_3_21 rfl dX3_relabelling_22 rfl ?_
    refine g_iconst O dX3_relabelling_25 ?_
    refine g_iald O rfl (by decide) dX3_relabelling_26 (fun v9 => ?_)
    refine g_imul O dX3_relabelling_27 ?_
    exact g_iret O hrt rfl dX3_relabelling_28
  refine g_iconst O dX3_relabelling_5 ?_
  exact g_iret O hrt rfl dX3_relabelling_6
def X7_setPrices_2  (k : St → Rs) : Nat → Int → St → Rs
  | 0, _, _ => none
  | n + 1, i1, s => cLt i1 (s 41 0) (rd s 42 12 i1 (fun v1 => cl (X3_insertion v1 s) (fun v2 s3 => wr s3 56 12 i1 v2 (fun s4 => X7_setPrices_2 k n (i1 + 1) s4)))) (k s)
def X7_setPrices_78 (i1 : Int) (k : St → Rs) : Nat → Int → St → Rs
  | 0, _, _ => none
  | n + 1, i2, s => cLt i2 (s 41 0) (rdR 12 i1 (fun j1 => rd s 39 12 i1 (fun v2 => rd s 42 12 i2 (fun v3 => cl (X3_relabelling v2 v3 s) (fun v4 s5 => wr s5 (75 + j1) 12 i2 v4 (fun s6 => X7_setPrices_78 i1 k n (i2 + 1) s6)))))) (k s)
def X7_setPrices_43  (k : St → Rs) : Nat → Int → St → Rs
  | 0, _, _ => none
  | n + 1, i1, s => cLt i1 (s 38 0) (rd s 39 12 i1 (fun v1 => cl (X3_deletion v1 s) (fun v2 s3 => wr s3 55 12 i1 v2 (fun s4 => X7_setPrices_78 i1 (fun s5 => X7_setPrices_43 k n (i1 + 1) s5) FU 0 s4)))) (k s)
def X7_setPrices  (s : St) : Rs := X7_setPrices_2  (fun s1 => X7_setPrices_43  (fun s2 => some (0, s2)) FU 0 s1) FU 0 s
set_option maxRecDepth 20000 in
set_option maxHeartbeats 4000000 in
theorem lt_X7_setPrices_2 {K : Cx} {X : Wx} (O : OKx LC K X yX7_setPrices.cls cX7_setPrices 3) (hrt : (kMe K).sig.returnType = none) (hfr : (kR K).frames = 3) (hlo : (kR K).locals = 62)  {k : St → Rs}  (hk : ∀  (s : St), GX LC K X 3 0 41 [(0, vR 5)] [] s (k s)) : ∀ (n : Nat) (i1 : Int) (s : St), GX LC K X 3 0 2 [(0, vR 5), (1, vI i1)] [] s (X7_setPrices_2 k n i1 s) := by
  intro n
  induction n with
  | zero => intro i1 s; exact GX.none
  | succ n ih =>
    intro i1 s
    rw [X7_setPrices_2]
    refine g_iload_n O dX7_setPrices_2 rfl 1 rfl ?_
    refine g_aload_n O dX7_setPrices_3 rfl 0 rfl ?_
    refine g_getR O fw_7_49 rfl dX7_setPrices_4 rfl ?_
    refine g_getI O fw_7_82 rfl dX7_setPrices_7 rfl ?_
    refine g_icmp_ge (tgt := 41) O dX7_setPrices_10 (by decide) ?_ ?_
    · refine g_pick [0] rfl ?_
      exact hk s
    refine g_aload_n O dX7_setPrices_13 rfl 0 rfl ?_
    refine g_getR O fw_7_54 rfl dX7_setPrices_14 rfl ?_
    refine g_iload_n O dX7_setPrices_17 rfl 1 rfl ?_
    refine g_aload_n O dX7_setPrices_18 rfl 0 rfl ?_
    refine g_getR O fw_7_12 rfl dX7_setPrices_19 rfl ?_
    refine g_aload_n O dX7_setPrices_22 rfl 0 rfl ?_
    refine g_getR O fw_7_49 rfl dX7_setPrices_23 rfl ?_
    refine g_getR O fw_7_102 rfl dX7_setPrices_26 rfl ?_
    refine g_iload_n O dX7_setPrices_29 rfl 1 rfl ?_
    refine g_iald O rfl (by decide) dX7_setPrices_30 (fun v1 => ?_)
    refine g_callV1 (As := [vI v1]) (rest := [vI i1, vR 56]) (b := 6) (ci := 3) O mw_3_5 mw_2_193 mw_2_194 mw_2_195 mw_1_3 hd_X3_insertion rfl ⟨_, _, rfl⟩ rfl dX7_setPrices_31 (ct_X3_insertion v1 s) (by rw [hfr]; decide) (by rw [hlo]; decide) (Nat.le_of_ble_eq_true rfl) (fun v2 s3 => ?_)
    refine g_iast O rfl (by decide) dX7_setPrices_34 (fun s4 => ?_)
    refine g_iinc (lv2 := [(1, vI (i1 + 1)), (0, vR 5)]) O dX7_setPrices_35 1 rfl (by decide) rfl ?_
    refine g_goto (tgt := 2) O dX7_setPrices_38 (by decide) ?_
    refine g_pick [1, 0] rfl ?_
    exact ih (i1 + 1) s4
set_option maxRecDepth 20000 in
set_option maxHeartbeats 4000000 in
theorem lt_X7_setPrices_78 {K : Cx} {X : Wx} (O : OKx LC K X yX7_setPrices.cls cX7_setPrices 3) (hrt : (kMe K).sig.returnType = none) (hfr : (kR K).frames = 3) (hlo : (kR K).locals = 62) {i1 : Int} {k : St → Rs}  (hk : ∀  (s : St), GX LC K X 3 0 128 [(0, vR 5), (1, vI i1)] [] s (k s)) : ∀ (n : Nat) (i2 : Int) (s : St), GX LC K X 3 0 78 [(0, vR 5), (1, vI i1), (2, vI i2)] [] s (X7_setPrices_78 i1 k n i2 s) := by
  intro n
  induction n with
  | zero => intro i2 s; exact GX.none
  | succ n ih =>
    intro i2 s
    rw [X7_setPrices_78]
    refine g_iload_n O dX7_setPrices_78 rfl 2 rfl ?_
    refine g_aload_n O dX7_setPrices_79 rfl 0 rfl ?_
    refine g_getR O fw_7_49 rfl dX7_setPrices_80 rfl ?_
    refine g_getI O fw_7_82 rfl dX7_setPrices_83 rfl ?_
    refine g_icmp_ge (tgt := 128) O dX7_setPrices_86 (by decide) ?_ ?_
    · refine g_pick [0, 1] rfl ?_
      exact hk s
    refine g_aload_n O dX7_setPrices_89 rfl 0 rfl ?_
    refine g_getR O fw_7_38 rfl dX7_setPrices_90 rfl ?_
    refine g_iload_n O dX7_setPrices_93 rfl 1 rfl ?_
    refine g_aald (g := fun j => 75 + j) O rfl (by decide) (by decide) (by decide) el_60 dX7_setPrices_94 (fun j1 hj1 => ?_)
    refine g_iload_n O dX7_setPrices_95 rfl 2 rfl ?_
    refine g_aload_n O dX7_setPrices_96 rfl 0 rfl ?_
    refine g_getR O fw_7_12 rfl dX7_setPrices_97 rfl ?_
    refine g_aload_n O dX7_setPrices_100 rfl 0 rfl ?_
    refine g_getR O fw_7_45 rfl dX7_setPrices_101 rfl ?_
    refine g_getR O fw_7_102 rfl dX7_setPrices_104 rfl ?_
    refine g_iload_n O dX7_setPrices_107 rfl 1 rfl ?_
    refine g_iald O rfl (by decide) dX7_setPrices_108 (fun v2 => ?_)
    refine g_aload_n O dX7_setPrices_109 rfl 0 rfl ?_
    refine g_getR O fw_7_49 rfl dX7_setPrices_110 rfl ?_
    refine g_getR O fw_7_102 rfl dX7_setPrices_113 rfl ?_
    refine g_iload_n O dX7_setPrices_116 rfl 2 rfl ?_
    refine g_iald O rfl (by decide) dX7_setPrices_117 (fun v3 => ?_)
    refine g_callV1 (As := [vI v2, vI v3]) (rest := [vI i2, vR (75 + j1)]) (b := 6) (ci := 3) O mw_3_7 mw_3_8 mw_3_9 mw_3_10 mw_1_3 hd_X3_relabelling rfl ⟨_, _, rfl⟩ rfl dX7_setPrices_118 (ct_X3_relabelling v2 v3 s) (by rw [hfr]; decide) (by rw [hlo]; decide) (Nat.le_of_ble_eq_true rfl) (fun v4 s5 => ?_)
    refine g_iast O (elc_60 hj1) (by decide) dX7_setPrices_121 (fun s6 => ?_)
    refine g_iinc (lv2 := [(2, vI (i2 + 1)), (0, vR 5), (1, vI i1)]) O dX7_setPrices_122 2 rfl (by decide) rfl ?_
    refine g_goto (tgt := 78) O dX7_setPrices_125 (by decide) ?_
    refine g_pick [1, 2, 0] rfl ?_
    exact ih (i2 + 1) s6
set_option maxRecDepth 20000 in
set_option maxHeartbeats 4000000 in
theorem lt_X7_setPrices_43 {K : Cx} {X : Wx} (O : OKx LC K X yX7_setPrices.cls cX7_setPrices 3) (hrt : (kMe K).sig.returnType = none) (hfr : (kR K).frames = 3) (hlo : (kR K).locals = 62)  {k : St → Rs}  (hk : ∀  (s : St), GX LC K X 3 0 134 [] [] s (k s)) : ∀ (n : Nat) (i1 : Int) (s : St), GX LC K X 3 0 43 [(0, vR 5), (1, vI i1)] [] s (X7_setPrices_43 k n i1 s) := by
  intro n
  induction n with
  | zero => intro i1 s; exact GX.none
  | succ n ih =>
    intro i1 s
    rw [X7_setPrices_43]
    refine g_iload_n O dX7_setPrices_43 rfl 1 rfl ?_
    refine g_aload_n O dX7_setPrices_44 rfl 0 rfl ?_
    refine g_getR O fw_7_45 rfl dX7_setPrices_45 rfl ?_
    refine g_getI O fw_7_82 rfl dX7_setPrices_48 rfl ?_
    refine g_icmp_ge (tgt := 134) O dX7_setPrices_51 (by decide) ?_ ?_
    · refine g_pick [] rfl ?_
      exact hk s
    refine g_aload_n O dX7_setPrices_54 rfl 0 rfl ?_
    refine g_getR O fw_7_50 rfl dX7_setPrices_55 rfl ?_
    refine g_iload_n O dX7_setPrices_58 rfl 1 rfl ?_
    refine g_aload_n O dX7_setPrices_59 rfl 0 rfl ?_
    refine g_getR O fw_7_12 rfl dX7_setPrices_60 rfl ?_
    refine g_aload_n O dX7_setPrices_63 rfl 0 rfl ?_
    refine g_getR O fw_7_45 rfl dX7_setPrices_64 rfl ?_
    refine g_getR O fw_7_102 rfl dX7_setPrices_67 rfl ?_
    refine g_iload_n O dX7_setPrices_70 rfl 1 rfl ?_
    refine g_iald O rfl (by decide) dX7_setPrices_71 (fun v1 => ?_)
    refine g_callV1 (As := [vI v1]) (rest := [vI i1, vR 55]) (b := 6) (ci := 3) O mw_3_6 mw_2_200 mw_2_201 mw_2_202 mw_1_3 hd_X3_deletion rfl ⟨_, _, rfl⟩ rfl dX7_setPrices_72 (ct_X3_deletion v1 s) (by rw [hfr]; decide) (by rw [hlo]; decide) (Nat.le_of_ble_eq_true rfl) (fun v2 s3 => ?_)
    refine g_iast O rfl (by decide) dX7_setPrices_75 (fun s4 => ?_)
    refine g_iconst O dX7_setPrices_76 ?_
    refine g_istore_n (lv2 := [(2, vI 0), (0, vR 5), (1, vI i1)]) O dX7_setPrices_77 rfl (by decide) rfl ?_
    refine g_pick [1, 2, 0] rfl ?_
    refine lt_X7_setPrices_78 O hrt hfr hlo  (fun s5 => ?_) FU 0 s4
    refine g_iinc (lv2 := [(1, vI (i1 + 1)), (0, vR 5)]) O dX7_setPrices_128 1 rfl (by decide) rfl ?_
    refine g_goto (tgt := 43) O dX7_setPrices_131 (by decide) ?_
    refine g_pick [1, 0] rfl ?_
    exact ih (i1 + 1) s5
theorem hd_X7_setPrices : yX7_setPrices.cls ≠ "java/lang/invoke/MethodHandle" ∧ yX7_setPrices.cls ≠ "java/lang/invoke/VarHandle" ∧ (parseMethodDescriptor yX7_setPrices.desc).map (fun d => d.parameters.length) = some 0 := by decide +kernel
set_option maxRecDepth 20000 in
set_option maxHeartbeats 4000000 in
theorem ct_X7_setPrices   (s : St) : Ctr LC yX7_setPrices cX7_setPrices 3 none 0 3 62 [vR 5] s (X7_setPrices s) := by
  refine Ctr.of (by decide +kernel) (fun ρ => Nat.le_of_ble_eq_true rfl) (lv := [(0, vR 5)]) (fun ρ => rfl) (fun K X O hrt hfr hlo => ?_)
  unfold X7_setPrices
  refine g_iconst O dX7_setPrices_0 ?_
  refine g_istore_n (lv2 := [(1, vI 0), (0, vR 5)]) O dX7_setPrices_1 rfl (by decide) rfl ?_
  refine g_pick [1, 0] rfl ?_
  refine lt_X7_setPrices_2 O hrt hfr hlo  (fun s1 => ?_) FU 0 s
  refine g_iconst O dX7_setPrices_41 ?_
  refine g_istore_n (lv2 := [(1, vI 0), (0, vR 5)]) O dX7_setPrices_42 rfl (by decide) rfl ?_
  refine g_pick [1, 0] rfl ?_
  refine lt_X7_setPrices_43 O hrt hfr hlo  (fun s2 => ?_) FU 0 s1
  exact g_vret O hrt dX7_setPrices_134
def X7_fill_12 (i1 : Int) (i2 : Int) (i3 : Int) (i4 : Int) (k : St → Rs) : Nat → Int → St → Rs
  | 0, _, _ => none
  | n + 1, i5, s => cLt i4 i5 (k s) (rdR 13 i1 (fun j1 => rdR 13 i1 (fun j2 => rd s (99 + j2) 13 i5 (fun v3 => rd s 56 12 i5 (fun v4 => wr s (99 + j1) 13 (i5 + 1) (v3 + v4) (fun s5 => X7_fill_12 i1 i2 i3 i4 k n (i5 + 1) s5))))))
def X7_fill_104 (i1 : Int) (i2 : Int) (i3 : Int) (i4 : Int) (i5 : Int) (i6 : Int) (k : St → Rs) : Nat → Int → St → Rs
  | 0, _, _ => none
  | n + 1, i7, s => cLt i4 i7 (k s) (cl (X6_leftmost 41 i7 s) (fun v1 s2 => jn (fun (x3 : Int) (s4 : St) => jn (fun  (s6 : St) => rdR 13 i5 (fun j8 => rd s6 (99 + j8) 13 (i7 + 1) (fun v9 => rd s6 55 12 i5 (fun v10 => rdR 13 (i5 + 1) (fun j11 => rd s6 (99 + j11) 13 i7 (fun v12 => rd s6 56 12 i7 (fun v13 => mMin (v9 + v10) (v12 + v13) (fun v14 => rdR 13 (i5 + 1) (fun j15 => rdR 13 i6 (fun j16 => rd s6 (99 + j16) 13 v1 (fun v17 => rdR 12 i5 (fun j18 => rd s6 (87 + j18) 12 i7 (fun v19 => mMin v14 (v17 + v19) (fun v20 => wr s6 (99 + j15) 13 (i7 + 1) v20 (fun s21 => cEq x3 0 (X7_fill_104 i1 i2 i3 i4 i5 i6 k n (i7 + 1) s21) (rdR 12 i5 (fun j22 => rdR 13 (i5 + 1) (fun j23 => rd s21 (99 + j23) 13 (i7 + 1) (fun v24 => wr s21 (63 + j22) 12 i7 v24 (fun s25 => X7_fill_104 i1 i2 i3 i4 i5 i6 k n (i7 + 1) s25)))))))))))))))))))) (fun k7 => cEq x3 0 (k7 s4) (rdR 12 i5 (fun j26 => rdR 13 i5 (fun j27 => rd s4 (99 + j27) 13 i7 (fun v28 => rdR 12 i5 (fun j29 => rd s4 (75 + j29) 12 i7 (fun v30 => wr s4 (87 + j26) 12 i7 (v28 + v30) (fun s31 => k7 s31))))))))) (fun k5 => jn (fun  (s32 : St) => k5 0 s32) (fun k33 => cEq i6 i1 (cEq v1 i3 (k5 1 s2) (k33 s2)) (k33 s2)))))
def X7_fill_56 (i1 : Int) (i2 : Int) (i3 : Int) (i4 : Int) (k : St → Rs) : Nat → Int → St → Rs
  | 0, _, _ => none
  | n + 1, i5, s => cLt i2 i5 (k s) (cl (X6_leftmost 38 i5 s) (fun v1 s2 => rdR 13 (i5 + 1) (fun j3 => rdR 13 i5 (fun j4 => rd s2 (99 + j4) 13 i3 (fun v5 => rd s2 55 12 i5 (fun v6 => wr s2 (99 + j3) 13 i3 (v5 + v6) (fun s7 => X7_fill_104 i1 i2 i3 i4 i5 v1 (fun s8 => X7_fill_56 i1 i2 i3 i4 k n (i5 + 1) s8) FU i3 s7)))))))
def X7_fill (i1 : Int) (i2 : Int) (i3 : Int) (i4 : Int) (s : St) : Rs := rdR 13 i1 (fun j1 => wr s (99 + j1) 13 i3 0 (fun s2 => X7_fill_12 i1 i2 i3 i4 (fun s3 => X7_fill_56 i1 i2 i3 i4 (fun s4 => some (0, s4)) FU i1 s3) FU i3 s2))
set_option maxRecDepth 20000 in
set_option maxHeartbeats 4000000 in
theorem lt_X7_fill_12 {K : Cx} {X : Wx} (O : OKx LC K X yX7_fill.cls cX7_fill 11) (hrt : (kMe K).sig.returnType = none) (hfr : (kR K).frames = 1) (hlo : (kR K).locals = 26) {i1 : Int} {i2 : Int} {i3 : Int} {i4 : Int} {k : St → Rs}  (hk : ∀  (s : St), GX LC K X 11 0 53 [(0, vR 5), (1, vI i1), (2, vI i2), (3, vI i3), (4, vI i4)] [] s (k s)) : ∀ (n : Nat) (i5 : Int) (s : St), GX LC K X 11 0 12 [(0, vR 5), (1, vI i1), (2, vI i2), (3, vI i3), (4, vI i4), (5, vI i5)] [] s (X7_fill_12 i1 i2 i3 i4 k n i5 s) := by
  intro n
  induction n with
  | zero => intro i5 s; exact GX.none
  | succ n ih =>
    intro i5 s
    rw [X7_fill_12]
    refine g_iload O dX7_fill_12 5 rfl ?_
    refine g_iload O dX7_fill_14 4 rfl ?_
    refine g_icmp_gt (tgt := 53) O dX7_fill_16 (by decide) ?_ ?_
    · refine g_pick [0, 1, 2, 3, 4] rfl ?_
      exact hk s
    refine g_aload_n O dX7_fill_19 rfl 0 rfl ?_
    refine g_getR O fw_7_60 rfl dX7_fill_20 rfl ?_
    refine g_iload_n O dX7_fill_23 rfl 1 rfl ?_
    refine g_aald (g := fun j => 99 + j) O rfl (by decide) (by decide) (by decide) el_62 dX7_fill_24 (fun j1 hj1 => ?_)
    refine g_iload O dX7_fill_25 5 rfl ?_
    refine g_iconst O dX7_fill_27 ?_
    refine g_iadd O dX7_fill_28 ?_
    refine g_aload_n O dX7_fill_29 rfl 0 rfl ?_
    refine g_getR O fw_7_60 rfl dX7_fill_30 rfl ?_
    refine g_iload_n O dX7_fill_33 rfl 1 rfl ?_
    refine g_aald (g := fun j => 99 + j) O rfl (by decide) (by decide) (by decide) el_62 dX7_fill_34 (fun j2 hj2 => ?_)
    refine g_iload O dX7_fill_35 5 rfl ?_
    refine g_iald O (elc_62 hj2) (by decide) dX7_fill_37 (fun v3 => ?_)
    refine g_aload_n O dX7_fill_38 rfl 0 rfl ?_
    refine g_getR O fw_7_54 rfl dX7_fill_39 rfl ?_
    refine g_iload O dX7_fill_42 5 rfl ?_
    refine g_iald O rfl (by decide) dX7_fill_44 (fun v4 => ?_)
    refine g_iadd O dX7_fill_45 ?_
    refine g_iast O (elc_62 hj1) (by decide) dX7_fill_46 (fun s5 => ?_)
    refine g_iinc (lv2 := [(5, vI (i5 + 1)), (0, vR 5), (1, vI i1), (2, vI i2), (3, vI i3), (4, vI i4)]) O dX7_fill_47 5 rfl (by decide) rfl ?_
    refine g_goto (tgt := 12) O dX7_fill_50 (by decide) ?_
    refine g_pick [1, 2, 3, 4, 5, 0] rfl ?_
    exact ih (i5 + 1) s5
set_option maxRecDepth 20000 in
set_option maxHeartbeats 4000000 in
theorem lt_X7_fill_104 {K : Cx} {X : Wx} (O : OKx LC K X yX7_fill.cls cX7_fill 11) (hrt : (kMe K).sig.returnType = none) (hfr : (kR K).frames = 1) (hlo : (kR K).locals = 26) {i1 : Int} {i2 : Int} {i3 : Int} {i4 : Int} {i5 : Int} {i6 : Int} {k : St → Rs}  (hk : ∀  (s : St), GX LC K X 11 0 297 [(0, vR 5), (1, vI i1), (2, vI i2), (3, vI i3), (4, vI i4), (5, vI i5)] [] s (k s)) : ∀ (n : Nat) (i7 : Int) (s : St), GX LC K X 11 0 104 [(0, vR 5), (1, vI i1), (2, vI i2), (3, vI i3), (4, vI i4), (5, vI i5), (6, vI i6), (7, vI i7)] [] s (X7_fill_104 i1 i2 i3 i4 i5 i6 k n i7 s) := by
  intro n
  induction n with
  | zero => intro i7 s; exact GX.none
  | succ n ih =>
    intro i7 s
    rw [X7_fill_104]
    refine g_iload O dX7_fill_104 7 rfl ?_
    refine g_iload O dX7_fill_106 4 rfl ?_
    refine g_icmp_gt (tgt := 297) O dX7_fill_108 (by decide) ?_ ?_
    · refine g_pick [0, 1, 2, 3, 4, 5] rfl ?_
      exact hk s
    refine g_aload_n O dX7_fill_111 rfl 0 rfl ?_
    refine g_getR O fw_7_49 rfl dX7_fill_112 rfl ?_
    refine g_iload O dX7_fill_115 7 rfl ?_
    refine g_callV1 (As := [vI i7]) (rest := []) (b := 41) (ci := 6) O mw_3_19 mw_2_157 mw_2_158 mw_2_159 mw_1_4 hd_X6_leftmost rfl ⟨_, _, rfl⟩ rfl dX7_fill_117 (ct_X6_leftmost ⟨_, _, rfl⟩ i7 s) (by rw [hfr]; decide) (by rw [hlo]; decide) (Nat.le_of_ble_eq_true rfl) (fun v1 s2 => ?_)
    refine g_istore (lv2 := [(8, vI v1), (0, vR 5), (1, vI i1), (2, vI i2), (3, vI i3), (4, vI i4), (5, vI i5), (6, vI i6), (7, vI i7)]) O dX7_fill_120 (by decide) rfl ?_
    refine g_iload O dX7_fill_122 7 rfl ?_
    refine g_iload_n O dX7_fill_124 rfl 2 rfl ?_
    refine g_jn (fun (j : Int → St → Rs) => ∀ (x3 : Int) (s4 : St), GX LC K X 11 0 139 [(0, vR 5), (1, vI i1), (2, vI i2), (3, vI i3), (4, vI i4), (5, vI i5), (6, vI i6), (7, vI i7), (8, vI v1)] [vI x3] s4 (j x3 s4)) ?_ ?_
    · intro x3 s4
      refine g_istore (lv2 := [(9, vI x3), (0, vR 5), (1, vI i1), (2, vI i2), (3, vI i3), (4, vI i4), (5, vI i5), (6, vI i6), (7, vI i7), (8, vI v1)]) O dX7_fill_139 (by decide) rfl ?_
      refine g_iload O dX7_fill_141 0 rfl ?_
      refine g_jn (fun (j : St → Rs) => ∀  (s6 : St), GX LC K X 11 0 177 [(0, vR 5), (1, vI i1), (2, vI i2), (3, vI i3), (4, vI i4), (5, vI i5), (6, vI i6), (7, vI i7), (8, vI v1), (9, vI x3)] [] s6 (j  s6)) ?_ ?_
      · intro  s6
        refine g_aload_n O dX7_fill_177 rfl 0 rfl ?_
        refine g_getR O fw_7_60 rfl dX7_fill_178 rfl ?_
        refine g_iload O dX7_fill_181 5 rfl ?_
        refine g_aald (g := fun j => 99 + j) O rfl (by decide) (by decide) (by decide) el_62 dX7_fill_183 (fun j8 hj1 => ?_)
        refine g_iload O dX7_fill_184 7 rfl ?_
        refine g_iconst O dX7_fill_186 ?_
        refine g_iadd O dX7_fill_187 ?_
        refine g_iald O (elc_62 hj1) (by decide) dX7_fill_188 (fun v9 => ?_)
        refine g_aload_n O dX7_fill_189 rfl 0 rfl ?_
        refine g_getR O fw_7_50 rfl dX7_fill_190 rfl ?_
        refine g_iload O dX7_fill_193 5 rfl ?_
        refine g_iald O rfl (by decide) dX7_fill_195 (fun v10 => ?_)
        refine g_iadd O dX7_fill_196 ?_
        refine g_aload_n O dX7_fill_197 rfl 0 rfl ?_
        refine g_getR O fw_7_60 rfl dX7_fill_198 rfl ?_
        refine g_iload O dX7_fill_201 5 rfl ?_
        refine g_iconst O dX7_fill_203 ?_
        refine g_iadd O dX7_fill_204 ?_
        refine g_aald (g := fun j => 99 + j) O rfl (by decide) (by decide) (by decide) el_62 dX7_fill_205 (fun j11 hj2 => ?_)
        refine g_iload O dX7_fill_206 7 rfl ?_
        refine g_iald O (elc_62 hj2) (by decide) dX7_fill_208 (fun v12 => ?_)
        refine g_aload_n O dX7_fill_209 rfl 0 rfl ?_
        refine g_getR O fw_7_54 rfl dX7_fill_210 rfl ?_
        refine g_iload O dX7_fill_213 7 rfl ?_
        refine g_iald O rfl (by decide) dX7_fill_215 (fun v13 => ?_)
        refine g_iadd O dX7_fill_216 ?_
        refine g_min O mw_3_24 mw_3_16 mw_1_12 mw_3_17 (by rw [hfr]; decide) (by rw [hlo]; exact Nat.le_of_ble_eq_true rfl) dX7_fill_217 (fun v14 => ?_)
        refine g_istore (lv2 := [(10, vI v14), (0, vR 5), (1, vI i1), (2, vI i2), (3, vI i3), (4, vI i4), (5, vI i5), (6, vI i6), (7, vI i7), (8, vI v1), (9, vI x3)]) O dX7_fill_220 (by decide) rfl ?_
        refine g_aload_n O dX7_fill_222 rfl 1 rfl ?_
        refine g_getR O fw_7_60 rfl dX7_fill_223 rfl ?_
        refine g_iload O dX7_fill_226 6 rfl ?_
        refine g_iconst O dX7_fill_228 ?_
        refine g_iadd O dX7_fill_229 ?_
        refine g_aald (g := fun j => 99 + j) O rfl (by decide) (by decide) (by decide) el_62 dX7_fill_230 (fun j15 hj3 => ?_)
        refine g_iload O dX7_fill_231 8 rfl ?_
        refine g_iconst O dX7_fill_233 ?_
        refine g_iadd O dX7_fill_234 ?_
        refine g_iload O dX7_fill_235 0 rfl ?_
        refine g_aload_n O dX7_fill_237 rfl 1 rfl ?_
        refine g_getR O fw_7_60 rfl dX7_fill_238 rfl ?_
        refine g_iload O dX7_fill_241 7 rfl ?_
        refine g_aald (g := fun j => 99 + j) O rfl (by decide) (by decide) (by decide) el_62 dX7_fill_243 (fun j16 hj4 => ?_)
        refine g_iload O dX7_fill_244 9 rfl ?_
        refine g_iald O (elc_62 hj4) (by decide) dX7_fill_246 (fun v17 => ?_)
        refine g_aload_n O dX7_fill_247 rfl 1 rfl ?_
        refine g_getR O fw_7_57 rfl dX7_fill_248 rfl ?_
        refine g_iload O dX7_fill_251 6 rfl ?_
        refine g_aald (g := fun j => 87 + j) O rfl (by decide) (by decide) (by decide) el_61 dX7_fill_253 (fun j18 hj5 => ?_)
        refine g_iload O dX7_fill_254 8 rfl ?_
        refine g_iald O (elc_61 hj5) (by decide) dX7_fill_256 (fun v19 => ?_)
        refine g_iadd O dX7_fill_257 ?_
        refine g_min O mw_3_24 mw_3_16 mw_1_12 mw_3_17 (by rw [hfr]; decide) (by rw [hlo]; exact Nat.le_of_ble_eq_true rfl) dX7_fill_258 (fun v20 => ?_)
        refine g_iast O (elc_62 hj3) (by decide) dX7_fill_261 (fun s21 => ?_)
        refine g_iload O dX7_fill_262 10 rfl ?_
        refine g_if_eq (tgt := 291) O dX7_fill_264 (by decide) ?_ ?_
        · refine g_iinc (lv2 := [(7, vI (i7 + 1)), (10, vI v14), (0, vR 5), (1, vI i1), (2, vI i2), (3, vI i3), (4, vI i4), (5, vI i5), (6, vI i6), (8, vI v1), (9, vI x3)]) O dX7_fill_291 8 rfl (by decide) rfl ?_
          refine g_goto (tgt := 104) O dX7_fill_294 (by decide) ?_
          refine g_pick [2, 3, 4, 5, 6, 7, 8, 0] rfl ?_
          exact ih (i7 + 1) s21
        refine g_aload_n O dX7_fill_267 rfl 1 rfl ?_
        refine g_getR O fw_7_35 rfl dX7_fill_268 rfl ?_
        refine g_iload O dX7_fill_271 6 rfl ?_
        refine g_aald (g := fun j => 63 + j) O rfl (by decide) (by decide) (by decide) el_59 dX7_fill_273 (fun j22 hj6 => ?_)
        refine g_iload O dX7_fill_274 8 rfl ?_
        refine g_aload_n O dX7_fill_276 rfl 1 rfl ?_
        refine g_getR O fw_7_60 rfl dX7_fill_277 rfl ?_
        refine g_iload O dX7_fill_280 6 rfl ?_
        refine g_iconst O dX7_fill_282 ?_
        refine g_iadd O dX7_fill_283 ?_
        refine g_aald (g := fun j => 99 + j) O rfl (by decide) (by decide) (by decide) el_62 dX7_fill_284 (fun j23 hj7 => ?_)
        refine g_iload O dX7_fill_285 8 rfl ?_
        refine g_iconst O dX7_fill_287 ?_
        refine g_iadd O dX7_fill_288 ?_
        refine g_iald O (elc_62 hj7) (by decide) dX7_fill_289 (fun v24 => ?_)
        refine g_iast O (elc_59 hj6) (by decide) dX7_fill_290 (fun s25 => ?_)
        refine g_iinc (lv2 := [(7, vI (i7 + 1)), (10, vI v14), (0, vR 5), (1, vI i1), (2, vI i2), (3, vI i3), (4, vI i4), (5, vI i5), (6, vI i6), (8, vI v1), (9, vI x3)]) O dX7_fill_291 8 rfl (by decide) rfl ?_
        refine g_goto (tgt := 104) O dX7_fill_294 (by decide) ?_
        refine g_pick [2, 3, 4, 5, 6, 7, 8, 0] rfl ?_
        exact ih (i7 + 1) s25
      intro k7 hk7
      refine g_if_eq (tgt := 177) O dX7_fill_143 (by decide) ?_ ?_
      · refine g_pick [1, 2, 3, 4, 5, 6, 7, 8, 9, 0] rfl ?_
        exact hk7 s4
      refine g_aload_n O dX7_fill_146 rfl 1 rfl ?_
      refine g_getR O fw_7_57 rfl dX7_fill_147 rfl ?_
      refine g_iload O dX7_fill_150 6 rfl ?_
      refine g_aald (g := fun j => 87 + j) O rfl (by decide) (by decide) (by decide) el_61 dX7_fill_152 (fun j26 hj8 => ?_)
      refine g_iload O dX7_fill_153 8 rfl ?_
      refine g_aload_n O dX7_fill_155 rfl 1 rfl ?_
      refine g_getR O fw_7_60 rfl dX7_fill_156 rfl ?_
      refine g_iload O dX7_fill_159 6 rfl ?_
      refine g_aald (g := fun j => 99 + j) O rfl (by decide) (by decide) (by decide) el_62 dX7_fill_161 (fun j27 hj9 => ?_)
      refine g_iload O dX7_fill_162 8 rfl ?_
      refine g_iald O (elc_62 hj9) (by decide) dX7_fill_164 (fun v28 => ?_)
      refine g_aload_n O dX7_fill_165 rfl 1 rfl ?_
      refine g_getR O fw_7_38 rfl dX7_fill_166 rfl ?_
      refine g_iload O dX7_fill_169 6 rfl ?_
      refine g_aald (g := fun j => 75 + j) O rfl (by decide) (by decide) (by decide) el_60 dX7_fill_171 (fun j29 hj10 => ?_)
      refine g_iload O dX7_fill_172 8 rfl ?_
      refine g_iald O (elc_60 hj10) (by decide) dX7_fill_174 (fun v30 => ?_)
      refine g_iadd O dX7_fill_175 ?_
      refine g_iast O (elc_61 hj8) (by decide) dX7_fill_176 (fun s31 => ?_)
      refine g_pick [1, 2, 3, 4, 5, 6, 7, 8, 9, 0] rfl ?_
      exact hk7 s31
    intro k5 hk5
    refine g_jn (fun (j : St → Rs) => ∀  (s32 : St), GX LC K X 11 0 138 [(0, vR 5), (1, vI i1), (2, vI i2), (3, vI i3), (4, vI i4), (5, vI i5), (6, vI i6), (7, vI i7), (8, vI v1)] [] s32 (j  s32)) ?_ ?_
    · intro  s32
      refine g_iconst O dX7_fill_138 ?_
      exact hk5 0 s32
    intro k33 hk33
    refine g_icmp_ne (tgt := 138) O dX7_fill_125 (by decide) ?_ ?_
    · refine g_pick [1, 2, 3, 4, 5, 6, 7, 8, 0] rfl ?_
      exact hk33 s2
    refine g_iload O dX7_fill_128 0 rfl ?_
    refine g_iload_n O dX7_fill_130 rfl 4 rfl ?_
    refine g_icmp_ne (tgt := 138) O dX7_fill_131 (by decide) ?_ ?_
    · refine g_pick [1, 2, 3, 4, 5, 6, 7, 8, 0] rfl ?_
      exact hk33 s2
    refine g_iconst O dX7_fill_134 ?_
    refine g_goto (tgt := 139) O dX7_fill_135 (by decide) ?_
    refine g_pick [1, 2, 3, 4, 5, 6, 7, 8, 0] rfl ?_
    exact hk5 1 s2
set_option maxRecDepth 20000 in
set_option maxHeartbeats 4000000 in
theorem lt_X7_fill_56 {K : Cx} {X : Wx} (O : OKx LC K X yX7_fill.cls cX7_fill 11) (hrt : (kMe K).sig.returnType = none) (hfr : (kR K).frames = 1) (hlo : (kR K).locals = 26) {i1 : Int} {i2 : Int} {i3 : Int} {i4 : Int} {k : St → Rs}  (hk : ∀  (s : St), GX LC K X 11 0 303 [] [] s (k s)) : ∀ (n : Nat) (i5 : Int) (s : St), GX LC K X 11 0 56 [(0, vR 5), (1, vI i1), (2, vI i2), (3, vI i3), (4, vI i4), (5, vI i5)] [] s (X7_fill_56 i1 i2 i3 i4 k n i5 s) := by
  intro n
  induction n with
  | zero => intro i5 s; exact GX.none
  | succ n ih =>
    intro i5 s
    rw [X7_fill_56]
    refine g_iload O dX7_fill_56 5 rfl ?_
    refine g_iload_n O dX7_fill_58 rfl 2 rfl ?_
    refine g_icmp_gt (tgt := 303) O dX7_fill_59 (by decide) ?_ ?_
    · refine g_pick [] rfl ?_
      exact hk s
    refine g_aload_n O dX7_fill_62 rfl 0 rfl ?_
    refine g_getR O fw_7_45 rfl dX7_fill_63 rfl ?_
    refine g_iload O dX7_fill_66 5 rfl ?_
    refine g_callV1 (As := [vI i5]) (rest := []) (b := 38) (ci := 6) O mw_3_19 mw_2_157 mw_2_158 mw_2_159 mw_1_4 hd_X6_leftmost rfl ⟨_, _, rfl⟩ rfl dX7_fill_68 (ct_X6_leftmost ⟨_, _, rfl⟩ i5 s) (by rw [hfr]; decide) (by rw [hlo]; decide) (Nat.le_of_ble_eq_true rfl) (fun v1 s2 => ?_)
    refine g_istore (lv2 := [(6, vI v1), (0, vR 5), (1, vI i1), (2, vI i2), (3, vI i3), (4, vI i4), (5, vI i5)]) O dX7_fill_71 (by decide) rfl ?_
    refine g_aload_n O dX7_fill_73 rfl 1 rfl ?_
    refine g_getR O fw_7_60 rfl dX7_fill_74 rfl ?_
    refine g_iload O dX7_fill_77 6 rfl ?_
    refine g_iconst O dX7_fill_79 ?_
    refine g_iadd O dX7_fill_80 ?_
    refine g_aald (g := fun j => 99 + j) O rfl (by decide) (by decide) (by decide) el_62 dX7_fill_81 (fun j3 hj1 => ?_)
    refine g_iload_n O dX7_fill_82 rfl 4 rfl ?_
    refine g_aload_n O dX7_fill_83 rfl 1 rfl ?_
    refine g_getR O fw_7_60 rfl dX7_fill_84 rfl ?_
    refine g_iload O dX7_fill_87 6 rfl ?_
    refine g_aald (g := fun j => 99 + j) O rfl (by decide) (by decide) (by decide) el_62 dX7_fill_89 (fun j4 hj2 => ?_)
    refine g_iload_n O dX7_fill_90 rfl 4 rfl ?_
    refine g_iald O (elc_62 hj2) (by decide) dX7_fill_91 (fun v5 => ?_)
    refine g_aload_n O dX7_fill_92 rfl 1 rfl ?_
    refine g_getR O fw_7_50 rfl dX7_fill_93 rfl ?_
    refine g_iload O dX7_fill_96 6 rfl ?_
    refine g_iald O rfl (by decide) dX7_fill_98 (fun v6 => ?_)
    refine g_iadd O dX7_fill_99 ?_
    refine g_iast O (elc_62 hj1) (by decide) dX7_fill_100 (fun s7 => ?_)
    refine g_iload_n O dX7_fill_101 rfl 4 rfl ?_
    refine g_istore (lv2 := [(7, vI i3), (6, vI v1), (0, vR 5), (1, vI i1), (2, vI i2), (3, vI i3), (4, vI i4), (5, vI i5)]) O dX7_fill_102 (by decide) rfl ?_
    refine g_pick [2, 3, 4, 5, 6, 7, 1, 0] rfl ?_
    refine lt_X7_fill_104 O hrt hfr hlo  (fun s8 => ?_) FU i3 s7
    refine g_iinc (lv2 := [(5, vI (i5 + 1)), (0, vR 5), (1, vI i1), (2, vI i2), (3, vI i3), (4, vI i4)]) O dX7_fill_297 5 rfl (by decide) rfl ?_
    refine g_goto (tgt := 56) O dX7_fill_300 (by decide) ?_
    refine g_pick [1, 2, 3, 4, 5, 0] rfl ?_
    exact ih (i5 + 1) s8
theorem hd_X7_fill : yX7_fill.cls ≠ "java/lang/invoke/MethodHandle" ∧ yX7_fill.cls ≠ "java/lang/invoke/VarHandle" ∧ (parseMethodDescriptor yX7_fill.desc).map (fun d => d.parameters.length) = some 4 := by decide +kernel
set_option maxRecDepth 20000 in
set_option maxHeartbeats 4000000 in
theorem ct_X7_fill  (i1 : Int) (i2 : Int) (i3 : Int) (i4 : Int) (s : St) : Ctr LC yX7_fill cX7_fill 11 none 0 1 26 [vR 5, vI i1, vI i2, vI i3, vI i4] s (X7_fill i1 i2 i3 i4 s) := by
  refine Ctr.of (by decide +kernel) (fun ρ => Nat.le_of_ble_eq_true rfl) (lv := [(0, vR 5), (1, vI i1), (2, vI i2), (3, vI i3), (4, vI i4)]) (fun ρ => rfl) (fun K X O hrt hfr hlo => ?_)
  unfold X7_fill
  refine g_aload_n O dX7_fill_0 rfl 0 rfl ?_
  refine g_getR O fw_7_60 rfl dX7_fill_1 rfl ?_
  refine g_iload_n O dX7_fill_4 rfl 1 rfl ?_
  refine g_aald (g := fun j => 99 + j) O rfl (by decide) (by decide) (by decide) el_62 dX7_fill_5 (fun j1 hj1 => ?_)
  refine g_iload_n O dX7_fill_6 rfl 3 rfl ?_
  refine g_iconst O dX7_fill_7 ?_
  refine g_iast O (elc_62 hj1) (by decide) dX7_fill_8 (fun s2 => ?_)
  refine g_iload_n O dX7_fill_9 rfl 3 rfl ?_
  refine g_istore (lv2 := [(5, vI i3), (0, vR 5), (1, vI i1), (2, vI i2), (3, vI i3), (4, vI i4)]) O dX7_fill_10 (by decide) rfl ?_
  refine g_pick [1, 2, 3, 4, 5, 0] rfl ?_
  refine lt_X7_fill_12 O hrt hfr hlo  (fun s3 => ?_) FU i3 s2
  refine g_iload_n O dX7_fill_53 rfl 1 rfl ?_
  refine g_istore (lv2 := [(5, vI i1), (0, vR 5), (1, vI i1), (2, vI i2), (3, vI i3), (4, vI i4)]) O dX7_fill_54 (by decide) rfl ?_
  refine g_pick [1, 2, 3, 4, 5, 0] rfl ?_
  refine lt_X7_fill_56 O hrt hfr hlo  (fun s4 => ?_) FU i1 s3
  exact g_vret O hrt dX7_fill_303
def X7_measure_31 (i1 : Int) (k : St → Rs) : Nat → Int → St → Rs
  | 0, _, _ => none
  | n + 1, i2, s => cLt i2 (s 41 0) (cl (X6_isKey 41 i2 0 s) (fun v1 s2 => cEq v1 0 (X7_measure_31 i1 k n (i2 + 1) s2) (cl (X6_leftmost 38 i1 s2) (fun v3 s4 => cl (X6_leftmost 41 i2 s4) (fun v5 s6 => cl (X7_fill v3 i1 v5 i2 s6) (fun _ s8 => X7_measure_31 i1 k n (i2 + 1) s8)))))) (k s)
def X7_measure_6  (k : St → Rs) : Nat → Int → St → Rs
  | 0, _, _ => none
  | n + 1, i1, s => cLt i1 (s 38 0) (cl (X6_isKey 38 i1 0 s) (fun v1 s2 => cEq v1 0 (X7_measure_6 k n (i1 + 1) s2) (X7_measure_31 i1 (fun s3 => X7_measure_6 k n (i1 + 1) s3) FU 0 s2))) (k s)
def X7_measure  (s : St) : Rs := cl (X7_setPrices s) (fun _ s2 => X7_measure_6  (fun s3 => some (0, s3)) FU 0 s2)
set_option maxRecDepth 20000 in
set_option maxHeartbeats 4000000 in
theorem lt_X7_measure_31 {K : Cx} {X : Wx} (O : OKx LC K X yX7_measure.cls cX7_measure 3) (hrt : (kMe K).sig.returnType = none) (hfr : (kR K).frames = 4) (hlo : (kR K).locals = 84) {i1 : Int} {k : St → Rs}  (hk : ∀  (s : St), GX LC K X 3 0 82 [(0, vR 5), (1, vI i1)] [] s (k s)) : ∀ (n : Nat) (i2 : Int) (s : St), GX LC K X 3 0 31 [(0, vR 5), (1, vI i1), (2, vI i2)] [] s (X7_measure_31 i1 k n i2 s) := by
  intro n
  induction n with
  | zero => intro i2 s; exact GX.none
  | succ n ih =>
    intro i2 s
    rw [X7_measure_31]
    refine g_iload_n O dX7_measure_31 rfl 2 rfl ?_
    refine g_aload_n O dX7_measure_32 rfl 0 rfl ?_
    refine g_getR O fw_7_49 rfl dX7_measure_33 rfl ?_
    refine g_getI O fw_7_82 rfl dX7_measure_36 rfl ?_
    refine g_icmp_ge (tgt := 82) O dX7_measure_39 (by decide) ?_ ?_
    · refine g_pick [0, 1] rfl ?_
      exact hk s
    refine g_aload_n O dX7_measure_42 rfl 0 rfl ?_
    refine g_getR O fw_7_49 rfl dX7_measure_43 rfl ?_
    refine g_iload_n O dX7_measure_46 rfl 2 rfl ?_
    refine g_iconst O dX7_measure_47 ?_
    refine g_callV1 (As := [vI i2, vI 0]) (rest := []) (b := 41) (ci := 6) O mw_3_18 mw_2_189 mw_2_190 mw_2_191 mw_1_4 hd_X6_isKey rfl ⟨_, _, rfl⟩ rfl dX7_measure_48 (ct_X6_isKey ⟨_, _, rfl⟩ i2 0 s) (by rw [hfr]; decide) (by rw [hlo]; decide) (Nat.le_of_ble_eq_true rfl) (fun v1 s2 => ?_)
    refine g_if_eq (tgt := 76) O dX7_measure_51 (by decide) ?_ ?_
    · refine g_iinc (lv2 := [(2, vI (i2 + 1)), (0, vR 5), (1, vI i1)]) O dX7_measure_76 2 rfl (by decide) rfl ?_
      refine g_goto (tgt := 31) O dX7_measure_79 (by decide) ?_
      refine g_pick [1, 2, 0] rfl ?_
      exact ih (i2 + 1) s2
    refine g_aload_n O dX7_measure_54 rfl 0 rfl ?_
    refine g_aload_n O dX7_measure_55 rfl 0 rfl ?_
    refine g_getR O fw_7_45 rfl dX7_measure_56 rfl ?_
    refine g_iload_n O dX7_measure_59 rfl 1 rfl ?_
    refine g_callV1 (As := [vI i1]) (rest := [vR 5]) (b := 38) (ci := 6) O mw_3_19 mw_2_157 mw_2_158 mw_2_159 mw_1_4 hd_X6_leftmost rfl ⟨_, _, rfl⟩ rfl dX7_measure_60 (ct_X6_leftmost ⟨_, _, rfl⟩ i1 s2) (by rw [hfr]; decide) (by rw [hlo]; decide) (Nat.le_of_ble_eq_true rfl) (fun v3 s4 => ?_)
    refine g_iload_n O dX7_measure_63 rfl 1 rfl ?_
    refine g_aload_n O dX7_measure_64 rfl 0 rfl ?_
    refine g_getR O fw_7_49 rfl dX7_measure_65 rfl ?_
    refine g_iload_n O dX7_measure_68 rfl 2 rfl ?_
    refine g_callV1 (As := [vI i2]) (rest := [vI i1, vI v3, vR 5]) (b := 41) (ci := 6) O mw_3_19 mw_2_157 mw_2_158 mw_2_159 mw_1_4 hd_X6_leftmost rfl ⟨_, _, rfl⟩ rfl dX7_measure_69 (ct_X6_leftmost ⟨_, _, rfl⟩ i2 s4) (by rw [hfr]; decide) (by rw [hlo]; decide) (Nat.le_of_ble_eq_true rfl) (fun v5 s6 => ?_)
    refine g_iload_n O dX7_measure_72 rfl 2 rfl ?_
    refine g_callV0 (As := [vI v3, vI i1, vI v5, vI i2]) (rest := []) (b := 5) (ci := 7) O mw_3_20 mw_3_22 mp_1_11 mw_3_23 mw_1_2 hd_X7_fill rfl ⟨_, _, rfl⟩ rfl dX7_measure_73 (ct_X7_fill v3 i1 v5 i2 s6) (by rw [hfr]; decide) (by rw [hlo]; decide) (Nat.le_of_ble_eq_true rfl) (fun _ s8 => ?_)
    refine g_iinc (lv2 := [(2, vI (i2 + 1)), (0, vR 5), (1, vI i1)]) O dX7_measure_76 2 rfl (by decide) rfl ?_
    refine g_goto (tgt := 31) O dX7_measure_79 (by decide) ?_
    refine g_pick [1, 2, 0] rfl ?_
    exact ih (i2 + 1) s8
set_option maxRecDepth 20000 in
set_option maxHeartbeats 4000000 in
theorem lt_X7_measure_6 {K : Cx} {X : Wx} (O : OKx LC K X yX7_measure.cls cX7_measure 3) (hrt : (kMe K).sig.returnType = none) (hfr : (kR K).frames = 4) (hlo : (kR K).locals = 84)  {k : St → Rs}  (hk : ∀  (s : St), GX LC K X 3 0 88 [] [] s (k s)) : ∀ (n : Nat) (i1 : Int) (s : St), GX LC K X 3 0 6 [(0, vR 5), (1, vI i1)] [] s (X7_measure_6 k n i1 s) := by
  intro n
  induction n with
  | zero => intro i1 s; exact GX.none
  | succ n ih =>
    intro i1 s
    rw [X7_measure_6]
    refine g_iload_n O dX7_measure_6 rfl 1 rfl ?_
    refine g_aload_n O dX7_measure_7 rfl 0 rfl ?_
    refine g_getR O fw_7_45 rfl dX7_measure_8 rfl ?_
    refine g_getI O fw_7_82 rfl dX7_measure_11 rfl ?_
    refine g_icmp_ge (tgt := 88) O dX7_measure_14 (by decide) ?_ ?_
    · refine g_pick [] rfl ?_
      exact hk s
    refine g_aload_n O dX7_measure_17 rfl 0 rfl ?_
    refine g_getR O fw_7_45 rfl dX7_measure_18 rfl ?_
    refine g_iload_n O dX7_measure_21 rfl 1 rfl ?_
    refine g_iconst O dX7_measure_22 ?_
    refine g_callV1 (As := [vI i1, vI 0]) (rest := []) (b := 38) (ci := 6) O mw_3_18 mw_2_189 mw_2_190 mw_2_191 mw_1_4 hd_X6_isKey rfl ⟨_, _, rfl⟩ rfl dX7_measure_23 (ct_X6_isKey ⟨_, _, rfl⟩ i1 0 s) (by rw [hfr]; decide) (by rw [hlo]; decide) (Nat.le_of_ble_eq_true rfl) (fun v1 s2 => ?_)
    refine g_if_eq (tgt := 82) O dX7_measure_26 (by decide) ?_ ?_
    · refine g_iinc (lv2 := [(1, vI (i1 + 1)), (0, vR 5)]) O dX7_measure_82 1 rfl (by decide) rfl ?_
      refine g_goto (tgt := 6) O dX7_measure_85 (by decide) ?_
      refine g_pick [1, 0] rfl ?_
      exact ih (i1 + 1) s2
    refine g_iconst O dX7_measure_29 ?_
    refine g_istore_n (lv2 := [(2, vI 0), (0, vR 5), (1, vI i1)]) O dX7_measure_30 rfl (by decide) rfl ?_
    refine g_pick [1, 2, 0] rfl ?_
    refine lt_X7_measure_31 O hrt hfr hlo  (fun s3 => ?_) FU 0 s2
    refine g_iinc (lv2 := [(1, vI (i1 + 1)), (0, vR 5)]) O dX7_measure_82 1 rfl (by decide) rfl ?_
    refine g_goto (tgt := 6) O dX7_measure_85 (by decide) ?_
    refine g_pick [1, 0] rfl ?_
    exact ih (i1 + 1) s3
theorem hd_X7_measure : yX7_measure.cls ≠ "java/lang/invoke/MethodHandle" ∧ yX7_measure.cls ≠ "java/lang/invoke/VarHandle" ∧ (parseMethodDescriptor yX7_measure.desc).map (fun d => d.parameters.length) = some 0 := by decide +kernel
set_option maxRecDepth 20000 in
set_option maxHeartbeats 4000000 in
theorem ct_X7_measure   (s : St) : Ctr LC yX7_measure cX7_measure 3 none 0 4 84 [vR 5] s (X7_measure s) := by
  refine Ctr.of (by decide +kernel) (fun ρ => Nat.le_of_ble_eq_true rfl) (lv := [(0, vR 5)]) (fun ρ => rfl) (fun K X O hrt hfr hlo => ?_)
  unfold X7_measure
  refine g_aload_n O dX7_measure_0 rfl 0 rfl ?_
  refine g_callV0 (As := []) (rest := []) (b := 5) (ci := 7) O mw_3_1 mw_3_3 mp_1_10 mw_3_4 mw_1_2 hd_X7_setPrices rfl ⟨_, _, rfl⟩ rfl dX7_measure_1 (ct_X7_setPrices  s) (by rw [hfr]; decide) (by rw [hlo]; decide) (Nat.le_of_ble_eq_true rfl) (fun _ s2 => ?_)
  refine g_iconst O dX7_measure_4 ?_
  refine g_istore_n (lv2 := [(1, vI 0), (0, vR 5)]) O dX7_measure_5 rfl (by decide) rfl ?_
  refine g_pick [1, 0] rfl ?_
  refine lt_X7_measure_6 O hrt hfr hlo  (fun s3 => ?_) FU 0 s2
  exact g_vret O hrt dX7_measure_88
def X7_greatestPartner_6 (i1 : Int) (i2 : Int) (i3 : Int) (k : St → Rs) : Nat → Int → Int → St → Rs
  | 0, _, _, _ => none
  | n + 1, i4, i5, s => cLt i5 i2 (k s) (cl (X6_leftmost 38 i1 s) (fun v1 s2 => rdR 13 v1 (fun j3 => cl (X6_leftmost 41 i5 s2) (fun v4 s5 => rd s5 (99 + j3) 13 v4 (fun v6 => rdR 12 i1 (fun j7 => rd s5 (87 + j7) 12 i5 (fun v8 => rdR 13 (i1 + 1) (fun j9 => rd s5 (99 + j9) 13 (i3 + 1) (fun v10 => cEq ((v6 + v8) + i4) v10 (some (i5, s5)) (rd s5 56 12 i5 (fun v11 => X7_greatestPartner_6 i1 i2 i3 k n (i4 + v11) (i5 + (-1)) s5)))))))))))
def X7_greatestPartner (i1 : Int) (i2 : Int) (i3 : Int) (s : St) : Rs := X7_greatestPartner_6 i1 i2 i3 (fun s1 => some ((-9), s1)) FU 0 i3 s
set_option maxRecDepth 20000 in
set_option maxHeartbeats 4000000 in
theorem lt_X7_greatestPartner_6 {K : Cx} {X : Wx} (O : OKx LC K X yX7_greatestPartner.cls cX7_greatestPartner 7) (hrt : (kMe K).sig.returnType = (Option.some .int)) (hfr : (kR K).frames = 1) (hlo : (kR K).locals = 21) {i1 : Int} {i2 : Int} {i3 : Int} {k : St → Rs}  (hk : ∀  (s : St), GX LC K X 7 1 88 [] [] s (k s)) : ∀ (n : Nat) (i4 : Int) (i5 : Int) (s : St), GX LC K X 7 1 6 [(0, vR 5), (1, vI i1), (2, vI i2), (3, vI i3), (4, vI i4), (5, vI i5)] [] s (X7_greatestPartner_6 i1 i2 i3 k n i4 i5 s) := by
  intro n
  induction n with
  | zero => intro i4 i5 s; exact GX.none
  | succ n ih =>
    intro i4 i5 s
    rw [X7_greatestPartner_6]
    refine g_iload O dX7_greatestPartner_6 5 rfl ?_
    refine g_iload_n O dX7_greatestPartner_8 rfl 2 rfl ?_
    refine g_icmp_lt (tgt := 88) O dX7_greatestPartner_9 (by decide) ?_ ?_
    · refine g_pick [] rfl ?_
      exact hk s
    refine g_aload_n O dX7_greatestPartner_12 rfl 0 rfl ?_
    refine g_getR O fw_7_60 rfl dX7_greatestPartner_13 rfl ?_
    refine g_aload_n O dX7_greatestPartner_16 rfl 0 rfl ?_
    refine g_getR O fw_7_45 rfl dX7_greatestPartner_17 rfl ?_
    refine g_iload_n O dX7_greatestPartner_20 rfl 1 rfl ?_
    refine g_callV1 (As := [vI i1]) (rest := [vR 62]) (b := 38) (ci := 6) O mw_3_19 mw_2_157 mw_2_158 mw_2_159 mw_1_4 hd_X6_leftmost rfl ⟨_, _, rfl⟩ rfl dX7_greatestPartner_21 (ct_X6_leftmost ⟨_, _, rfl⟩ i1 s) (by rw [hfr]; decide) (by rw [hlo]; decide) (Nat.le_of_ble_eq_true rfl) (fun v1 s2 => ?_)
    refine g_aald (g := fun j => 99 + j) O rfl (by decide) (by decide) (by decide) el_62 dX7_greatestPartner_24 (fun j3 hj1 => ?_)
    refine g_aload_n O dX7_greatestPartner_25 rfl 0 rfl ?_
    refine g_getR O fw_7_49 rfl dX7_greatestPartner_26 rfl ?_
    refine g_iload O dX7_greatestPartner_29 5 rfl ?_
    refine g_callV1 (As := [vI i5]) (rest := [vR (99 + j3)]) (b := 41) (ci := 6) O mw_3_19 mw_2_157 mw_2_158 mw_2_159 mw_1_4 hd_X6_leftmost rfl ⟨_, _, rfl⟩ rfl dX7_greatestPartner_31 (ct_X6_leftmost ⟨_, _, rfl⟩ i5 s2) (by rw [hfr]; decide) (by rw [hlo]; decide) (Nat.le_of_ble_eq_true rfl) (fun v4 s5 => ?_)
    refine g_iald O (elc_62 hj1) (by decide) dX7_greatestPartner_34 (fun v6 => ?_)
    refine g_istore (lv2 := [(6, vI v6), (0, vR 5), (1, vI i1), (2, vI i2), (3, vI i3), (4, vI i4), (5, vI i5)]) O dX7_greatestPartner_35 (by decide) rfl ?_
    refine g_iload O dX7_greatestPartner_37 0 rfl ?_
    refine g_aload_n O dX7_greatestPartner_39 rfl 1 rfl ?_
    refine g_getR O fw_7_57 rfl dX7_greatestPartner_40 rfl ?_
    refine g_iload_n O dX7_greatestPartner_43 rfl 2 rfl ?_
    refine g_aald (g := fun j => 87 + j) O rfl (by decide) (by decide) (by decide) el_61 dX7_greatestPartner_44 (fun j7 hj2 => ?_)
    refine g_iload O dX7_greatestPartner_45 6 rfl ?_
    refine g_iald O (elc_61 hj2) (by decide) dX7_greatestPartner_47 (fun v8 => ?_)
    refine g_iadd O dX7_greatestPartner_48 ?_
    refine g_iload O dX7_greatestPartner_49 5 rfl ?_
    refine g_iadd O dX7_greatestPartner_51 ?_
    refine g_aload_n O dX7_greatestPartner_52 rfl 1 rfl ?_
    refine g_getR O fw_7_60 rfl dX7_greatestPartner_53 rfl ?_
    refine g_iload_n O dX7_greatestPartner_56 rfl 2 rfl ?_
    refine g_iconst O dX7_greatestPartner_57 ?_
    refine g_iadd O dX7_greatestPartner_58 ?_
    refine g_aald (g := fun j => 99 + j) O rfl (by decide) (by decide) (by decide) el_62 dX7_greatestPartner_59 (fun j9 hj3 => ?_)
    refine g_iload_n O dX7_greatestPartner_60 rfl 4 rfl ?_
    refine g_iconst O dX7_greatestPartner_61 ?_
    refine g_iadd O dX7_greatestPartner_62 ?_
    refine g_iald O (elc_62 hj3) (by decide) dX7_greatestPartner_63 (fun v10 => ?_)
    refine g_icmp_ne (tgt := 70) O dX7_greatestPartner_64 (by decide) ?_ ?_
    · refine g_iload O dX7_greatestPartner_70 5 rfl ?_
      refine g_aload_n O dX7_greatestPartner_72 rfl 1 rfl ?_
      refine g_getR O fw_7_54 rfl dX7_greatestPartner_73 rfl ?_
      refine g_iload O dX7_greatestPartner_76 6 rfl ?_
      refine g_iald O rfl (by decide) dX7_greatestPartner_78 (fun v11 => ?_)
      refine g_iadd O dX7_greatestPartner_79 ?_
      refine g_istore (lv2 := [(4, vI (i4 + v11)), (6, vI v6), (0, vR 5), (1, vI i1), (2, vI i2), (3, vI i3), (5, vI i5)]) O dX7_greatestPartner_80 (by decide) rfl ?_
      refine g_iinc (lv2 := [(5, vI (i5 + (-1))), (4, vI (i4 + v11)), (6, vI v6), (0, vR 5), (1, vI i1), (2, vI i2), (3, vI i3)]) O dX7_greatestPartner_82 6 rfl (by decide) rfl ?_
      refine g_goto (tgt := 6) O dX7_greatestPartner_85 (by decide) ?_
      refine g_pick [3, 4, 5, 6, 1, 0] rfl ?_
      exact ih (i4 + v11) (i5 + (-1)) s5
    refine g_iload O dX7_greatestPartner_67 6 rfl ?_
    exact g_iret O hrt rfl dX7_greatestPartner_69
theorem hd_X7_greatestPartner : yX7_greatestPartner.cls ≠ "java/lang/invoke/MethodHandle" ∧ yX7_greatestPartner.cls ≠ "java/lang/invoke/VarHandle" ∧ (parseMethodDescriptor yX7_greatestPartner.desc).map (fun d => d.parameters.length) = some 3 := by decide +kernel
set_option maxRecDepth 20000 in
set_option maxHeartbeats 4000000 in
theorem ct_X7_greatestPartner  (i1 : Int) (i2 : Int) (i3 : Int) (s : St) : Ctr LC yX7_greatestPartner cX7_greatestPartner 7 (Option.some .int) 1 1 21 [vR 5, vI i1, vI i2, vI i3] s (X7_greatestPartner i1 i2 i3 s) := by
  refine Ctr.of (by decide +kernel) (fun ρ => Nat.le_of_ble_eq_true rfl) (lv := [(0, vR 5), (1, vI i1), (2, vI i2), (3, vI i3)]) (fun ρ => rfl) (fun K X O hrt hfr hlo => ?_)
  unfold X7_greatestPartner
  refine g_iconst O dX7_greatestPartner_0 ?_
  refine g_istore (lv2 := [(4, vI 0), (0, vR 5), (1, vI i1), (2, vI i2), (3, vI i3)]) O dX7_greatestPartner_1 (by decide) rfl ?_
  refine g_iload_n O dX7_greatestPartner_3 rfl 4 rfl ?_
  refine g_istore (lv2 := [(5, vI i3), (4, vI 0), (0, vR 5), (1, vI i1), (2, vI i2), (3, vI i3)]) O dX7_greatestPartner_4 (by decide) rfl ?_
  refine g_pick [2, 3, 4, 5, 1, 0] rfl ?_
  refine lt_X7_greatestPartner_6 O hrt hfr hlo  (fun s1 => ?_) FU 0 i3 s
  refine g_bipush O dX7_greatestPartner_88 (by decide +kernel) ?_
  exact g_iret O hrt rfl dX7_greatestPartner_90
def X7_pairForests_19 (i1 : Int) (i3 : Int) (k : St → Rs) : Nat → Int → Int → Int → St → Rs
  | 0, _, _, _, _ => none
  | n + 1, i5, i6, i7, s => cLt i7 i1 (k s) (jn (fun (x1 : Int) (s2 : St) => cEq x1 (-9) (X7_pairForests_19 i1 i3 k n i5 i6 (i7 + (-1)) s2) (wr s2 57 12 i7 x1 (fun s4 => wr s4 58 12 x1 i7 (fun s5 => put s5 5 2 ((s5 5 2) + 1) (fun s6 => cl (X6_leftmost 38 i7 s6) (fun v7 s8 => cl (X6_leftmost 41 x1 s8) (fun v9 s10 => X7_pairForests_19 i1 i3 k n (v7 - 1) (v9 - 1) (i7 + (-1)) s10))))))) (fun k3 => cLt i5 i7 (k3 (-9) s) (cl (X7_greatestPartner i7 i3 i6 s) (fun v11 s12 => k3 v11 s12))))
def X7_pairForests (i1 : Int) (i2 : Int) (i3 : Int) (i4 : Int) (s : St) : Rs := cl (X7_fill i1 i2 i3 i4 s) (fun _ s2 => X7_pairForests_19 i1 i3 (fun s3 => some (0, s3)) FU i2 i4 i2 s2)
set_option maxRecDepth 20000 in
set_option maxHeartbeats 4000000 in
theorem lt_X7_pairForests_19 {K : Cx} {X : Wx} (O : OKx LC K X yX7_pairForests.cls cX7_pairForests 9) (hrt : (kMe K).sig.returnType = none) (hfr : (kR K).frames = 2) (hlo : (kR K).locals = 56) {i1 : Int} {i3 : Int} {k : St → Rs}  (hk : ∀  (s : St), GX LC K X 9 0 115 [] [] s (k s)) : ∀ (n : Nat) (i5 : Int) (i6 : Int) (i7 : Int) (s : St), GX LC K X 9 0 19 [(0, vR 5), (1, vI i1), (3, vI i3), (5, vI i5), (6, vI i6), (7, vI i7)] [] s (X7_pairForests_19 i1 i3 k n i5 i6 i7 s) := by
  intro n
  induction n with
  | zero => intro i5 i6 i7 s; exact GX.none
  | succ n ih =>
    intro i5 i6 i7 s
    rw [X7_pairForests_19]
    refine g_iload O dX7_pairForests_19 5 rfl ?_
    refine g_iload_n O dX7_pairForests_21 rfl 1 rfl ?_
    refine g_icmp_lt (tgt := 115) O dX7_pairForests_22 (by decide) ?_ ?_
    · refine g_pick [] rfl ?_
      exact hk s
    refine g_iload O dX7_pairForests_25 5 rfl ?_
    refine g_iload O dX7_pairForests_27 3 rfl ?_
    refine g_jn (fun (j : Int → St → Rs) => ∀ (x1 : Int) (s2 : St), GX LC K X 9 0 46 [(0, vR 5), (1, vI i1), (3, vI i3), (5, vI i5), (6, vI i6), (7, vI i7)] [vI x1] s2 (j x1 s2)) ?_ ?_
    · intro x1 s2
      refine g_istore (lv2 := [(8, vI x1), (0, vR 5), (1, vI i1), (3, vI i3), (5, vI i5), (6, vI i6), (7, vI i7)]) O dX7_pairForests_46 (by decide) rfl ?_
      refine g_iload O dX7_pairForests_48 0 rfl ?_
      refine g_bipush O dX7_pairForests_50 (by decide +kernel) ?_
      refine g_icmp_eq (tgt := 109) O dX7_pairForests_52 (by decide) ?_ ?_
      · refine g_iinc (lv2 := [(7, vI (i7 + (-1))), (8, vI x1), (0, vR 5), (1, vI i1), (3, vI i3), (5, vI i5), (6, vI i6)]) O dX7_pairForests_109 6 rfl (by decide) rfl ?_
        refine g_goto (tgt := 19) O dX7_pairForests_112 (by decide) ?_
        refine g_pick [2, 3, 4, 5, 6, 0] rfl ?_
        exact ih i5 i6 (i7 + (-1)) s2
      refine g_aload_n O dX7_pairForests_55 rfl 1 rfl ?_
      refine g_getR O fw_7_63 rfl dX7_pairForests_56 rfl ?_
      refine g_iload O dX7_pairForests_59 6 rfl ?_
      refine g_iload O dX7_pairForests_61 0 rfl ?_
      refine g_iast O rfl (by decide) dX7_pairForests_63 (fun s4 => ?_)
      refine g_aload_n O dX7_pairForests_64 rfl 1 rfl ?_
      refine g_getR O fw_7_66 rfl dX7_pairForests_65 rfl ?_
      refine g_iload O dX7_pairForests_68 0 rfl ?_
      refine g_iload O dX7_pairForests_70 6 rfl ?_
      refine g_iast O rfl (by decide) dX7_pairForests_72 (fun s5 => ?_)
      refine g_aload_n O dX7_pairForests_73 rfl 1 rfl ?_
      refine g_dup O dX7_pairForests_74 rfl ?_
      refine g_getI O fw_7_22 rfl dX7_pairForests_75 rfl ?_
      refine g_iconst O dX7_pairForests_78 ?_
      refine g_iadd O dX7_pairForests_79 ?_
      refine g_putI O fw_7_22 rfl dX7_pairForests_80 rfl rfl rfl (fun s6 => ?_)
      refine g_aload_n O dX7_pairForests_83 rfl 1 rfl ?_
      refine g_getR O fw_7_45 rfl dX7_pairForests_84 rfl ?_
      refine g_iload O dX7_pairForests_87 6 rfl ?_
      refine g_callV1 (As := [vI i7]) (rest := []) (b := 38) (ci := 6) O mw_3_19 mw_2_157 mw_2_158 mw_2_159 mw_1_4 hd_X6_leftmost rfl ⟨_, _, rfl⟩ rfl dX7_pairForests_89 (ct_X6_leftmost ⟨_, _, rfl⟩ i7 s6) (by rw [hfr]; decide) (by rw [hlo]; decide) (Nat.le_of_ble_eq_true rfl) (fun v7 s8 => ?_)
      refine g_iconst O dX7_pairForests_92 ?_
      refine g_isub O dX7_pairForests_93 ?_
      refine g_istore (lv2 := [(5, vI (v7 - 1)), (8, vI x1), (0, vR 5), (1, vI i1), (3, vI i3), (6, vI i6), (7, vI i7)]) O dX7_pairForests_94 (by decide) rfl ?_
      refine g_aload_n O dX7_pairForests_96 rfl 2 rfl ?_
      refine g_getR O fw_7_49 rfl dX7_pairForests_97 rfl ?_
      refine g_iload O dX7_pairForests_100 1 rfl ?_
      refine g_callV1 (As := [vI x1]) (rest := []) (b := 41) (ci := 6) O mw_3_19 mw_2_157 mw_2_158 mw_2_159 mw_1_4 hd_X6_leftmost rfl ⟨_, _, rfl⟩ rfl dX7_pairForests_102 (ct_X6_leftmost ⟨_, _, rfl⟩ x1 s8) (by rw [hfr]; decide) (by rw [hlo]; decide) (Nat.le_of_ble_eq_true rfl) (fun v9 s10 => ?_)
      refine g_iconst O dX7_pairForests_105 ?_
      refine g_isub O dX7_pairForests_106 ?_
      refine g_istore (lv2 := [(6, vI (v9 - 1)), (5, vI (v7 - 1)), (8, vI x1), (0, vR 5), (1, vI i1), (3, vI i3), (7, vI i7)]) O dX7_pairForests_107 (by decide) rfl ?_
      refine g_iinc (lv2 := [(7, vI (i7 + (-1))), (6, vI (v9 - 1)), (5, vI (v7 - 1)), (8, vI x1), (0, vR 5), (1, vI i1), (3, vI i3)]) O dX7_pairForests_109 6 rfl (by decide) rfl ?_
      refine g_goto (tgt := 19) O dX7_pairForests_112 (by decide) ?_
      refine g_pick [4, 5, 6, 2, 1, 0] rfl ?_
      exact ih (v7 - 1) (v9 - 1) (i7 + (-1)) s10
    intro k3 hk3
    refine g_icmp_gt (tgt := 44) O dX7_pairForests_29 (by decide) ?_ ?_
    · refine g_bipush O dX7_pairForests_44 (by decide +kernel) ?_
      exact hk3 (-9) s
    refine g_aload_n O dX7_pairForests_32 rfl 0 rfl ?_
    refine g_iload O dX7_pairForests_33 5 rfl ?_
    refine g_iload_n O dX7_pairForests_35 rfl 2 rfl ?_
    refine g_iload O dX7_pairForests_36 4 rfl ?_
    refine g_callV1 (As := [vI i7, vI i3, vI i6]) (rest := []) (b := 5) (ci := 7) O mw_3_33 mw_3_35 mp_1_14 mw_3_36 mw_1_2 hd_X7_greatestPartner rfl ⟨_, _, rfl⟩ rfl dX7_pairForests_38 (ct_X7_greatestPartner i7 i3 i6 s) (by rw [hfr]; decide) (by rw [hlo]; decide) (Nat.le_of_ble_eq_true rfl) (fun v11 s12 => ?_)
    refine g_goto (tgt := 46) O dX7_pairForests_41 (by decide) ?_
    exact hk3 v11 s12
theorem hd_X7_pairForests : yX7_pairForests.cls ≠ "java/lang/invoke/MethodHandle" ∧ yX7_pairForests.cls ≠ "java/lang/invoke/VarHandle" ∧ (parseMethodDescriptor yX7_pairForests.desc).map (fun d => d.parameters.length) = some 4 := by decide +kernel
set_option maxRecDepth 20000 in
set_option maxHeartbeats 4000000 in
theorem ct_X7_pairForests  (i1 : Int) (i2 : Int) (i3 : Int) (i4 : Int) (s : St) : Ctr LC yX7_pairForests cX7_pairForests 9 none 0 2 56 [vR 5, vI i1, vI i2, vI i3, vI i4] s (X7_pairForests i1 i2 i3 i4 s) := by
  refine Ctr.of (by decide +kernel) (fun ρ => Nat.le_of_ble_eq_true rfl) (lv := [(0, vR 5), (1, vI i1), (2, vI i2), (3, vI i3), (4, vI i4)]) (fun ρ => rfl) (fun K X O hrt hfr hlo => ?_)
  unfold X7_pairForests
  refine g_aload_n O dX7_pairForests_0 rfl 0 rfl ?_
  refine g_iload_n O dX7_pairForests_1 rfl 1 rfl ?_
  refine g_iload_n O dX7_pairForests_2 rfl 2 rfl ?_
  refine g_iload_n O dX7_pairForests_3 rfl 3 rfl ?_
  refine g_iload O dX7_pairForests_4 4 rfl ?_
  refine g_callV0 (As := [vI i1, vI i2, vI i3, vI i4]) (rest := []) (b := 5) (ci := 7) O mw_3_20 mw_3_22 mp_1_11 mw_3_23 mw_1_2 hd_X7_fill rfl ⟨_, _, rfl⟩ rfl dX7_pairForests_6 (ct_X7_fill i1 i2 i3 i4 s) (by rw [hfr]; decide) (by rw [hlo]; decide) (Nat.le_of_ble_eq_true rfl) (fun _ s2 => ?_)
  refine g_iload_n O dX7_pairForests_9 rfl 2 rfl ?_
  refine g_istore (lv2 := [(5, vI i2), (0, vR 5), (1, vI i1), (2, vI i2), (3, vI i3), (4, vI i4)]) O dX7_pairForests_10 (by decide) rfl ?_
  refine g_iload O dX7_pairForests_12 5 rfl ?_
  refine g_istore (lv2 := [(6, vI i4), (5, vI i2), (0, vR 5), (1, vI i1), (2, vI i2), (3, vI i3), (4, vI i4)]) O dX7_pairForests_14 (by decide) rfl ?_
  refine g_iload_n O dX7_pairForests_16 rfl 4 rfl ?_
  refine g_istore (lv2 := [(7, vI i2), (6, vI i4), (5, vI i2), (0, vR 5), (1, vI i1), (2, vI i2), (3, vI i3), (4, vI i4)]) O dX7_pairForests_17 (by decide) rfl ?_
  refine g_pick [3, 4, 6, 2, 1, 0] rfl ?_
  refine lt_X7_pairForests_19 O hrt hfr hlo  (fun s3 => ?_) FU i2 i4 i2 s2
  exact g_vret O hrt dX7_pairForests_115
def X7_pairUp_7  (k : St → Rs) : Nat → Int → St → Rs
  | 0, _, _ => none
  | n + 1, i1, s => cLt i1 12 (wr s 57 12 i1 (-9) (fun s1 => wr s1 58 12 i1 (-9) (fun s2 => X7_pairUp_7 k n (i1 + 1) s2))) (k s)
def X7_pairUp_69  (k : St → Rs) : Nat → Int → St → Rs
  | 0, _, _ => none
  | n + 1, i1, s => cLt i1 0 (k s) (rd s 57 12 i1 (fun v1 => cEq v1 (-9) (X7_pairUp_69 k n (i1 + (-1)) s) (cl (X6_leftmost 38 i1 s) (fun v2 s3 => cl (X6_leftmost 41 v1 s3) (fun v4 s5 => cl (X7_pairForests v2 (i1 - 1) v4 (v1 - 1) s5) (fun _ s7 => X7_pairUp_69 k n (i1 + (-1)) s7))))))
def X7_pairUp  (s : St) : Rs := put s 5 2 0 (fun s1 => X7_pairUp_7  (fun s2 => cl (X7_pairForests 0 ((s2 38 0) - 1) 0 ((s2 41 0) - 1) s2) (fun _ s4 => X7_pairUp_69  (fun s5 => some (0, s5)) FU ((s4 38 0) - 1) s4)) FU 0 s1)
set_option maxRecDepth 20000 in
set_option maxHeartbeats 4000000 in
theorem lt_X7_pairUp_7 {K : Cx} {X : Wx} (O : OKx LC K X yX7_pairUp.cls cX7_pairUp 3) (hrt : (kMe K).sig.returnType = none) (hfr : (kR K).frames = 3) (hlo : (kR K).locals = 84)  {k : St → Rs}  (hk : ∀  (s : St), GX LC K X 3 0 35 [(0, vR 5)] [] s (k s)) : ∀ (n : Nat) (i1 : Int) (s : St), GX LC K X 3 0 7 [(0, vR 5), (1, vI i1)] [] s (X7_pairUp_7 k n i1 s) := by
  intro n
  induction n with
  | zero => intro i1 s; exact GX.none
  | succ n ih =>
    intro i1 s
    rw [X7_pairUp_7]
    refine g_iload_n O dX7_pairUp_7 rfl 1 rfl ?_
    refine g_bipush O dX7_pairUp_8 (by decide +kernel) ?_
    refine g_icmp_ge (tgt := 35) O dX7_pairUp_10 (by decide) ?_ ?_
    · refine g_pick [0] rfl ?_
      exact hk s
    refine g_aload_n O dX7_pairUp_13 rfl 0 rfl ?_
    refine g_getR O fw_7_63 rfl dX7_pairUp_14 rfl ?_
    refine g_iload_n O dX7_pairUp_17 rfl 1 rfl ?_
    refine g_bipush O dX7_pairUp_18 (by decide +kernel) ?_
    refine g_iast O rfl (by decide) dX7_pairUp_20 (fun s1 => ?_)
    refine g_aload_n O dX7_pairUp_21 rfl 0 rfl ?_
    refine g_getR O fw_7_66 rfl dX7_pairUp_22 rfl ?_
    refine g_iload_n O dX7_pairUp_25 rfl 1 rfl ?_
    refine g_bipush O dX7_pairUp_26 (by decide +kernel) ?_
    refine g_iast O rfl (by decide) dX7_pairUp_28 (fun s2 => ?_)
    refine g_iinc (lv2 := [(1, vI (i1 + 1)), (0, vR 5)]) O dX7_pairUp_29 1 rfl (by decide) rfl ?_
    refine g_goto (tgt := 7) O dX7_pairUp_32 (by decide) ?_
    refine g_pick [1, 0] rfl ?_
    exact ih (i1 + 1) s2
set_option maxRecDepth 20000 in
set_option maxHeartbeats 4000000 in
theorem lt_X7_pairUp_69 {K : Cx} {X : Wx} (O : OKx LC K X yX7_pairUp.cls cX7_pairUp 3) (hrt : (kMe K).sig.returnType = none) (hfr : (kR K).frames = 3) (hlo : (kR K).locals = 84)  {k : St → Rs}  (hk : ∀  (s : St), GX LC K X 3 0 118 [] [] s (k s)) : ∀ (n : Nat) (i1 : Int) (s : St), GX LC K X 3 0 69 [(0, vR 5), (1, vI i1)] [] s (X7_pairUp_69 k n i1 s) := by
  intro n
  induction n with
  | zero => intro i1 s; exact GX.none
  | succ n ih =>
    intro i1 s
    rw [X7_pairUp_69]
    refine g_iload_n O dX7_pairUp_69 rfl 1 rfl ?_
    refine g_if_lt (tgt := 118) O dX7_pairUp_70 (by decide) ?_ ?_
    · refine g_pick [] rfl ?_
      exact hk s
    refine g_aload_n O dX7_pairUp_73 rfl 0 rfl ?_
    refine g_getR O fw_7_63 rfl dX7_pairUp_74 rfl ?_
    refine g_iload_n O dX7_pairUp_77 rfl 1 rfl ?_
    refine g_iald O rfl (by decide) dX7_pairUp_78 (fun v1 => ?_)
    refine g_istore_n (lv2 := [(2, vI v1), (0, vR 5), (1, vI i1)]) O dX7_pairUp_79 rfl (by decide) rfl ?_
    refine g_iload_n O dX7_pairUp_80 rfl 0 rfl ?_
    refine g_bipush O dX7_pairUp_81 (by decide +kernel) ?_
    refine g_icmp_eq (tgt := 112) O dX7_pairUp_83 (by decide) ?_ ?_
    · refine g_iinc (lv2 := [(1, vI (i1 + (-1))), (2, vI v1), (0, vR 5)]) O dX7_pairUp_112 2 rfl (by decide) rfl ?_
      refine g_goto (tgt := 69) O dX7_pairUp_115 (by decide) ?_
      refine g_pick [2, 0] rfl ?_
      exact ih (i1 + (-1)) s
    refine g_aload_n O dX7_pairUp_86 rfl 1 rfl ?_
    refine g_aload_n O dX7_pairUp_87 rfl 1 rfl ?_
    refine g_getR O fw_7_45 rfl dX7_pairUp_88 rfl ?_
    refine g_iload_n O dX7_pairUp_91 rfl 2 rfl ?_
    refine g_callV1 (As := [vI i1]) (rest := [vR 5]) (b := 38) (ci := 6) O mw_3_19 mw_2_157 mw_2_158 mw_2_159 mw_1_4 hd_X6_leftmost rfl ⟨_, _, rfl⟩ rfl dX7_pairUp_92 (ct_X6_leftmost ⟨_, _, rfl⟩ i1 s) (by rw [hfr]; decide) (by rw [hlo]; decide) (Nat.le_of_ble_eq_true rfl) (fun v2 s3 => ?_)
    refine g_iload_n O dX7_pairUp_95 rfl 2 rfl ?_
    refine g_iconst O dX7_pairUp_96 ?_
    refine g_isub O dX7_pairUp_97 ?_
    refine g_aload_n O dX7_pairUp_98 rfl 1 rfl ?_
    refine g_getR O fw_7_49 rfl dX7_pairUp_99 rfl ?_
    refine g_iload_n O dX7_pairUp_102 rfl 0 rfl ?_
    refine g_callV1 (As := [vI v1]) (rest := [vI (i1 - 1), vI v2, vR 5]) (b := 41) (ci := 6) O mw_3_19 mw_2_157 mw_2_158 mw_2_159 mw_1_4 hd_X6_leftmost rfl ⟨_, _, rfl⟩ rfl dX7_pairUp_103 (ct_X6_leftmost ⟨_, _, rfl⟩ v1 s3) (by rw [hfr]; decide) (by rw [hlo]; decide) (Nat.le_of_ble_eq_true rfl) (fun v4 s5 => ?_)
    refine g_iload_n O dX7_pairUp_106 rfl 0 rfl ?_
    refine g_iconst O dX7_pairUp_107 ?_
    refine g_isub O dX7_pairUp_108 ?_
    refine g_callV0 (As := [vI v2, vI (i1 - 1), vI v4, vI (v1 - 1)]) (rest := []) (b := 5) (ci := 7) O mw_3_29 mw_3_31 mp_1_13 mw_3_32 mw_1_2 hd_X7_pairForests rfl ⟨_, _, rfl⟩ rfl dX7_pairUp_109 (ct_X7_pairForests v2 (i1 - 1) v4 (v1 - 1) s5) (by rw [hfr]; decide) (by rw [hlo]; decide) (Nat.le_of_ble_eq_true rfl) (fun _ s7 => ?_)
    refine g_iinc (lv2 := [(1, vI (i1 + (-1))), (2, vI v1), (0, vR 5)]) O dX7_pairUp_112 2 rfl (by decide) rfl ?_
    refine g_goto (tgt := 69) O dX7_pairUp_115 (by decide) ?_
    refine g_pick [2, 0] rfl ?_
    exact ih (i1 + (-1)) s7
theorem hd_X7_pairUp : yX7_pairUp.cls ≠ "java/lang/invoke/MethodHandle" ∧ yX7_pairUp.cls ≠ "java/lang/invoke/VarHandle" ∧ (parseMethodDescriptor yX7_pairUp.desc).map (fun d => d.parameters.length) = some 0 := by decide +kernel
set_option maxRecDepth 20000 in
set_option maxHeartbeats 4000000 in
theorem ct_X7_pairUp   (s : St) : Ctr LC yX7_pairUp cX7_pairUp 3 none 0 3 84 [vR 5] s (X7_pairUp s) := by
  refine Ctr.of (by decide +kernel) (fun ρ => Nat.le_of_ble_eq_true rfl) (lv := [(0, vR 5)]) (fun ρ => rfl) (fun K X O hrt hfr hlo => ?_)
  unfold X7_pairUp
  refine g_aload_n O dX7_pairUp_0 rfl 0 rfl ?_
  refine g_iconst O dX7_pairUp_1 ?_
  refine g_putI O fw_7_22 rfl dX7_pairUp_2 rfl rfl rfl (fun s1 => ?_)
  refine g_iconst O dX7_pairUp_5 ?_
  refine g_istore_n (lv2 := [(1, vI 0), (0, vR 5)]) O dX7_pairUp_6 rfl (by decide) rfl ?_
  refine g_pick [1, 0] rfl ?_
  refine lt_X7_pairUp_7 O hrt hfr hlo  (fun s2 => ?_) FU 0 s1
  refine g_aload_n O dX7_pairUp_35 rfl 0 rfl ?_
  refine g_iconst O dX7_pairUp_36 ?_
  refine g_aload_n O dX7_pairUp_37 rfl 0 rfl ?_
  refine g_getR O fw_7_45 rfl dX7_pairUp_38 rfl ?_
  refine g_getI O fw_7_82 rfl dX7_pairUp_41 rfl ?_
  refine g_iconst O dX7_pairUp_44 ?_
  refine g_isub O dX7_pairUp_45 ?_
  refine g_iconst O dX7_pairUp_46 ?_
  refine g_aload_n O dX7_pairUp_47 rfl 0 rfl ?_
  refine g_getR O fw_7_49 rfl dX7_pairUp_48 rfl ?_
  refine g_getI O fw_7_82 rfl dX7_pairUp_51 rfl ?_
  refine g_iconst O dX7_pairUp_54 ?_
  refine g_isub O dX7_pairUp_55 ?_
  refine g_callV0 (As := [vI 0, vI ((s2 38 0) - 1), vI 0, vI ((s2 41 0) - 1)]) (rest := []) (b := 5) (ci := 7) O mw_3_29 mw_3_31 mp_1_13 mw_3_32 mw_1_2 hd_X7_pairForests rfl ⟨_, _, rfl⟩ rfl dX7_pairUp_56 (ct_X7_pairForests 0 ((s2 38 0) - 1) 0 ((s2 41 0) - 1) s2) (by rw [hfr]; decide) (by rw [hlo]; decide) (Nat.le_of_ble_eq_true rfl) (fun _ s4 => ?_)
  refine g_aload_n O dX7_pairUp_59 rfl 0 rfl ?_
  refine g_getR O fw_7_45 rfl dX7_pairUp_60 rfl ?_
  refine g_getI O fw_7_82 rfl dX7_pairUp_63 rfl ?_
  refine g_iconst O dX7_pairUp_66 ?_
  refine g_isub O dX7_pairUp_67 ?_
  refine g_istore_n (lv2 := [(1, vI ((s4 38 0) - 1)), (0, vR 5)]) O dX7_pairUp_68 rfl (by decide) rfl ?_
  refine g_pick [1, 0] rfl ?_
  refine lt_X7_pairUp_69 O hrt hfr hlo  (fun s5 => ?_) FU ((s4 38 0) - 1) s4
  exact g_vret O hrt dX7_pairUp_118
def X4_append (i1 : Int) (i2 : Int) (i3 : Int) (s : St) : Rs := cLt (s 8 0) 24 (wr s 52 24 (s 8 0) i1 (fun s1 => wr s1 53 24 (s1 8 0) i2 (fun s2 => wr s2 54 24 (s2 8 0) i3 (fun s3 => put s3 8 0 ((s3 8 0) + 1) (fun s4 => some (0, s4)))))) (some (0, s))
theorem hd_X4_append : yX4_append.cls ≠ "java/lang/invoke/MethodHandle" ∧ yX4_append.cls ≠ "java/lang/invoke/VarHandle" ∧ (parseMethodDescriptor yX4_append.desc).map (fun d => d.parameters.length) = some 3 := by decide +kernel
set_option maxRecDepth 20000 in
set_option maxHeartbeats 4000000 in
theorem ct_X4_append  (i1 : Int) (i2 : Int) (i3 : Int) (s : St) : Ctr LC yX4_append cX4_append 4 none 0 0 0 [vR 8, vI i1, vI i2, vI i3] s (X4_append i1 i2 i3 s) := by
  refine Ctr.of (by decide +kernel) (fun ρ => Nat.le_of_ble_eq_true rfl) (lv := [(0, vR 8), (1, vI i1), (2, vI i2), (3, vI i3)]) (fun ρ => rfl) (fun K X O hrt hfr hlo => ?_)
  unfold X4_append
  refine g_aload_n O dX4_append_0 rfl 0 rfl ?_
  refine g_getI O fw_4_9 rfl dX4_append_1 rfl ?_
  refine g_bipush O dX4_append_4 (by decide +kernel) ?_
  refine g_icmp_ge (tgt := 49) O dX4_append_6 (by decide) ?_ ?_
  · exact g_vret O hrt dX4_append_49
  refine g_aload_n O dX4_append_9 rfl 0 rfl ?_
  refine g_getR O fw_4_15 rfl dX4_append_10 rfl ?_
  refine g_aload_n O dX4_append_13 rfl 0 rfl ?_
  refine g_getI O fw_4_9 rfl dX4_append_14 rfl ?_
  refine g_iload_n O dX4_append_17 rfl 1 rfl ?_
  refine g_iast O rfl (by decide) dX4_append_18 (fun s1 => ?_)
  refine g_aload_n O dX4_append_19 rfl 0 rfl ?_
  refine g_getR O fw_4_19 rfl dX4_append_20 rfl ?_
  refine g_aload_n O dX4_append_23 rfl 0 rfl ?_
  refine g_getI O fw_4_9 rfl dX4_append_24 rfl ?_
  refine g_iload_n O dX4_append_27 rfl 2 rfl ?_
  refine g_iast O rfl (by decide) dX4_append_28 (fun s2 => ?_)
  refine g_aload_n O dX4_append_29 rfl 0 rfl ?_
  refine g_getR O fw_4_22 rfl dX4_append_30 rfl ?_
  refine g_aload_n O dX4_append_33 rfl 0 rfl ?_
  refine g_getI O fw_4_9 rfl dX4_append_34 rfl ?_
  refine g_iload_n O dX4_append_37 rfl 3 rfl ?_
  refine g_iast O rfl (by decide) dX4_append_38 (fun s3 => ?_)
  refine g_aload_n O dX4_append_39 rfl 0 rfl ?_
  refine g_dup O dX4_append_40 rfl ?_
  refine g_getI O fw_4_9 rfl dX4_append_41 rfl ?_
  refine g_iconst O dX4_append_44 ?_
  refine g_iadd O dX4_append_45 ?_
  refine g_putI O fw_4_9 rfl dX4_append_46 rfl rfl rfl (fun s4 => ?_)
  exact g_vret O hrt dX4_append_49
def X7_listSteps_10  (k : St → Rs) : Nat → Int → St → Rs
  | 0, _, _ => none
  | n + 1, i1, s => cLt i1 (s 38 0) (rd s 57 12 i1 (fun v1 => cEq v1 (-9) (rd s 55 12 i1 (fun v2 => cl (X4_append 0 i1 v2 s) (fun _ s4 => X7_listSteps_10 k n (i1 + 1) s4))) (X7_listSteps_10 k n (i1 + 1) s))) (k s)
def X7_listSteps_55  (k : St → Rs) : Nat → Int → St → Rs
  | 0, _, _ => none
  | n + 1, i1, s => cLt i1 (s 38 0) (rd s 57 12 i1 (fun v1 => cEq v1 (-9) (X7_listSteps_55 k n (i1 + 1) s) (rd s 39 12 i1 (fun v2 => rd s 42 12 v1 (fun v3 => cEq v2 v3 (X7_listSteps_55 k n (i1 + 1) s) (rdR 12 i1 (fun j4 => rd s (75 + j4) 12 v1 (fun v5 => cl (X4_append 1 i1 v5 s) (fun _ s7 => X7_listSteps_55 k n (i1 + 1) s7))))))))) (k s)
def X7_listSteps_133  (k : St → Rs) : Nat → Int → St → Rs
  | 0, _, _ => none
  | n + 1, i1, s => cLt i1 0 (k s) (rd s 58 12 i1 (fun v1 => cEq v1 (-9) (rd s 56 12 i1 (fun v2 => cl (X4_append 2 i1 v2 s) (fun _ s4 => X7_listSteps_133 k n (i1 + (-1)) s4))) (X7_listSteps_133 k n (i1 + (-1)) s)))
def X7_listSteps  (s : St) : Rs := put s 8 0 0 (fun s1 => X7_listSteps_10  (fun s2 => X7_listSteps_55  (fun s3 => X7_listSteps_133  (fun s4 => some (0, s4)) FU ((s3 41 0) - 1) s3) FU 0 s2) FU 0 s1)
set_option maxRecDepth 20000 in
set_option maxHeartbeats 4000000 in
theorem lt_X7_listSteps_10 {K : Cx} {X : Wx} (O : OKx LC K X yX7_listSteps.cls cX7_listSteps 3) (hrt : (kMe K).sig.returnType = none) (hfr : (kR K).frames = 1) (hlo : (kR K).locals = 23)  {k : St → Rs}  (hk : ∀  (s : St), GX LC K X 3 0 53 [(0, vR 5)] [] s (k s)) : ∀ (n : Nat) (i1 : Int) (s : St), GX LC K X 3 0 10 [(0, vR 5), (1, vI i1)] [] s (X7_listSteps_10 k n i1 s) := by
  intro n
  induction n with
  | zero => intro i1 s; exact GX.none
  | succ n ih =>
    intro i1 s
    rw [X7_listSteps_10]
    refine g_iload_n O dX7_listSteps_10 rfl 1 rfl ?_
    refine g_aload_n O dX7_listSteps_11 rfl 0 rfl ?_
    refine g_getR O fw_7_45 rfl dX7_listSteps_12 rfl ?_
    refine g_getI O fw_7_82 rfl dX7_listSteps_15 rfl ?_
    refine g_icmp_ge (tgt := 53) O dX7_listSteps_18 (by decide) ?_ ?_
    · refine g_pick [0] rfl ?_
      exact hk s
    refine g_aload_n O dX7_listSteps_21 rfl 0 rfl ?_
    refine g_getR O fw_7_63 rfl dX7_listSteps_22 rfl ?_
    refine g_iload_n O dX7_listSteps_25 rfl 1 rfl ?_
    refine g_iald O rfl (by decide) dX7_listSteps_26 (fun v1 => ?_)
    refine g_bipush O dX7_listSteps_27 (by decide +kernel) ?_
    refine g_icmp_ne (tgt := 47) O dX7_listSteps_29 (by decide) ?_ ?_
    · refine g_iinc (lv2 := [(1, vI (i1 + 1)), (0, vR 5)]) O dX7_listSteps_47 1 rfl (by decide) rfl ?_
      refine g_goto (tgt := 10) O dX7_listSteps_50 (by decide) ?_
      refine g_pick [1, 0] rfl ?_
      exact ih (i1 + 1) s
    refine g_aload_n O dX7_listSteps_32 rfl 0 rfl ?_
    refine g_getR O fw_7_29 rfl dX7_listSteps_33 rfl ?_
    refine g_iconst O dX7_listSteps_36 ?_
    refine g_iload_n O dX7_listSteps_37 rfl 1 rfl ?_
    refine g_aload_n O dX7_listSteps_38 rfl 0 rfl ?_
    refine g_getR O fw_7_50 rfl dX7_listSteps_39 rfl ?_
    refine g_iload_n O dX7_listSteps_42 rfl 1 rfl ?_
    refine g_iald O rfl (by decide) dX7_listSteps_43 (fun v2 => ?_)
    refine g_callV0 (As := [vI 0, vI i1, vI v2]) (rest := []) (b := 8) (ci := 4) O mw_3_41 mw_3_42 mw_3_43 mw_3_44 mw_1_5 hd_X4_append rfl ⟨_, _, rfl⟩ rfl dX7_listSteps_44 (ct_X4_append 0 i1 v2 s) (by rw [hfr]; decide) (by rw [hlo]; decide) (Nat.le_of_ble_eq_true rfl) (fun _ s4 => ?_)
    refine g_iinc (lv2 := [(1, vI (i1 + 1)), (0, vR 5)]) O dX7_listSteps_47 1 rfl (by decide) rfl ?_
    refine g_goto (tgt := 10) O dX7_listSteps_50 (by decide) ?_
    refine g_pick [1, 0] rfl ?_
    exact ih (i1 + 1) s4
set_option maxRecDepth 20000 in
set_option maxHeartbeats 4000000 in
theorem lt_X7_listSteps_55 {K : Cx} {X : Wx} (O : OKx LC K X yX7_listSteps.cls cX7_listSteps 3) (hrt : (kMe K).sig.returnType = none) (hfr : (kR K).frames = 1) (hlo : (kR K).locals = 23)  {k : St → Rs}  (hk : ∀  (s : St), GX LC K X 3 0 123 [(0, vR 5)] [] s (k s)) : ∀ (n : Nat) (i1 : Int) (s : St), GX LC K X 3 0 55 [(0, vR 5), (1, vI i1)] [] s (X7_listSteps_55 k n i1 s) := by
  intro n
  induction n with
  | zero => intro i1 s; exact GX.none
  | succ n ih =>
    intro i1 s
    rw [X7_listSteps_55]
    refine g_iload_n O dX7_listSteps_55 rfl 1 rfl ?_
    refine g_aload_n O dX7_listSteps_56 rfl 0 rfl ?_
    refine g_getR O fw_7_45 rfl dX7_listSteps_57 rfl ?_
    refine g_getI O fw_7_82 rfl dX7_listSteps_60 rfl ?_
    refine g_icmp_ge (tgt := 123) O dX7_listSteps_63 (by decide) ?_ ?_
    · refine g_pick [0] rfl ?_
      exact hk s
    refine g_aload_n O dX7_listSteps_66 rfl 0 rfl ?_
    refine g_getR O fw_7_63 rfl dX7_listSteps_67 rfl ?_
    refine g_iload_n O dX7_listSteps_70 rfl 1 rfl ?_
    refine g_iald O rfl (by decide) dX7_listSteps_71 (fun v1 => ?_)
    refine g_istore_n (lv2 := [(2, vI v1), (0, vR 5), (1, vI i1)]) O dX7_listSteps_72 rfl (by decide) rfl ?_
    refine g_iload_n O dX7_listSteps_73 rfl 0 rfl ?_
    refine g_bipush O dX7_listSteps_74 (by decide +kernel) ?_
    refine g_icmp_eq (tgt := 117) O dX7_listSteps_76 (by decide) ?_ ?_
    · refine g_iinc (lv2 := [(1, vI (i1 + 1)), (2, vI v1), (0, vR 5)]) O dX7_listSteps_117 2 rfl (by decide) rfl ?_
      refine g_goto (tgt := 55) O dX7_listSteps_120 (by decide) ?_
      refine g_pick [2, 0] rfl ?_
      exact ih (i1 + 1) s
    refine g_aload_n O dX7_listSteps_79 rfl 1 rfl ?_
    refine g_getR O fw_7_45 rfl dX7_listSteps_80 rfl ?_
    refine g_getR O fw_7_102 rfl dX7_listSteps_83 rfl ?_
    refine g_iload_n O dX7_listSteps_86 rfl 2 rfl ?_
    refine g_iald O rfl (by decide) dX7_listSteps_87 (fun v2 => ?_)
    refine g_aload_n O dX7_listSteps_88 rfl 1 rfl ?_
    refine g_getR O fw_7_49 rfl dX7_listSteps_89 rfl ?_
    refine g_getR O fw_7_102 rfl dX7_listSteps_92 rfl ?_
    refine g_iload_n O dX7_listSteps_95 rfl 0 rfl ?_
    refine g_iald O rfl (by decide) dX7_listSteps_96 (fun v3 => ?_)
    refine g_icmp_eq (tgt := 117) O dX7_listSteps_97 (by decide) ?_ ?_
    · refine g_iinc (lv2 := [(1, vI (i1 + 1)), (2, vI v1), (0, vR 5)]) O dX7_listSteps_117 2 rfl (by decide) rfl ?_
      refine g_goto (tgt := 55) O dX7_listSteps_120 (by decide) ?_
      refine g_pick [2, 0] rfl ?_
      exact ih (i1 + 1) s
    refine g_aload_n O dX7_listSteps_100 rfl 1 rfl ?_
    refine g_getR O fw_7_29 rfl dX7_listSteps_101 rfl ?_
    refine g_iconst O dX7_listSteps_104 ?_
    refine g_iload_n O dX7_listSteps_105 rfl 2 rfl ?_
    refine g_aload_n O dX7_listSteps_106 rfl 1 rfl ?_
    refine g_getR O fw_7_38 rfl dX7_listSteps_107 rfl ?_
    refine g_iload_n O dX7_listSteps_110 rfl 2 rfl ?_
    refine g_aald (g := fun j => 75 + j) O rfl (by decide) (by decide) (by decide) el_60 dX7_listSteps_111 (fun j4 hj1 => ?_)
    refine g_iload_n O dX7_listSteps_112 rfl 0 rfl ?_
    refine g_iald O (elc_60 hj1) (by decide) dX7_listSteps_113 (fun v5 => ?_)
    refine g_callV0 (As := [vI 1, vI i1, vI v5]) (rest := []) (b := 8) (ci := 4) O mw_3_41 mw_3_42 mw_3_43 mw_3_44 mw_1_5 hd_X4_append rfl ⟨_, _, rfl⟩ rfl dX7_listSteps_114 (ct_X4_append 1 i1 v5 s) (by rw [hfr]; decide) (by rw [hlo]; decide) (Nat.le_of_ble_eq_true rfl) (fun _ s7 => ?_)
    refine g_iinc (lv2 := [(1, vI (i1 + 1)), (2, vI v1), (0, vR 5)]) O dX7_listSteps_117 2 rfl (by decide) rfl ?_
    refine g_goto (tgt := 55) O dX7_listSteps_120 (by decide) ?_
    refine g_pick [2, 0] rfl ?_
    exact ih (i1 + 1) s7
set_option maxRecDepth 20000 in
set_option maxHeartbeats 4000000 in
theorem lt_X7_listSteps_133 {K : Cx} {X : Wx} (O : OKx LC K X yX7_listSteps.cls cX7_listSteps 3) (hrt : (kMe K).sig.returnType = none) (hfr : (kR K).frames = 1) (hlo : (kR K).locals = 23)  {k : St → Rs}  (hk : ∀  (s : St), GX LC K X 3 0 169 [] [] s (k s)) : ∀ (n : Nat) (i1 : Int) (s : St), GX LC K X 3 0 133 [(0, vR 5), (1, vI i1)] [] s (X7_listSteps_133 k n i1 s) := by
  intro n
  induction n with
  | zero => intro i1 s; exact GX.none
  | succ n ih =>
    intro i1 s
    rw [X7_listSteps_133]
    refine g_iload_n O dX7_listSteps_133 rfl 1 rfl ?_
    refine g_if_lt (tgt := 169) O dX7_listSteps_134 (by decide) ?_ ?_
    · refine g_pick [] rfl ?_
      exact hk s
    refine g_aload_n O dX7_listSteps_137 rfl 0 rfl ?_
    refine g_getR O fw_7_66 rfl dX7_listSteps_138 rfl ?_
    refine g_iload_n O dX7_listSteps_141 rfl 1 rfl ?_
    refine g_iald O rfl (by decide) dX7_listSteps_142 (fun v1 => ?_)
    refine g_bipush O dX7_listSteps_143 (by decide +kernel) ?_
    refine g_icmp_ne (tgt := 163) O dX7_listSteps_145 (by decide) ?_ ?_
    · refine g_iinc (lv2 := [(1, vI (i1 + (-1))), (0, vR 5)]) O dX7_listSteps_163 1 rfl (by decide) rfl ?_
      refine g_goto (tgt := 133) O dX7_listSteps_166 (by decide) ?_
      refine g_pick [1, 0] rfl ?_
      exact ih (i1 + (-1)) s
    refine g_aload_n O dX7_listSteps_148 rfl 0 rfl ?_
    refine g_getR O fw_7_29 rfl dX7_listSteps_149 rfl ?_
    refine g_iconst O dX7_listSteps_152 ?_
    refine g_iload_n O dX7_listSteps_153 rfl 1 rfl ?_
    refine g_aload_n O dX7_listSteps_154 rfl 0 rfl ?_
    refine g_getR O fw_7_54 rfl dX7_listSteps_155 rfl ?_
    refine g_iload_n O dX7_listSteps_158 rfl 1 rfl ?_
    refine g_iald O rfl (by decide) dX7_listSteps_159 (fun v2 => ?_)
    refine g_callV0 (As := [vI 2, vI i1, vI v2]) (rest := []) (b := 8) (ci := 4) O mw_3_41 mw_3_42 mw_3_43 mw_3_44 mw_1_5 hd_X4_append rfl ⟨_, _, rfl⟩ rfl dX7_listSteps_160 (ct_X4_append 2 i1 v2 s) (by rw [hfr]; decide) (by rw [hlo]; decide) (Nat.le_of_ble_eq_true rfl) (fun _ s4 => ?_)
    refine g_iinc (lv2 := [(1, vI (i1 + (-1))), (0, vR 5)]) O dX7_listSteps_163 1 rfl (by decide) rfl ?_
    refine g_goto (tgt := 133) O dX7_listSteps_166 (by decide) ?_
    refine g_pick [1, 0] rfl ?_
    exact ih (i1 + (-1)) s4
theorem hd_X7_listSteps : yX7_listSteps.cls ≠ "java/lang/invoke/MethodHandle" ∧ yX7_listSteps.cls ≠ "java/lang/invoke/VarHandle" ∧ (parseMethodDescriptor yX7_listSteps.desc).map (fun d => d.parameters.length) = some 0 := by decide +kernel
set_option maxRecDepth 20000 in
set_option maxHeartbeats 4000000 in
theorem ct_X7_listSteps   (s : St) : Ctr LC yX7_listSteps cX7_listSteps 3 none 0 1 23 [vR 5] s (X7_listSteps s) := by
  refine Ctr.of (by decide +kernel) (fun ρ => Nat.le_of_ble_eq_true rfl) (lv := [(0, vR 5)]) (fun ρ => rfl) (fun K X O hrt hfr hlo => ?_)
  unfold X7_listSteps
  refine g_aload_n O dX7_listSteps_0 rfl 0 rfl ?_
  refine g_getR O fw_7_29 rfl dX7_listSteps_1 rfl ?_
  refine g_iconst O dX7_listSteps_4 ?_
  refine g_putI O fw_7_127 rfl dX7_listSteps_5 rfl rfl rfl (fun s1 => ?_)
  refine g_iconst O dX7_listSteps_8 ?_
  refine g_istore_n (lv2 := [(1, vI 0), (0, vR 5)]) O dX7_listSteps_9 rfl (by decide) rfl ?_
  refine g_pick [1, 0] rfl ?_
  refine lt_X7_listSteps_10 O hrt hfr hlo  (fun s2 => ?_) FU 0 s1
  refine g_iconst O dX7_listSteps_53 ?_
  refine g_istore_n (lv2 := [(1, vI 0), (0, vR 5)]) O dX7_listSteps_54 rfl (by decide) rfl ?_
  refine g_pick [1, 0] rfl ?_
  refine lt_X7_listSteps_55 O hrt hfr hlo  (fun s3 => ?_) FU 0 s2
  refine g_aload_n O dX7_listSteps_123 rfl 0 rfl ?_
  refine g_getR O fw_7_49 rfl dX7_listSteps_124 rfl ?_
  refine g_getI O fw_7_82 rfl dX7_listSteps_127 rfl ?_
  refine g_iconst O dX7_listSteps_130 ?_
  refine g_isub O dX7_listSteps_131 ?_
  refine g_istore_n (lv2 := [(1, vI ((s3 41 0) - 1)), (0, vR 5)]) O dX7_listSteps_132 rfl (by decide) rfl ?_
  refine g_pick [1, 0] rfl ?_
  refine lt_X7_listSteps_133 O hrt hfr hlo  (fun s4 => ?_) FU ((s3 41 0) - 1) s3
  exact g_vret O hrt dX7_listSteps_169
