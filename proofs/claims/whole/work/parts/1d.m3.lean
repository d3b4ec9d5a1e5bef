def X8_turn  (s : St) : Rs := cl (X3_isWhole s) (fun v1 s2 => cEq v1 0 (some ((-4), s2)) (cLt (s2 30 0) 40 (cl (X8_record s2) (fun _ s4 => cl (X8_exchange s4) (fun _ s6 => some (s6 38 0, s6)))) (some ((-2), s2))))
theorem hd_X8_turn : yX8_turn.cls ≠ "java/lang/invoke/MethodHandle" ∧ yX8_turn.cls ≠ "java/lang/invoke/VarHandle" ∧ (parseMethodDescriptor yX8_turn.desc).map (fun d => d.parameters.length) = some 0 := by decide +kernel
set_option maxRecDepth 20000 in
set_option maxHeartbeats 4000000 in
theorem ct_X8_turn   (s : St) : Ctr LC yX8_turn cX8_turn 1 (Option.some .int) 1 4 89 [vR 0] s (X8_turn s) := by
  refine Ctr.of (by decide +kernel) (fun ρ => Nat.le_of_ble_eq_true rfl) (lv := [(0, vR 0)]) (fun ρ => rfl) (fun K X O hrt hfr hlo => ?_)
  unfold X8_turn
  refine g_aload_n O dX8_turn_0 rfl 0 rfl ?_
  refine g_getR O fw_8_32 rfl dX8_turn_1 rfl ?_
  refine g_callV1 (As := []) (rest := []) (b := 6) (ci := 3) O mw_2_228 mw_2_229 mw_2_230 mw_2_231 mw_1_3 hd_X3_isWhole rfl ⟨_, _, rfl⟩ rfl dX8_turn_4 (ct_X3_isWhole  s) (by rw [hfr]; decide) (by rw [hlo]; decide) (Nat.le_of_ble_eq_true rfl) (fun v1 s2 => ?_)
  refine g_if_ne (tgt := 13) O dX8_turn_7 (by decide) ?_ ?_
  · refine g_aload_n O dX8_turn_13 rfl 0 rfl ?_
    refine g_getR O fw_8_38 rfl dX8_turn_14 rfl ?_
    refine g_getI O fw_8_139 rfl dX8_turn_17 rfl ?_
    refine g_bipush O dX8_turn_20 (by decide +kernel) ?_
    refine g_icmp_lt (tgt := 28) O dX8_turn_22 (by decide) ?_ ?_
    · refine g_aload_n O dX8_turn_28 rfl 0 rfl ?_
      refine g_callV0 (As := []) (rest := []) (b := 0) (ci := 8) O mw_3_117 mw_3_119 mp_2_2 mw_3_120 mw_1_1 hd_X8_record rfl ⟨_, _, rfl⟩ rfl dX8_turn_29 (ct_X8_record  s2) (by rw [hfr]; decide) (by rw [hlo]; decide) (Nat.le_of_ble_eq_true rfl) (fun _ s4 => ?_)
      refine g_aload_n O dX8_turn_32 rfl 0 rfl ?_
      refine g_callV0 (As := []) (rest := []) (b := 0) (ci := 8) O mw_3_163 mw_3_165 mp_2_4 mw_3_166 mw_1_1 hd_X8_exchange rfl ⟨_, _, rfl⟩ rfl dX8_turn_33 (ct_X8_exchange  s4) (by rw [hfr]; decide) (by rw [hlo]; decide) (Nat.le_of_ble_eq_true rfl) (fun _ s6 => ?_)
      refine g_aload_n O dX8_turn_36 rfl 0 rfl ?_
      refine g_getR O fw_8_32 rfl dX8_turn_37 rfl ?_
      refine g_getR O fw_8_216 rfl dX8_turn_40 rfl ?_
      refine g_getI O fw_8_142 rfl dX8_turn_43 rfl ?_
      exact g_iret O hrt rfl dX8_turn_46
    refine g_bipush O dX8_turn_25 (by decide +kernel) ?_
    exact g_iret O hrt rfl dX8_turn_27
  refine g_bipush O dX8_turn_10 (by decide +kernel) ?_
  exact g_iret O hrt rfl dX8_turn_12
def X3_unpackTree_9 (a0 : Nat) (a1 : Nat) (i2 : Int) (k : St → Rs) : Nat → Int → St → Rs
  | 0, _, _ => none
  | n + 1, i3, s => cLt i3 (s a0 0) (rd s a1 (ln LC a1) ((i2 + 1) + i3) (fun v1 => wr s (a0 + 1) 12 i3 (oShr v1 4) (fun s2 => rd s2 a1 (ln LC a1) ((i2 + 1) + i3) (fun v3 => wr s2 (a0 + 2) 12 i3 (oAnd v3 15) (fun s4 => X3_unpackTree_9 a0 a1 i2 k n (i3 + 1) s4))))) (k s)
def X3_unpackTree (a0 : Nat) (a1 : Nat) (i2 : Int) (s : St) : Rs := rd s a1 (ln LC a1) i2 (fun v1 => put s a0 0 v1 (fun s2 => X3_unpackTree_9 a0 a1 i2 (fun s3 => some (0, s3)) FU 0 s2))
set_option maxRecDepth 20000 in
set_option maxHeartbeats 4000000 in
theorem lt_X3_unpackTree_9 {K : Cx} {X : Wx} (O : OKx LC K X yX3_unpackTree.cls cX3_unpackTree 4) (hrt : (kMe K).sig.returnType = none) (hfr : (kR K).frames = 0) (hlo : (kR K).locals = 0) {a0 : Nat} {a1 : Nat} {i2 : Int} {k : St → Rs} (ha0 : Kd LC a0 16) (ha1 : Kd LC a1 0) (hk : ∀  (s : St), GX LC K X 4 0 54 [] [] s (k s)) : ∀ (n : Nat) (i3 : Int) (s : St), GX LC K X 4 0 9 [(0, vR a0), (1, vR a1), (2, vI i2), (3, vI i3)] [] s (X3_unpackTree_9 a0 a1 i2 k n i3 s) := by
  obtain ⟨fsa1, hf1⟩ := ha1.at
  intro n
  induction n with
  | zero => intro i3 s; exact GX.none
  | succ n ih =>
    intro i3 s
    rw [X3_unpackTree_9]
    refine g_iload_n O dX3_unpackTree_9 rfl 3 rfl ?_
    refine g_aload_n O dX3_unpackTree_10 rfl 0 rfl ?_
    refine g_getI O fw_3_25 (tree_c ha0) dX3_unpackTree_11 rfl ?_
    refine g_icmp_ge (tgt := 54) O dX3_unpackTree_14 (by decide) ?_ ?_
    · refine g_pick [] rfl ?_
      exact hk s
    refine g_aload_n O dX3_unpackTree_17 rfl 0 rfl ?_
    refine g_getR O fw_3_58 (tree_c ha0) dX3_unpackTree_18 rfl ?_
    refine g_iload_n O dX3_unpackTree_21 rfl 3 rfl ?_
    refine g_aload_n O dX3_unpackTree_22 rfl 1 rfl ?_
    refine g_iload_n O dX3_unpackTree_23 rfl 2 rfl ?_
    refine g_iconst O dX3_unpackTree_24 ?_
    refine g_iadd O dX3_unpackTree_25 ?_
    refine g_iload_n O dX3_unpackTree_26 rfl 3 rfl ?_
    refine g_iadd O dX3_unpackTree_27 ?_
    refine g_iald O hf1 (Nat.le_succ_of_le (ln_leC _)) dX3_unpackTree_28 (fun v1 => ?_)
    refine g_iconst O dX3_unpackTree_29 ?_
    refine g_ishr O dX3_unpackTree_30 ?_
    refine g_iast O (tree_1 ha0) (by decide) dX3_unpackTree_31 (fun s2 => ?_)
    refine g_aload_n O dX3_unpackTree_32 rfl 0 rfl ?_
    refine g_getR O fw_3_61 (tree_c ha0) dX3_unpackTree_33 rfl ?_
    refine g_iload_n O dX3_unpackTree_36 rfl 3 rfl ?_
    refine g_aload_n O dX3_unpackTree_37 rfl 1 rfl ?_
    refine g_iload_n O dX3_unpackTree_38 rfl 2 rfl ?_
    refine g_iconst O dX3_unpackTree_39 ?_
    refine g_iadd O dX3_unpackTree_40 ?_
    refine g_iload_n O dX3_unpackTree_41 rfl 3 rfl ?_
    refine g_iadd O dX3_unpackTree_42 ?_
    refine g_iald O hf1 (Nat.le_succ_of_le (ln_leC _)) dX3_unpackTree_43 (fun v3 => ?_)
    refine g_bipush O dX3_unpackTree_44 (by decide +kernel) ?_
    refine g_iand O dX3_unpackTree_46 ?_
    refine g_iast O (tree_2 ha0) (by decide) dX3_unpackTree_47 (fun s4 => ?_)
    refine g_iinc (lv2 := [(3, vI (i3 + 1)), (0, vR a0), (1, vR a1), (2, vI i2)]) O dX3_unpackTree_48 3 rfl (by decide) rfl ?_
    refine g_goto (tgt := 9) O dX3_unpackTree_51 (by decide) ?_
    refine g_pick [1, 2, 3, 0] rfl ?_
    exact ih (i3 + 1) s4
theorem hd_X3_unpackTree : yX3_unpackTree.cls ≠ "java/lang/invoke/MethodHandle" ∧ yX3_unpackTree.cls ≠ "java/lang/invoke/VarHandle" ∧ (parseMethodDescriptor yX3_unpackTree.desc).map (fun d => d.parameters.length) = some 3 := by decide +kernel
set_option maxRecDepth 20000 in
set_option maxHeartbeats 4000000 in
theorem ct_X3_unpackTree {a0 : Nat} (ha0 : Kd LC a0 16) {a1 : Nat} (ha1 : Kd LC a1 0) (i2 : Int) (s : St) : Ctr LC yX3_unpackTree cX3_unpackTree 4 none 0 0 0 [vR a0, vR a1, vI i2] s (X3_unpackTree a0 a1 i2 s) := by
  obtain ⟨fs1, hf1⟩ := ha1.at
  refine Ctr.of (by decide +kernel) (fun ρ => Nat.le_of_ble_eq_true rfl) (lv := [(0, vR a0), (1, vR a1), (2, vI i2)]) (fun ρ => rfl) (fun K X O hrt hfr hlo => ?_)
  unfold X3_unpackTree
  refine g_aload_n O dX3_unpackTree_0 rfl 0 rfl ?_
  refine g_aload_n O dX3_unpackTree_1 rfl 1 rfl ?_
  refine g_iload_n O dX3_unpackTree_2 rfl 2 rfl ?_
  refine g_iald O hf1 (Nat.le_succ_of_le (ln_leC _)) dX3_unpackTree_3 (fun v1 => ?_)
  refine g_putI O fw_3_25 (tree_c ha0) dX3_unpackTree_4 rfl rfl rfl (fun s2 => ?_)
  refine g_iconst O dX3_unpackTree_7 ?_
  refine g_istore_n (lv2 := [(3, vI 0), (0, vR a0), (1, vR a1), (2, vI i2)]) O dX3_unpackTree_8 rfl (by decide) rfl ?_
  refine g_pick [1, 2, 3, 0] rfl ?_
  refine lt_X3_unpackTree_9 O hrt hfr hlo ha0 ha1 (fun s3 => ?_) FU 0 s2
  exact g_vret O hrt dX3_unpackTree_54
def X3_unpack (a1 : Nat) (i2 : Int) (s : St) : Rs := cpA s a1 (ln LC a1) i2 7 3 0 3 (fun s1 => cl (X3_unpackTree 38 a1 (i2 + 3) s1) (fun _ s3 => cl (X3_unpackTree 41 a1 ((i2 + 3) + 13) s3) (fun _ s5 => some (0, s5))))
theorem hd_X3_unpack : yX3_unpack.cls ≠ "java/lang/invoke/MethodHandle" ∧ yX3_unpack.cls ≠ "java/lang/invoke/VarHandle" ∧ (parseMethodDescriptor yX3_unpack.desc).map (fun d => d.parameters.length) = some 2 := by decide +kernel
set_option maxRecDepth 20000 in
set_option maxHeartbeats 4000000 in
theorem ct_X3_unpack {a1 : Nat} (ha1 : Kd LC a1 0) (i2 : Int) (s : St) : Ctr LC yX3_unpack cX3_unpack 3 none 0 1 26 [vR 6, vR a1, vI i2] s (X3_unpack a1 i2 s) := by
  obtain ⟨fs1, hf1⟩ := ha1.at
  refine Ctr.of (by decide +kernel) (fun ρ => Nat.le_of_ble_eq_true rfl) (lv := [(0, vR 6), (1, vR a1), (2, vI i2)]) (fun ρ => rfl) (fun K X O hrt hfr hlo => ?_)
  unfold X3_unpack
  refine g_aload_n O dX3_unpack_0 rfl 1 rfl ?_
  refine g_iload_n O dX3_unpack_1 rfl 2 rfl ?_
  refine g_aload_n O dX3_unpack_2 rfl 0 rfl ?_
  refine g_getR O fw_3_21 rfl dX3_unpack_3 rfl ?_
  refine g_iconst O dX3_unpack_6 ?_
  refine g_iconst O dX3_unpack_7 ?_
  refine g_copy O mw_3_129 mw_2_69 mw_2_68 mw_1_11 hf1 rfl (ln_leC _) (by decide) (by rw [hfr]; decide) (by rw [hlo]; exact Nat.le_of_ble_eq_true rfl) dX3_unpack_8 (fun s1 => ?_)
  refine g_aload_n O dX3_unpack_11 rfl 0 rfl ?_
  refine g_getR O fw_3_14 rfl dX3_unpack_12 rfl ?_
  refine g_aload_n O dX3_unpack_15 rfl 1 rfl ?_
  refine g_iload_n O dX3_unpack_16 rfl 2 rfl ?_
  refine g_iconst O dX3_unpack_17 ?_
  refine g_iadd O dX3_unpack_18 ?_
  refine g_callS0 (As := [vR 38, vR a1, vI (i2 + 3)]) (rest := []) O mw_3_183 mw_3_184 mw_3_185 mw_1_3 hd_X3_unpackTree rfl dX3_unpack_19 (ct_X3_unpackTree ⟨_, _, rfl⟩ ha1 (i2 + 3) s1) (by rw [hfr]; decide) (by rw [hlo]; decide) (Nat.le_of_ble_eq_true rfl) (fun _ s3 => ?_)
  refine g_aload_n O dX3_unpack_22 rfl 0 rfl ?_
  refine g_getR O fw_3_18 rfl dX3_unpack_23 rfl ?_
  refine g_aload_n O dX3_unpack_26 rfl 1 rfl ?_
  refine g_iload_n O dX3_unpack_27 rfl 2 rfl ?_
  refine g_iconst O dX3_unpack_28 ?_
  refine g_iadd O dX3_unpack_29 ?_
  refine g_bipush O dX3_unpack_30 (by decide +kernel) ?_
  refine g_iadd O dX3_unpack_32 ?_
  refine g_callS0 (As := [vR 41, vR a1, vI ((i2 + 3) + 13)]) (rest := []) O mw_3_183 mw_3_184 mw_3_185 mw_1_3 hd_X3_unpackTree rfl dX3_unpack_33 (ct_X3_unpackTree ⟨_, _, rfl⟩ ha1 ((i2 + 3) + 13) s3) (by rw [hfr]; decide) (by rw [hlo]; decide) (Nat.le_of_ble_eq_true rfl) (fun _ s5 => ?_)
  exact g_vret O hrt dX3_unpack_36
def X0_give (a0 : Nat) (s : St) : Rs := cLt (s a0 0) 0 (some (0, s)) (cLt 40 (s a0 0) (some (0, s)) (cl (X3_unpack (a0 + 1) ((s a0 0) * 29) s) (fun _ s2 => some (0, s2))))
theorem hd_X0_give : yX0_give.cls ≠ "java/lang/invoke/MethodHandle" ∧ yX0_give.cls ≠ "java/lang/invoke/VarHandle" ∧ (parseMethodDescriptor yX0_give.desc).map (fun d => d.parameters.length) = some 1 := by decide +kernel
set_option maxRecDepth 20000 in
set_option maxHeartbeats 4000000 in
theorem ct_X0_give {a0 : Nat} (ha0 : Kd LC a0 10)  (s : St) : Ctr LC yX0_give cX0_give 2 none 0 2 48 [vR a0, vR 6] s (X0_give a0 s) := by
  refine Ctr.of (by decide +kernel) (fun ρ => Nat.le_of_ble_eq_true rfl) (lv := [(0, vR a0), (1, vR 6)]) (fun ρ => rfl) (fun K X O hrt hfr hlo => ?_)
  unfold X0_give
  refine g_aload_n O dX0_give_0 rfl 0 rfl ?_
  refine g_getI O fw_0_17 (log_c ha0) dX0_give_1 rfl ?_
  refine g_if_lt (tgt := 31) O dX0_give_4 (by decide) ?_ ?_
  · exact g_vret O hrt dX0_give_31
  refine g_aload_n O dX0_give_7 rfl 0 rfl ?_
  refine g_getI O fw_0_17 (log_c ha0) dX0_give_8 rfl ?_
  refine g_bipush O dX0_give_11 (by decide +kernel) ?_
  refine g_icmp_gt (tgt := 31) O dX0_give_13 (by decide) ?_ ?_
  · exact g_vret O hrt dX0_give_31
  refine g_aload_n O dX0_give_16 rfl 1 rfl ?_
  refine g_aload_n O dX0_give_17 rfl 0 rfl ?_
  refine g_getR O fw_0_11 (log_c ha0) dX0_give_18 rfl ?_
  refine g_aload_n O dX0_give_21 rfl 0 rfl ?_
  refine g_getI O fw_0_17 (log_c ha0) dX0_give_22 rfl ?_
  refine g_bipush O dX0_give_25 (by decide +kernel) ?_
  refine g_imul O dX0_give_27 ?_
  refine g_callV0 (As := [vR (a0 + 1), vI ((s a0 0) * 29)]) (rest := []) (b := 6) (ci := 3) O mw_3_179 mw_3_180 mw_3_181 mw_3_182 mw_1_3 hd_X3_unpack rfl ⟨_, _, rfl⟩ rfl dX0_give_28 (ct_X3_unpack ⟨_, _, log_1 ha0⟩ ((s a0 0) * 29) s) (by rw [hfr]; decide) (by rw [hlo]; decide) (Nat.le_of_ble_eq_true rfl) (fun _ s2 => ?_)
  exact g_vret O hrt dX0_give_31
def X8_restore  (s : St) : Rs := cl (X0_give 30 s) (fun _ s2 => put s2 5 1 1 (fun s3 => some (0, s3)))
theorem hd_X8_restore : yX8_restore.cls ≠ "java/lang/invoke/MethodHandle" ∧ yX8_restore.cls ≠ "java/lang/invoke/VarHandle" ∧ (parseMethodDescriptor yX8_restore.desc).map (fun d => d.parameters.length) = some 0 := by decide +kernel
set_option maxRecDepth 20000 in
set_option maxHeartbeats 4000000 in
theorem ct_X8_restore   (s : St) : Ctr LC yX8_restore cX8_restore 1 none 0 3 69 [vR 0] s (X8_restore s) := by
  refine Ctr.of (by decide +kernel) (fun ρ => Nat.le_of_ble_eq_true rfl) (lv := [(0, vR 0)]) (fun ρ => rfl) (fun K X O hrt hfr hlo => ?_)
  unfold X8_restore
  refine g_aload_n O dX8_restore_0 rfl 0 rfl ?_
  refine g_getR O fw_8_38 rfl dX8_restore_1 rfl ?_
  refine g_aload_n O dX8_restore_4 rfl 0 rfl ?_
  refine g_getR O fw_8_32 rfl dX8_restore_5 rfl ?_
  refine g_callV0 (As := [vR 6]) (rest := []) (b := 30) (ci := 0) O mw_3_175 mw_3_176 mw_3_177 mw_3_178 mw_1_6 hd_X0_give rfl ⟨_, _, rfl⟩ rfl dX8_restore_8 (ct_X0_give ⟨_, _, rfl⟩  s) (by rw [hfr]; decide) (by rw [hlo]; decide) (Nat.le_of_ble_eq_true rfl) (fun _ s2 => ?_)
  refine g_aload_n O dX8_restore_11 rfl 0 rfl ?_
  refine g_getR O fw_8_24 rfl dX8_restore_12 rfl ?_
  refine g_iconst O dX8_restore_15 ?_
  refine g_putI O fw_8_135 rfl dX8_restore_16 rfl (by decide +kernel) rfl (fun s3 => ?_)
  exact g_vret O hrt dX8_restore_19
def X8_undo (i1 : Int) (s : St) : Rs := cLt i1 0 (some ((-1), s)) (cLt (s 30 0) i1 (some ((-1), s)) (cLt 0 ((s 30 0) - i1) (put s 30 0 i1 (fun s1 => cl (X8_restore s1) (fun _ s3 => some ((s 30 0) - i1, s3)))) (some ((s 30 0) - i1, s))))
theorem hd_X8_undo : yX8_undo.cls ≠ "java/lang/invoke/MethodHandle" ∧ yX8_undo.cls ≠ "java/lang/invoke/VarHandle" ∧ (parseMethodDescriptor yX8_undo.desc).map (fun d => d.parameters.length) = some 1 := by decide +kernel
set_option maxRecDepth 20000 in
set_option maxHeartbeats 4000000 in
theorem ct_X8_undo  (i1 : Int) (s : St) : Ctr LC yX8_undo cX8_undo 3 (Option.some .int) 1 4 89 [vR 0, vI i1] s (X8_undo i1 s) := by
  refine Ctr.of (by decide +kernel) (fun ρ => Nat.le_of_ble_eq_true rfl) (lv := [(0, vR 0), (1, vI i1)]) (fun ρ => rfl) (fun K X O hrt hfr hlo => ?_)
  unfold X8_undo
  refine g_iload_n O dX8_undo_0 rfl 1 rfl ?_
  refine g_if_lt (tgt := 15) O dX8_undo_1 (by decide) ?_ ?_
  · refine g_iconst O dX8_undo_15 ?_
    exact g_iret O hrt rfl dX8_undo_16
  refine g_iload_n O dX8_undo_4 rfl 1 rfl ?_
  refine g_aload_n O dX8_undo_5 rfl 0 rfl ?_
  refine g_getR O fw_8_38 rfl dX8_undo_6 rfl ?_
  refine g_getI O fw_8_139 rfl dX8_undo_9 rfl ?_
  refine g_icmp_le (tgt := 17) O dX8_undo_12 (by decide) ?_ ?_
  · refine g_aload_n O dX8_undo_17 rfl 0 rfl ?_
    refine g_getR O fw_8_38 rfl dX8_undo_18 rfl ?_
    refine g_getI O fw_8_139 rfl dX8_undo_21 rfl ?_
    refine g_iload_n O dX8_undo_24 rfl 1 rfl ?_
    refine g_isub O dX8_undo_25 ?_
    refine g_istore_n (lv2 := [(2, vI ((s 30 0) - i1)), (0, vR 0), (1, vI i1)]) O dX8_undo_26 rfl (by decide) rfl ?_
    refine g_iload_n O dX8_undo_27 rfl 0 rfl ?_
    refine g_if_le (tgt := 43) O dX8_undo_28 (by decide) ?_ ?_
    · refine g_iload_n O dX8_undo_43 rfl 0 rfl ?_
      exact g_iret O hrt rfl dX8_undo_44
    refine g_aload_n O dX8_undo_31 rfl 1 rfl ?_
    refine g_getR O fw_8_38 rfl dX8_undo_32 rfl ?_
    refine g_iload_n O dX8_undo_35 rfl 2 rfl ?_
    refine g_putI O fw_8_139 rfl dX8_undo_36 rfl rfl rfl (fun s1 => ?_)
    refine g_aload_n O dX8_undo_39 rfl 1 rfl ?_
    refine g_callV0 (As := []) (rest := []) (b := 0) (ci := 8) O mw_3_171 mw_3_173 mp_2_5 mw_3_174 mw_1_1 hd_X8_restore rfl ⟨_, _, rfl⟩ rfl dX8_undo_40 (ct_X8_restore  s1) (by rw [hfr]; decide) (by rw [hlo]; decide) (Nat.le_of_ble_eq_true rfl) (fun _ s3 => ?_)
    refine g_iload_n O dX8_undo_43 rfl 0 rfl ?_
    exact g_iret O hrt rfl dX8_undo_44
  refine g_iconst O dX8_undo_15 ?_
  exact g_iret O hrt rfl dX8_undo_16
def X8_noPlace (i0 : Int) (s : St) : Rs := cLt i0 0 (some (1, s)) (cLt i0 3 (some (0, s)) (some (1, s)))
theorem hd_X8_noPlace : yX8_noPlace.cls ≠ "java/lang/invoke/MethodHandle" ∧ yX8_noPlace.cls ≠ "java/lang/invoke/VarHandle" ∧ (parseMethodDescriptor yX8_noPlace.desc).map (fun d => d.parameters.length) = some 1 := by decide +kernel
set_option maxRecDepth 20000 in
set_option maxHeartbeats 4000000 in
theorem ct_X8_noPlace  (i0 : Int) (s : St) : Ctr LC yX8_noPlace cX8_noPlace 1 (Option.some .boolean) 1 0 0 [vI i0] s (X8_noPlace i0 s) := by
  refine Ctr.of (by decide +kernel) (fun ρ => Nat.le_of_ble_eq_true rfl) (lv := [(0, vI i0)]) (fun ρ => rfl) (fun K X O hrt hfr hlo => ?_)
  unfold X8_noPlace
  refine g_iload_n O dX8_noPlace_0 rfl 0 rfl ?_
  refine g_if_lt (tgt := 9) O dX8_noPlace_1 (by decide) ?_ ?_
  · refine g_iconst O dX8_noPlace_9 ?_
    refine g_goto (tgt := 14) O dX8_noPlace_10 (by decide) ?_
    exact g_iret O hrt (by decide +kernel) dX8_noPlace_14
  refine g_iload_n O dX8_noPlace_4 rfl 0 rfl ?_
  refine g_iconst O dX8_noPlace_5 ?_
  refine g_icmp_lt (tgt := 13) O dX8_noPlace_6 (by decide) ?_ ?_
  · refine g_iconst O dX8_noPlace_13 ?_
    exact g_iret O hrt (by decide +kernel) dX8_noPlace_14
  refine g_iconst O dX8_noPlace_9 ?_
  refine g_goto (tgt := 14) O dX8_noPlace_10 (by decide) ?_
  exact g_iret O hrt (by decide +kernel) dX8_noPlace_14
def X0_take (a0 : Nat) (a1 : Nat) (s : St) : Rs := put s a0 0 (s a1 0) (fun s1 => cpA s1 (a1 + 1) 1189 0 (a0 + 1) 1189 0 ((1189 : Nat) : Int) (fun s2 => some (0, s2)))
theorem hd_X0_take : yX0_take.cls ≠ "java/lang/invoke/MethodHandle" ∧ yX0_take.cls ≠ "java/lang/invoke/VarHandle" ∧ (parseMethodDescriptor yX0_take.desc).map (fun d => d.parameters.length) = some 1 := by decide +kernel
set_option maxRecDepth 20000 in
set_option maxHeartbeats 4000000 in
theorem ct_X0_take {a0 : Nat} (ha0 : Kd LC a0 10) {a1 : Nat} (ha1 : Kd LC a1 10)  (s : St) : Ctr LC yX0_take cX0_take 2 none 0 1 26 [vR a0, vR a1] s (X0_take a0 a1 s) := by
  refine Ctr.of (by decide +kernel) (fun ρ => Nat.le_of_ble_eq_true rfl) (lv := [(0, vR a0), (1, vR a1)]) (fun ρ => rfl) (fun K X O hrt hfr hlo => ?_)
  unfold X0_take
  refine g_aload_n O dX0_take_0 rfl 0 rfl ?_
  refine g_aload_n O dX0_take_1 rfl 1 rfl ?_
  refine g_getI O fw_0_17 (log_c ha1) dX0_take_2 rfl ?_
  refine g_putI O fw_0_17 (log_c ha0) dX0_take_5 rfl rfl rfl (fun s1 => ?_)
  refine g_aload_n O dX0_take_8 rfl 1 rfl ?_
  refine g_getR O fw_0_11 (log_c ha1) dX0_take_9 rfl ?_
  refine g_iconst O dX0_take_12 ?_
  refine g_aload_n O dX0_take_13 rfl 0 rfl ?_
  refine g_getR O fw_0_11 (log_c ha0) dX0_take_14 rfl ?_
  refine g_iconst O dX0_take_17 ?_
  refine g_aload_n O dX0_take_18 rfl 0 rfl ?_
  refine g_getR O fw_0_11 (log_c ha0) dX0_take_19 rfl ?_
  refine g_alen O (log_1 ha0) dX0_take_22 ?_
  refine g_copy O mw_3_197 mw_2_69 mw_2_68 mw_1_11 (log_1 ha1) (log_1 ha0) (by decide) (by decide) (by rw [hfr]; decide) (by rw [hlo]; exact Nat.le_of_ble_eq_true rfl) dX0_take_23 (fun s2 => ?_)
  exact g_vret O hrt dX0_take_26
def X8_keep (i1 : Int) (s : St) : Rs := cl (X8_noPlace i1 s) (fun v1 s2 => cEq v1 0 (cl (X0_hold 30 s2) (fun _ s4 => rdR 3 i1 (fun j5 => cl (X0_take (32 + 2 * j5) 30 s4) (fun _ s7 => some (s7 30 0, s7))))) (some ((-1), s2)))
theorem hd_X8_keep : yX8_keep.cls ≠ "java/lang/invoke/MethodHandle" ∧ yX8_keep.cls ≠ "java/lang/invoke/VarHandle" ∧ (parseMethodDescriptor yX8_keep.desc).map (fun d => d.parameters.length) = some 1 := by decide +kernel
set_option maxRecDepth 20000 in
set_option maxHeartbeats 4000000 in
theorem ct_X8_keep  (i1 : Int) (s : St) : Ctr LC yX8_keep cX8_keep 2 (Option.some .int) 1 3 69 [vR 0, vI i1] s (X8_keep i1 s) := by
  refine Ctr.of (by decide +kernel) (fun ρ => Nat.le_of_ble_eq_true rfl) (lv := [(0, vR 0), (1, vI i1)]) (fun ρ => rfl) (fun K X O hrt hfr hlo => ?_)
  unfold X8_keep
  refine g_iload_n O dX8_keep_0 rfl 1 rfl ?_
  refine g_callS1 (As := [vI i1]) (rest := []) O mw_3_190 mw_3_191 mw_3_192 mw_1_1 hd_X8_noPlace rfl dX8_keep_1 (ct_X8_noPlace i1 s) (by rw [hfr]; decide) (by rw [hlo]; decide) (Nat.le_of_ble_eq_true rfl) (fun v1 s2 => ?_)
  refine g_if_eq (tgt := 9) O dX8_keep_4 (by decide) ?_ ?_
  · refine g_aload_n O dX8_keep_9 rfl 0 rfl ?_
    refine g_getR O fw_8_38 rfl dX8_keep_10 rfl ?_
    refine g_aload_n O dX8_keep_13 rfl 0 rfl ?_
    refine g_getR O fw_8_32 rfl dX8_keep_14 rfl ?_
    refine g_callV0 (As := [vR 6]) (rest := []) (b := 30) (ci := 0) O mw_3_121 mw_3_122 mw_3_123 mw_3_124 mw_1_6 hd_X0_hold rfl ⟨_, _, rfl⟩ rfl dX8_keep_17 (ct_X0_hold ⟨_, _, rfl⟩  s2) (by rw [hfr]; decide) (by rw [hlo]; decide) (Nat.le_of_ble_eq_true rfl) (fun _ s4 => ?_)
    refine g_aload_n O dX8_keep_20 rfl 0 rfl ?_
    refine g_getR O fw_8_42 rfl dX8_keep_21 rfl ?_
    refine g_iload_n O dX8_keep_24 rfl 1 rfl ?_
    refine g_aald (g := fun j => 32 + 2 * j) O rfl (by decide) (by decide) (by decide) el_4 dX8_keep_25 (fun j5 hj1 => ?_)
    refine g_aload_n O dX8_keep_26 rfl 0 rfl ?_
    refine g_getR O fw_8_38 rfl dX8_keep_27 rfl ?_
    refine g_callV0 (As := [vR 30]) (rest := []) (b := 32 + 2 * j5) (ci := 0) O mw_3_193 mw_3_194 mw_3_195 mw_3_196 mw_1_6 hd_X0_take rfl (elk_4 hj1) rfl dX8_keep_30 (ct_X0_take (elk_4 hj1) ⟨_, _, rfl⟩  s4) (by rw [hfr]; decide) (by rw [hlo]; decide) (Nat.le_of_ble_eq_true rfl) (fun _ s7 => ?_)
    refine g_aload_n O dX8_keep_33 rfl 0 rfl ?_
    refine g_getR O fw_8_38 rfl dX8_keep_34 rfl ?_
    refine g_getI O fw_8_139 rfl dX8_keep_37 rfl ?_
    exact g_iret O hrt rfl dX8_keep_40
  refine g_iconst O dX8_keep_7 ?_
  exact g_iret O hrt rfl dX8_keep_8
def X8_on (i1 : Int) (s : St) : Rs := cl (X8_noPlace i1 s) (fun v1 s2 => cEq v1 0 (rdR 3 i1 (fun j3 => cLt (s2 (32 + 2 * j3) 0) 0 (cl (X8_found 1 s2) (fun v9 s10 => some (v9, s10))) (rdR 3 i1 (fun j4 => cl (X0_take 30 (32 + 2 * j4) s2) (fun _ s6 => cl (X8_restore s6) (fun _ s8 => some (s8 30 0, s8))))))) (some ((-1), s2)))
theorem hd_X8_on : yX8_on.cls ≠ "java/lang/invoke/MethodHandle" ∧ yX8_on.cls ≠ "java/lang/invoke/VarHandle" ∧ (parseMethodDescriptor yX8_on.desc).map (fun d => d.parameters.length) = some 1 := by decide +kernel
set_option maxRecDepth 20000 in
set_option maxHeartbeats 4000000 in
theorem ct_X8_on  (i1 : Int) (s : St) : Ctr LC yX8_on cX8_on 2 (Option.some .int) 1 4 89 [vR 0, vI i1] s (X8_on i1 s) := by
  refine Ctr.of (by decide +kernel) (fun ρ => Nat.le_of_ble_eq_true rfl) (lv := [(0, vR 0), (1, vI i1)]) (fun ρ => rfl) (fun K X O hrt hfr hlo => ?_)
  unfold X8_on
  refine g_iload_n O dX8_on_0 rfl 1 rfl ?_
  refine g_callS1 (As := [vI i1]) (rest := []) O mw_3_190 mw_3_191 mw_3_192 mw_1_1 hd_X8_noPlace rfl dX8_on_1 (ct_X8_noPlace i1 s) (by rw [hfr]; decide) (by rw [hlo]; decide) (Nat.le_of_ble_eq_true rfl) (fun v1 s2 => ?_)
  refine g_if_eq (tgt := 9) O dX8_on_4 (by decide) ?_ ?_
  · refine g_aload_n O dX8_on_9 rfl 0 rfl ?_
    refine g_getR O fw_8_42 rfl dX8_on_10 rfl ?_
    refine g_iload_n O dX8_on_13 rfl 1 rfl ?_
    refine g_aald (g := fun j => 32 + 2 * j) O rfl (by decide) (by decide) (by decide) el_4 dX8_on_14 (fun j3 hj1 => ?_)
    refine g_getI O fw_8_139 (log_c (elk_4 hj1)) dX8_on_15 rfl ?_
    refine g_if_ge (tgt := 27) O dX8_on_18 (by decide) ?_ ?_
    · refine g_aload_n O dX8_on_27 rfl 0 rfl ?_
      refine g_getR O fw_8_38 rfl dX8_on_28 rfl ?_
      refine g_aload_n O dX8_on_31 rfl 0 rfl ?_
      refine g_getR O fw_8_42 rfl dX8_on_32 rfl ?_
      refine g_iload_n O dX8_on_35 rfl 1 rfl ?_
      refine g_aald (g := fun j => 32 + 2 * j) O rfl (by decide) (by decide) (by decide) el_4 dX8_on_36 (fun j4 hj2 => ?_)
      refine g_callV0 (As := [vR (32 + 2 * j4)]) (rest := []) (b := 30) (ci := 0) O mw_3_193 mw_3_194 mw_3_195 mw_3_196 mw_1_6 hd_X0_take rfl ⟨_, _, rfl⟩ rfl dX8_on_37 (ct_X0_take ⟨_, _, rfl⟩ (elk_4 hj2)  s2) (by rw [hfr]; decide) (by rw [hlo]; decide) (Nat.le_of_ble_eq_true rfl) (fun _ s6 => ?_)
      refine g_aload_n O dX8_on_40 rfl 0 rfl ?_
      refine g_callV0 (As := []) (rest := []) (b := 0) (ci := 8) O mw_3_171 mw_3_173 mp_2_5 mw_3_174 mw_1_1 hd_X8_restore rfl ⟨_, _, rfl⟩ rfl dX8_on_41 (ct_X8_restore  s6) (by rw [hfr]; decide) (by rw [hlo]; decide) (Nat.le_of_ble_eq_true rfl) (fun _ s8 => ?_)
      refine g_aload_n O dX8_on_44 rfl 0 rfl ?_
      refine g_getR O fw_8_38 rfl dX8_on_45 rfl ?_
      refine g_getI O fw_8_139 rfl dX8_on_48 rfl ?_
      exact g_iret O hrt rfl dX8_on_51
    refine g_aload_n O dX8_on_21 rfl 0 rfl ?_
    refine g_iconst O dX8_on_22 ?_
    refine g_callV1 (As := [vI 1]) (rest := []) (b := 0) (ci := 8) O mw_2_35 mw_2_37 mp_1_0 mw_2_38 mw_1_1 hd_X8_found rfl ⟨_, _, rfl⟩ rfl dX8_on_23 (ct_X8_found 1 s2) (by rw [hfr]; decide) (by rw [hlo]; decide) (Nat.le_of_ble_eq_true rfl) (fun v9 s10 => ?_)
    exact g_iret O hrt rfl dX8_on_26
  refine g_iconst O dX8_on_7 ?_
  exact g_iret O hrt rfl dX8_on_8
def X8_shake (i1 : Int) (s : St) : Rs := dv i1 2 (fun v1 => rm v1 2 (fun v2 => cl (X3_tree v2 s) (fun v3 s4 => gK LC v3.toNat 16 (cEq (s4 v3.toNat 0) 0 (some (0, s4)) (dv i1 64 (fun v5 => rm v5 (s4 v3.toNat 0) (fun v6 => rm i1 8 (fun v7 => cLt 3 v7 (cLt 5 v7 (cEq v7 6 (cLt (s4 v3.toNat 0) 12 (dv i1 1024 (fun v10 => rm v10 10 (fun v11 => cl (X6_insert v3.toNat v6 0 0 (48 + v11) s4) (fun v12 s13 => some (0, s13))))) (some (0, s4))) (cl (X8_exchange s4) (fun _ s9 => some (0, s9)))) (cl (X6_canLose v3.toNat v6 s4) (fun v14 s15 => cEq v14 0 (some (0, s15)) (cl (X6_remove v3.toNat v6 s15) (fun _ s17 => some (0, s17)))))) (dv i1 1024 (fun v18 => rm v18 18 (fun v19 => wr s4 (v3.toNat + 1) 12 v6 (97 + v19) (fun s20 => some (0, s20)))))))))))))
theorem hd_X8_shake : yX8_shake.cls ≠ "java/lang/invoke/MethodHandle" ∧ yX8_shake.cls ≠ "java/lang/invoke/VarHandle" ∧ (parseMethodDescriptor yX8_shake.desc).map (fun d => d.parameters.length) = some 1 := by decide +kernel
set_option maxRecDepth 20000 in
set_option maxHeartbeats 4000000 in
theorem ct_X8_shake  (i1 : Int) (s : St) : Ctr LC yX8_shake cX8_shake 5 none 0 4 95 [vR 0, vI i1] s (X8_shake i1 s) := by
  refine Ctr.of (by decide +kernel) (fun ρ => Nat.le_of_ble_eq_true rfl) (lv := [(0, vR 0), (1, vI i1)]) (fun ρ => rfl) (fun K X O hrt hfr hlo => ?_)
  unfold X8_shake
  refine g_aload_n O dX8_shake_0 rfl 0 rfl ?_
  refine g_getR O fw_8_32 rfl dX8_shake_1 rfl ?_
  refine g_iload_n O dX8_shake_4 rfl 1 rfl ?_
  refine g_iconst O dX8_shake_5 ?_
  refine g_idiv O dX8_shake_6 (fun v1 => ?_)
  refine g_iconst O dX8_shake_7 ?_
  refine g_irem O dX8_shake_8 (fun v2 => ?_)
  refine g_callV3 (As := [vI v2]) (rest := []) (b := 6) (ci := 3) O mw_2_131 mw_2_132 mw_2_133 mw_2_134 mw_1_3 hd_X3_tree rfl ⟨_, _, rfl⟩ rfl dX8_shake_9 (ct_X3_tree v2 s) (by rw [hfr]; decide) (by rw [hlo]; decide) (Nat.le_of_ble_eq_true rfl) (fun v3 s4 => ?_)
  refine g_gK (by decide) (fun hk1 => ?_)
  refine g_astore_n (lv2 := [(2, vR v3.toNat), (0, vR 0), (1, vI i1)]) O dX8_shake_12 rfl (by decide) rfl ?_
  refine g_aload_n O dX8_shake_13 rfl 0 rfl ?_
  refine g_getI O fw_8_142 (tree_c hk1) dX8_shake_14 rfl ?_
  refine g_if_ne (tgt := 21) O dX8_shake_17 (by decide) ?_ ?_
  · refine g_iload_n O dX8_shake_21 rfl 2 rfl ?_
    refine g_bipush O dX8_shake_22 (by decide +kernel) ?_
    refine g_idiv O dX8_shake_24 (fun v5 => ?_)
    refine g_aload_n O dX8_shake_25 rfl 0 rfl ?_
    refine g_getI O fw_8_142 (tree_c hk1) dX8_shake_26 rfl ?_
    refine g_irem O dX8_shake_29 (fun v6 => ?_)
    refine g_istore_n (lv2 := [(3, vI v6), (2, vR v3.toNat), (0, vR 0), (1, vI i1)]) O dX8_shake_30 rfl (by decide) rfl ?_
    refine g_iload_n O dX8_shake_31 rfl 3 rfl ?_
    refine g_bipush O dX8_shake_32 (by decide +kernel) ?_
    refine g_irem O dX8_shake_34 (fun v7 => ?_)
    refine g_istore (lv2 := [(4, vI v7), (3, vI v6), (2, vR v3.toNat), (0, vR 0), (1, vI i1)]) O dX8_shake_35 (by decide) rfl ?_
    refine g_iload O dX8_shake_37 0 rfl ?_
    refine g_iconst O dX8_shake_39 ?_
    refine g_icmp_gt (tgt := 63) O dX8_shake_40 (by decide) ?_ ?_
    · refine g_iload O dX8_shake_63 0 rfl ?_
      refine g_iconst O dX8_shake_65 ?_
      refine g_icmp_gt (tgt := 85) O dX8_shake_66 (by decide) ?_ ?_
      · refine g_iload O dX8_shake_85 0 rfl ?_
        refine g_bipush O dX8_shake_87 (by decide +kernel) ?_
        refine g_icmp_ne (tgt := 123) O dX8_shake_89 (by decide) ?_ ?_
        · refine g_aload_n O dX8_shake_123 rfl 3 rfl ?_
          refine g_callV0 (As := []) (rest := []) (b := 0) (ci := 8) O mw_3_163 mw_3_165 mp_2_4 mw_3_166 mw_1_1 hd_X8_exchange rfl ⟨_, _, rfl⟩ rfl dX8_shake_124 (ct_X8_exchange  s4) (by rw [hfr]; decide) (by rw [hlo]; decide) (Nat.le_of_ble_eq_true rfl) (fun _ s9 => ?_)
          exact g_vret O hrt dX8_shake_127
        refine g_aload_n O dX8_shake_92 rfl 2 rfl ?_
        refine g_getI O fw_8_142 (tree_c hk1) dX8_shake_93 rfl ?_
        refine g_bipush O dX8_shake_96 (by decide +kernel) ?_
        refine g_icmp_ge (tgt := 127) O dX8_shake_98 (by decide) ?_ ?_
        · exact g_vret O hrt dX8_shake_127
        refine g_aload_n O dX8_shake_101 rfl 2 rfl ?_
        refine g_iload_n O dX8_shake_102 rfl 1 rfl ?_
        refine g_iconst O dX8_shake_103 ?_
        refine g_iconst O dX8_shake_104 ?_
        refine g_bipush O dX8_shake_105 (by decide +kernel) ?_
        refine g_iload_n O dX8_shake_107 rfl 4 rfl ?_
        refine g_sipush O dX8_shake_108 (by decide +kernel) ?_
        refine g_idiv O dX8_shake_111 (fun v10 => ?_)
        refine g_bipush O dX8_shake_112 (by decide +kernel) ?_
        refine g_irem O dX8_shake_114 (fun v11 => ?_)
        refine g_iadd O dX8_shake_115 ?_
        refine g_callV1 (As := [vI v6, vI 0, vI 0, vI (48 + v11)]) (rest := []) (b := v3.toNat) (ci := 6) O mw_3_147 mw_3_148 mw_3_149 mw_3_150 mw_1_4 hd_X6_insert rfl hk1 rfl dX8_shake_116 (ct_X6_insert hk1 v6 0 0 (48 + v11) s4) (by rw [hfr]; decide) (by rw [hlo]; decide) (Nat.le_of_ble_eq_true rfl) (fun v12 s13 => ?_)
        refine g_pop O dX8_shake_119 rfl ?_
        refine g_goto (tgt := 127) O dX8_shake_120 (by decide) ?_
        exact g_vret O hrt dX8_shake_127
      refine g_aload_n O dX8_shake_69 rfl 2 rfl ?_
      refine g_iload_n O dX8_shake_70 rfl 1 rfl ?_
      refine g_callV1 (As := [vI v6]) (rest := []) (b := v3.toNat) (ci := 6) O mw_3_137 mw_3_138 mw_3_139 mw_3_140 mw_1_4 hd_X6_canLose rfl hk1 rfl dX8_shake_71 (ct_X6_canLose hk1 v6 s4) (by rw [hfr]; decide) (by rw [hlo]; decide) (Nat.le_of_ble_eq_true rfl) (fun v14 s15 => ?_)
      refine g_if_eq (tgt := 127) O dX8_shake_74 (by decide) ?_ ?_
      · exact g_vret O hrt dX8_shake_127
      refine g_aload_n O dX8_shake_77 rfl 2 rfl ?_
      refine g_iload_n O dX8_shake_78 rfl 1 rfl ?_
      refine g_callV0 (As := [vI v6]) (rest := []) (b := v3.toNat) (ci := 6) O mw_3_142 mw_3_84 mw_3_85 mw_3_86 mw_1_4 hd_X6_remove rfl hk1 rfl dX8_shake_79 (ct_X6_remove hk1 v6 s15) (by rw [hfr]; decide) (by rw [hlo]; decide) (Nat.le_of_ble_eq_true rfl) (fun _ s17 => ?_)
      refine g_goto (tgt := 127) O dX8_shake_82 (by decide) ?_
      exact g_vret O hrt dX8_shake_127
    refine g_aload_n O dX8_shake_43 rfl 2 rfl ?_
    refine g_getR O fw_8_156 (tree_c hk1) dX8_shake_44 rfl ?_
    refine g_iload_n O dX8_shake_47 rfl 1 rfl ?_
    refine g_bipush O dX8_shake_48 (by decide +kernel) ?_
    refine g_iload_n O dX8_shake_50 rfl 4 rfl ?_
    refine g_sipush O dX8_shake_51 (by decide +kernel) ?_
    refine g_idiv O dX8_shake_54 (fun v18 => ?_)
    refine g_bipush O dX8_shake_55 (by decide +kernel) ?_
    refine g_irem O dX8_shake_57 (fun v19 => ?_)
    refine g_iadd O dX8_shake_58 ?_
    refine g_iast O (tree_1 hk1) (by decide) dX8_shake_59 (fun s20 => ?_)
    refine g_goto (tgt := 127) O dX8_shake_60 (by decide) ?_
    exact g_vret O hrt dX8_shake_127
  exact g_vret O hrt dX8_shake_20
def X8_lots_61 (i1 : Int) (k : St → Rs) : Nat → Int → Int → St → Rs
  | 0, _, _, _ => none
  | n + 1, l3, i5, s => cLt i5 i1 (rmL (48271 * l3) 2147483647 (fun v1 => cl (X8_record s) (fun _ s3 => cl (X8_shake v1 s3) (fun _ s5 => X8_lots_61 i1 k n v1 (i5 + 1) s5)))) (k s)
def X8_lots (i1 : Int) (i2 : Int) (s : St) : Rs := cLt i1 1 (some ((-1), s)) (cLt 20 i1 (some ((-1), s)) (cLt i2 1 (some ((-1), s)) (cLt i2 2147483647 (cl (X3_isWhole s) (fun v1 s2 => cEq v1 0 (some ((-4), s2)) (cLt 40 ((s2 30 0) + i1) (some ((-2), s2)) (X8_lots_61 i1 (fun s3 => some ((s3 38 0) + (s3 41 0), s3)) FU (w32 i2) 0 s2)))) (some ((-1), s)))))
set_option maxRecDepth 20000 in
set_option maxHeartbeats 4000000 in
theorem lt_X8_lots_61 {K : Cx} {X : Wx} (O : OKx LC K X yX8_lots.cls cX8_lots 6) (hrt : (kMe K).sig.returnType = (Option.some .int)) (hfr : (kR K).frames = 5) (hlo : (kR K).locals = 119) {i1 : Int} {k : St → Rs}  (hk : ∀  (s : St), GX LC K X 6 1 93 [(0, vR 0)] [] s (k s)) : ∀ (n : Nat) (l3 : Int) (i5 : Int) (s : St), GX LC K X 6 1 61 [(0, vR 0), (1, vI i1), (3, vL l3), (5, vI i5)] [] s (X8_lots_61 i1 k n l3 i5 s) := by
  intro n
  induction n with
  | zero => intro l3 i5 s; exact GX.none
  | succ n ih =>
    intro l3 i5 s
    rw [X8_lots_61]
    refine g_iload O dX8_lots_61 3 rfl ?_
    refine g_iload_n O dX8_lots_63 rfl 1 rfl ?_
    refine g_icmp_ge (tgt := 93) O dX8_lots_64 (by decide) ?_ ?_
    · refine g_pick [0] rfl ?_
      exact hk s
    refine g_ldc2 (x := 48271) O dX8_lots_67 mw_3_207 (by decide +kernel) ?_
    refine g_lload_n O dX8_lots_70 rfl 2 rfl ?_
    refine g_lmul O dX8_lots_71 ?_
    refine g_ldc2 (x := 2147483647) O dX8_lots_72 mw_3_208 (by decide +kernel) ?_
    refine g_lrem O dX8_lots_75 (fun v1 => ?_)
    refine g_lstore_n (lv2 := [(3, vL v1), (0, vR 0), (1, vI i1), (5, vI i5)]) O dX8_lots_76 rfl (by decide) rfl ?_
    refine g_aload_n O dX8_lots_77 rfl 1 rfl ?_
    refine g_callV0 (As := []) (rest := []) (b := 0) (ci := 8) O mw_3_117 mw_3_119 mp_2_2 mw_3_120 mw_1_1 hd_X8_record rfl ⟨_, _, rfl⟩ rfl dX8_lots_78 (ct_X8_record  s) (by rw [hfr]; decide) (by rw [hlo]; decide) (Nat.le_of_ble_eq_true rfl) (fun _ s3 => ?_)
    refine g_aload_n O dX8_lots_81 rfl 1 rfl ?_
    refine g_lload_n O dX8_lots_82 rfl 0 rfl ?_
    refine g_l2i O dX8_lots_83 ?_
    refine g_callV0 (As := [vI v1]) (rest := []) (b := 0) (ci := 8) O mw_3_209 mw_3_211 mp_2_6 mw_3_212 mw_1_1 hd_X8_shake rfl ⟨_, _, rfl⟩ rfl dX8_lots_84 (ct_X8_shake v1 s3) (by rw [hfr]; decide) (by rw [hlo]; decide) (Nat.le_of_ble_eq_true rfl) (fun _ s5 => ?_)
    refine g_iinc (lv2 := [(5, vI (i5 + 1)), (3, vL v1), (0, vR 0), (1, vI i1)]) O dX8_lots_87 3 rfl (by decide) rfl ?_
    refine g_goto (tgt := 61) O dX8_lots_90 (by decide) ?_
    refine g_pick [2, 3, 1, 0] rfl ?_
    exact ih v1 (i5 + 1) s5
theorem hd_X8_lots : yX8_lots.cls ≠ "java/lang/invoke/MethodHandle" ∧ yX8_lots.cls ≠ "java/lang/invoke/VarHandle" ∧ (parseMethodDescriptor yX8_lots.desc).map (fun d => d.parameters.length) = some 2 := by decide +kernel
set_option maxRecDepth 20000 in
set_option maxHeartbeats 4000000 in
theorem ct_X8_lots  (i1 : Int) (i2 : Int) (s : St) : Ctr LC yX8_lots cX8_lots 6 (Option.some .int) 1 5 119 [vR 0, vI i1, vI i2] s (X8_lots i1 i2 s) := by
  refine Ctr.of (by decide +kernel) (fun ρ => Nat.le_of_ble_eq_true rfl) (lv := [(0, vR 0), (1, vI i1), (2, vI i2)]) (fun ρ => rfl) (fun K X O hrt hfr hlo => ?_)
  unfold X8_lots
  refine g_iload_n O dX8_lots_0 rfl 1 rfl ?_
  refine g_iconst O dX8_lots_1 ?_
  refine g_icmp_lt (tgt := 23) O dX8_lots_2 (by decide) ?_ ?_
  · refine g_iconst O dX8_lots_23 ?_
    exact g_iret O hrt rfl dX8_lots_24
  refine g_iload_n O dX8_lots_5 rfl 1 rfl ?_
  refine g_bipush O dX8_lots_6 (by decide +kernel) ?_
  refine g_icmp_gt (tgt := 23) O dX8_lots_8 (by decide) ?_ ?_
  · refine g_iconst O dX8_lots_23 ?_
    exact g_iret O hrt rfl dX8_lots_24
  refine g_iload_n O dX8_lots_11 rfl 2 rfl ?_
  refine g_iconst O dX8_lots_12 ?_
  refine g_icmp_lt (tgt := 23) O dX8_lots_13 (by decide) ?_ ?_
  · refine g_iconst O dX8_lots_23 ?_
    exact g_iret O hrt rfl dX8_lots_24
  refine g_iload_n O dX8_lots_16 rfl 2 rfl ?_
  refine g_ldcw (x := 2147483647) O dX8_lots_17 mw_3_206 (by decide +kernel) ?_
  refine g_icmp_lt (tgt := 25) O dX8_lots_20 (by decide) ?_ ?_
  · refine g_aload_n O dX8_lots_25 rfl 0 rfl ?_
    refine g_getR O fw_8_32 rfl dX8_lots_26 rfl ?_
    refine g_callV1 (As := []) (rest := []) (b := 6) (ci := 3) O mw_2_228 mw_2_229 mw_2_230 mw_2_231 mw_1_3 hd_X3_isWhole rfl ⟨_, _, rfl⟩ rfl dX8_lots_29 (ct_X3_isWhole  s) (by rw [hfr]; decide) (by rw [hlo]; decide) (Nat.le_of_ble_eq_true rfl) (fun v1 s2 => ?_)
    refine g_if_ne (tgt := 38) O dX8_lots_32 (by decide) ?_ ?_
    · refine g_aload_n O dX8_lots_38 rfl 0 rfl ?_
      refine g_getR O fw_8_38 rfl dX8_lots_39 rfl ?_
      refine g_getI O fw_8_139 rfl dX8_lots_42 rfl ?_
      refine g_iload_n O dX8_lots_45 rfl 1 rfl ?_
      refine g_iadd O dX8_lots_46 ?_
      refine g_bipush O dX8_lots_47 (by decide +kernel) ?_
      refine g_icmp_le (tgt := 55) O dX8_lots_49 (by decide) ?_ ?_
      · refine g_iload_n O dX8_lots_55 rfl 2 rfl ?_
        refine g_i2l O dX8_lots_56 ?_
        refine g_lstore_n (lv2 := [(3, vL (w32 i2)), (0, vR 0), (1, vI i1), (2, vI i2)]) O dX8_lots_57 rfl (by decide) rfl ?_
        refine g_iconst O dX8_lots_58 ?_
        refine g_istore (lv2 := [(5, vI 0), (3, vL (w32 i2)), (0, vR 0), (1, vI i1), (2, vI i2)]) O dX8_lots_59 (by decide) rfl ?_
        refine g_pick [2, 3, 1, 0] rfl ?_
        refine lt_X8_lots_61 O hrt hfr hlo  (fun s3 => ?_) FU (w32 i2) 0 s2
        refine g_aload_n O dX8_lots_93 rfl 0 rfl ?_
        refine g_getR O fw_8_32 rfl dX8_lots_94 rfl ?_
        refine g_getR O fw_8_216 rfl dX8_lots_97 rfl ?_
        refine g_getI O fw_8_142 rfl dX8_lots_100 rfl ?_
        refine g_aload_n O dX8_lots_103 rfl 0 rfl ?_
        refine g_getR O fw_8_32 rfl dX8_lots_104 rfl ?_
        refine g_getR O fw_8_222 rfl dX8_lots_107 rfl ?_
        refine g_getI O fw_8_142 rfl dX8_lots_110 rfl ?_
        refine g_iadd O dX8_lots_113 ?_
        exact g_iret O hrt rfl dX8_lots_114
      refine g_bipush O dX8_lots_52 (by decide +kernel) ?_
      exact g_iret O hrt rfl dX8_lots_54
    refine g_bipush O dX8_lots_35 (by decide +kernel) ?_
    exact g_iret O hrt rfl dX8_lots_37
  refine g_iconst O dX8_lots_23 ?_
  exact g_iret O hrt rfl dX8_lots_24
def X8_asked  (s : St) : Rs := some (s 0 10, s)
theorem hd_X8_asked : yX8_asked.cls ≠ "java/lang/invoke/MethodHandle" ∧ yX8_asked.cls ≠ "java/lang/invoke/VarHandle" ∧ (parseMethodDescriptor yX8_asked.desc).map (fun d => d.parameters.length) = some 0 := by decide +kernel
set_option maxRecDepth 20000 in
set_option maxHeartbeats 4000000 in
theorem ct_X8_asked   (s : St) : Ctr LC yX8_asked cX8_asked 1 (Option.some .int) 1 0 0 [vR 0] s (X8_asked s) := by
  refine Ctr.of (by decide +kernel) (fun ρ => Nat.le_of_ble_eq_true rfl) (lv := [(0, vR 0)]) (fun ρ => rfl) (fun K X O hrt hfr hlo => ?_)
  unfold X8_asked
  refine g_aload_n O dX8_asked_0 rfl 0 rfl ?_
  refine g_getI O fw_8_68 rfl dX8_asked_1 rfl ?_
  exact g_iret O hrt rfl dX8_asked_4
def X8_rowsThere_4  (k : Int → St → Rs) : Nat → Int → Int → St → Rs
  | 0, _, _, _ => none
  | n + 1, i1, i2, s => cLt i2 6 (rdR 6 i2 (fun j1 => cLt (s (10 + 2 * j1) 0) 0 (X8_rowsThere_4 k n i1 (i2 + 1) s) (X8_rowsThere_4 k n (i1 + 1) (i2 + 1) s))) (k i1 s)
def X8_rowsThere  (s : St) : Rs := X8_rowsThere_4  (fun x1 s2 => some (x1, s2)) FU 0 0 s
set_option maxRecDepth 20000 in
set_option maxHeartbeats 4000000 in
theorem lt_X8_rowsThere_4 {K : Cx} {X : Wx} (O : OKx LC K X yX8_rowsThere.cls cX8_rowsThere 3) (hrt : (kMe K).sig.returnType = (Option.some .int)) (hfr : (kR K).frames = 0) (hlo : (kR K).locals = 0)  {k : Int → St → Rs}  (hk : ∀ (i1 : Int) (s : St), GX LC K X 3 1 31 [(1, vI i1)] [] s (k i1 s)) : ∀ (n : Nat) (i1 : Int) (i2 : Int) (s : St), GX LC K X 3 1 4 [(0, vR 0), (1, vI i1), (2, vI i2)] [] s (X8_rowsThere_4 k n i1 i2 s) := by
  intro n
  induction n with
  | zero => intro i1 i2 s; exact GX.none
  | succ n ih =>
    intro i1 i2 s
    rw [X8_rowsThere_4]
    refine g_iload_n O dX8_rowsThere_4 rfl 2 rfl ?_
    refine g_bipush O dX8_rowsThere_5 (by decide +kernel) ?_
    refine g_icmp_ge (tgt := 31) O dX8_rowsThere_7 (by decide) ?_ ?_
    · refine g_pick [1] rfl ?_
      exact hk i1 s
    refine g_aload_n O dX8_rowsThere_10 rfl 0 rfl ?_
    refine g_getR O fw_8_11 rfl dX8_rowsThere_11 rfl ?_
    refine g_iload_n O dX8_rowsThere_14 rfl 2 rfl ?_
    refine g_aald (g := fun j => 10 + 2 * j) O rfl (by decide) (by decide) (by decide) el_2 dX8_rowsThere_15 (fun j1 hj1 => ?_)
    refine g_getI O fw_8_84 (row_c (elk_2 hj1)) dX8_rowsThere_16 rfl ?_
    refine g_if_lt (tgt := 25) O dX8_rowsThere_19 (by decide) ?_ ?_
    · refine g_iinc (lv2 := [(2, vI (i2 + 1)), (0, vR 0), (1, vI i1)]) O dX8_rowsThere_25 2 rfl (by decide) rfl ?_
      refine g_goto (tgt := 4) O dX8_rowsThere_28 (by decide) ?_
      refine g_pick [1, 2, 0] rfl ?_
      exact ih i1 (i2 + 1) s
    refine g_iinc (lv2 := [(1, vI (i1 + 1)), (0, vR 0), (2, vI i2)]) O dX8_rowsThere_22 1 rfl (by decide) rfl ?_
    refine g_iinc (lv2 := [(2, vI (i2 + 1)), (1, vI (i1 + 1)), (0, vR 0)]) O dX8_rowsThere_25 2 rfl (by decide) rfl ?_
    refine g_goto (tgt := 4) O dX8_rowsThere_28 (by decide) ?_
    refine g_pick [2, 1, 0] rfl ?_
    exact ih (i1 + 1) (i2 + 1) s
theorem hd_X8_rowsThere : yX8_rowsThere.cls ≠ "java/lang/invoke/MethodHandle" ∧ yX8_rowsThere.cls ≠ "java/lang/invoke/VarHandle" ∧ (parseMethodDescriptor yX8_rowsThere.desc).map (fun d => d.parameters.length) = some 0 := by decide +kernel
set_option maxRecDepth 20000 in
set_option maxHeartbeats 4000000 in
theorem ct_X8_rowsThere   (s : St) : Ctr LC yX8_rowsThere cX8_rowsThere 3 (Option.some .int) 1 0 0 [vR 0] s (X8_rowsThere s) := by
  refine Ctr.of (by decide +kernel) (fun ρ => Nat.le_of_ble_eq_true rfl) (lv := [(0, vR 0)]) (fun ρ => rfl) (fun K X O hrt hfr hlo => ?_)
  unfold X8_rowsThere
  refine g_iconst O dX8_rowsThere_0 ?_
  refine g_istore_n (lv2 := [(1, vI 0), (0, vR 0)]) O dX8_rowsThere_1 rfl (by decide) rfl ?_
  refine g_iconst O dX8_rowsThere_2 ?_
  refine g_istore_n (lv2 := [(2, vI 0), (1, vI 0), (0, vR 0)]) O dX8_rowsThere_3 rfl (by decide) rfl ?_
  refine g_pick [2, 1, 0] rfl ?_
  refine lt_X8_rowsThere_4 O hrt hfr hlo  (fun x1 s2 => ?_) FU 0 0 s
  refine g_iload_n O dX8_rowsThere_31 rfl 0 rfl ?_
  exact g_iret O hrt rfl dX8_rowsThere_32
def X8_textsThere_4  (k : Int → St → Rs) : Nat → Int → Int → St → Rs
  | 0, _, _, _ => none
  | n + 1, i1, i2, s => cLt i2 4 (rdR 4 i2 (fun j1 => cLt (s (22 + 2 * j1) 0) 0 (X8_textsThere_4 k n i1 (i2 + 1) s) (X8_textsThere_4 k n (i1 + 1) (i2 + 1) s))) (k i1 s)
def X8_textsThere  (s : St) : Rs := X8_textsThere_4  (fun x1 s2 => some (x1, s2)) FU 0 0 s
set_option maxRecDepth 20000 in
set_option maxHeartbeats 4000000 in
theorem lt_X8_textsThere_4 {K : Cx} {X : Wx} (O : OKx LC K X yX8_textsThere.cls cX8_textsThere 3) (hrt : (kMe K).sig.returnType = (Option.some .int)) (hfr : (kR K).frames = 0) (hlo : (kR K).locals = 0)  {k : Int → St → Rs}  (hk : ∀ (i1 : Int) (s : St), GX LC K X 3 1 30 [(1, vI i1)] [] s (k i1 s)) : ∀ (n : Nat) (i1 : Int) (i2 : Int) (s : St), GX LC K X 3 1 4 [(0, vR 0), (1, vI i1), (2, vI i2)] [] s (X8_textsThere_4 k n i1 i2 s) := by
  intro n
  induction n with
  | zero => intro i1 i2 s; exact GX.none
  | succ n ih =>
    intro i1 i2 s
    rw [X8_textsThere_4]
    refine g_iload_n O dX8_textsThere_4 rfl 2 rfl ?_
    refine g_iconst O dX8_textsThere_5 ?_
    refine g_icmp_ge (tgt := 30) O dX8_textsThere_6 (by decide) ?_ ?_
    · refine g_pick [1] rfl ?_
      exact hk i1 s
    refine g_aload_n O dX8_textsThere_9 rfl 0 rfl ?_
    refine g_getR O fw_8_17 rfl dX8_textsThere_10 rfl ?_
    refine g_iload_n O dX8_textsThere_13 rfl 2 rfl ?_
    refine g_aald (g := fun j => 22 + 2 * j) O rfl (by decide) (by decide) (by decide) el_3 dX8_textsThere_14 (fun j1 hj1 => ?_)
    refine g_getI O fw_8_111 (txt_c (elk_3 hj1)) dX8_textsThere_15 rfl ?_
    refine g_if_lt (tgt := 24) O dX8_textsThere_18 (by decide) ?_ ?_
    · refine g_iinc (lv2 := [(2, vI (i2 + 1)), (0, vR 0), (1, vI i1)]) O dX8_textsThere_24 2 rfl (by decide) rfl ?_
      refine g_goto (tgt := 4) O dX8_textsThere_27 (by decide) ?_
      refine g_pick [1, 2, 0] rfl ?_
      exact ih i1 (i2 + 1) s
    refine g_iinc (lv2 := [(1, vI (i1 + 1)), (0, vR 0), (2, vI i2)]) O dX8_textsThere_21 1 rfl (by decide) rfl ?_
    refine g_iinc (lv2 := [(2, vI (i2 + 1)), (1, vI (i1 + 1)), (0, vR 0)]) O dX8_textsThere_24 2 rfl (by decide) rfl ?_
    refine g_goto (tgt := 4) O dX8_textsThere_27 (by decide) ?_
    refine g_pick [2, 1, 0] rfl ?_
    exact ih (i1 + 1) (i2 + 1) s
theorem hd_X8_textsThere : yX8_textsThere.cls ≠ "java/lang/invoke/MethodHandle" ∧ yX8_textsThere.cls ≠ "java/lang/invoke/VarHandle" ∧ (parseMethodDescriptor yX8_textsThere.desc).map (fun d => d.parameters.length) = some 0 := by decide +kernel
set_option maxRecDepth 20000 in
set_option maxHeartbeats 4000000 in
theorem ct_X8_textsThere   (s : St) : Ctr LC yX8_textsThere cX8_textsThere 3 (Option.some .int) 1 0 0 [vR 0] s (X8_textsThere s) := by
  refine Ctr.of (by decide +kernel) (fun ρ => Nat.le_of_ble_eq_true rfl) (lv := [(0, vR 0)]) (fun ρ => rfl) (fun K X O hrt hfr hlo => ?_)
  unfold X8_textsThere
  refine g_iconst O dX8_textsThere_0 ?_
  refine g_istore_n (lv2 := [(1, vI 0), (0, vR 0)]) O dX8_textsThere_1 rfl (by decide) rfl ?_
  refine g_iconst O dX8_textsThere_2 ?_
  refine g_istore_n (lv2 := [(2, vI 0), (1, vI 0), (0, vR 0)]) O dX8_textsThere_3 rfl (by decide) rfl ?_
  refine g_pick [2, 1, 0] rfl ?_
  refine lt_X8_textsThere_4 O hrt hfr hlo  (fun x1 s2 => ?_) FU 0 0 s
  refine g_iload_n O dX8_textsThere_30 rfl 0 rfl ?_
  exact g_iret O hrt rfl dX8_textsThere_31
def X8_placesTaken_4  (k : Int → St → Rs) : Nat → Int → Int → St → Rs
  | 0, _, _, _ => none
  | n + 1, i1, i2, s => cLt i2 3 (rdR 3 i2 (fun j1 => cLt (s (32 + 2 * j1) 0) 0 (X8_placesTaken_4 k n i1 (i2 + 1) s) (X8_placesTaken_4 k n (i1 + 1) (i2 + 1) s))) (k i1 s)
def X8_placesTaken  (s : St) : Rs := X8_placesTaken_4  (fun x1 s2 => some (x1, s2)) FU 0 0 s
set_option maxRecDepth 20000 in
set_option maxHeartbeats 4000000 in
theorem lt_X8_placesTaken_4 {K : Cx} {X : Wx} (O : OKx LC K X yX8_placesTaken.cls cX8_placesTaken 3) (hrt : (kMe K).sig.returnType = (Option.some .int)) (hfr : (kR K).frames = 0) (hlo : (kR K).locals = 0)  {k : Int → St → Rs}  (hk : ∀ (i1 : Int) (s : St), GX LC K X 3 1 30 [(1, vI i1)] [] s (k i1 s)) : ∀ (n : Nat) (i1 : Int) (i2 : Int) (s : St), GX LC K X 3 1 4 [(0, vR 0), (1, vI i1), (2, vI i2)] [] s (X8_placesTaken_4 k n i1 i2 s) := by
  intro n
  induction n with
  | zero => intro i1 i2 s; exact GX.none
  | succ n ih =>
    intro i1 i2 s
    rw [X8_placesTaken_4]
    refine g_iload_n O dX8_placesTaken_4 rfl 2 rfl ?_
    refine g_iconst O dX8_placesTaken_5 ?_
    refine g_icmp_ge (tgt := 30) O dX8_placesTaken_6 (by decide) ?_ ?_
    · refine g_pick [1] rfl ?_
      exact hk i1 s
    refine g_aload_n O dX8_placesTaken_9 rfl 0 rfl ?_
    refine g_getR O fw_8_42 rfl dX8_placesTaken_10 rfl ?_
    refine g_iload_n O dX8_placesTaken_13 rfl 2 rfl ?_
    refine g_aald (g := fun j => 32 + 2 * j) O rfl (by decide) (by decide) (by decide) el_4 dX8_placesTaken_14 (fun j1 hj1 => ?_)
    refine g_getI O fw_8_139 (log_c (elk_4 hj1)) dX8_placesTaken_15 rfl ?_
    refine g_if_lt (tgt := 24) O dX8_placesTaken_18 (by decide) ?_ ?_
    · refine g_iinc (lv2 := [(2, vI (i2 + 1)), (0, vR 0), (1, vI i1)]) O dX8_placesTaken_24 2 rfl (by decide) rfl ?_
      refine g_goto (tgt := 4) O dX8_placesTaken_27 (by decide) ?_
      refine g_pick [1, 2, 0] rfl ?_
      exact ih i1 (i2 + 1) s
    refine g_iinc (lv2 := [(1, vI (i1 + 1)), (0, vR 0), (2, vI i2)]) O dX8_placesTaken_21 1 rfl (by decide) rfl ?_
    refine g_iinc (lv2 := [(2, vI (i2 + 1)), (1, vI (i1 + 1)), (0, vR 0)]) O dX8_placesTaken_24 2 rfl (by decide) rfl ?_
    refine g_goto (tgt := 4) O dX8_placesTaken_27 (by decide) ?_
    refine g_pick [2, 1, 0] rfl ?_
    exact ih (i1 + 1) (i2 + 1) s
theorem hd_X8_placesTaken : yX8_placesTaken.cls ≠ "java/lang/invoke/MethodHandle" ∧ yX8_placesTaken.cls ≠ "java/lang/invoke/VarHandle" ∧ (parseMethodDescriptor yX8_placesTaken.desc).map (fun d => d.parameters.length) = some 0 := by decide +kernel
set_option maxRecDepth 20000 in
set_option maxHeartbeats 4000000 in
theorem ct_X8_placesTaken   (s : St) : Ctr LC yX8_placesTaken cX8_placesTaken 3 (Option.some .int) 1 0 0 [vR 0] s (X8_placesTaken s) := by
  refine Ctr.of (by decide +kernel) (fun ρ => Nat.le_of_ble_eq_true rfl) (lv := [(0, vR 0)]) (fun ρ => rfl) (fun K X O hrt hfr hlo => ?_)
  unfold X8_placesTaken
  refine g_iconst O dX8_placesTaken_0 ?_
  refine g_istore_n (lv2 := [(1, vI 0), (0, vR 0)]) O dX8_placesTaken_1 rfl (by decide) rfl ?_
  refine g_iconst O dX8_placesTaken_2 ?_
  refine g_istore_n (lv2 := [(2, vI 0), (1, vI 0), (0, vR 0)]) O dX8_placesTaken_3 rfl (by decide) rfl ?_
  refine g_pick [2, 1, 0] rfl ?_
  refine lt_X8_placesTaken_4 O hrt hfr hlo  (fun x1 s2 => ?_) FU 0 0 s
  refine g_iload_n O dX8_placesTaken_30 rfl 0 rfl ?_
  exact g_iret O hrt rfl dX8_placesTaken_31
def X8_number (i1 : Int) (s : St) : Rs := gR i1 (if i1 = 0 then some (s 38 0, s) else (if i1 = 1 then some (s 41 0, s) else (if i1 = 2 then cl (X3_isWhole s) (fun v1 s2 => cEq v1 0 (some ((-1), s2)) (cl (X7_distance s2) (fun v3 s4 => some (v3, s4)))) else (if i1 = 3 then cl (X3_isWhole s) (fun v5 s6 => cEq v5 0 (some ((-1), s6)) (some (s6 8 0, s6))) else (if i1 = 4 then cl (X3_isWhole s) (fun v7 s8 => cEq v7 0 (some ((-1), s8)) (some (s8 5 2, s8))) else (if i1 = 5 then cl (X6_keys 38 0 s) (fun v9 s10 => some (v9, s10)) else (if i1 = 6 then cl (X6_keys 41 0 s) (fun v11 s12 => some (v11, s12)) else (if i1 = 7 then rd s 7 3 (i1 - 7) (fun v13 => some (v13, s)) else (if i1 = 8 then rd s 7 3 (i1 - 7) (fun v14 => some (v14, s)) else (if i1 = 9 then rd s 7 3 (i1 - 7) (fun v15 => some (v15, s)) else (if i1 = 10 then some (s 30 0, s) else (if i1 = 11 then cl (X8_rowsThere s) (fun v16 s17 => some (v16, s17)) else (if i1 = 12 then cl (X8_textsThere s) (fun v18 s19 => some (v18, s19)) else (cl (X8_placesTaken s) (fun v20 s21 => some (v20, s21))))))))))))))))
theorem hd_X8_number : yX8_number.cls ≠ "java/lang/invoke/MethodHandle" ∧ yX8_number.cls ≠ "java/lang/invoke/VarHandle" ∧ (parseMethodDescriptor yX8_number.desc).map (fun d => d.parameters.length) = some 1 := by decide +kernel
set_option maxRecDepth 20000 in
set_option maxHeartbeats 4000000 in
theorem ct_X8_number  (i1 : Int) (s : St) : Ctr LC yX8_number cX8_number 2 (Option.some .int) 1 4 89 [vR 0, vI i1] s (X8_number i1 s) := by
  refine Ctr.of (by decide +kernel) (fun ρ => Nat.le_of_ble_eq_true rfl) (lv := [(0, vR 0), (1, vI i1)]) (fun ρ => rfl) (fun K X O hrt hfr hlo => ?_)
  unfold X8_number
  refine g_iload_n O dX8_number_0 rfl 1 rfl ?_
  refine g_gR (fun hr1 => ?_)
  refine g_ite (fun hc2 => ?_) (fun hc2 => ?_)
  · refine g_tin (k := 0) (tgt := 68) O dX8_number_1 hr1 hc2 (by decide) (by decide) rfl (by decide) ?_
    refine g_aload_n O dX8_number_68 rfl 0 rfl ?_
    refine g_getR O fw_8_32 rfl dX8_number_69 rfl ?_
    refine g_getR O fw_8_216 rfl dX8_number_72 rfl ?_
    refine g_getI O fw_8_142 rfl dX8_number_75 rfl ?_
    exact g_iret O hrt rfl dX8_number_78
  refine g_ite (fun hc3 => ?_) (fun hc3 => ?_)
  · refine g_tin (k := 1) (tgt := 79) O dX8_number_1 hr1 hc3 (by decide) (by decide) rfl (by decide) ?_
    refine g_aload_n O dX8_number_79 rfl 0 rfl ?_
    refine g_getR O fw_8_32 rfl dX8_number_80 rfl ?_
    refine g_getR O fw_8_222 rfl dX8_number_83 rfl ?_
    refine g_getI O fw_8_142 rfl dX8_number_86 rfl ?_
    exact g_iret O hrt rfl dX8_number_89
  refine g_ite (fun hc4 => ?_) (fun hc4 => ?_)
  · refine g_tin (k := 2) (tgt := 90) O dX8_number_1 hr1 hc4 (by decide) (by decide) rfl (by decide) ?_
    refine g_aload_n O dX8_number_90 rfl 0 rfl ?_
    refine g_getR O fw_8_32 rfl dX8_number_91 rfl ?_
    refine g_callV1 (As := []) (rest := []) (b := 6) (ci := 3) O mw_2_228 mw_2_229 mw_2_230 mw_2_231 mw_1_3 hd_X3_isWhole rfl ⟨_, _, rfl⟩ rfl dX8_number_94 (ct_X3_isWhole  s) (by rw [hfr]; decide) (by rw [hlo]; decide) (Nat.le_of_ble_eq_true rfl) (fun v1 s2 => ?_)
    refine g_if_eq (tgt := 110) O dX8_number_97 (by decide) ?_ ?_
    · refine g_iconst O dX8_number_110 ?_
      exact g_iret O hrt rfl dX8_number_111
    refine g_aload_n O dX8_number_100 rfl 0 rfl ?_
    refine g_getR O fw_8_24 rfl dX8_number_101 rfl ?_
    refine g_callV1 (As := []) (rest := []) (b := 5) (ci := 7) O mw_3_45 mw_3_46 mw_3_47 mw_3_48 mw_1_2 hd_X7_distance rfl ⟨_, _, rfl⟩ rfl dX8_number_104 (ct_X7_distance  s2) (by rw [hfr]; decide) (by rw [hlo]; decide) (Nat.le_of_ble_eq_true rfl) (fun v3 s4 => ?_)
    refine g_goto (tgt := 111) O dX8_number_107 (by decide) ?_
    exact g_iret O hrt rfl dX8_number_111
  refine g_ite (fun hc5 => ?_) (fun hc5 => ?_)
  · refine g_tin (k := 3) (tgt := 112) O dX8_number_1 hr1 hc5 (by decide) (by decide) rfl (by decide) ?_
    refine g_aload_n O dX8_number_112 rfl 0 rfl ?_
    refine g_getR O fw_8_32 rfl dX8_number_113 rfl ?_
    refine g_callV1 (As := []) (rest := []) (b := 6) (ci := 3) O mw_2_228 mw_2_229 mw_2_230 mw_2_231 mw_1_3 hd_X3_isWhole rfl ⟨_, _, rfl⟩ rfl dX8_number_116 (ct_X3_isWhole  s) (by rw [hfr]; decide) (by rw [hlo]; decide) (Nat.le_of_ble_eq_true rfl) (fun v5 s6 => ?_)
    refine g_if_eq (tgt := 135) O dX8_number_119 (by decide) ?_ ?_
    · refine g_iconst O dX8_number_135 ?_
      exact g_iret O hrt rfl dX8_number_136
    refine g_aload_n O dX8_number_122 rfl 0 rfl ?_
    refine g_getR O fw_8_24 rfl dX8_number_123 rfl ?_
    refine g_getR O fw_8_196 rfl dX8_number_126 rfl ?_
    refine g_getI O fw_8_200 rfl dX8_number_129 rfl ?_
    refine g_goto (tgt := 136) O dX8_number_132 (by decide) ?_
    exact g_iret O hrt rfl dX8_number_136
  refine g_ite (fun hc6 => ?_) (fun hc6 => ?_)
  · refine g_tin (k := 4) (tgt := 137) O dX8_number_1 hr1 hc6 (by decide) (by decide) rfl (by decide) ?_
    refine g_aload_n O dX8_number_137 rfl 0 rfl ?_
    refine g_getR O fw_8_32 rfl dX8_number_138 rfl ?_
    refine g_callV1 (As := []) (rest := []) (b := 6) (ci := 3) O mw_2_228 mw_2_229 mw_2_230 mw_2_231 mw_1_3 hd_X3_isWhole rfl ⟨_, _, rfl⟩ rfl dX8_number_141 (ct_X3_isWhole  s) (by rw [hfr]; decide) (by rw [hlo]; decide) (Nat.le_of_ble_eq_true rfl) (fun v7 s8 => ?_)
    refine g_if_eq (tgt := 157) O dX8_number_144 (by decide) ?_ ?_
    · refine g_iconst O dX8_number_157 ?_
      exact g_iret O hrt rfl dX8_number_158
    refine g_aload_n O dX8_number_147 rfl 0 rfl ?_
    refine g_getR O fw_8_24 rfl dX8_number_148 rfl ?_
    refine g_getI O fw_8_315 rfl dX8_number_151 rfl ?_
    refine g_goto (tgt := 158) O dX8_number_154 (by decide) ?_
    exact g_iret O hrt rfl dX8_number_158
  refine g_ite (fun hc7 => ?_) (fun hc7 => ?_)
  · refine g_tin (k := 5) (tgt := 159) O dX8_number_1 hr1 hc7 (by decide) (by decide) rfl (by decide) ?_
    refine g_aload_n O dX8_number_159 rfl 0 rfl ?_
    refine g_getR O fw_8_32 rfl dX8_number_160 rfl ?_
    refine g_getR O fw_8_216 rfl dX8_number_163 rfl ?_
    refine g_iconst O dX8_number_166 ?_
    refine g_callV1 (As := [vI 0]) (rest := []) (b := 38) (ci := 6) O mw_3_91 mw_3_92 mw_3_93 mw_3_94 mw_1_4 hd_X6_keys rfl ⟨_, _, rfl⟩ rfl dX8_number_167 (ct_X6_keys ⟨_, _, rfl⟩ 0 s) (by rw [hfr]; decide) (by rw [hlo]; decide) (Nat.le_of_ble_eq_true rfl) (fun v9 s10 => ?_)
    exact g_iret O hrt rfl dX8_number_170
  refine g_ite (fun hc8 => ?_) (fun hc8 => ?_)
  · refine g_tin (k := 6) (tgt := 171) O dX8_number_1 hr1 hc8 (by decide) (by decide) rfl (by decide) ?_
    refine g_aload_n O dX8_number_171 rfl 0 rfl ?_
    refine g_getR O fw_8_32 rfl dX8_number_172 rfl ?_
    refine g_getR O fw_8_222 rfl dX8_number_175 rfl ?_
    refine g_iconst O dX8_number_178 ?_
    refine g_callV1 (As := [vI 0]) (rest := []) (b := 41) (ci := 6) O mw_3_91 mw_3_92 mw_3_93 mw_3_94 mw_1_4 hd_X6_keys rfl ⟨_, _, rfl⟩ rfl dX8_number_179 (ct_X6_keys ⟨_, _, rfl⟩ 0 s) (by rw [hfr]; decide) (by rw [hlo]; decide) (Nat.le_of_ble_eq_true rfl) (fun v11 s12 => ?_)
    exact g_iret O hrt rfl dX8_number_182
  refine g_ite (fun hc9 => ?_) (fun hc9 => ?_)
  · refine g_tin (k := 7) (tgt := 183) O dX8_number_1 hr1 hc9 (by decide) (by decide) rfl (by decide) ?_
    refine g_aload_n O dX8_number_183 rfl 0 rfl ?_
    refine g_getR O fw_8_32 rfl dX8_number_184 rfl ?_
    refine g_getR O fw_8_251 rfl dX8_number_187 rfl ?_
    refine g_iload_n O dX8_number_190 rfl 1 rfl ?_
    refine g_bipush O dX8_number_191 (by decide +kernel) ?_
    refine g_isub O dX8_number_193 ?_
    refine g_iald O rfl (by decide) dX8_number_194 (fun v13 => ?_)
    exact g_iret O hrt rfl dX8_number_195
  refine g_ite (fun hc10 => ?_) (fun hc10 => ?_)
  · refine g_tin (k := 8) (tgt := 183) O dX8_number_1 hr1 hc10 (by decide) (by decide) rfl (by decide) ?_
    refine g_aload_n O dX8_number_183 rfl 0 rfl ?_
    refine g_getR O fw_8_32 rfl dX8_number_184 rfl ?_
    refine g_getR O fw_8_251 rfl dX8_number_187 rfl ?_
    refine g_iload_n O dX8_number_190 rfl 1 rfl ?_
    refine g_bipush O dX8_number_191 (by decide +kernel) ?_
    refine g_isub O dX8_number_193 ?_
    refine g_iald O rfl (by decide) dX8_number_194 (fun v14 => ?_)
    exact g_iret O hrt rfl dX8_number_195
  refine g_ite (fun hc11 => ?_) (fun hc11 => ?_)
  · refine g_tin (k := 9) (tgt := 183) O dX8_number_1 hr1 hc11 (by decide) (by decide) rfl (by decide) ?_
    refine g_aload_n O dX8_number_183 rfl 0 rfl ?_
    refine g_getR O fw_8_32 rfl dX8_number_184 rfl ?_
    refine g_getR O fw_8_251 rfl dX8_number_187 rfl ?_
    refine g_iload_n O dX8_number_190 rfl 1 rfl ?_
    refine g_bipush O dX8_number_191 (by decide +kernel) ?_
    refine g_isub O dX8_number_193 ?_
    refine g_iald O rfl (by decide) dX8_number_194 (fun v15 => ?_)
    exact g_iret O hrt rfl dX8_number_195
  refine g_ite (fun hc12 => ?_) (fun hc12 => ?_)
  · refine g_tin (k := 10) (tgt := 196) O dX8_number_1 hr1 hc12 (by decide) (by decide) rfl (by decide) ?_
    refine g_aload_n O dX8_number_196 rfl 0 rfl ?_
    refine g_getR O fw_8_38 rfl dX8_number_197 rfl ?_
    refine g_getI O fw_8_139 rfl dX8_number_200 rfl ?_
    exact g_iret O hrt rfl dX8_number_203
  refine g_ite (fun hc13 => ?_) (fun hc13 => ?_)
  · refine g_tin (k := 11) (tgt := 204) O dX8_number_1 hr1 hc13 (by decide) (by decide) rfl (by decide) ?_
    refine g_aload_n O dX8_number_204 rfl 0 rfl ?_
    refine g_callV1 (As := []) (rest := []) (b := 0) (ci := 8) O mw_3_225 mw_3_227 mp_2_8 mw_3_228 mw_1_1 hd_X8_rowsThere rfl ⟨_, _, rfl⟩ rfl dX8_number_205 (ct_X8_rowsThere  s) (by rw [hfr]; decide) (by rw [hlo]; decide) (Nat.le_of_ble_eq_true rfl) (fun v16 s17 => ?_)
    exact g_iret O hrt rfl dX8_number_208
  refine g_ite (fun hc14 => ?_) (fun hc14 => ?_)
  · refine g_tin (k := 12) (tgt := 209) O dX8_number_1 hr1 hc14 (by decide) (by decide) rfl (by decide) ?_
    refine g_aload_n O dX8_number_209 rfl 0 rfl ?_
    refine g_callV1 (As := []) (rest := []) (b := 0) (ci := 8) O mw_3_229 mw_3_231 mp_2_9 mw_3_232 mw_1_1 hd_X8_textsThere rfl ⟨_, _, rfl⟩ rfl dX8_number_210 (ct_X8_textsThere  s) (by rw [hfr]; decide) (by rw [hlo]; decide) (Nat.le_of_ble_eq_true rfl) (fun v18 s19 => ?_)
    exact g_iret O hrt rfl dX8_number_213
  refine g_tout (tgt := 214) O dX8_number_1 hr1 (by omega) (by decide) ?_
  refine g_aload_n O dX8_number_214 rfl 0 rfl ?_
  refine g_callV1 (As := []) (rest := []) (b := 0) (ci := 8) O mw_3_233 mw_3_235 mp_2_10 mw_3_236 mw_1_1 hd_X8_placesTaken rfl ⟨_, _, rfl⟩ rfl dX8_number_215 (ct_X8_placesTaken  s) (by rw [hfr]; decide) (by rw [hlo]; decide) (Nat.le_of_ble_eq_true rfl) (fun v20 s21 => ?_)
  exact g_iret O hrt rfl dX8_number_218
def X8_count (i1 : Int) (s : St) : Rs := cLt i1 0 (some ((-1), s)) (cLt 13 i1 (some ((-1), s)) (cl (X7_refresh s) (fun _ s2 => cl (X8_number i1 s2) (fun v3 s4 => some (v3, s4)))))
theorem hd_X8_count : yX8_count.cls ≠ "java/lang/invoke/MethodHandle" ∧ yX8_count.cls ≠ "java/lang/invoke/VarHandle" ∧ (parseMethodDescriptor yX8_count.desc).map (fun d => d.parameters.length) = some 1 := by decide +kernel
set_option maxRecDepth 20000 in
set_option maxHeartbeats 4000000 in
theorem ct_X8_count  (i1 : Int) (s : St) : Ctr LC yX8_count cX8_count 2 (Option.some .int) 1 6 126 [vR 0, vI i1] s (X8_count i1 s) := by
  refine Ctr.of (by decide +kernel) (fun ρ => Nat.le_of_ble_eq_true rfl) (lv := [(0, vR 0), (1, vI i1)]) (fun ρ => rfl) (fun K X O hrt hfr hlo => ?_)
  unfold X8_count
  refine g_iload_n O dX8_count_0 rfl 1 rfl ?_
  refine g_if_lt (tgt := 10) O dX8_count_1 (by decide) ?_ ?_
  · refine g_iconst O dX8_count_10 ?_
    exact g_iret O hrt rfl dX8_count_11
  refine g_iload_n O dX8_count_4 rfl 1 rfl ?_
  refine g_bipush O dX8_count_5 (by decide +kernel) ?_
  refine g_icmp_le (tgt := 12) O dX8_count_7 (by decide) ?_ ?_
  · refine g_aload_n O dX8_count_12 rfl 0 rfl ?_
    refine g_getR O fw_8_24 rfl dX8_count_13 rfl ?_
    refine g_callV0 (As := []) (rest := []) (b := 5) (ci := 7) O mw_2_232 mw_2_233 mw_2_234 mw_2_235 mw_1_2 hd_X7_refresh rfl ⟨_, _, rfl⟩ rfl dX8_count_16 (ct_X7_refresh  s) (by rw [hfr]; decide) (by rw [hlo]; decide) (Nat.le_of_ble_eq_true rfl) (fun _ s2 => ?_)
    refine g_aload_n O dX8_count_19 rfl 0 rfl ?_
    refine g_iload_n O dX8_count_20 rfl 1 rfl ?_
    refine g_callV1 (As := [vI i1]) (rest := []) (b := 0) (ci := 8) O mw_3_221 mw_3_223 mp_2_7 mw_3_224 mw_1_1 hd_X8_number rfl ⟨_, _, rfl⟩ rfl dX8_count_21 (ct_X8_number i1 s2) (by rw [hfr]; decide) (by rw [hlo]; decide) (Nat.le_of_ble_eq_true rfl) (fun v3 s4 => ?_)
    exact g_iret O hrt rfl dX8_count_24
  refine g_iconst O dX8_count_10 ?_
  exact g_iret O hrt rfl dX8_count_11
def X8_finding  (s : St) : Rs := some (s 0 9, s)
theorem hd_X8_finding : yX8_finding.cls ≠ "java/lang/invoke/MethodHandle" ∧ yX8_finding.cls ≠ "java/lang/invoke/VarHandle" ∧ (parseMethodDescriptor yX8_finding.desc).map (fun d => d.parameters.length) = some 0 := by decide +kernel
set_option maxRecDepth 20000 in
set_option maxHeartbeats 4000000 in
theorem ct_X8_finding   (s : St) : Ctr LC yX8_finding cX8_finding 1 (Option.some .int) 1 0 0 [vR 0] s (X8_finding s) := by
  refine Ctr.of (by decide +kernel) (fun ρ => Nat.le_of_ble_eq_true rfl) (lv := [(0, vR 0)]) (fun ρ => rfl) (fun K X O hrt hfr hlo => ?_)
  unfold X8_finding
  refine g_aload_n O dX8_finding_0 rfl 0 rfl ?_
  refine g_getI O fw_8_64 rfl dX8_finding_1 rfl ?_
  exact g_iret O hrt rfl dX8_finding_4
def X8_findings (i1 : Int) (s : St) : Rs := cLt i1 1 (some ((-1), s)) (cLt 5 i1 (some ((-1), s)) (rd s 1 6 i1 (fun v1 => some (v1, s))))
theorem hd_X8_findings : yX8_findings.cls ≠ "java/lang/invoke/MethodHandle" ∧ yX8_findings.cls ≠ "java/lang/invoke/VarHandle" ∧ (parseMethodDescriptor yX8_findings.desc).map (fun d => d.parameters.length) = some 1 := by decide +kernel
set_option maxRecDepth 20000 in
set_option maxHeartbeats 4000000 in
theorem ct_X8_findings  (i1 : Int) (s : St) : Ctr LC yX8_findings cX8_findings 2 (Option.some .int) 1 0 0 [vR 0, vI i1] s (X8_findings i1 s) := by
  refine Ctr.of (by decide +kernel) (fun ρ => Nat.le_of_ble_eq_true rfl) (lv := [(0, vR 0), (1, vI i1)]) (fun ρ => rfl) (fun K X O hrt hfr hlo => ?_)
  unfold X8_findings
  refine g_iload_n O dX8_findings_0 rfl 1 rfl ?_
  refine g_iconst O dX8_findings_1 ?_
  refine g_icmp_lt (tgt := 10) O dX8_findings_2 (by decide) ?_ ?_
  · refine g_iconst O dX8_findings_10 ?_
    exact g_iret O hrt rfl dX8_findings_11
  refine g_iload_n O dX8_findings_5 rfl 1 rfl ?_
  refine g_iconst O dX8_findings_6 ?_
  refine g_icmp_le (tgt := 12) O dX8_findings_7 (by decide) ?_ ?_
  · refine g_aload_n O dX8_findings_12 rfl 0 rfl ?_
    refine g_getR O fw_8_60 rfl dX8_findings_13 rfl ?_
    refine g_iload_n O dX8_findings_16 rfl 1 rfl ?_
    refine g_iald O rfl (by decide) dX8_findings_17 (fun v1 => ?_)
    exact g_iret O hrt rfl dX8_findings_18
  refine g_iconst O dX8_findings_10 ?_
  exact g_iret O hrt rfl dX8_findings_11
def X8_digestOfTree_16 (i3 : Int) (a4 : Nat) (k : Int → St → Rs) : Nat → Int → Int → St → Rs
  | 0, _, _, _ => none
  | n + 1, l5, i7, s => cLt i7 (s a4 0) (rd s (a4 + 1) 12 i7 (fun v1 => cl (X6_leftmost a4 i7 s) (fun v2 s3 => cl (X6_parent a4 i7 s3) (fun v4 s5 => cl (X3_isWhole s5) (fun v6 s7 => cEq v6 0 (X8_digestOfTree_16 i3 a4 k n ((31 * ((31 * ((31 * ((31 * l5) + (w32 v1))) + (w32 v2))) + (w32 v4))) + (w32 (-1))) (i7 + 1) s7) (cl (X7_partnerOf i3 i7 s7) (fun v8 s9 => X8_digestOfTree_16 i3 a4 k n ((31 * ((31 * ((31 * ((31 * l5) + (w32 v1))) + (w32 v2))) + (w32 v4))) + (w32 v8)) (i7 + 1) s9))))))) (k l5 s)
def X8_digestOfTree (l1 : Int) (i3 : Int) (s : St) : Rs := cl (X3_tree i3 s) (fun v1 s2 => gK LC v1.toNat 16 (X8_digestOfTree_16 i3 v1.toNat (fun x3 s4 => some (x3, s4)) FU l1 0 s2))
set_option maxRecDepth 20000 in
set_option maxHeartbeats 4000000 in
theorem lt_X8_digestOfTree_16 {K : Cx} {X : Wx} (O : OKx LC K X yX8_digestOfTree.cls cX8_digestOfTree 8) (hrt : (kMe K).sig.returnType = (Option.some .long)) (hfr : (kR K).frames = 2) (hlo : (kR K).locals = 43) {i3 : Int} {a4 : Nat} {k : Int → St → Rs} (ha4 : Kd LC a4 16) (hk : ∀ (l5 : Int) (s : St), GX LC K X 8 2 118 [(5, vL l5)] [] s (k l5 s)) : ∀ (n : Nat) (l5 : Int) (i7 : Int) (s : St), GX LC K X 8 2 16 [(0, vR 0), (3, vI i3), (4, vR a4), (5, vL l5), (7, vI i7)] [] s (X8_digestOfTree_16 i3 a4 k n l5 i7 s) := by
  intro n
  induction n with
  | zero => intro l5 i7 s; exact GX.none
  | succ n ih =>
    intro l5 i7 s
    rw [X8_digestOfTree_16]
    refine g_iload O dX8_digestOfTree_16 4 rfl ?_
    refine g_aload O dX8_digestOfTree_18 2 rfl ?_
    refine g_getI O fw_8_142 (tree_c ha4) dX8_digestOfTree_20 rfl ?_
    refine g_icmp_ge (tgt := 118) O dX8_digestOfTree_23 (by decide) ?_ ?_
    · refine g_pick [3] rfl ?_
      exact hk l5 s
    refine g_ldc2 (x := 31) O dX8_digestOfTree_26 mw_4_10 (by decide +kernel) ?_
    refine g_lload O dX8_digestOfTree_29 3 rfl ?_
    refine g_lmul O dX8_digestOfTree_31 ?_
    refine g_aload O dX8_digestOfTree_32 2 rfl ?_
    refine g_getR O fw_8_156 (tree_c ha4) dX8_digestOfTree_34 rfl ?_
    refine g_iload O dX8_digestOfTree_37 4 rfl ?_
    refine g_iald O (tree_1 ha4) (by decide) dX8_digestOfTree_39 (fun v1 => ?_)
    refine g_i2l O dX8_digestOfTree_40 ?_
    refine g_ladd O dX8_digestOfTree_41 ?_
    refine g_lstore (lv2 := [(5, vL ((31 * l5) + (w32 v1))), (0, vR 0), (3, vI i3), (4, vR a4), (7, vI i7)]) O dX8_digestOfTree_42 (by decide) rfl ?_
    refine g_ldc2 (x := 31) O dX8_digestOfTree_44 mw_4_10 (by decide +kernel) ?_
    refine g_lload O dX8_digestOfTree_47 0 rfl ?_
    refine g_lmul O dX8_digestOfTree_49 ?_
    refine g_aload O dX8_digestOfTree_50 3 rfl ?_
    refine g_iload O dX8_digestOfTree_52 4 rfl ?_
    refine g_callV1 (As := [vI i7]) (rest := [vL (31 * ((31 * l5) + (w32 v1)))]) (b := a4) (ci := 6) O mw_2_177 mw_2_157 mw_2_158 mw_2_159 mw_1_4 hd_X6_leftmost rfl ha4 rfl dX8_digestOfTree_54 (ct_X6_leftmost ha4 i7 s) (by rw [hfr]; decide) (by rw [hlo]; decide) (Nat.le_of_ble_eq_true rfl) (fun v2 s3 => ?_)
    refine g_i2l O dX8_digestOfTree_57 ?_
    refine g_ladd O dX8_digestOfTree_58 ?_
    refine g_lstore (lv2 := [(5, vL ((31 * ((31 * l5) + (w32 v1))) + (w32 v2))), (0, vR 0), (3, vI i3), (4, vR a4), (7, vI i7)]) O dX8_digestOfTree_59 (by decide) rfl ?_
    refine g_ldc2 (x := 31) O dX8_digestOfTree_61 mw_4_10 (by decide +kernel) ?_
    refine g_lload O dX8_digestOfTree_64 0 rfl ?_
    refine g_lmul O dX8_digestOfTree_66 ?_
    refine g_aload O dX8_digestOfTree_67 3 rfl ?_
    refine g_iload O dX8_digestOfTree_69 4 rfl ?_
    refine g_callV1 (As := [vI i7]) (rest := [vL (31 * ((31 * ((31 * l5) + (w32 v1))) + (w32 v2)))]) (b := a4) (ci := 6) O mw_2_187 mw_2_184 mw_2_185 mw_2_186 mw_1_4 hd_X6_parent rfl ha4 rfl dX8_digestOfTree_71 (ct_X6_parent ha4 i7 s3) (by rw [hfr]; decide) (by rw [hlo]; decide) (Nat.le_of_ble_eq_true rfl) (fun v4 s5 => ?_)
    refine g_i2l O dX8_digestOfTree_74 ?_
    refine g_ladd O dX8_digestOfTree_75 ?_
    refine g_lstore (lv2 := [(5, vL ((31 * ((31 * ((31 * l5) + (w32 v1))) + (w32 v2))) + (w32 v4))), (0, vR 0), (3, vI i3), (4, vR a4), (7, vI i7)]) O dX8_digestOfTree_76 (by decide) rfl ?_
    refine g_ldc2 (x := 31) O dX8_digestOfTree_78 mw_4_10 (by decide +kernel) ?_
    refine g_lload O dX8_digestOfTree_81 0 rfl ?_
    refine g_lmul O dX8_digestOfTree_83 ?_
    refine g_aload_n O dX8_digestOfTree_84 rfl 1 rfl ?_
    refine g_getR O fw_8_32 rfl dX8_digestOfTree_85 rfl ?_
    refine g_callV1 (As := []) (rest := [vL (31 * ((31 * ((31 * ((31 * l5) + (w32 v1))) + (w32 v2))) + (w32 v4)))]) (b := 6) (ci := 3) O mw_2_228 mw_2_229 mw_2_230 mw_2_231 mw_1_3 hd_X3_isWhole rfl ⟨_, _, rfl⟩ rfl dX8_digestOfTree_88 (ct_X3_isWhole  s5) (by rw [hfr]; decide) (by rw [hlo]; decide) (Nat.le_of_ble_eq_true rfl) (fun v6 s7 => ?_)
    refine g_if_eq (tgt := 107) O dX8_digestOfTree_91 (by decide) ?_ ?_
    · refine g_iconst O dX8_digestOfTree_107 ?_
      refine g_i2l O dX8_digestOfTree_108 ?_
      refine g_ladd O dX8_digestOfTree_109 ?_
      refine g_lstore (lv2 := [(5, vL ((31 * ((31 * ((31 * ((31 * l5) + (w32 v1))) + (w32 v2))) + (w32 v4))) + (w32 (-1)))), (0, vR 0), (3, vI i3), (4, vR a4), (7, vI i7)]) O dX8_digestOfTree_110 (by decide) rfl ?_
      refine g_iinc (lv2 := [(7, vI (i7 + 1)), (5, vL ((31 * ((31 * ((31 * ((31 * l5) + (w32 v1))) + (w32 v2))) + (w32 v4))) + (w32 (-1)))), (0, vR 0), (3, vI i3), (4, vR a4)]) O dX8_digestOfTree_112 4 rfl (by decide) rfl ?_
      refine g_goto (tgt := 16) O dX8_digestOfTree_115 (by decide) ?_
      refine g_pick [2, 3, 4, 1, 0] rfl ?_
      exact ih ((31 * ((31 * ((31 * ((31 * l5) + (w32 v1))) + (w32 v2))) + (w32 v4))) + (w32 (-1))) (i7 + 1) s7
    refine g_aload_n O dX8_digestOfTree_94 rfl 1 rfl ?_
    refine g_getR O fw_8_24 rfl dX8_digestOfTree_95 rfl ?_
    refine g_iload_n O dX8_digestOfTree_98 rfl 2 rfl ?_
    refine g_iload O dX8_digestOfTree_99 4 rfl ?_
    refine g_callV1 (As := [vI i3, vI i7]) (rest := [vL (31 * ((31 * ((31 * ((31 * l5) + (w32 v1))) + (w32 v2))) + (w32 v4)))]) (b := 5) (ci := 7) O mw_3_57 mw_3_58 mw_3_59 mw_3_60 mw_1_2 hd_X7_partnerOf rfl ⟨_, _, rfl⟩ rfl dX8_digestOfTree_101 (ct_X7_partnerOf i3 i7 s7) (by rw [hfr]; decide) (by rw [hlo]; decide) (Nat.le_of_ble_eq_true rfl) (fun v8 s9 => ?_)
    refine g_goto (tgt := 108) O dX8_digestOfTree_104 (by decide) ?_
    refine g_i2l O dX8_digestOfTree_108 ?_
    refine g_ladd O dX8_digestOfTree_109 ?_
    refine g_lstore (lv2 := [(5, vL ((31 * ((31 * ((31 * ((31 * l5) + (w32 v1))) + (w32 v2))) + (w32 v4))) + (w32 v8))), (0, vR 0), (3, vI i3), (4, vR a4), (7, vI i7)]) O dX8_digestOfTree_110 (by decide) rfl ?_
    refine g_iinc (lv2 := [(7, vI (i7 + 1)), (5, vL ((31 * ((31 * ((31 * ((31 * l5) + (w32 v1))) + (w32 v2))) + (w32 v4))) + (w32 v8))), (0, vR 0), (3, vI i3), (4, vR a4)]) O dX8_digestOfTree_112 4 rfl (by decide) rfl ?_
    refine g_goto (tgt := 16) O dX8_digestOfTree_115 (by decide) ?_
    refine g_pick [2, 3, 4, 1, 0] rfl ?_
    exact ih ((31 * ((31 * ((31 * ((31 * l5) + (w32 v1))) + (w32 v2))) + (w32 v4))) + (w32 v8)) (i7 + 1) s9
theorem hd_X8_digestOfTree : yX8_digestOfTree.cls ≠ "java/lang/invoke/MethodHandle" ∧ yX8_digestOfTree.cls ≠ "java/lang/invoke/VarHandle" ∧ (parseMethodDescriptor yX8_digestOfTree.desc).map (fun d => d.parameters.length) = some 2 := by decide +kernel
set_option maxRecDepth 20000 in
set_option maxHeartbeats 4000000 in
theorem ct_X8_digestOfTree  (l1 : Int) (i3 : Int) (s : St) : Ctr LC yX8_digestOfTree cX8_digestOfTree 8 (Option.some .long) 2 2 43 [vR 0, vL l1, vI i3] s (X8_digestOfTree l1 i3 s) := by
  refine Ctr.of (by decide +kernel) (fun ρ => Nat.le_of_ble_eq_true rfl) (lv := [(0, vR 0), (1, vL l1), (3, vI i3)]) (fun ρ => rfl) (fun K X O hrt hfr hlo => ?_)
  unfold X8_digestOfTree
  refine g_aload_n O dX8_digestOfTree_0 rfl 0 rfl ?_
  refine g_getR O fw_8_32 rfl dX8_digestOfTree_1 rfl ?_
  refine g_iload_n O dX8_digestOfTree_4 rfl 2 rfl ?_
  refine g_callV3 (As := [vI i3]) (rest := []) (b := 6) (ci := 3) O mw_2_131 mw_2_132 mw_2_133 mw_2_134 mw_1_3 hd_X3_tree rfl ⟨_, _, rfl⟩ rfl dX8_digestOfTree_5 (ct_X3_tree i3 s) (by rw [hfr]; decide) (by rw [hlo]; decide) (Nat.le_of_ble_eq_true rfl) (fun v1 s2 => ?_)
  refine g_gK (by decide) (fun hk1 => ?_)
  refine g_astore (lv2 := [(4, vR v1.toNat), (0, vR 0), (1, vL l1), (3, vI i3)]) O dX8_digestOfTree_8 (by decide) rfl ?_
  refine g_lload_n O dX8_digestOfTree_10 rfl 2 rfl ?_
  refine g_lstore (lv2 := [(5, vL l1), (4, vR v1.toNat), (0, vR 0), (1, vL l1), (3, vI i3)]) O dX8_digestOfTree_11 (by decide) rfl ?_
  refine g_iconst O dX8_digestOfTree_13 ?_
  refine g_istore (lv2 := [(7, vI 0), (5, vL l1), (4, vR v1.toNat), (0, vR 0), (1, vL l1), (3, vI i3)]) O dX8_digestOfTree_14 (by decide) rfl ?_
  refine g_pick [3, 5, 2, 1, 0] rfl ?_
  refine lt_X8_digestOfTree_16 O hrt hfr hlo hk1 (fun x3 s4 => ?_) FU l1 0 s2
  refine g_lload O dX8_digestOfTree_118 0 rfl ?_
  exact g_lret O hrt dX8_digestOfTree_120
def X2_digestAfter_15 (a0 : Nat) (k : Int → St → Rs) : Nat → Int → Int → St → Rs
  | 0, _, _, _ => none
  | n + 1, l3, i5, s => cLt i5 (s a0 0) (rd s (a0 + 1) 40 i5 (fun v1 => X2_digestAfter_15 a0 k n ((31 * l3) + (w32 v1)) (i5 + 1) s)) (k l3 s)
def X2_digestAfter (a0 : Nat) (l1 : Int) (s : St) : Rs := X2_digestAfter_15 a0 (fun x1 s2 => some (x1, s2)) FU ((31 * l1) + (w32 (s a0 0))) 0 s
set_option maxRecDepth 20000 in
set_option maxHeartbeats 4000000 in
theorem lt_X2_digestAfter_15 {K : Cx} {X : Wx} (O : OKx LC K X yX2_digestAfter.cls cX2_digestAfter 6) (hrt : (kMe K).sig.returnType = (Option.some .long)) (hfr : (kR K).frames = 0) (hlo : (kR K).locals = 0) {a0 : Nat} {k : Int → St → Rs} (ha0 : Kd LC a0 12) (hk : ∀ (l3 : Int) (s : St), GX LC K X 6 2 45 [(3, vL l3)] [] s (k l3 s)) : ∀ (n : Nat) (l3 : Int) (i5 : Int) (s : St), GX LC K X 6 2 15 [(0, vR a0), (3, vL l3), (5, vI i5)] [] s (X2_digestAfter_15 a0 k n l3 i5 s) := by
  intro n
  induction n with
  | zero => intro l3 i5 s; exact GX.none
  | succ n ih =>
    intro l3 i5 s
    rw [X2_digestAfter_15]
    refine g_iload O dX2_digestAfter_15 2 rfl ?_
    refine g_aload_n O dX2_digestAfter_17 rfl 0 rfl ?_
    refine g_getI O fw_2_9 (row_c ha0) dX2_digestAfter_18 rfl ?_
    refine g_icmp_ge (tgt := 45) O dX2_digestAfter_21 (by decide) ?_ ?_
    · refine g_pick [1] rfl ?_
      exact hk l3 s
    refine g_ldc2 (x := 31) O dX2_digestAfter_24 mw_4_19 (by decide +kernel) ?_
    refine g_lload_n O dX2_digestAfter_27 rfl 1 rfl ?_
    refine g_lmul O dX2_digestAfter_28 ?_
    refine g_aload_n O dX2_digestAfter_29 rfl 0 rfl ?_
    refine g_getR O fw_2_15 (row_c ha0) dX2_digestAfter_30 rfl ?_
    refine g_iload O dX2_digestAfter_33 2 rfl ?_
    refine g_iald O (row_1 ha0) (by decide) dX2_digestAfter_35 (fun v1 => ?_)
    refine g_i2l O dX2_digestAfter_36 ?_
    refine g_ladd O dX2_digestAfter_37 ?_
    refine g_lstore_n (lv2 := [(3, vL ((31 * l3) + (w32 v1))), (0, vR a0), (5, vI i5)]) O dX2_digestAfter_38 rfl (by decide) rfl ?_
    refine g_iinc (lv2 := [(5, vI (i5 + 1)), (3, vL ((31 * l3) + (w32 v1))), (0, vR a0)]) O dX2_digestAfter_39 2 rfl (by decide) rfl ?_
    refine g_goto (tgt := 15) O dX2_digestAfter_42 (by decide) ?_
    refine g_pick [2, 1, 0] rfl ?_
    exact ih ((31 * l3) + (w32 v1)) (i5 + 1) s
theorem hd_X2_digestAfter : yX2_digestAfter.cls ≠ "java/lang/invoke/MethodHandle" ∧ yX2_digestAfter.cls ≠ "java/lang/invoke/VarHandle" ∧ (parseMethodDescriptor yX2_digestAfter.desc).map (fun d => d.parameters.length) = some 1 := by decide +kernel
set_option maxRecDepth 20000 in
set_option maxHeartbeats 4000000 in
theorem ct_X2_digestAfter {a0 : Nat} (ha0 : Kd LC a0 12) (l1 : Int) (s : St) : Ctr LC yX2_digestAfter cX2_digestAfter 6 (Option.some .long) 2 0 0 [vR a0, vL l1] s (X2_digestAfter a0 l1 s) := by
  refine Ctr.of (by decide +kernel) (fun ρ => Nat.le_of_ble_eq_true rfl) (lv := [(0, vR a0), (1, vL l1)]) (fun ρ => rfl) (fun K X O hrt hfr hlo => ?_)
  unfold X2_digestAfter
  refine g_ldc2 (x := 31) O dX2_digestAfter_0 mw_4_19 (by decide +kernel) ?_
  refine g_lload_n O dX2_digestAfter_3 rfl 1 rfl ?_
  refine g_lmul O dX2_digestAfter_4 ?_
  refine g_aload_n O dX2_digestAfter_5 rfl 0 rfl ?_
  refine g_getI O fw_2_9 (row_c ha0) dX2_digestAfter_6 rfl ?_
  refine g_i2l O dX2_digestAfter_9 ?_
  refine g_ladd O dX2_digestAfter_10 ?_
  refine g_lstore_n (lv2 := [(3, vL ((31 * l1) + (w32 (s a0 0)))), (0, vR a0), (1, vL l1)]) O dX2_digestAfter_11 rfl (by decide) rfl ?_
  refine g_iconst O dX2_digestAfter_12 ?_
  refine g_istore (lv2 := [(5, vI 0), (3, vL ((31 * l1) + (w32 (s a0 0)))), (0, vR a0), (1, vL l1)]) O dX2_digestAfter_13 (by decide) rfl ?_
  refine g_pick [2, 1, 0] rfl ?_
  refine lt_X2_digestAfter_15 O hrt hfr hlo ha0 (fun x1 s2 => ?_) FU ((31 * l1) + (w32 (s a0 0))) 0 s
  refine g_lload_n O dX2_digestAfter_45 rfl 0 rfl ?_
  exact g_lret O hrt dX2_digestAfter_46
def X5_digestAfter_15 (a0 : Nat) (k : Int → St → Rs) : Nat → Int → Int → St → Rs
  | 0, _, _, _ => none
  | n + 1, l3, i5, s => cLt i5 (s a0 0) (rd s (a0 + 1) 60 i5 (fun v1 => X5_digestAfter_15 a0 k n ((31 * l3) + (w32 v1)) (i5 + 1) s)) (k l3 s)
def X5_digestAfter (a0 : Nat) (l1 : Int) (s : St) : Rs := X5_digestAfter_15 a0 (fun x1 s2 => some (x1, s2)) FU ((31 * l1) + (w32 (s a0 0))) 0 s
set_option maxRecDepth 20000 in
set_option maxHeartbeats 4000000 in
theorem lt_X5_digestAfter_15 {K : Cx} {X : Wx} (O : OKx LC K X yX5_digestAfter.cls cX5_digestAfter 6) (hrt : (kMe K).sig.returnType = (Option.some .long)) (hfr : (kR K).frames = 0) (hlo : (kR K).locals = 0) {a0 : Nat} {k : Int → St → Rs} (ha0 : Kd LC a0 15) (hk : ∀ (l3 : Int) (s : St), GX LC K X 6 2 45 [(3, vL l3)] [] s (k l3 s)) : ∀ (n : Nat) (l3 : Int) (i5 : Int) (s : St), GX LC K X 6 2 15 [(0, vR a0), (3, vL l3), (5, vI i5)] [] s (X5_digestAfter_15 a0 k n l3 i5 s) := by
  intro n
  induction n with
  | zero => intro l3 i5 s; exact GX.none
  | succ n ih =>
    intro l3 i5 s
    rw [X5_digestAfter_15]
    refine g_iload O dX5_digestAfter_15 2 rfl ?_
    refine g_aload_n O dX5_digestAfter_17 rfl 0 rfl ?_
    refine g_getI O fw_5_9 (txt_c ha0) dX5_digestAfter_18 rfl ?_
    refine g_icmp_ge (tgt := 45) O dX5_digestAfter_21 (by decide) ?_ ?_
    · refine g_pick [1] rfl ?_
      exact hk l3 s
    refine g_ldc2 (x := 31) O dX5_digestAfter_24 mw_4_24 (by decide +kernel) ?_
    refine g_lload_n O dX5_digestAfter_27 rfl 1 rfl ?_
    refine g_lmul O dX5_digestAfter_28 ?_
    refine g_aload_n O dX5_digestAfter_29 rfl 0 rfl ?_
    refine g_getR O fw_5_15 (txt_c ha0) dX5_digestAfter_30 rfl ?_
    refine g_iload O dX5_digestAfter_33 2 rfl ?_
    refine g_bald O (txt_1 ha0) (by decide) dX5_digestAfter_35 (fun v1 => ?_)
    refine g_i2l O dX5_digestAfter_36 ?_
    refine g_ladd O dX5_digestAfter_37 ?_
    refine g_lstore_n (lv2 := [(3, vL ((31 * l3) + (w32 v1))), (0, vR a0), (5, vI i5)]) O dX5_digestAfter_38 rfl (by decide) rfl ?_
    refine g_iinc (lv2 := [(5, vI (i5 + 1)), (3, vL ((31 * l3) + (w32 v1))), (0, vR a0)]) O dX5_digestAfter_39 2 rfl (by decide) rfl ?_
    refine g_goto (tgt := 15) O dX5_digestAfter_42 (by decide) ?_
    refine g_pick [2, 1, 0] rfl ?_
    exact ih ((31 * l3) + (w32 v1)) (i5 + 1) s
theorem hd_X5_digestAfter : yX5_digestAfter.cls ≠ "java/lang/invoke/MethodHandle" ∧ yX5_digestAfter.cls ≠ "java/lang/invoke/VarHandle" ∧ (parseMethodDescriptor yX5_digestAfter.desc).map (fun d => d.parameters.length) = some 1 := by decide +kernel
set_option maxRecDepth 20000 in
set_option maxHeartbeats 4000000 in
theorem ct_X5_digestAfter {a0 : Nat} (ha0 : Kd LC a0 15) (l1 : Int) (s : St) : Ctr LC yX5_digestAfter cX5_digestAfter 6 (Option.some .long) 2 0 0 [vR a0, vL l1] s (X5_digestAfter a0 l1 s) := by
  refine Ctr.of (by decide +kernel) (fun ρ => Nat.le_of_ble_eq_true rfl) (lv := [(0, vR a0), (1, vL l1)]) (fun ρ => rfl) (fun K X O hrt hfr hlo => ?_)
  unfold X5_digestAfter
  refine g_ldc2 (x := 31) O dX5_digestAfter_0 mw_4_24 (by decide +kernel) ?_
  refine g_lload_n O dX5_digestAfter_3 rfl 1 rfl ?_
  refine g_lmul O dX5_digestAfter_4 ?_
  refine g_aload_n O dX5_digestAfter_5 rfl 0 rfl ?_
  refine g_getI O fw_5_9 (txt_c ha0) dX5_digestAfter_6 rfl ?_
  refine g_i2l O dX5_digestAfter_9 ?_
  refine g_ladd O dX5_digestAfter_10 ?_
  refine g_lstore_n (lv2 := [(3, vL ((31 * l1) + (w32 (s a0 0)))), (0, vR a0), (1, vL l1)]) O dX5_digestAfter_11 rfl (by decide) rfl ?_
  refine g_iconst O dX5_digestAfter_12 ?_
  refine g_istore (lv2 := [(5, vI 0), (3, vL ((31 * l1) + (w32 (s a0 0)))), (0, vR a0), (1, vL l1)]) O dX5_digestAfter_13 (by decide) rfl ?_
  refine g_pick [2, 1, 0] rfl ?_
  refine lt_X5_digestAfter_15 O hrt hfr hlo ha0 (fun x1 s2 => ?_) FU ((31 * l1) + (w32 (s a0 0))) 0 s
  refine g_lload_n O dX5_digestAfter_45 rfl 0 rfl ?_
  exact g_lret O hrt dX5_digestAfter_46
def X8_digest_13  (k : Int → St → Rs) : Nat → Int → Int → St → Rs
  | 0, _, _, _ => none
  | n + 1, l1, i3, s => cLt 13 i3 (k l1 s) (cl (X8_number i3 s) (fun v1 s2 => X8_digest_13 k n ((31 * l1) + (w32 v1)) (i3 + 1) s2))
def X8_digest_52  (k : Int → St → Rs) : Nat → Int → Int → St → Rs
  | 0, _, _, _ => none
  | n + 1, l1, i3, s => cLt i3 3 (rdR 3 i3 (fun j1 => X8_digest_52 k n ((31 * l1) + (w32 (s (32 + 2 * j1) 0))) (i3 + 1) s)) (k l1 s)
def X8_digest_82  (k : Int → St → Rs) : Nat → Int → Int → St → Rs
  | 0, _, _, _ => none
  | n + 1, l1, i3, s => cLt i3 6 (rdR 6 i3 (fun j1 => cl (X2_digestAfter (10 + 2 * j1) l1 s) (fun v2 s3 => X8_digest_82 k n v2 (i3 + 1) s3))) (k l1 s)
def X8_digest_107  (k : Int → St → Rs) : Nat → Int → Int → St → Rs
  | 0, _, _, _ => none
  | n + 1, l1, i3, s => cLt i3 4 (rdR 4 i3 (fun j1 => cl (X5_digestAfter (22 + 2 * j1) l1 s) (fun v2 s3 => X8_digest_107 k n v2 (i3 + 1) s3))) (k l1 s)
def X8_digest  (s : St) : Rs := cl (X7_refresh s) (fun _ s2 => X8_digest_13  (fun x3 s4 => cl (X8_digestOfTree x3 0 s4) (fun v5 s6 => cl (X8_digestOfTree v5 1 s6) (fun v7 s8 => X8_digest_52  (fun x9 s10 => X8_digest_82  (fun x11 s12 => X8_digest_107  (fun x13 s14 => some (x13, s14)) FU x11 0 s12) FU x9 0 s10) FU v7 0 s8))) FU 17 0 s2)
set_option maxRecDepth 20000 in
set_option maxHeartbeats 4000000 in
theorem lt_X8_digest_13 {K : Cx} {X : Wx} (O : OKx LC K X yX8_digest.cls cX8_digest 4) (hrt : (kMe K).sig.returnType = (Option.some .long)) (hfr : (kR K).frames = 6) (hlo : (kR K).locals = 126)  {k : Int → St → Rs}  (hk : ∀ (l1 : Int) (s : St), GX LC K X 4 2 38 [(0, vR 0), (1, vL l1)] [] s (k l1 s)) : ∀ (n : Nat) (l1 : Int) (i3 : Int) (s : St), GX LC K X 4 2 13 [(0, vR 0), (1, vL l1), (3, vI i3)] [] s (X8_digest_13 k n l1 i3 s) := by
  intro n
  induction n with
  | zero => intro l1 i3 s; exact GX.none
  | succ n ih =>
    intro l1 i3 s
    rw [X8_digest_13]
    refine g_iload_n O dX8_digest_13 rfl 2 rfl ?_
    refine g_bipush O dX8_digest_14 (by decide +kernel) ?_
    refine g_icmp_gt (tgt := 38) O dX8_digest_16 (by decide) ?_ ?_
    · refine g_pick [0, 1] rfl ?_
      exact hk l1 s
    refine g_ldc2 (x := 31) O dX8_digest_19 mw_4_10 (by decide +kernel) ?_
    refine g_lload_n O dX8_digest_22 rfl 1 rfl ?_
    refine g_lmul O dX8_digest_23 ?_
    refine g_aload_n O dX8_digest_24 rfl 0 rfl ?_
    refine g_iload_n O dX8_digest_25 rfl 2 rfl ?_
    refine g_callV1 (As := [vI i3]) (rest := [vL (31 * l1)]) (b := 0) (ci := 8) O mw_3_221 mw_3_223 mp_2_7 mw_3_224 mw_1_1 hd_X8_number rfl ⟨_, _, rfl⟩ rfl dX8_digest_26 (ct_X8_number i3 s) (by rw [hfr]; decide) (by rw [hlo]; decide) (Nat.le_of_ble_eq_true rfl) (fun v1 s2 => ?_)
    refine g_i2l O dX8_digest_29 ?_
    refine g_ladd O dX8_digest_30 ?_
    refine g_lstore_n (lv2 := [(1, vL ((31 * l1) + (w32 v1))), (0, vR 0), (3, vI i3)]) O dX8_digest_31 rfl (by decide) rfl ?_
    refine g_iinc (lv2 := [(3, vI (i3 + 1)), (1, vL ((31 * l1) + (w32 v1))), (0, vR 0)]) O dX8_digest_32 2 rfl (by decide) rfl ?_
    refine g_goto (tgt := 13) O dX8_digest_35 (by decide) ?_
    refine g_pick [2, 1, 0] rfl ?_
    exact ih ((31 * l1) + (w32 v1)) (i3 + 1) s2
set_option maxRecDepth 20000 in
set_option maxHeartbeats 4000000 in
theorem lt_X8_digest_52 {K : Cx} {X : Wx} (O : OKx LC K X yX8_digest.cls cX8_digest 4) (hrt : (kMe K).sig.returnType = (Option.some .long)) (hfr : (kR K).frames = 6) (hlo : (kR K).locals = 126)  {k : Int → St → Rs}  (hk : ∀ (l1 : Int) (s : St), GX LC K X 4 2 80 [(0, vR 0), (1, vL l1)] [] s (k l1 s)) : ∀ (n : Nat) (l1 : Int) (i3 : Int) (s : St), GX LC K X 4 2 52 [(0, vR 0), (1, vL l1), (3, vI i3)] [] s (X8_digest_52 k n l1 i3 s) := by
  intro n
  induction n with
  | zero => intro l1 i3 s; exact GX.none
  | succ n ih =>
    intro l1 i3 s
    rw [X8_digest_52]
    refine g_iload_n O dX8_digest_52 rfl 2 rfl ?_
    refine g_iconst O dX8_digest_53 ?_
    refine g_icmp_ge (tgt := 80) O dX8_digest_54 (by decide) ?_ ?_
    · refine g_pick [0, 1] rfl ?_
      exact hk l1 s
    refine g_ldc2 (x := 31) O dX8_digest_57 mw_4_10 (by decide +kernel) ?_
    refine g_lload_n O dX8_digest_60 rfl 1 rfl ?_
    refine g_lmul O dX8_digest_61 ?_
    refine g_aload_n O dX8_digest_62 rfl 0 rfl ?_
    refine g_getR O fw_8_42 rfl dX8_digest_63 rfl ?_
    refine g_iload_n O dX8_digest_66 rfl 2 rfl ?_
    refine g_aald (g := fun j => 32 + 2 * j) O rfl (by decide) (by decide) (by decide) el_4 dX8_digest_67 (fun j1 hj1 => ?_)
    refine g_getI O fw_8_139 (log_c (elk_4 hj1)) dX8_digest_68 rfl ?_
    refine g_i2l O dX8_digest_71 ?_
    refine g_ladd O dX8_digest_72 ?_
    refine g_lstore_n (lv2 := [(1, vL ((31 * l1) + (w32 (s (32 + 2 * j1) 0)))), (0, vR 0), (3, vI i3)]) O dX8_digest_73 rfl (by decide) rfl ?_
    refine g_iinc (lv2 := [(3, vI (i3 + 1)), (1, vL ((31 * l1) + (w32 (s (32 + 2 * j1) 0)))), (0, vR 0)]) O dX8_digest_74 2 rfl (by decide) rfl ?_
    refine g_goto (tgt := 52) O dX8_digest_77 (by decide) ?_
    refine g_pick [2, 1, 0] rfl ?_
    exact ih ((31 * l1) + (w32 (s (32 + 2 * j1) 0))) (i3 + 1) s
set_option maxRecDepth 20000 in
set_option maxHeartbeats 4000000 in
theorem lt_X8_digest_82 {K : Cx} {X : Wx} (O : OKx LC K X yX8_digest.cls cX8_digest 4) (hrt : (kMe K).sig.returnType = (Option.some .long)) (hfr : (kR K).frames = 6) (hlo : (kR K).locals = 126)  {k : Int → St → Rs}  (hk : ∀ (l1 : Int) (s : St), GX LC K X 4 2 105 [(0, vR 0), (1, vL l1)] [] s (k l1 s)) : ∀ (n : Nat) (l1 : Int) (i3 : Int) (s : St), GX LC K X 4 2 82 [(0, vR 0), (1, vL l1), (3, vI i3)] [] s (X8_digest_82 k n l1 i3 s) := by
  intro n
  induction n with
  | zero => intro l1 i3 s; exact GX.none
  | succ n ih =>
    intro l1 i3 s
    rw [X8_digest_82]
    refine g_iload_n O dX8_digest_82 rfl 2 rfl ?_
    refine g_bipush O dX8_digest_83 (by decide +kernel) ?_
    refine g_icmp_ge (tgt := 105) O dX8_digest_85 (by decide) ?_ ?_
    · refine g_pick [0, 1] rfl ?_
      exact hk l1 s
    refine g_aload_n O dX8_digest_88 rfl 0 rfl ?_
    refine g_getR O fw_8_11 rfl dX8_digest_89 rfl ?_
    refine g_iload_n O dX8_digest_92 rfl 2 rfl ?_
    refine g_aald (g := fun j => 10 + 2 * j) O rfl (by decide) (by decide) (by decide) el_2 dX8_digest_93 (fun j1 hj1 => ?_)
    refine g_lload_n O dX8_digest_94 rfl 1 rfl ?_
    refine g_callV2 (As := [vL l1]) (rest := []) (b := 10 + 2 * j1) (ci := 2) O mw_4_15 mw_4_16 mw_4_17 mw_4_18 mw_1_8 hd_X2_digestAfter rfl (elk_2 hj1) rfl dX8_digest_95 (ct_X2_digestAfter (elk_2 hj1) l1 s) (by rw [hfr]; decide) (by rw [hlo]; decide) (Nat.le_of_ble_eq_true rfl) (fun v2 s3 => ?_)
    refine g_lstore_n (lv2 := [(1, vL v2), (0, vR 0), (3, vI i3)]) O dX8_digest_98 rfl (by decide) rfl ?_
    refine g_iinc (lv2 := [(3, vI (i3 + 1)), (1, vL v2), (0, vR 0)]) O dX8_digest_99 2 rfl (by decide) rfl ?_
    refine g_goto (tgt := 82) O dX8_digest_102 (by decide) ?_
    refine g_pick [2, 1, 0] rfl ?_
    exact ih v2 (i3 + 1) s3
set_option maxRecDepth 20000 in
set_option maxHeartbeats 4000000 in
theorem lt_X8_digest_107 {K : Cx} {X : Wx} (O : OKx LC K X yX8_digest.cls cX8_digest 4) (hrt : (kMe K).sig.returnType = (Option.some .long)) (hfr : (kR K).frames = 6) (hlo : (kR K).locals = 126)  {k : Int → St → Rs}  (hk : ∀ (l1 : Int) (s : St), GX LC K X 4 2 129 [(1, vL l1)] [] s (k l1 s)) : ∀ (n : Nat) (l1 : Int) (i3 : Int) (s : St), GX LC K X 4 2 107 [(0, vR 0), (1, vL l1), (3, vI i3)] [] s (X8_digest_107 k n l1 i3 s) := by
  intro n
  induction n with
  | zero => intro l1 i3 s; exact GX.none
  | succ n ih =>
    intro l1 i3 s
    rw [X8_digest_107]
    refine g_iload_n O dX8_digest_107 rfl 2 rfl ?_
    refine g_iconst O dX8_digest_108 ?_
    refine g_icmp_ge (tgt := 129) O dX8_digest_109 (by decide) ?_ ?_
    · refine g_pick [1] rfl ?_
      exact hk l1 s
    refine g_aload_n O dX8_digest_112 rfl 0 rfl ?_
    refine g_getR O fw_8_17 rfl dX8_digest_113 rfl ?_
    refine g_iload_n O dX8_digest_116 rfl 2 rfl ?_
    refine g_aald (g := fun j => 22 + 2 * j) O rfl (by decide) (by decide) (by decide) el_3 dX8_digest_117 (fun j1 hj1 => ?_)
    refine g_lload_n O dX8_digest_118 rfl 1 rfl ?_
    refine g_callV2 (As := [vL l1]) (rest := []) (b := 22 + 2 * j1) (ci := 5) O mw_4_20 mw_4_21 mw_4_22 mw_4_23 mw_1_9 hd_X5_digestAfter rfl (elk_3 hj1) rfl dX8_digest_119 (ct_X5_digestAfter (elk_3 hj1) l1 s) (by rw [hfr]; decide) (by rw [hlo]; decide) (Nat.le_of_ble_eq_true rfl) (fun v2 s3 => ?_)
    refine g_lstore_n (lv2 := [(1, vL v2), (0, vR 0), (3, vI i3)]) O dX8_digest_122 rfl (by decide) rfl ?_
    refine g_iinc (lv2 := [(3, vI (i3 + 1)), (1, vL v2), (0, vR 0)]) O dX8_digest_123 2 rfl (by decide) rfl ?_
    refine g_goto (tgt := 107) O dX8_digest_126 (by decide) ?_
    refine g_pick [2, 1, 0] rfl ?_
    exact ih v2 (i3 + 1) s3
theorem hd_X8_digest : yX8_digest.cls ≠ "java/lang/invoke/MethodHandle" ∧ yX8_digest.cls ≠ "java/lang/invoke/VarHandle" ∧ (parseMethodDescriptor yX8_digest.desc).map (fun d => d.parameters.length) = some 0 := by decide +kernel
set_option maxRecDepth 20000 in
set_option maxHeartbeats 4000000 in
theorem ct_X8_digest   (s : St) : Ctr LC yX8_digest cX8_digest 4 (Option.some .long) 2 6 126 [vR 0] s (X8_digest s) := by
  refine Ctr.of (by decide +kernel) (fun ρ => Nat.le_of_ble_eq_true rfl) (lv := [(0, vR 0)]) (fun ρ => rfl) (fun K X O hrt hfr hlo => ?_)
  unfold X8_digest
  refine g_aload_n O dX8_digest_0 rfl 0 rfl ?_
  refine g_getR O fw_8_24 rfl dX8_digest_1 rfl ?_
  refine g_callV0 (As := []) (rest := []) (b := 5) (ci := 7) O mw_2_232 mw_2_233 mw_2_234 mw_2_235 mw_1_2 hd_X7_refresh rfl ⟨_, _, rfl⟩ rfl dX8_digest_4 (ct_X7_refresh  s) (by rw [hfr]; decide) (by rw [hlo]; decide) (Nat.le_of_ble_eq_true rfl) (fun _ s2 => ?_)
  refine g_ldc2 (x := 17) O dX8_digest_7 mw_4_9 (by decide +kernel) ?_
  refine g_lstore_n (lv2 := [(1, vL 17), (0, vR 0)]) O dX8_digest_10 rfl (by decide) rfl ?_
  refine g_iconst O dX8_digest_11 ?_
  refine g_istore_n (lv2 := [(3, vI 0), (1, vL 17), (0, vR 0)]) O dX8_digest_12 rfl (by decide) rfl ?_
  refine g_pick [2, 1, 0] rfl ?_
  refine lt_X8_digest_13 O hrt hfr hlo  (fun x3 s4 => ?_) FU 17 0 s2
  refine g_aload_n O dX8_digest_38 rfl 0 rfl ?_
  refine g_aload_n O dX8_digest_39 rfl 0 rfl ?_
  refine g_lload_n O dX8_digest_40 rfl 1 rfl ?_
  refine g_iconst O dX8_digest_41 ?_
  refine g_callV2 (As := [vL x3, vI 0]) (rest := [vR 0]) (b := 0) (ci := 8) O mw_4_11 mw_4_13 mp_2_11 mw_4_14 mw_1_1 hd_X8_digestOfTree rfl ⟨_, _, rfl⟩ rfl dX8_digest_42 (ct_X8_digestOfTree x3 0 s4) (by rw [hfr]; decide) (by rw [hlo]; decide) (Nat.le_of_ble_eq_true rfl) (fun v5 s6 => ?_)
  refine g_iconst O dX8_digest_45 ?_
  refine g_callV2 (As := [vL v5, vI 1]) (rest := []) (b := 0) (ci := 8) O mw_4_11 mw_4_13 mp_2_11 mw_4_14 mw_1_1 hd_X8_digestOfTree rfl ⟨_, _, rfl⟩ rfl dX8_digest_46 (ct_X8_digestOfTree v5 1 s6) (by rw [hfr]; decide) (by rw [hlo]; decide) (Nat.le_of_ble_eq_true rfl) (fun v7 s8 => ?_)
  refine g_lstore_n (lv2 := [(1, vL v7), (0, vR 0)]) O dX8_digest_49 rfl (by decide) rfl ?_
  refine g_iconst O dX8_digest_50 ?_
  refine g_istore_n (lv2 := [(3, vI 0), (1, vL v7), (0, vR 0)]) O dX8_digest_51 rfl (by decide) rfl ?_
  refine g_pick [2, 1, 0] rfl ?_
  refine lt_X8_digest_52 O hrt hfr hlo  (fun x9 s10 => ?_) FU v7 0 s8
  refine g_iconst O dX8_digest_80 ?_
  refine g_istore_n (lv2 := [(3, vI 0), (0, vR 0), (1, vL x9)]) O dX8_digest_81 rfl (by decide) rfl ?_
  refine g_pick [1, 2, 0] rfl ?_
  refine lt_X8_digest_82 O hrt hfr hlo  (fun x11 s12 => ?_) FU x9 0 s10
  refine g_iconst O dX8_digest_105 ?_
  refine g_istore_n (lv2 := [(3, vI 0), (0, vR 0), (1, vL x11)]) O dX8_digest_106 rfl (by decide) rfl ?_
  refine g_pick [1, 2, 0] rfl ?_
  refine lt_X8_digest_107 O hrt hfr hlo  (fun x13 s14 => ?_) FU x11 0 s12
  refine g_lload_n O dX8_digest_129 rfl 0 rfl ?_
  exact g_lret O hrt dX8_digest_130
def X9_in (i0 : Int) (i1 : Int) (i2 : Int) (s : St) : Rs := cLt i0 i1 (some (0, s)) (cLt i2 i0 (some (0, s)) (some (1, s)))
theorem hd_X9_in : yX9_in.cls ≠ "java/lang/invoke/MethodHandle" ∧ yX9_in.cls ≠ "java/lang/invoke/VarHandle" ∧ (parseMethodDescriptor yX9_in.desc).map (fun d => d.parameters.length) = some 3 := by decide +kernel
set_option maxRecDepth 20000 in
set_option maxHeartbeats 4000000 in
theorem ct_X9_in  (i0 : Int) (i1 : Int) (i2 : Int) (s : St) : Ctr LM yX9_in cX9_in 3 (Option.some .boolean) 1 0 0 [vI i0, vI i1, vI i2] s (X9_in i0 i1 i2 s) := by
  refine Ctr.of (by decide +kernel) (fun ρ => Nat.le_of_ble_eq_true rfl) (lv := [(0, vI i0), (1, vI i1), (2, vI i2)]) (fun ρ => rfl) (fun K X O hrt hfr hlo => ?_)
  unfold X9_in
  refine g_iload_n O dX9_in_0 rfl 0 rfl ?_
  refine g_iload_n O dX9_in_1 rfl 1 rfl ?_
  refine g_icmp_lt (tgt := 14) O dX9_in_2 (by decide) ?_ ?_
  · refine g_iconst O dX9_in_14 ?_
    exact g_iret O hrt (by decide +kernel) dX9_in_15
  refine g_iload_n O dX9_in_5 rfl 0 rfl ?_
  refine g_iload_n O dX9_in_6 rfl 2 rfl ?_
  refine g_icmp_gt (tgt := 14) O dX9_in_7 (by decide) ?_ ?_
  · refine g_iconst O dX9_in_14 ?_
    exact g_iret O hrt (by decide +kernel) dX9_in_15
  refine g_iconst O dX9_in_10 ?_
  refine g_goto (tgt := 15) O dX9_in_11 (by decide) ?_
  exact g_iret O hrt (by decide +kernel) dX9_in_15
def X9_bring_3 (a0 : Nat) (i1 : Int) (a2 : Nat) (i3 : Int) (i4 : Int) (k : St → Rs) : Nat → Int → St → Rs
  | 0, _, _ => none
  | n + 1, i5, s => cLt i5 i4 (rd s a0 (ln LM a0) (i1 + i5) (fun v1 => wr s a2 (ln LM a2) (i3 + i5) v1 (fun s2 => X9_bring_3 a0 i1 a2 i3 i4 k n (i5 + 1) s2))) (k s)
def X9_bring (a0 : Nat) (i1 : Int) (a2 : Nat) (i3 : Int) (i4 : Int) (s : St) : Rs := X9_bring_3 a0 i1 a2 i3 i4 (fun s1 => some (0, s1)) FU 0 s
set_option maxRecDepth 20000 in
set_option maxHeartbeats 4000000 in
theorem lt_X9_bring_3 {K : Cx} {X : Wx} (O : OKx LM K X yX9_bring.cls cX9_bring 6) (hrt : (kMe K).sig.returnType = none) (hfr : (kR K).frames = 0) (hlo : (kR K).locals = 0) {a0 : Nat} {i1 : Int} {a2 : Nat} {i3 : Int} {i4 : Int} {k : St → Rs} (ha0 : Kd LM a0 0) (ha2 : Kd LM a2 0) (hk : ∀  (s : St), GX LM K X 6 0 28 [] [] s (k s)) : ∀ (n : Nat) (i5 : Int) (s : St), GX LM K X 6 0 3 [(0, vR a0), (1, vI i1), (2, vR a2), (3, vI i3), (4, vI i4), (5, vI i5)] [] s (X9_bring_3 a0 i1 a2 i3 i4 k n i5 s) := by
  obtain ⟨fsa0, hf0⟩ := ha0.at
  obtain ⟨fsa2, hf2⟩ := ha2.at
  intro n
  induction n with
  | zero => intro i5 s; exact GX.none
  | succ n ih =>
    intro i5 s
    rw [X9_bring_3]
    refine g_iload O dX9_bring_3 5 rfl ?_
    refine g_iload O dX9_bring_5 4 rfl ?_
    refine g_icmp_ge (tgt := 28) O dX9_bring_7 (by decide) ?_ ?_
    · refine g_pick [] rfl ?_
      exact hk s
    refine g_aload_n O dX9_bring_10 rfl 2 rfl ?_
    refine g_iload_n O dX9_bring_11 rfl 3 rfl ?_
    refine g_iload O dX9_bring_12 5 rfl ?_
    refine g_iadd O dX9_bring_14 ?_
    refine g_aload_n O dX9_bring_15 rfl 0 rfl ?_
    refine g_iload_n O dX9_bring_16 rfl 1 rfl ?_
    refine g_iload O dX9_bring_17 5 rfl ?_
    refine g_iadd O dX9_bring_19 ?_
    refine g_iald O hf0 (Nat.le_succ_of_le (ln_leM _)) dX9_bring_20 (fun v1 => ?_)
    refine g_iast O hf2 (Nat.le_succ_of_le (ln_leM _)) dX9_bring_21 (fun s2 => ?_)
    refine g_iinc (lv2 := [(5, vI (i5 + 1)), (0, vR a0), (1, vI i1), (2, vR a2), (3, vI i3), (4, vI i4)]) O dX9_bring_22 5 rfl (by decide) rfl ?_
    refine g_goto (tgt := 3) O dX9_bring_25 (by decide) ?_
    refine g_pick [1, 2, 3, 4, 5, 0] rfl ?_
    exact ih (i5 + 1) s2
theorem hd_X9_bring : yX9_bring.cls ≠ "java/lang/invoke/MethodHandle" ∧ yX9_bring.cls ≠ "java/lang/invoke/VarHandle" ∧ (parseMethodDescriptor yX9_bring.desc).map (fun d => d.parameters.length) = some 5 := by decide +kernel
set_option maxRecDepth 20000 in
set_option maxHeartbeats 4000000 in
theorem ct_X9_bring {a0 : Nat} (ha0 : Kd LM a0 0) {a2 : Nat} (ha2 : Kd LM a2 0) (i1 : Int) (i3 : Int) (i4 : Int) (s : St) : Ctr LM yX9_bring cX9_bring 6 none 0 0 0 [vR a0, vI i1, vR a2, vI i3, vI i4] s (X9_bring a0 i1 a2 i3 i4 s) := by
  obtain ⟨fs0, hf0⟩ := ha0.at
  obtain ⟨fs2, hf2⟩ := ha2.at
  refine Ctr.of (by decide +kernel) (fun ρ => Nat.le_of_ble_eq_true rfl) (lv := [(0, vR a0), (1, vI i1), (2, vR a2), (3, vI i3), (4, vI i4)]) (fun ρ => rfl) (fun K X O hrt hfr hlo => ?_)
  unfold X9_bring
  refine g_iconst O dX9_bring_0 ?_
  refine g_istore (lv2 := [(5, vI 0), (0, vR a0), (1, vI i1), (2, vR a2), (3, vI i3), (4, vI i4)]) O dX9_bring_1 (by decide) rfl ?_
  refine g_pick [1, 2, 3, 4, 5, 0] rfl ?_
  refine lt_X9_bring_3 O hrt hfr hlo ha0 ha2 (fun s1 => ?_) FU 0 s
  exact g_vret O hrt dX9_bring_28
def X9_found (i1 : Int) (s : St) : Rs := put s 0 10 i1 (fun s1 => rd s1 9 6 i1 (fun v2 => wr s1 9 6 i1 (v2 + 1) (fun s3 => some ((-3), s3))))
theorem hd_X9_found : yX9_found.cls ≠ "java/lang/invoke/MethodHandle" ∧ yX9_found.cls ≠ "java/lang/invoke/VarHandle" ∧ (parseMethodDescriptor yX9_found.desc).map (fun d => d.parameters.length) = some 1 := by decide +kernel
set_option maxRecDepth 20000 in
set_option maxHeartbeats 4000000 in
theorem ct_X9_found  (i1 : Int) (s : St) : Ctr LM yX9_found cX9_found 2 (Option.some .int) 1 0 0 [vR 0, vI i1] s (X9_found i1 s) := by
  refine Ctr.of (by decide +kernel) (fun ρ => Nat.le_of_ble_eq_true rfl) (lv := [(0, vR 0), (1, vI i1)]) (fun ρ => rfl) (fun K X O hrt hfr hlo => ?_)
  unfold X9_found
  refine g_aload_n O dX9_found_0 rfl 0 rfl ?_
  refine g_iload_n O dX9_found_1 rfl 1 rfl ?_
  refine g_putI O fw_9_83 rfl dX9_found_2 rfl rfl rfl (fun s1 => ?_)
  refine g_aload_n O dX9_found_5 rfl 0 rfl ?_
  refine g_getR O fw_9_35 rfl dX9_found_6 rfl ?_
  refine g_iload_n O dX9_found_9 rfl 1 rfl ?_
  refine g_dup2 O dX9_found_10 rfl rfl ?_
  refine g_iald O rfl (by decide) dX9_found_11 (fun v2 => ?_)
  refine g_iconst O dX9_found_12 ?_
  refine g_iadd O dX9_found_13 ?_
  refine g_iast O rfl (by decide) dX9_found_14 (fun s3 => ?_)
  refine g_bipush O dX9_found_15 (by decide +kernel) ?_
  exact g_iret O hrt rfl dX9_found_17
def X9_tells (i1 : Int) (i2 : Int) (s : St) : Rs := put s 0 9 i1 (fun s1 => some (i2, s1))
theorem hd_X9_tells : yX9_tells.cls ≠ "java/lang/invoke/MethodHandle" ∧ yX9_tells.cls ≠ "java/lang/invoke/VarHandle" ∧ (parseMethodDescriptor yX9_tells.desc).map (fun d => d.parameters.length) = some 2 := by decide +kernel
set_option maxRecDepth 20000 in
set_option maxHeartbeats 4000000 in
theorem ct_X9_tells  (i1 : Int) (i2 : Int) (s : St) : Ctr LM yX9_tells cX9_tells 3 (Option.some .int) 1 0 0 [vR 0, vI i1, vI i2] s (X9_tells i1 i2 s) := by
  refine Ctr.of (by decide +kernel) (fun ρ => Nat.le_of_ble_eq_true rfl) (lv := [(0, vR 0), (1, vI i1), (2, vI i2)]) (fun ρ => rfl) (fun K X O hrt hfr hlo => ?_)
  unfold X9_tells
  refine g_aload_n O dX9_tells_0 rfl 0 rfl ?_
  refine g_iload_n O dX9_tells_1 rfl 1 rfl ?_
  refine g_putI O fw_9_87 rfl dX9_tells_2 rfl rfl rfl (fun s1 => ?_)
  refine g_iload_n O dX9_tells_5 rfl 2 rfl ?_
  exact g_iret O hrt rfl dX9_tells_6
def X9_isRow (i0 : Int) (s : St) : Rs := cl (X9_in i0 0 5 s) (fun v1 s2 => gB v1 (some (v1, s2)))
theorem hd_X9_isRow : yX9_isRow.cls ≠ "java/lang/invoke/MethodHandle" ∧ yX9_isRow.cls ≠ "java/lang/invoke/VarHandle" ∧ (parseMethodDescriptor yX9_isRow.desc).map (fun d => d.parameters.length) = some 1 := by decide +kernel
set_option maxRecDepth 20000 in
set_option maxHeartbeats 4000000 in
theorem ct_X9_isRow  (i0 : Int) (s : St) : Ctr LM yX9_isRow cX9_isRow 1 (Option.some .boolean) 1 1 22 [vI i0] s (X9_isRow i0 s) := by
  refine Ctr.of (by decide +kernel) (fun ρ => Nat.le_of_ble_eq_true rfl) (lv := [(0, vI i0)]) (fun ρ => rfl) (fun K X O hrt hfr hlo => ?_)
  unfold X9_isRow
  refine g_iload_n O dX9_isRow_0 rfl 0 rfl ?_
  refine g_iconst O dX9_isRow_1 ?_
  refine g_iconst O dX9_isRow_2 ?_
  refine g_callS1 (As := [vI i0, vI 0, vI 5]) (rest := []) O mw_4_133 mw_4_134 mw_4_135 mw_1_10 hd_X9_in rfl dX9_isRow_3 (ct_X9_in i0 0 5 s) (by rw [hfr]; decide) (by rw [hlo]; decide) (Nat.le_of_ble_eq_true rfl) (fun v1 s2 => ?_)
  refine g_gB (fun hb => ?_)
  exact g_iret O hrt (nar_b hb) dX9_isRow_6
def X9_isText (i0 : Int) (s : St) : Rs := cl (X9_in i0 0 3 s) (fun v1 s2 => gB v1 (some (v1, s2)))
theorem hd_X9_isText : yX9_isText.cls ≠ "java/lang/invoke/MethodHandle" ∧ yX9_isText.cls ≠ "java/lang/invoke/VarHandle" ∧ (parseMethodDescriptor yX9_isText.desc).map (fun d => d.parameters.length) = some 1 := by decide +kernel
set_option maxRecDepth 20000 in
set_option maxHeartbeats 4000000 in
theorem ct_X9_isText  (i0 : Int) (s : St) : Ctr LM yX9_isText cX9_isText 1 (Option.some .boolean) 1 1 22 [vI i0] s (X9_isText i0 s) := by
  refine Ctr.of (by decide +kernel) (fun ρ => Nat.le_of_ble_eq_true rfl) (lv := [(0, vI i0)]) (fun ρ => rfl) (fun K X O hrt hfr hlo => ?_)
  unfold X9_isText
  refine g_iload_n O dX9_isText_0 rfl 0 rfl ?_
  refine g_iconst O dX9_isText_1 ?_
  refine g_iconst O dX9_isText_2 ?_
  refine g_callS1 (As := [vI i0, vI 0, vI 3]) (rest := []) O mw_4_133 mw_4_134 mw_4_135 mw_1_10 hd_X9_in rfl dX9_isText_3 (ct_X9_in i0 0 3 s) (by rw [hfr]; decide) (by rw [hlo]; decide) (Nat.le_of_ble_eq_true rfl) (fun v1 s2 => ?_)
  refine g_gB (fun hb => ?_)
  exact g_iret O hrt (nar_b hb) dX9_isText_6
def X9_makesRow_9 (i1 : Int) (i2 : Int) (k : St → Rs) : Nat → Int → St → Rs
  | 0, _, _ => none
  | n + 1, i3, s => cLt i3 i2 (wr s 2 240 ((40 * i1) + i3) 0 (fun s1 => X9_makesRow_9 i1 i2 k n (i3 + 1) s1)) (k s)
def X9_makesRow (i1 : Int) (i2 : Int) (s : St) : Rs := wr s 1 6 i1 i2 (fun s1 => X9_makesRow_9 i1 i2 (fun s2 => some (0, s2)) FU 0 s1)
set_option maxRecDepth 20000 in
set_option maxHeartbeats 4000000 in
theorem lt_X9_makesRow_9 {K : Cx} {X : Wx} (O : OKx LM K X yX9_makesRow.cls cX9_makesRow 4) (hrt : (kMe K).sig.returnType = none) (hfr : (kR K).frames = 0) (hlo : (kR K).locals = 0) {i1 : Int} {i2 : Int} {k : St → Rs}  (hk : ∀  (s : St), GX LM K X 4 0 32 [] [] s (k s)) : ∀ (n : Nat) (i3 : Int) (s : St), GX LM K X 4 0 9 [(0, vR 0), (1, vI i1), (2, vI i2), (3, vI i3)] [] s (X9_makesRow_9 i1 i2 k n i3 s) := by
  intro n
  induction n with
  | zero => intro i3 s; exact GX.none
  | succ n ih =>
    intro i3 s
    rw [X9_makesRow_9]
    refine g_iload_n O dX9_makesRow_9 rfl 3 rfl ?_
    refine g_iload_n O dX9_makesRow_10 rfl 2 rfl ?_
    refine g_icmp_ge (tgt := 32) O dX9_makesRow_11 (by decide) ?_ ?_
    · refine g_pick [] rfl ?_
      exact hk s
    refine g_aload_n O dX9_makesRow_14 rfl 0 rfl ?_
    refine g_getR O fw_9_13 rfl dX9_makesRow_15 rfl ?_
    refine g_bipush O dX9_makesRow_18 (by decide +kernel) ?_
    refine g_iload_n O dX9_makesRow_20 rfl 1 rfl ?_
    refine g_imul O dX9_makesRow_21 ?_
    refine g_iload_n O dX9_makesRow_22 rfl 3 rfl ?_
    refine g_iadd O dX9_makesRow_23 ?_
    refine g_iconst O dX9_makesRow_24 ?_
    refine g_iast O rfl (by decide) dX9_makesRow_25 (fun s1 => ?_)
    refine g_iinc (lv2 := [(3, vI (i3 + 1)), (0, vR 0), (1, vI i1), (2, vI i2)]) O dX9_makesRow_26 3 rfl (by decide) rfl ?_
    refine g_goto (tgt := 9) O dX9_makesRow_29 (by decide) ?_
    refine g_pick [1, 2, 3, 0] rfl ?_
    exact ih (i3 + 1) s1
theorem hd_X9_makesRow : yX9_makesRow.cls ≠ "java/lang/invoke/MethodHandle" ∧ yX9_makesRow.cls ≠ "java/lang/invoke/VarHandle" ∧ (parseMethodDescriptor yX9_makesRow.desc).map (fun d => d.parameters.length) = some 2 := by decide +kernel
set_option maxRecDepth 20000 in
set_option maxHeartbeats 4000000 in
theorem ct_X9_makesRow  (i1 : Int) (i2 : Int) (s : St) : Ctr LM yX9_makesRow cX9_makesRow 4 none 0 0 0 [vR 0, vI i1, vI i2] s (X9_makesRow i1 i2 s) := by
  refine Ctr.of (by decide +kernel) (fun ρ => Nat.le_of_ble_eq_true rfl) (lv := [(0, vR 0), (1, vI i1), (2, vI i2)]) (fun ρ => rfl) (fun K X O hrt hfr hlo => ?_)
  unfold X9_makesRow
  refine g_aload_n O dX9_makesRow_0 rfl 0 rfl ?_
  refine g_getR O fw_9_7 rfl dX9_makesRow_1 rfl ?_
  refine g_iload_n O dX9_makesRow_4 rfl 1 rfl ?_
  refine g_iload_n O dX9_makesRow_5 rfl 2 rfl ?_
  refine g_iast O rfl (by decide) dX9_makesRow_6 (fun s1 => ?_)
  refine g_iconst O dX9_makesRow_7 ?_
  refine g_istore_n (lv2 := [(3, vI 0), (0, vR 0), (1, vI i1), (2, vI i2)]) O dX9_makesRow_8 rfl (by decide) rfl ?_
  refine g_pick [1, 2, 3, 0] rfl ?_
  refine lt_X9_makesRow_9 O hrt hfr hlo  (fun s2 => ?_) FU 0 s1
  exact g_vret O hrt dX9_makesRow_32
def X9_row (i1 : Int) (i2 : Int) (s : St) : Rs := cl (X9_isRow i1 s) (fun v1 s2 => cEq v1 0 (some ((-1), s2)) (cLt 40 i2 (some ((-1), s2)) (cLt i2 0 (cl (X9_found 5 s2) (fun v5 s6 => some (v5, s6))) (cl (X9_makesRow i1 i2 s2) (fun _ s4 => some (i2, s4))))))
theorem hd_X9_row : yX9_row.cls ≠ "java/lang/invoke/MethodHandle" ∧ yX9_row.cls ≠ "java/lang/invoke/VarHandle" ∧ (parseMethodDescriptor yX9_row.desc).map (fun d => d.parameters.length) = some 2 := by decide +kernel
set_option maxRecDepth 20000 in
set_option maxHeartbeats 4000000 in
theorem ct_X9_row  (i1 : Int) (i2 : Int) (s : St) : Ctr LM yX9_row cX9_row 3 (Option.some .int) 1 2 42 [vR 0, vI i1, vI i2] s (X9_row i1 i2 s) := by
  refine Ctr.of (by decide +kernel) (fun ρ => Nat.le_of_ble_eq_true rfl) (lv := [(0, vR 0), (1, vI i1), (2, vI i2)]) (fun ρ => rfl) (fun K X O hrt hfr hlo => ?_)
  unfold X9_row
  refine g_iload_n O dX9_row_0 rfl 1 rfl ?_
  refine g_callS1 (As := [vI i1]) (rest := []) O mw_4_130 mw_4_131 mw_4_132 mw_1_10 hd_X9_isRow rfl dX9_row_1 (ct_X9_isRow i1 s) (by rw [hfr]; decide) (by rw [hlo]; decide) (Nat.le_of_ble_eq_true rfl) (fun v1 s2 => ?_)
  refine g_if_eq (tgt := 13) O dX9_row_4 (by decide) ?_ ?_
  · refine g_iconst O dX9_row_13 ?_
    exact g_iret O hrt rfl dX9_row_14
  refine g_iload_n O dX9_row_7 rfl 2 rfl ?_
  refine g_bipush O dX9_row_8 (by decide +kernel) ?_
  refine g_icmp_le (tgt := 15) O dX9_row_10 (by decide) ?_ ?_
  · refine g_iload_n O dX9_row_15 rfl 2 rfl ?_
    refine g_if_ge (tgt := 25) O dX9_row_16 (by decide) ?_ ?_
    · refine g_aload_n O dX9_row_25 rfl 0 rfl ?_
      refine g_iload_n O dX9_row_26 rfl 1 rfl ?_
      refine g_iload_n O dX9_row_27 rfl 2 rfl ?_
      refine g_callV0 (As := [vI i1, vI i2]) (rest := []) (b := 0) (ci := 9) O mw_4_140 mw_4_142 mp_2_13 mw_4_143 mw_1_10 hd_X9_makesRow rfl ⟨_, _, rfl⟩ rfl dX9_row_28 (ct_X9_makesRow i1 i2 s2) (by rw [hfr]; decide) (by rw [hlo]; decide) (Nat.le_of_ble_eq_true rfl) (fun _ s4 => ?_)
      refine g_iload_n O dX9_row_31 rfl 2 rfl ?_
      exact g_iret O hrt rfl dX9_row_32
    refine g_aload_n O dX9_row_19 rfl 0 rfl ?_
    refine g_iconst O dX9_row_20 ?_
    refine g_callV1 (As := [vI 5]) (rest := []) (b := 0) (ci := 9) O mw_4_136 mw_4_138 mp_2_12 mw_4_139 mw_1_10 hd_X9_found rfl ⟨_, _, rfl⟩ rfl dX9_row_21 (ct_X9_found 5 s2) (by rw [hfr]; decide) (by rw [hlo]; decide) (Nat.le_of_ble_eq_true rfl) (fun v5 s6 => ?_)
    exact g_iret O hrt rfl dX9_row_24
  refine g_iconst O dX9_row_13 ?_
  exact g_iret O hrt rfl dX9_row_14
def X9_placeOf (i1 : Int) (i2 : Int) (s : St) : Rs := rd s 1 6 i1 (fun v1 => cLt v1 0 (some (1, s)) (rd s 1 6 i1 (fun v2 => cl (X9_in i2 0 (v2 - 1) s) (fun v3 s4 => cEq v3 0 (some (2, s4)) (some (0, s4))))))
theorem hd_X9_placeOf : yX9_placeOf.cls ≠ "java/lang/invoke/MethodHandle" ∧ yX9_placeOf.cls ≠ "java/lang/invoke/VarHandle" ∧ (parseMethodDescriptor yX9_placeOf.desc).map (fun d => d.parameters.length) = some 2 := by decide +kernel
set_option maxRecDepth 20000 in
set_option maxHeartbeats 4000000 in
theorem ct_X9_placeOf  (i1 : Int) (i2 : Int) (s : St) : Ctr LM yX9_placeOf cX9_placeOf 3 (Option.some .int) 1 1 22 [vR 0, vI i1, vI i2] s (X9_placeOf i1 i2 s) := by
  refine Ctr.of (by decide +kernel) (fun ρ => Nat.le_of_ble_eq_true rfl) (lv := [(0, vR 0), (1, vI i1), (2, vI i2)]) (fun ρ => rfl) (fun K X O hrt hfr hlo => ?_)
  unfold X9_placeOf
  refine g_aload_n O dX9_placeOf_0 rfl 0 rfl ?_
  refine g_getR O fw_9_7 rfl dX9_placeOf_1 rfl ?_
  refine g_iload_n O dX9_placeOf_4 rfl 1 rfl ?_
  refine g_iald O rfl (by decide) dX9_placeOf_5 (fun v1 => ?_)
  refine g_if_ge (tgt := 13) O dX9_placeOf_6 (by decide) ?_ ?_
  · refine g_iload_n O dX9_placeOf_13 rfl 2 rfl ?_
    refine g_iconst O dX9_placeOf_14 ?_
    refine g_aload_n O dX9_placeOf_15 rfl 0 rfl ?_
    refine g_getR O fw_9_7 rfl dX9_placeOf_16 rfl ?_
    refine g_iload_n O dX9_placeOf_19 rfl 1 rfl ?_
    refine g_iald O rfl (by decide) dX9_placeOf_20 (fun v2 => ?_)
    refine g_iconst O dX9_placeOf_21 ?_
    refine g_isub O dX9_placeOf_22 ?_
    refine g_callS1 (As := [vI i2, vI 0, vI (v2 - 1)]) (rest := []) O mw_4_133 mw_4_134 mw_4_135 mw_1_10 hd_X9_in rfl dX9_placeOf_23 (ct_X9_in i2 0 (v2 - 1) s) (by rw [hfr]; decide) (by rw [hlo]; decide) (Nat.le_of_ble_eq_true rfl) (fun v3 s4 => ?_)
    refine g_if_eq (tgt := 33) O dX9_placeOf_26 (by decide) ?_ ?_
    · refine g_iconst O dX9_placeOf_33 ?_
      exact g_iret O hrt rfl dX9_placeOf_34
    refine g_iconst O dX9_placeOf_29 ?_
    refine g_goto (tgt := 34) O dX9_placeOf_30 (by decide) ?_
    exact g_iret O hrt rfl dX9_placeOf_34
  refine g_iconst O dX9_placeOf_9 ?_
  refine g_goto (tgt := 34) O dX9_placeOf_10 (by decide) ?_
  exact g_iret O hrt rfl dX9_placeOf_34
def X9_lay (i1 : Int) (i2 : Int) (i3 : Int) (s : St) : Rs := cl (X9_isRow i1 s) (fun v1 s2 => cEq v1 0 (some ((-1), s2)) (cl (X9_placeOf i1 i2 s2) (fun v3 s4 => cEq v3 0 (rd s4 2 240 ((40 * i1) + i2) (fun v5 => wr s4 2 240 ((40 * i1) + i2) i3 (fun s6 => cl (X9_tells v5 1 s6) (fun v7 s8 => some (v7, s8))))) (cl (X9_found v3 s4) (fun v9 s10 => some (v9, s10))))))
theorem hd_X9_lay : yX9_lay.cls ≠ "java/lang/invoke/MethodHandle" ∧ yX9_lay.cls ≠ "java/lang/invoke/VarHandle" ∧ (parseMethodDescriptor yX9_lay.desc).map (fun d => d.parameters.length) = some 3 := by decide +kernel
set_option maxRecDepth 20000 in
set_option maxHeartbeats 4000000 in
theorem ct_X9_lay  (i1 : Int) (i2 : Int) (i3 : Int) (s : St) : Ctr LM yX9_lay cX9_lay 6 (Option.some .int) 1 2 44 [vR 0, vI i1, vI i2, vI i3] s (X9_lay i1 i2 i3 s) := by
  refine Ctr.of (by decide +kernel) (fun ρ => Nat.le_of_ble_eq_true rfl) (lv := [(0, vR 0), (1, vI i1), (2, vI i2), (3, vI i3)]) (fun ρ => rfl) (fun K X O hrt hfr hlo => ?_)
  unfold X9_lay
  refine g_iload_n O dX9_lay_0 rfl 1 rfl ?_
  refine g_callS1 (As := [vI i1]) (rest := []) O mw_4_130 mw_4_131 mw_4_132 mw_1_10 hd_X9_isRow rfl dX9_lay_1 (ct_X9_isRow i1 s) (by rw [hfr]; decide) (by rw [hlo]; decide) (Nat.le_of_ble_eq_true rfl) (fun v1 s2 => ?_)
  refine g_if_ne (tgt := 9) O dX9_lay_4 (by decide) ?_ ?_
  · refine g_aload_n O dX9_lay_9 rfl 0 rfl ?_
    refine g_iload_n O dX9_lay_10 rfl 1 rfl ?_
    refine g_iload_n O dX9_lay_11 rfl 2 rfl ?_
    refine g_callV1 (As := [vI i1, vI i2]) (rest := []) (b := 0) (ci := 9) O mw_4_148 mw_4_150 mp_2_14 mw_4_151 mw_1_10 hd_X9_placeOf rfl ⟨_, _, rfl⟩ rfl dX9_lay_12 (ct_X9_placeOf i1 i2 s2) (by rw [hfr]; decide) (by rw [hlo]; decide) (Nat.le_of_ble_eq_true rfl) (fun v3 s4 => ?_)
    refine g_istore (lv2 := [(4, vI v3), (0, vR 0), (1, vI i1), (2, vI i2), (3, vI i3)]) O dX9_lay_15 (by decide) rfl ?_
    refine g_iload O dX9_lay_17 0 rfl ?_
    refine g_if_eq (tgt := 29) O dX9_lay_19 (by decide) ?_ ?_
    · refine g_aload_n O dX9_lay_29 rfl 1 rfl ?_
      refine g_getR O fw_9_13 rfl dX9_lay_30 rfl ?_
      refine g_bipush O dX9_lay_33 (by decide +kernel) ?_
      refine g_iload_n O dX9_lay_35 rfl 2 rfl ?_
      refine g_imul O dX9_lay_36 ?_
      refine g_iload_n O dX9_lay_37 rfl 3 rfl ?_
      refine g_iadd O dX9_lay_38 ?_
      refine g_iald O rfl (by decide) dX9_lay_39 (fun v5 => ?_)
      refine g_istore (lv2 := [(5, vI v5), (4, vI v3), (0, vR 0), (1, vI i1), (2, vI i2), (3, vI i3)]) O dX9_lay_40 (by decide) rfl ?_
      refine g_aload_n O dX9_lay_42 rfl 2 rfl ?_
      refine g_getR O fw_9_13 rfl dX9_lay_43 rfl ?_
      refine g_bipush O dX9_lay_46 (by decide +kernel) ?_
      refine g_iload_n O dX9_lay_48 rfl 3 rfl ?_
      refine g_imul O dX9_lay_49 ?_
      refine g_iload_n O dX9_lay_50 rfl 4 rfl ?_
      refine g_iadd O dX9_lay_51 ?_
      refine g_iload_n O dX9_lay_52 rfl 5 rfl ?_
      refine g_iast O rfl (by decide) dX9_lay_53 (fun s6 => ?_)
      refine g_aload_n O dX9_lay_54 rfl 2 rfl ?_
      refine g_iload O dX9_lay_55 0 rfl ?_
      refine g_iconst O dX9_lay_57 ?_
      refine g_callV1 (As := [vI v5, vI 1]) (rest := []) (b := 0) (ci := 9) O mw_4_152 mw_4_154 mp_2_15 mw_4_155 mw_1_10 hd_X9_tells rfl ⟨_, _, rfl⟩ rfl dX9_lay_58 (ct_X9_tells v5 1 s6) (by rw [hfr]; decide) (by rw [hlo]; decide) (Nat.le_of_ble_eq_true rfl) (fun v7 s8 => ?_)
      exact g_iret O hrt rfl dX9_lay_61
    refine g_aload_n O dX9_lay_22 rfl 1 rfl ?_
    refine g_iload O dX9_lay_23 0 rfl ?_
    refine g_callV1 (As := [vI v3]) (rest := []) (b := 0) (ci := 9) O mw_4_136 mw_4_138 mp_2_12 mw_4_139 mw_1_10 hd_X9_found rfl ⟨_, _, rfl⟩ rfl dX9_lay_25 (ct_X9_found v3 s4) (by rw [hfr]; decide) (by rw [hlo]; decide) (Nat.le_of_ble_eq_true rfl) (fun v9 s10 => ?_)
    exact g_iret O hrt rfl dX9_lay_28
  refine g_iconst O dX9_lay_7 ?_
  exact g_iret O hrt rfl dX9_lay_8
def X9_at (i1 : Int) (i2 : Int) (s : St) : Rs := cl (X9_isRow i1 s) (fun v1 s2 => cEq v1 0 (some ((-1), s2)) (cl (X9_placeOf i1 i2 s2) (fun v3 s4 => cEq v3 0 (rd s4 2 240 ((40 * i1) + i2) (fun v5 => cl (X9_tells v5 1 s4) (fun v6 s7 => some (v6, s7)))) (cl (X9_found v3 s4) (fun v8 s9 => some (v8, s9))))))
theorem hd_X9_at : yX9_at.cls ≠ "java/lang/invoke/MethodHandle" ∧ yX9_at.cls ≠ "java/lang/invoke/VarHandle" ∧ (parseMethodDescriptor yX9_at.desc).map (fun d => d.parameters.length) = some 2 := by decide +kernel
set_option maxRecDepth 20000 in
set_option maxHeartbeats 4000000 in
theorem ct_X9_at  (i1 : Int) (i2 : Int) (s : St) : Ctr LM yX9_at cX9_at 4 (Option.some .int) 1 2 44 [vR 0, vI i1, vI i2] s (X9_at i1 i2 s) := by
  refine Ctr.of (by decide +kernel) (fun ρ => Nat.le_of_ble_eq_true rfl) (lv := [(0, vR 0), (1, vI i1), (2, vI i2)]) (fun ρ => rfl) (fun K X O hrt hfr hlo => ?_)
  unfold X9_at
  refine g_iload_n O dX9_at_0 rfl 1 rfl ?_
  refine g_callS1 (As := [vI i1]) (rest := []) O mw_4_130 mw_4_131 mw_4_132 mw_1_10 hd_X9_isRow rfl dX9_at_1 (ct_X9_isRow i1 s) (by rw [hfr]; decide) (by rw [hlo]; decide) (Nat.le_of_ble_eq_true rfl) (fun v1 s2 => ?_)
  refine g_if_ne (tgt := 9) O dX9_at_4 (by decide) ?_ ?_
  · refine g_aload_n O dX9_at_9 rfl 0 rfl ?_
    refine g_iload_n O dX9_at_10 rfl 1 rfl ?_
    refine g_iload_n O dX9_at_11 rfl 2 rfl ?_
    refine g_callV1 (As := [vI i1, vI i2]) (rest := []) (b := 0) (ci := 9) O mw_4_148 mw_4_150 mp_2_14 mw_4_151 mw_1_10 hd_X9_placeOf rfl ⟨_, _, rfl⟩ rfl dX9_at_12 (ct_X9_placeOf i1 i2 s2) (by rw [hfr]; decide) (by rw [hlo]; decide) (Nat.le_of_ble_eq_true rfl) (fun v3 s4 => ?_)
    refine g_istore_n (lv2 := [(3, vI v3), (0, vR 0), (1, vI i1), (2, vI i2)]) O dX9_at_15 rfl (by decide) rfl ?_
    refine g_iload_n O dX9_at_16 rfl 0 rfl ?_
    refine g_if_eq (tgt := 28) O dX9_at_17 (by decide) ?_ ?_
    · refine g_aload_n O dX9_at_28 rfl 1 rfl ?_
      refine g_aload_n O dX9_at_29 rfl 1 rfl ?_
      refine g_getR O fw_9_13 rfl dX9_at_30 rfl ?_
      refine g_bipush O dX9_at_33 (by decide +kernel) ?_
      refine g_iload_n O dX9_at_35 rfl 2 rfl ?_
      refine g_imul O dX9_at_36 ?_
      refine g_iload_n O dX9_at_37 rfl 3 rfl ?_
      refine g_iadd O dX9_at_38 ?_
      refine g_iald O rfl (by decide) dX9_at_39 (fun v5 => ?_)
      refine g_iconst O dX9_at_40 ?_
      refine g_callV1 (As := [vI v5, vI 1]) (rest := []) (b := 0) (ci := 9) O mw_4_152 mw_4_154 mp_2_15 mw_4_155 mw_1_10 hd_X9_tells rfl ⟨_, _, rfl⟩ rfl dX9_at_41 (ct_X9_tells v5 1 s4) (by rw [hfr]; decide) (by rw [hlo]; decide) (Nat.le_of_ble_eq_true rfl) (fun v6 s7 => ?_)
      exact g_iret O hrt rfl dX9_at_44
    refine g_aload_n O dX9_at_20 rfl 1 rfl ?_
    refine g_iload_n O dX9_at_21 rfl 0 rfl ?_
    refine g_callV1 (As := [vI v3]) (rest := []) (b := 0) (ci := 9) O mw_4_136 mw_4_138 mp_2_12 mw_4_139 mw_1_10 hd_X9_found rfl ⟨_, _, rfl⟩ rfl dX9_at_22 (ct_X9_found v3 s4) (by rw [hfr]; decide) (by rw [hlo]; decide) (Nat.le_of_ble_eq_true rfl) (fun v8 s9 => ?_)
    refine g_goto (tgt := 44) O dX9_at_25 (by decide) ?_
    exact g_iret O hrt rfl dX9_at_44
  refine g_iconst O dX9_at_7 ?_
  exact g_iret O hrt rfl dX9_at_8
def X9_tear (i1 : Int) (s : St) : Rs := cl (X9_isRow i1 s) (fun v1 s2 => cEq v1 0 (some ((-1), s2)) (rd s2 1 6 i1 (fun v3 => cLt v3 0 (cl (X9_found 1 s2) (fun v5 s6 => some (v5, s6))) (wr s2 1 6 i1 (-1) (fun s4 => some (1, s4))))))
theorem hd_X9_tear : yX9_tear.cls ≠ "java/lang/invoke/MethodHandle" ∧ yX9_tear.cls ≠ "java/lang/invoke/VarHandle" ∧ (parseMethodDescriptor yX9_tear.desc).map (fun d => d.parameters.length) = some 1 := by decide +kernel
set_option maxRecDepth 20000 in
set_option maxHeartbeats 4000000 in
theorem ct_X9_tear  (i1 : Int) (s : St) : Ctr LM yX9_tear cX9_tear 2 (Option.some .int) 1 2 42 [vR 0, vI i1] s (X9_tear i1 s) := by
  refine Ctr.of (by decide +kernel) (fun ρ => Nat.le_of_ble_eq_true rfl) (lv := [(0, vR 0), (1, vI i1)]) (fun ρ => rfl) (fun K X O hrt hfr hlo => ?_)
  unfold X9_tear
  refine g_iload_n O dX9_tear_0 rfl 1 rfl ?_
  refine g_callS1 (As := [vI i1]) (rest := []) O mw_4_130 mw_4_131 mw_4_132 mw_1_10 hd_X9_isRow rfl dX9_tear_1 (ct_X9_isRow i1 s) (by rw [hfr]; decide) (by rw [hlo]; decide) (Nat.le_of_ble_eq_true rfl) (fun v1 s2 => ?_)
  refine g_if_ne (tgt := 9) O dX9_tear_4 (by decide) ?_ ?_
  · refine g_aload_n O dX9_tear_9 rfl 0 rfl ?_
    refine g_getR O fw_9_7 rfl dX9_tear_10 rfl ?_
    refine g_iload_n O dX9_tear_13 rfl 1 rfl ?_
    refine g_iald O rfl (by decide) dX9_tear_14 (fun v3 => ?_)
    refine g_if_ge (tgt := 24) O dX9_tear_15 (by decide) ?_ ?_
    · refine g_aload_n O dX9_tear_24 rfl 0 rfl ?_
      refine g_getR O fw_9_7 rfl dX9_tear_25 rfl ?_
      refine g_iload_n O dX9_tear_28 rfl 1 rfl ?_
      refine g_iconst O dX9_tear_29 ?_
      refine g_iast O rfl (by decide) dX9_tear_30 (fun s4 => ?_)
      refine g_iconst O dX9_tear_31 ?_
      exact g_iret O hrt rfl dX9_tear_32
    refine g_aload_n O dX9_tear_18 rfl 0 rfl ?_
    refine g_iconst O dX9_tear_19 ?_
    refine g_callV1 (As := [vI 1]) (rest := []) (b := 0) (ci := 9) O mw_4_136 mw_4_138 mp_2_12 mw_4_139 mw_1_10 hd_X9_found rfl ⟨_, _, rfl⟩ rfl dX9_tear_20 (ct_X9_found 1 s2) (by rw [hfr]; decide) (by rw [hlo]; decide) (Nat.le_of_ble_eq_true rfl) (fun v5 s6 => ?_)
    exact g_iret O hrt rfl dX9_tear_23
  refine g_iconst O dX9_tear_7 ?_
  exact g_iret O hrt rfl dX9_tear_8
