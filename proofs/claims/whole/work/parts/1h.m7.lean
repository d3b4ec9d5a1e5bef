def X9_turns_2  (k : St → Rs) : Nat → Int → St → Rs
  | 0, _, _ => none
  | n + 1, i1, s => cLt i1 25 (rd s 5 53 i1 (fun v1 => rd s 5 53 (25 + i1) (fun v2 => wr s 5 53 i1 v2 (fun s3 => wr s3 5 53 (25 + i1) v1 (fun s4 => X9_turns_2 k n (i1 + 1) s4))))) (k s)
def X9_turns  (s : St) : Rs := X9_turns_2  (fun s1 => some (0, s1)) FU 0 s
set_option maxRecDepth 20000 in
set_option maxHeartbeats 4000000 in
theorem lt_X9_turns_2 {K : Cx} {X : Wx} (O : OKx LM K X yX9_turns.cls cX9_turns 3) (hrt : (kMe K).sig.returnType = none) (hfr : (kR K).frames = 0) (hlo : (kR K).locals = 0)  {k : St → Rs}  (hk : ∀  (s : St), GX LM K X 3 0 46 [] [] s (k s)) : ∀ (n : Nat) (i1 : Int) (s : St), GX LM K X 3 0 2 [(0, vR 0), (1, vI i1)] [] s (X9_turns_2 k n i1 s) := by
  intro n
  induction n with
  | zero => intro i1 s; exact GX.none
  | succ n ih =>
    intro i1 s
    rw [X9_turns_2]
    refine g_iload_n O dX9_turns_2 rfl 1 rfl ?_
    refine g_bipush O dX9_turns_3 (by decide +kernel) ?_
    refine g_icmp_ge (tgt := 46) O dX9_turns_5 (by decide) ?_ ?_
    · refine g_pick [] rfl ?_
      exact hk s
    refine g_aload_n O dX9_turns_8 rfl 0 rfl ?_
    refine g_getR O fw_9_22 rfl dX9_turns_9 rfl ?_
    refine g_iload_n O dX9_turns_12 rfl 1 rfl ?_
    refine g_iald O rfl (by decide) dX9_turns_13 (fun v1 => ?_)
    refine g_istore_n (lv2 := [(2, vI v1), (0, vR 0), (1, vI i1)]) O dX9_turns_14 rfl (by decide) rfl ?_
    refine g_aload_n O dX9_turns_15 rfl 1 rfl ?_
    refine g_getR O fw_9_22 rfl dX9_turns_16 rfl ?_
    refine g_iload_n O dX9_turns_19 rfl 2 rfl ?_
    refine g_aload_n O dX9_turns_20 rfl 1 rfl ?_
    refine g_getR O fw_9_22 rfl dX9_turns_21 rfl ?_
    refine g_bipush O dX9_turns_24 (by decide +kernel) ?_
    refine g_iload_n O dX9_turns_26 rfl 2 rfl ?_
    refine g_iadd O dX9_turns_27 ?_
    refine g_iald O rfl (by decide) dX9_turns_28 (fun v2 => ?_)
    refine g_iast O rfl (by decide) dX9_turns_29 (fun s3 => ?_)
    refine g_aload_n O dX9_turns_30 rfl 1 rfl ?_
    refine g_getR O fw_9_22 rfl dX9_turns_31 rfl ?_
    refine g_bipush O dX9_turns_34 (by decide +kernel) ?_
    refine g_iload_n O dX9_turns_36 rfl 2 rfl ?_
    refine g_iadd O dX9_turns_37 ?_
    refine g_iload_n O dX9_turns_38 rfl 0 rfl ?_
    refine g_iast O rfl (by decide) dX9_turns_39 (fun s4 => ?_)
    refine g_iinc (lv2 := [(1, vI (i1 + 1)), (2, vI v1), (0, vR 0)]) O dX9_turns_40 2 rfl (by decide) rfl ?_
    refine g_goto (tgt := 2) O dX9_turns_43 (by decide) ?_
    refine g_pick [2, 0] rfl ?_
    exact ih (i1 + 1) s4
theorem hd_X9_turns : yX9_turns.cls ≠ "java/lang/invoke/MethodHandle" ∧ yX9_turns.cls ≠ "java/lang/invoke/VarHandle" ∧ (parseMethodDescriptor yX9_turns.desc).map (fun d => d.parameters.length) = some 0 := by decide +kernel
set_option maxRecDepth 20000 in
set_option maxHeartbeats 4000000 in
theorem ct_X9_turns   (s : St) : Ctr LM yX9_turns cX9_turns 3 none 0 0 0 [vR 0] s (X9_turns s) := by
  refine Ctr.of (by decide +kernel) (fun ρ => Nat.le_of_ble_eq_true rfl) (lv := [(0, vR 0)]) (fun ρ => rfl) (fun K X O hrt hfr hlo => ?_)
  unfold X9_turns
  refine g_iconst O dX9_turns_0 ?_
  refine g_istore_n (lv2 := [(1, vI 0), (0, vR 0)]) O dX9_turns_1 rfl (by decide) rfl ?_
  refine g_pick [1, 0] rfl ?_
  refine lt_X9_turns_2 O hrt hfr hlo  (fun s1 => ?_) FU 0 s
  exact g_vret O hrt dX9_turns_46
def X9_turn  (s : St) : Rs := cl (X9_areBoth s) (fun v1 s2 => cEq v1 0 (some ((-4), s2)) (cEq (s2 0 6) 40 (some ((-2), s2)) (cl (X9_notes s2) (fun _ s4 => cl (X9_turns s4) (fun _ s6 => cl (X9_many 0 s6) (fun v7 s8 => some (v7, s8)))))))
theorem hd_X9_turn : yX9_turn.cls ≠ "java/lang/invoke/MethodHandle" ∧ yX9_turn.cls ≠ "java/lang/invoke/VarHandle" ∧ (parseMethodDescriptor yX9_turn.desc).map (fun d => d.parameters.length) = some 0 := by decide +kernel
set_option maxRecDepth 20000 in
set_option maxHeartbeats 4000000 in
theorem ct_X9_turn   (s : St) : Ctr LM yX9_turn cX9_turn 1 (Option.some .int) 1 2 45 [vR 0] s (X9_turn s) := by
  refine Ctr.of (by decide +kernel) (fun ρ => Nat.le_of_ble_eq_true rfl) (lv := [(0, vR 0)]) (fun ρ => rfl) (fun K X O hrt hfr hlo => ?_)
  unfold X9_turn
  refine g_aload_n O dX9_turn_0 rfl 0 rfl ?_
  refine g_callV1 (As := []) (rest := []) (b := 0) (ci := 9) O mw_5_60 mw_5_62 mp_4_2 mw_5_63 mw_1_10 hd_X9_areBoth rfl ⟨_, _, rfl⟩ rfl dX9_turn_1 (ct_X9_areBoth  s) (by rw [hfr]; decide) (by rw [hlo]; decide) (Nat.le_of_ble_eq_true rfl) (fun v1 s2 => ?_)
  refine g_if_ne (tgt := 10) O dX9_turn_4 (by decide) ?_ ?_
  · refine g_aload_n O dX9_turn_10 rfl 0 rfl ?_
    refine g_getI O fw_9_144 rfl dX9_turn_11 rfl ?_
    refine g_bipush O dX9_turn_14 (by decide +kernel) ?_
    refine g_icmp_ne (tgt := 22) O dX9_turn_16 (by decide) ?_ ?_
    · refine g_aload_n O dX9_turn_22 rfl 0 rfl ?_
      refine g_callV0 (As := []) (rest := []) (b := 0) (ci := 9) O mw_5_148 mw_5_150 mp_4_15 mw_5_151 mw_1_10 hd_X9_notes rfl ⟨_, _, rfl⟩ rfl dX9_turn_23 (ct_X9_notes  s2) (by rw [hfr]; decide) (by rw [hlo]; decide) (Nat.le_of_ble_eq_true rfl) (fun _ s4 => ?_)
      refine g_aload_n O dX9_turn_26 rfl 0 rfl ?_
      refine g_callV0 (As := []) (rest := []) (b := 0) (ci := 9) O mw_5_188 mw_5_190 mp_5_5 mw_5_191 mw_1_10 hd_X9_turns rfl ⟨_, _, rfl⟩ rfl dX9_turn_27 (ct_X9_turns  s4) (by rw [hfr]; decide) (by rw [hlo]; decide) (Nat.le_of_ble_eq_true rfl) (fun _ s6 => ?_)
      refine g_aload_n O dX9_turn_30 rfl 0 rfl ?_
      refine g_iconst O dX9_turn_31 ?_
      refine g_callV1 (As := [vI 0]) (rest := []) (b := 0) (ci := 9) O mw_4_216 mw_4_218 mp_3_3 mw_4_219 mw_1_10 hd_X9_many rfl ⟨_, _, rfl⟩ rfl dX9_turn_32 (ct_X9_many 0 s6) (by rw [hfr]; decide) (by rw [hlo]; decide) (Nat.le_of_ble_eq_true rfl) (fun v7 s8 => ?_)
      exact g_iret O hrt rfl dX9_turn_35
    refine g_bipush O dX9_turn_19 (by decide +kernel) ?_
    exact g_iret O hrt rfl dX9_turn_21
  refine g_bipush O dX9_turn_7 (by decide +kernel) ?_
  exact g_iret O hrt rfl dX9_turn_9
def X9_undo (i1 : Int) (s : St) : Rs := cl (X9_in i1 0 (s 0 6) s) (fun v1 s2 => cEq v1 0 (some ((-1), s2)) (cLt 0 ((s2 0 6) - i1) (cl (X9_bring 6 (53 * i1) 5 0 53 s2) (fun _ s5 => put s5 0 6 i1 (fun s6 => some ((s2 0 6) - i1, s6)))) (put s2 0 6 i1 (fun s3 => some ((s2 0 6) - i1, s3)))))
theorem hd_X9_undo : yX9_undo.cls ≠ "java/lang/invoke/MethodHandle" ∧ yX9_undo.cls ≠ "java/lang/invoke/VarHandle" ∧ (parseMethodDescriptor yX9_undo.desc).map (fun d => d.parameters.length) = some 1 := by decide +kernel
set_option maxRecDepth 20000 in
set_option maxHeartbeats 4000000 in
theorem ct_X9_undo  (i1 : Int) (s : St) : Ctr LM yX9_undo cX9_undo 3 (Option.some .int) 1 1 25 [vR 0, vI i1] s (X9_undo i1 s) := by
  refine Ctr.of (by decide +kernel) (fun ρ => Nat.le_of_ble_eq_true rfl) (lv := [(0, vR 0), (1, vI i1)]) (fun ρ => rfl) (fun K X O hrt hfr hlo => ?_)
  unfold X9_undo
  refine g_iload_n O dX9_undo_0 rfl 1 rfl ?_
  refine g_iconst O dX9_undo_1 ?_
  refine g_aload_n O dX9_undo_2 rfl 0 rfl ?_
  refine g_getI O fw_9_144 rfl dX9_undo_3 rfl ?_
  refine g_callS1 (As := [vI i1, vI 0, vI (s 0 6)]) (rest := []) O mw_4_133 mw_4_134 mw_4_135 mw_1_10 hd_X9_in rfl dX9_undo_6 (ct_X9_in i1 0 (s 0 6) s) (by rw [hfr]; decide) (by rw [hlo]; decide) (Nat.le_of_ble_eq_true rfl) (fun v1 s2 => ?_)
  refine g_if_ne (tgt := 14) O dX9_undo_9 (by decide) ?_ ?_
  · refine g_aload_n O dX9_undo_14 rfl 0 rfl ?_
    refine g_getI O fw_9_144 rfl dX9_undo_15 rfl ?_
    refine g_iload_n O dX9_undo_18 rfl 1 rfl ?_
    refine g_isub O dX9_undo_19 ?_
    refine g_istore_n (lv2 := [(2, vI ((s2 0 6) - i1)), (0, vR 0), (1, vI i1)]) O dX9_undo_20 rfl (by decide) rfl ?_
    refine g_iload_n O dX9_undo_21 rfl 0 rfl ?_
    refine g_if_le (tgt := 43) O dX9_undo_22 (by decide) ?_ ?_
    · refine g_aload_n O dX9_undo_43 rfl 1 rfl ?_
      refine g_iload_n O dX9_undo_44 rfl 2 rfl ?_
      refine g_putI O fw_9_144 rfl dX9_undo_45 rfl rfl rfl (fun s3 => ?_)
      refine g_iload_n O dX9_undo_48 rfl 0 rfl ?_
      exact g_iret O hrt rfl dX9_undo_49
    refine g_aload_n O dX9_undo_25 rfl 1 rfl ?_
    refine g_getR O fw_9_25 rfl dX9_undo_26 rfl ?_
    refine g_bipush O dX9_undo_29 (by decide +kernel) ?_
    refine g_iload_n O dX9_undo_31 rfl 2 rfl ?_
    refine g_imul O dX9_undo_32 ?_
    refine g_aload_n O dX9_undo_33 rfl 1 rfl ?_
    refine g_getR O fw_9_22 rfl dX9_undo_34 rfl ?_
    refine g_iconst O dX9_undo_37 ?_
    refine g_bipush O dX9_undo_38 (by decide +kernel) ?_
    refine g_callS0 (As := [vR 6, vI (53 * i1), vR 5, vI 0, vI 53]) (rest := []) O mw_4_209 mw_4_210 mw_4_211 mw_1_10 hd_X9_bring rfl dX9_undo_40 (ct_X9_bring ⟨_, _, rfl⟩ ⟨_, _, rfl⟩ (53 * i1) 0 53 s2) (by rw [hfr]; decide) (by rw [hlo]; decide) (Nat.le_of_ble_eq_true rfl) (fun _ s5 => ?_)
    refine g_aload_n O dX9_undo_43 rfl 1 rfl ?_
    refine g_iload_n O dX9_undo_44 rfl 2 rfl ?_
    refine g_putI O fw_9_144 rfl dX9_undo_45 rfl rfl rfl (fun s6 => ?_)
    refine g_iload_n O dX9_undo_48 rfl 0 rfl ?_
    exact g_iret O hrt rfl dX9_undo_49
  refine g_iconst O dX9_undo_12 ?_
  exact g_iret O hrt rfl dX9_undo_13
def X9_keep (i1 : Int) (s : St) : Rs := cl (X9_in i1 0 2 s) (fun v1 s2 => cEq v1 0 (some ((-1), s2)) (wr s2 8 3 i1 (nb1 1) (fun s3 => wr s3 7 6522 (2174 * i1) (s3 0 6) (fun s4 => cl (X9_bring 5 0 7 ((2174 * i1) + 1) 53 s4) (fun _ s6 => cl (X9_bring 6 0 7 (((2174 * i1) + 1) + 53) 2120 s6) (fun _ s8 => some (s8 0 6, s8)))))))
theorem hd_X9_keep : yX9_keep.cls ≠ "java/lang/invoke/MethodHandle" ∧ yX9_keep.cls ≠ "java/lang/invoke/VarHandle" ∧ (parseMethodDescriptor yX9_keep.desc).map (fun d => d.parameters.length) = some 1 := by decide +kernel
set_option maxRecDepth 20000 in
set_option maxHeartbeats 4000000 in
theorem ct_X9_keep  (i1 : Int) (s : St) : Ctr LM yX9_keep cX9_keep 3 (Option.some .int) 1 1 25 [vR 0, vI i1] s (X9_keep i1 s) := by
  refine Ctr.of (by decide +kernel) (fun ρ => Nat.le_of_ble_eq_true rfl) (lv := [(0, vR 0), (1, vI i1)]) (fun ρ => rfl) (fun K X O hrt hfr hlo => ?_)
  unfold X9_keep
  refine g_iload_n O dX9_keep_0 rfl 1 rfl ?_
  refine g_iconst O dX9_keep_1 ?_
  refine g_iconst O dX9_keep_2 ?_
  refine g_callS1 (As := [vI i1, vI 0, vI 2]) (rest := []) O mw_4_133 mw_4_134 mw_4_135 mw_1_10 hd_X9_in rfl dX9_keep_3 (ct_X9_in i1 0 2 s) (by rw [hfr]; decide) (by rw [hlo]; decide) (Nat.le_of_ble_eq_true rfl) (fun v1 s2 => ?_)
  refine g_if_ne (tgt := 11) O dX9_keep_6 (by decide) ?_ ?_
  · refine g_sipush O dX9_keep_11 (by decide +kernel) ?_
    refine g_iload_n O dX9_keep_14 rfl 1 rfl ?_
    refine g_imul O dX9_keep_15 ?_
    refine g_istore_n (lv2 := [(2, vI (2174 * i1)), (0, vR 0), (1, vI i1)]) O dX9_keep_16 rfl (by decide) rfl ?_
    refine g_aload_n O dX9_keep_17 rfl 1 rfl ?_
    refine g_getR O fw_9_31 rfl dX9_keep_18 rfl ?_
    refine g_iload_n O dX9_keep_21 rfl 2 rfl ?_
    refine g_iconst O dX9_keep_22 ?_
    refine g_zast O rfl (by decide) dX9_keep_23 (fun s3 => ?_)
    refine g_aload_n O dX9_keep_24 rfl 1 rfl ?_
    refine g_getR O fw_9_28 rfl dX9_keep_25 rfl ?_
    refine g_iload_n O dX9_keep_28 rfl 0 rfl ?_
    refine g_aload_n O dX9_keep_29 rfl 1 rfl ?_
    refine g_getI O fw_9_144 rfl dX9_keep_30 rfl ?_
    refine g_iast O rfl (by decide) dX9_keep_33 (fun s4 => ?_)
    refine g_aload_n O dX9_keep_34 rfl 1 rfl ?_
    refine g_getR O fw_9_22 rfl dX9_keep_35 rfl ?_
    refine g_iconst O dX9_keep_38 ?_
    refine g_aload_n O dX9_keep_39 rfl 1 rfl ?_
    refine g_getR O fw_9_28 rfl dX9_keep_40 rfl ?_
    refine g_iload_n O dX9_keep_43 rfl 0 rfl ?_
    refine g_iconst O dX9_keep_44 ?_
    refine g_iadd O dX9_keep_45 ?_
    refine g_bipush O dX9_keep_46 (by decide +kernel) ?_
    refine g_callS0 (As := [vR 5, vI 0, vR 7, vI ((2174 * i1) + 1), vI 53]) (rest := []) O mw_4_209 mw_4_210 mw_4_211 mw_1_10 hd_X9_bring rfl dX9_keep_48 (ct_X9_bring ⟨_, _, rfl⟩ ⟨_, _, rfl⟩ 0 ((2174 * i1) + 1) 53 s4) (by rw [hfr]; decide) (by rw [hlo]; decide) (Nat.le_of_ble_eq_true rfl) (fun _ s6 => ?_)
    refine g_aload_n O dX9_keep_51 rfl 1 rfl ?_
    refine g_getR O fw_9_25 rfl dX9_keep_52 rfl ?_
    refine g_iconst O dX9_keep_55 ?_
    refine g_aload_n O dX9_keep_56 rfl 1 rfl ?_
    refine g_getR O fw_9_28 rfl dX9_keep_57 rfl ?_
    refine g_iload_n O dX9_keep_60 rfl 0 rfl ?_
    refine g_iconst O dX9_keep_61 ?_
    refine g_iadd O dX9_keep_62 ?_
    refine g_bipush O dX9_keep_63 (by decide +kernel) ?_
    refine g_iadd O dX9_keep_65 ?_
    refine g_sipush O dX9_keep_66 (by decide +kernel) ?_
    refine g_callS0 (As := [vR 6, vI 0, vR 7, vI (((2174 * i1) + 1) + 53), vI 2120]) (rest := []) O mw_4_209 mw_4_210 mw_4_211 mw_1_10 hd_X9_bring rfl dX9_keep_69 (ct_X9_bring ⟨_, _, rfl⟩ ⟨_, _, rfl⟩ 0 (((2174 * i1) + 1) + 53) 2120 s6) (by rw [hfr]; decide) (by rw [hlo]; decide) (Nat.le_of_ble_eq_true rfl) (fun _ s8 => ?_)
    refine g_aload_n O dX9_keep_72 rfl 1 rfl ?_
    refine g_getI O fw_9_144 rfl dX9_keep_73 rfl ?_
    exact g_iret O hrt rfl dX9_keep_76
  refine g_iconst O dX9_keep_9 ?_
  exact g_iret O hrt rfl dX9_keep_10
def X9_on (i1 : Int) (s : St) : Rs := cl (X9_in i1 0 2 s) (fun v1 s2 => cEq v1 0 (some ((-1), s2)) (rd s2 8 3 i1 (fun v3 => cEq v3 0 (cl (X9_found 1 s2) (fun v10 s11 => some (v10, s11))) (rd s2 7 6522 (2174 * i1) (fun v4 => put s2 0 6 v4 (fun s5 => cl (X9_bring 7 ((2174 * i1) + 1) 5 0 53 s5) (fun _ s7 => cl (X9_bring 7 (((2174 * i1) + 1) + 53) 6 0 2120 s7) (fun _ s9 => some (s9 0 6, s9)))))))))
theorem hd_X9_on : yX9_on.cls ≠ "java/lang/invoke/MethodHandle" ∧ yX9_on.cls ≠ "java/lang/invoke/VarHandle" ∧ (parseMethodDescriptor yX9_on.desc).map (fun d => d.parameters.length) = some 1 := by decide +kernel
set_option maxRecDepth 20000 in
set_option maxHeartbeats 4000000 in
theorem ct_X9_on  (i1 : Int) (s : St) : Ctr LM yX9_on cX9_on 3 (Option.some .int) 1 1 25 [vR 0, vI i1] s (X9_on i1 s) := by
  refine Ctr.of (by decide +kernel) (fun ρ => Nat.le_of_ble_eq_true rfl) (lv := [(0, vR 0), (1, vI i1)]) (fun ρ => rfl) (fun K X O hrt hfr hlo => ?_)
  unfold X9_on
  refine g_iload_n O dX9_on_0 rfl 1 rfl ?_
  refine g_iconst O dX9_on_1 ?_
  refine g_iconst O dX9_on_2 ?_
  refine g_callS1 (As := [vI i1, vI 0, vI 2]) (rest := []) O mw_4_133 mw_4_134 mw_4_135 mw_1_10 hd_X9_in rfl dX9_on_3 (ct_X9_in i1 0 2 s) (by rw [hfr]; decide) (by rw [hlo]; decide) (Nat.le_of_ble_eq_true rfl) (fun v1 s2 => ?_)
  refine g_if_ne (tgt := 11) O dX9_on_6 (by decide) ?_ ?_
  · refine g_aload_n O dX9_on_11 rfl 0 rfl ?_
    refine g_getR O fw_9_31 rfl dX9_on_12 rfl ?_
    refine g_iload_n O dX9_on_15 rfl 1 rfl ?_
    refine g_zald O rfl (by decide) dX9_on_16 (fun v3 => ?_)
    refine g_if_ne (tgt := 26) O dX9_on_17 (by decide) ?_ ?_
    · refine g_sipush O dX9_on_26 (by decide +kernel) ?_
      refine g_iload_n O dX9_on_29 rfl 1 rfl ?_
      refine g_imul O dX9_on_30 ?_
      refine g_istore_n (lv2 := [(2, vI (2174 * i1)), (0, vR 0), (1, vI i1)]) O dX9_on_31 rfl (by decide) rfl ?_
      refine g_aload_n O dX9_on_32 rfl 1 rfl ?_
      refine g_aload_n O dX9_on_33 rfl 1 rfl ?_
      refine g_getR O fw_9_28 rfl dX9_on_34 rfl ?_
      refine g_iload_n O dX9_on_37 rfl 0 rfl ?_
      refine g_iald O rfl (by decide) dX9_on_38 (fun v4 => ?_)
      refine g_putI O fw_9_144 rfl dX9_on_39 rfl rfl rfl (fun s5 => ?_)
      refine g_aload_n O dX9_on_42 rfl 1 rfl ?_
      refine g_getR O fw_9_28 rfl dX9_on_43 rfl ?_
      refine g_iload_n O dX9_on_46 rfl 0 rfl ?_
      refine g_iconst O dX9_on_47 ?_
      refine g_iadd O dX9_on_48 ?_
      refine g_aload_n O dX9_on_49 rfl 1 rfl ?_
      refine g_getR O fw_9_22 rfl dX9_on_50 rfl ?_
      refine g_iconst O dX9_on_53 ?_
      refine g_bipush O dX9_on_54 (by decide +kernel) ?_
      refine g_callS0 (As := [vR 7, vI ((2174 * i1) + 1), vR 5, vI 0, vI 53]) (rest := []) O mw_4_209 mw_4_210 mw_4_211 mw_1_10 hd_X9_bring rfl dX9_on_56 (ct_X9_bring ⟨_, _, rfl⟩ ⟨_, _, rfl⟩ ((2174 * i1) + 1) 0 53 s5) (by rw [hfr]; decide) (by rw [hlo]; decide) (Nat.le_of_ble_eq_true rfl) (fun _ s7 => ?_)
      refine g_aload_n O dX9_on_59 rfl 1 rfl ?_
      refine g_getR O fw_9_28 rfl dX9_on_60 rfl ?_
      refine g_iload_n O dX9_on_63 rfl 0 rfl ?_
      refine g_iconst O dX9_on_64 ?_
      refine g_iadd O dX9_on_65 ?_
      refine g_bipush O dX9_on_66 (by decide +kernel) ?_
      refine g_iadd O dX9_on_68 ?_
      refine g_aload_n O dX9_on_69 rfl 1 rfl ?_
      refine g_getR O fw_9_25 rfl dX9_on_70 rfl ?_
      refine g_iconst O dX9_on_73 ?_
      refine g_sipush O dX9_on_74 (by decide +kernel) ?_
      refine g_callS0 (As := [vR 7, vI (((2174 * i1) + 1) + 53), vR 6, vI 0, vI 2120]) (rest := []) O mw_4_209 mw_4_210 mw_4_211 mw_1_10 hd_X9_bring rfl dX9_on_77 (ct_X9_bring ⟨_, _, rfl⟩ ⟨_, _, rfl⟩ (((2174 * i1) + 1) + 53) 0 2120 s7) (by rw [hfr]; decide) (by rw [hlo]; decide) (Nat.le_of_ble_eq_true rfl) (fun _ s9 => ?_)
      refine g_aload_n O dX9_on_80 rfl 1 rfl ?_
      refine g_getI O fw_9_144 rfl dX9_on_81 rfl ?_
      exact g_iret O hrt rfl dX9_on_84
    refine g_aload_n O dX9_on_20 rfl 0 rfl ?_
    refine g_iconst O dX9_on_21 ?_
    refine g_callV1 (As := [vI 1]) (rest := []) (b := 0) (ci := 9) O mw_4_136 mw_4_138 mp_2_12 mw_4_139 mw_1_10 hd_X9_found rfl ⟨_, _, rfl⟩ rfl dX9_on_22 (ct_X9_found 1 s2) (by rw [hfr]; decide) (by rw [hlo]; decide) (Nat.le_of_ble_eq_true rfl) (fun v10 s11 => ?_)
    exact g_iret O hrt rfl dX9_on_25
  refine g_iconst O dX9_on_9 ?_
  exact g_iret O hrt rfl dX9_on_10
def X9_does (i1 : Int) (s : St) : Rs := dv i1 2 (fun v1 => rm v1 2 (fun v2 => dv i1 64 (fun v3 => cl (X9_many v2 s) (fun v4 s5 => rm v3 v4 (fun v6 => rm i1 8 (fun v7 => cLt v7 4 (dv i1 1024 (fun v20 => rm v20 18 (fun v21 => wr s5 5 53 (((25 * v2) + 1) + v6) (97 + v21) (fun s22 => some (0, s22))))) (cLt v7 6 (cl (X9_mayCut v2 v6 s5) (fun v16 s17 => cEq v16 0 (some (0, s17)) (cl (X9_cuts v2 v6 s17) (fun _ s19 => some (0, s19))))) (cEq v7 7 (cl (X9_turns s5) (fun _ s15 => some (0, s15))) (cl (X9_many v2 s5) (fun v8 s9 => cLt v8 12 (dv i1 1024 (fun v10 => rm v10 10 (fun v11 => cl (X9_adds v2 v6 0 0 (48 + v11) s9) (fun v12 s13 => some (0, s13))))) (some (0, s9))))))))))))
theorem hd_X9_does : yX9_does.cls ≠ "java/lang/invoke/MethodHandle" ∧ yX9_does.cls ≠ "java/lang/invoke/VarHandle" ∧ (parseMethodDescriptor yX9_does.desc).map (fun d => d.parameters.length) = some 1 := by decide +kernel
set_option maxRecDepth 20000 in
set_option maxHeartbeats 4000000 in
theorem ct_X9_does  (i1 : Int) (s : St) : Ctr LM yX9_does cX9_does 5 none 0 4 104 [vR 0, vI i1] s (X9_does i1 s) := by
  refine Ctr.of (by decide +kernel) (fun ρ => Nat.le_of_ble_eq_true rfl) (lv := [(0, vR 0), (1, vI i1)]) (fun ρ => rfl) (fun K X O hrt hfr hlo => ?_)
  unfold X9_does
  refine g_iload_n O dX9_does_0 rfl 1 rfl ?_
  refine g_iconst O dX9_does_1 ?_
  refine g_idiv O dX9_does_2 (fun v1 => ?_)
  refine g_iconst O dX9_does_3 ?_
  refine g_irem O dX9_does_4 (fun v2 => ?_)
  refine g_istore_n (lv2 := [(2, vI v2), (0, vR 0), (1, vI i1)]) O dX9_does_5 rfl (by decide) rfl ?_
  refine g_iload_n O dX9_does_6 rfl 2 rfl ?_
  refine g_bipush O dX9_does_7 (by decide +kernel) ?_
  refine g_idiv O dX9_does_9 (fun v3 => ?_)
  refine g_aload_n O dX9_does_10 rfl 1 rfl ?_
  refine g_iload_n O dX9_does_11 rfl 0 rfl ?_
  refine g_callV1 (As := [vI v2]) (rest := [vI v3]) (b := 0) (ci := 9) O mw_4_216 mw_4_218 mp_3_3 mw_4_219 mw_1_10 hd_X9_many rfl ⟨_, _, rfl⟩ rfl dX9_does_12 (ct_X9_many v2 s) (by rw [hfr]; decide) (by rw [hlo]; decide) (Nat.le_of_ble_eq_true rfl) (fun v4 s5 => ?_)
  refine g_irem O dX9_does_15 (fun v6 => ?_)
  refine g_istore_n (lv2 := [(3, vI v6), (2, vI v2), (0, vR 0), (1, vI i1)]) O dX9_does_16 rfl (by decide) rfl ?_
  refine g_iload_n O dX9_does_17 rfl 3 rfl ?_
  refine g_bipush O dX9_does_18 (by decide +kernel) ?_
  refine g_irem O dX9_does_20 (fun v7 => ?_)
  refine g_istore (lv2 := [(4, vI v7), (3, vI v6), (2, vI v2), (0, vR 0), (1, vI i1)]) O dX9_does_21 (by decide) rfl ?_
  refine g_iload O dX9_does_23 0 rfl ?_
  refine g_iconst O dX9_does_25 ?_
  refine g_icmp_ge (tgt := 56) O dX9_does_26 (by decide) ?_ ?_
  · refine g_iload O dX9_does_56 0 rfl ?_
    refine g_bipush O dX9_does_58 (by decide +kernel) ?_
    refine g_icmp_ge (tgt := 81) O dX9_does_60 (by decide) ?_ ?_
    · refine g_iload O dX9_does_81 0 rfl ?_
      refine g_bipush O dX9_does_83 (by decide +kernel) ?_
      refine g_icmp_ne (tgt := 95) O dX9_does_85 (by decide) ?_ ?_
      · refine g_aload_n O dX9_does_95 rfl 3 rfl ?_
        refine g_iload_n O dX9_does_96 rfl 2 rfl ?_
        refine g_callV1 (As := [vI v2]) (rest := []) (b := 0) (ci := 9) O mw_4_216 mw_4_218 mp_3_3 mw_4_219 mw_1_10 hd_X9_many rfl ⟨_, _, rfl⟩ rfl dX9_does_97 (ct_X9_many v2 s5) (by rw [hfr]; decide) (by rw [hlo]; decide) (Nat.le_of_ble_eq_true rfl) (fun v8 s9 => ?_)
        refine g_bipush O dX9_does_100 (by decide +kernel) ?_
        refine g_icmp_ge (tgt := 125) O dX9_does_102 (by decide) ?_ ?_
        · exact g_vret O hrt dX9_does_125
        refine g_aload_n O dX9_does_105 rfl 3 rfl ?_
        refine g_iload_n O dX9_does_106 rfl 2 rfl ?_
        refine g_iload_n O dX9_does_107 rfl 1 rfl ?_
        refine g_iconst O dX9_does_108 ?_
        refine g_iconst O dX9_does_109 ?_
        refine g_bipush O dX9_does_110 (by decide +kernel) ?_
        refine g_iload_n O dX9_does_112 rfl 4 rfl ?_
        refine g_sipush O dX9_does_113 (by decide +kernel) ?_
        refine g_idiv O dX9_does_116 (fun v10 => ?_)
        refine g_bipush O dX9_does_117 (by decide +kernel) ?_
        refine g_irem O dX9_does_119 (fun v11 => ?_)
        refine g_iadd O dX9_does_120 ?_
        refine g_callV1 (As := [vI v2, vI v6, vI 0, vI 0, vI (48 + v11)]) (rest := []) (b := 0) (ci := 9) O mw_5_168 mw_5_170 mp_5_2 mw_5_171 mw_1_10 hd_X9_adds rfl ⟨_, _, rfl⟩ rfl dX9_does_121 (ct_X9_adds v2 v6 0 0 (48 + v11) s9) (by rw [hfr]; decide) (by rw [hlo]; decide) (Nat.le_of_ble_eq_true rfl) (fun v12 s13 => ?_)
        refine g_pop O dX9_does_124 rfl ?_
        exact g_vret O hrt dX9_does_125
      refine g_aload_n O dX9_does_88 rfl 3 rfl ?_
      refine g_callV0 (As := []) (rest := []) (b := 0) (ci := 9) O mw_5_188 mw_5_190 mp_5_5 mw_5_191 mw_1_10 hd_X9_turns rfl ⟨_, _, rfl⟩ rfl dX9_does_89 (ct_X9_turns  s5) (by rw [hfr]; decide) (by rw [hlo]; decide) (Nat.le_of_ble_eq_true rfl) (fun _ s15 => ?_)
      refine g_goto (tgt := 125) O dX9_does_92 (by decide) ?_
      exact g_vret O hrt dX9_does_125
    refine g_aload_n O dX9_does_63 rfl 3 rfl ?_
    refine g_iload_n O dX9_does_64 rfl 2 rfl ?_
    refine g_iload_n O dX9_does_65 rfl 1 rfl ?_
    refine g_callV1 (As := [vI v2, vI v6]) (rest := []) (b := 0) (ci := 9) O mw_5_156 mw_5_158 mp_5_0 mw_5_159 mw_1_10 hd_X9_mayCut rfl ⟨_, _, rfl⟩ rfl dX9_does_66 (ct_X9_mayCut v2 v6 s5) (by rw [hfr]; decide) (by rw [hlo]; decide) (Nat.le_of_ble_eq_true rfl) (fun v16 s17 => ?_)
    refine g_if_eq (tgt := 125) O dX9_does_69 (by decide) ?_ ?_
    · exact g_vret O hrt dX9_does_125
    refine g_aload_n O dX9_does_72 rfl 3 rfl ?_
    refine g_iload_n O dX9_does_73 rfl 2 rfl ?_
    refine g_iload_n O dX9_does_74 rfl 1 rfl ?_
    refine g_callV0 (As := [vI v2, vI v6]) (rest := []) (b := 0) (ci := 9) O mw_5_160 mw_5_162 mp_5_1 mw_5_163 mw_1_10 hd_X9_cuts rfl ⟨_, _, rfl⟩ rfl dX9_does_75 (ct_X9_cuts v2 v6 s17) (by rw [hfr]; decide) (by rw [hlo]; decide) (Nat.le_of_ble_eq_true rfl) (fun _ s19 => ?_)
    refine g_goto (tgt := 125) O dX9_does_78 (by decide) ?_
    exact g_vret O hrt dX9_does_125
  refine g_aload_n O dX9_does_29 rfl 3 rfl ?_
  refine g_getR O fw_9_22 rfl dX9_does_30 rfl ?_
  refine g_bipush O dX9_does_33 (by decide +kernel) ?_
  refine g_iload_n O dX9_does_35 rfl 2 rfl ?_
  refine g_imul O dX9_does_36 ?_
  refine g_iconst O dX9_does_37 ?_
  refine g_iadd O dX9_does_38 ?_
  refine g_iload_n O dX9_does_39 rfl 1 rfl ?_
  refine g_iadd O dX9_does_40 ?_
  refine g_bipush O dX9_does_41 (by decide +kernel) ?_
  refine g_iload_n O dX9_does_43 rfl 4 rfl ?_
  refine g_sipush O dX9_does_44 (by decide +kernel) ?_
  refine g_idiv O dX9_does_47 (fun v20 => ?_)
  refine g_bipush O dX9_does_48 (by decide +kernel) ?_
  refine g_irem O dX9_does_50 (fun v21 => ?_)
  refine g_iadd O dX9_does_51 ?_
  refine g_iast O rfl (by decide) dX9_does_52 (fun s22 => ?_)
  refine g_goto (tgt := 125) O dX9_does_53 (by decide) ?_
  exact g_vret O hrt dX9_does_125
def X9_lots_53 (i1 : Int) (k : St → Rs) : Nat → Int → Int → St → Rs
  | 0, _, _, _ => none
  | n + 1, l3, i5, s => cLt i5 i1 (rmL (l3 * 48271) 2147483647 (fun v1 => cl (X9_notes s) (fun _ s3 => cl (X9_does v1 s3) (fun _ s5 => X9_lots_53 i1 k n v1 (i5 + 1) s5)))) (k s)
def X9_lots (i1 : Int) (i2 : Int) (s : St) : Rs := cl (X9_in i1 1 20 s) (fun v1 s2 => cEq v1 0 (some ((-1), s2)) (cl (X9_in i2 1 2147483646 s2) (fun v3 s4 => cEq v3 0 (some ((-1), s4)) (cl (X9_areBoth s4) (fun v5 s6 => cEq v5 0 (some ((-4), s6)) (cLt 40 ((s6 0 6) + i1) (some ((-2), s6)) (X9_lots_53 i1 (fun s7 => cl (X9_many 0 s7) (fun v8 s9 => cl (X9_many 1 s9) (fun v10 s11 => some (v8 + v10, s11)))) FU (w32 i2) 0 s6)))))))
set_option maxRecDepth 20000 in
set_option maxHeartbeats 4000000 in
theorem lt_X9_lots_53 {K : Cx} {X : Wx} (O : OKx LM K X yX9_lots.cls cX9_lots 6) (hrt : (kMe K).sig.returnType = (Option.some .int)) (hfr : (kR K).frames = 5) (hlo : (kR K).locals = 128) {i1 : Int} {k : St → Rs}  (hk : ∀  (s : St), GX LM K X 6 1 85 [(0, vR 0)] [] s (k s)) : ∀ (n : Nat) (l3 : Int) (i5 : Int) (s : St), GX LM K X 6 1 53 [(0, vR 0), (1, vI i1), (3, vL l3), (5, vI i5)] [] s (X9_lots_53 i1 k n l3 i5 s) := by
  intro n
  induction n with
  | zero => intro l3 i5 s; exact GX.none
  | succ n ih =>
    intro l3 i5 s
    rw [X9_lots_53]
    refine g_iload O dX9_lots_53 3 rfl ?_
    refine g_iload_n O dX9_lots_55 rfl 1 rfl ?_
    refine g_icmp_ge (tgt := 85) O dX9_lots_56 (by decide) ?_ ?_
    · refine g_pick [0] rfl ?_
      exact hk s
    refine g_lload_n O dX9_lots_59 rfl 2 rfl ?_
    refine g_ldc2 (x := 48271) O dX9_lots_60 mw_5_209 (by decide +kernel) ?_
    refine g_lmul O dX9_lots_63 ?_
    refine g_ldc2 (x := 2147483647) O dX9_lots_64 mw_5_210 (by decide +kernel) ?_
    refine g_lrem O dX9_lots_67 (fun v1 => ?_)
    refine g_lstore_n (lv2 := [(3, vL v1), (0, vR 0), (1, vI i1), (5, vI i5)]) O dX9_lots_68 rfl (by decide) rfl ?_
    refine g_aload_n O dX9_lots_69 rfl 1 rfl ?_
    refine g_callV0 (As := []) (rest := []) (b := 0) (ci := 9) O mw_5_148 mw_5_150 mp_4_15 mw_5_151 mw_1_10 hd_X9_notes rfl ⟨_, _, rfl⟩ rfl dX9_lots_70 (ct_X9_notes  s) (by rw [hfr]; decide) (by rw [hlo]; decide) (Nat.le_of_ble_eq_true rfl) (fun _ s3 => ?_)
    refine g_aload_n O dX9_lots_73 rfl 1 rfl ?_
    refine g_lload_n O dX9_lots_74 rfl 0 rfl ?_
    refine g_l2i O dX9_lots_75 ?_
    refine g_callV0 (As := [vI v1]) (rest := []) (b := 0) (ci := 9) O mw_5_211 mw_5_213 mp_5_6 mw_5_214 mw_1_10 hd_X9_does rfl ⟨_, _, rfl⟩ rfl dX9_lots_76 (ct_X9_does v1 s3) (by rw [hfr]; decide) (by rw [hlo]; decide) (Nat.le_of_ble_eq_true rfl) (fun _ s5 => ?_)
    refine g_iinc (lv2 := [(5, vI (i5 + 1)), (3, vL v1), (0, vR 0), (1, vI i1)]) O dX9_lots_79 3 rfl (by decide) rfl ?_
    refine g_goto (tgt := 53) O dX9_lots_82 (by decide) ?_
    refine g_pick [2, 3, 1, 0] rfl ?_
    exact ih v1 (i5 + 1) s5
theorem hd_X9_lots : yX9_lots.cls ≠ "java/lang/invoke/MethodHandle" ∧ yX9_lots.cls ≠ "java/lang/invoke/VarHandle" ∧ (parseMethodDescriptor yX9_lots.desc).map (fun d => d.parameters.length) = some 2 := by decide +kernel
set_option maxRecDepth 20000 in
set_option maxHeartbeats 4000000 in
theorem ct_X9_lots  (i1 : Int) (i2 : Int) (s : St) : Ctr LM yX9_lots cX9_lots 6 (Option.some .int) 1 5 128 [vR 0, vI i1, vI i2] s (X9_lots i1 i2 s) := by
  refine Ctr.of (by decide +kernel) (fun ρ => Nat.le_of_ble_eq_true rfl) (lv := [(0, vR 0), (1, vI i1), (2, vI i2)]) (fun ρ => rfl) (fun K X O hrt hfr hlo => ?_)
  unfold X9_lots
  refine g_iload_n O dX9_lots_0 rfl 1 rfl ?_
  refine g_iconst O dX9_lots_1 ?_
  refine g_bipush O dX9_lots_2 (by decide +kernel) ?_
  refine g_callS1 (As := [vI i1, vI 1, vI 20]) (rest := []) O mw_4_133 mw_4_134 mw_4_135 mw_1_10 hd_X9_in rfl dX9_lots_4 (ct_X9_in i1 1 20 s) (by rw [hfr]; decide) (by rw [hlo]; decide) (Nat.le_of_ble_eq_true rfl) (fun v1 s2 => ?_)
  refine g_if_eq (tgt := 21) O dX9_lots_7 (by decide) ?_ ?_
  · refine g_iconst O dX9_lots_21 ?_
    exact g_iret O hrt rfl dX9_lots_22
  refine g_iload_n O dX9_lots_10 rfl 2 rfl ?_
  refine g_iconst O dX9_lots_11 ?_
  refine g_ldcw (x := 2147483646) O dX9_lots_12 mw_5_208 (by decide +kernel) ?_
  refine g_callS1 (As := [vI i2, vI 1, vI 2147483646]) (rest := []) O mw_4_133 mw_4_134 mw_4_135 mw_1_10 hd_X9_in rfl dX9_lots_15 (ct_X9_in i2 1 2147483646 s2) (by rw [hfr]; decide) (by rw [hlo]; decide) (Nat.le_of_ble_eq_true rfl) (fun v3 s4 => ?_)
  refine g_if_ne (tgt := 23) O dX9_lots_18 (by decide) ?_ ?_
  · refine g_aload_n O dX9_lots_23 rfl 0 rfl ?_
    refine g_callV1 (As := []) (rest := []) (b := 0) (ci := 9) O mw_5_60 mw_5_62 mp_4_2 mw_5_63 mw_1_10 hd_X9_areBoth rfl ⟨_, _, rfl⟩ rfl dX9_lots_24 (ct_X9_areBoth  s4) (by rw [hfr]; decide) (by rw [hlo]; decide) (Nat.le_of_ble_eq_true rfl) (fun v5 s6 => ?_)
    refine g_if_ne (tgt := 33) O dX9_lots_27 (by decide) ?_ ?_
    · refine g_aload_n O dX9_lots_33 rfl 0 rfl ?_
      refine g_getI O fw_9_144 rfl dX9_lots_34 rfl ?_
      refine g_iload_n O dX9_lots_37 rfl 1 rfl ?_
      refine g_iadd O dX9_lots_38 ?_
      refine g_bipush O dX9_lots_39 (by decide +kernel) ?_
      refine g_icmp_le (tgt := 47) O dX9_lots_41 (by decide) ?_ ?_
      · refine g_iload_n O dX9_lots_47 rfl 2 rfl ?_
        refine g_i2l O dX9_lots_48 ?_
        refine g_lstore_n (lv2 := [(3, vL (w32 i2)), (0, vR 0), (1, vI i1), (2, vI i2)]) O dX9_lots_49 rfl (by decide) rfl ?_
        refine g_iconst O dX9_lots_50 ?_
        refine g_istore (lv2 := [(5, vI 0), (3, vL (w32 i2)), (0, vR 0), (1, vI i1), (2, vI i2)]) O dX9_lots_51 (by decide) rfl ?_
        refine g_pick [2, 3, 1, 0] rfl ?_
        refine lt_X9_lots_53 O hrt hfr hlo  (fun s7 => ?_) FU (w32 i2) 0 s6
        refine g_aload_n O dX9_lots_85 rfl 0 rfl ?_
        refine g_iconst O dX9_lots_86 ?_
        refine g_callV1 (As := [vI 0]) (rest := []) (b := 0) (ci := 9) O mw_4_216 mw_4_218 mp_3_3 mw_4_219 mw_1_10 hd_X9_many rfl ⟨_, _, rfl⟩ rfl dX9_lots_87 (ct_X9_many 0 s7) (by rw [hfr]; decide) (by rw [hlo]; decide) (Nat.le_of_ble_eq_true rfl) (fun v8 s9 => ?_)
        refine g_aload_n O dX9_lots_90 rfl 0 rfl ?_
        refine g_iconst O dX9_lots_91 ?_
        refine g_callV1 (As := [vI 1]) (rest := [vI v8]) (b := 0) (ci := 9) O mw_4_216 mw_4_218 mp_3_3 mw_4_219 mw_1_10 hd_X9_many rfl ⟨_, _, rfl⟩ rfl dX9_lots_92 (ct_X9_many 1 s9) (by rw [hfr]; decide) (by rw [hlo]; decide) (Nat.le_of_ble_eq_true rfl) (fun v10 s11 => ?_)
        refine g_iadd O dX9_lots_95 ?_
        exact g_iret O hrt rfl dX9_lots_96
      refine g_bipush O dX9_lots_44 (by decide +kernel) ?_
      exact g_iret O hrt rfl dX9_lots_46
    refine g_bipush O dX9_lots_30 (by decide +kernel) ?_
    exact g_iret O hrt rfl dX9_lots_32
  refine g_iconst O dX9_lots_21 ?_
  exact g_iret O hrt rfl dX9_lots_22
def X9_asked  (s : St) : Rs := some (s 0 9, s)
theorem hd_X9_asked : yX9_asked.cls ≠ "java/lang/invoke/MethodHandle" ∧ yX9_asked.cls ≠ "java/lang/invoke/VarHandle" ∧ (parseMethodDescriptor yX9_asked.desc).map (fun d => d.parameters.length) = some 0 := by decide +kernel
set_option maxRecDepth 20000 in
set_option maxHeartbeats 4000000 in
theorem ct_X9_asked   (s : St) : Ctr LM yX9_asked cX9_asked 1 (Option.some .int) 1 0 0 [vR 0] s (X9_asked s) := by
  refine Ctr.of (by decide +kernel) (fun ρ => Nat.le_of_ble_eq_true rfl) (lv := [(0, vR 0)]) (fun ρ => rfl) (fun K X O hrt hfr hlo => ?_)
  unfold X9_asked
  refine g_aload_n O dX9_asked_0 rfl 0 rfl ?_
  refine g_getI O fw_9_87 rfl dX9_asked_1 rfl ?_
  exact g_iret O hrt rfl dX9_asked_4
def X9_there_4 (a0 : Nat) (k : Int → St → Rs) : Nat → Int → Int → St → Rs
  | 0, _, _, _ => none
  | n + 1, i1, i2, s => cLt i2 ((ln LM a0 : Nat) : Int) (rd s a0 (ln LM a0) i2 (fun v1 => cLt v1 0 (X9_there_4 a0 k n (i1 + 0) (i2 + 1) s) (X9_there_4 a0 k n (i1 + 1) (i2 + 1) s))) (k i1 s)
def X9_there (a0 : Nat) (s : St) : Rs := X9_there_4 a0 (fun x1 s2 => some (x1, s2)) FU 0 0 s
set_option maxRecDepth 20000 in
set_option maxHeartbeats 4000000 in
theorem lt_X9_there_4 {K : Cx} {X : Wx} (O : OKx LM K X yX9_there.cls cX9_there 3) (hrt : (kMe K).sig.returnType = (Option.some .int)) (hfr : (kR K).frames = 0) (hlo : (kR K).locals = 0) {a0 : Nat} {k : Int → St → Rs} (ha0 : Kd LM a0 0) (hk : ∀ (i1 : Int) (s : St), GX LM K X 3 1 30 [(1, vI i1)] [] s (k i1 s)) : ∀ (n : Nat) (i1 : Int) (i2 : Int) (s : St), GX LM K X 3 1 4 [(0, vR a0), (1, vI i1), (2, vI i2)] [] s (X9_there_4 a0 k n i1 i2 s) := by
  obtain ⟨fsa0, hf0⟩ := ha0.at
  intro n
  induction n with
  | zero => intro i1 i2 s; exact GX.none
  | succ n ih =>
    intro i1 i2 s
    rw [X9_there_4]
    refine g_iload_n O dX9_there_4 rfl 2 rfl ?_
    refine g_aload_n O dX9_there_5 rfl 0 rfl ?_
    refine g_alen O hf0 dX9_there_6 ?_
    refine g_icmp_ge (tgt := 30) O dX9_there_7 (by decide) ?_ ?_
    · refine g_pick [1] rfl ?_
      exact hk i1 s
    refine g_iload_n O dX9_there_10 rfl 1 rfl ?_
    refine g_aload_n O dX9_there_11 rfl 0 rfl ?_
    refine g_iload_n O dX9_there_12 rfl 2 rfl ?_
    refine g_iald O hf0 (Nat.le_succ_of_le (ln_leM _)) dX9_there_13 (fun v1 => ?_)
    refine g_if_ge (tgt := 21) O dX9_there_14 (by decide) ?_ ?_
    · refine g_iconst O dX9_there_21 ?_
      refine g_iadd O dX9_there_22 ?_
      refine g_istore_n (lv2 := [(1, vI (i1 + 1)), (0, vR a0), (2, vI i2)]) O dX9_there_23 rfl (by decide) rfl ?_
      refine g_iinc (lv2 := [(2, vI (i2 + 1)), (1, vI (i1 + 1)), (0, vR a0)]) O dX9_there_24 2 rfl (by decide) rfl ?_
      refine g_goto (tgt := 4) O dX9_there_27 (by decide) ?_
      refine g_pick [2, 1, 0] rfl ?_
      exact ih (i1 + 1) (i2 + 1) s
    refine g_iconst O dX9_there_17 ?_
    refine g_goto (tgt := 22) O dX9_there_18 (by decide) ?_
    refine g_iadd O dX9_there_22 ?_
    refine g_istore_n (lv2 := [(1, vI (i1 + 0)), (0, vR a0), (2, vI i2)]) O dX9_there_23 rfl (by decide) rfl ?_
    refine g_iinc (lv2 := [(2, vI (i2 + 1)), (1, vI (i1 + 0)), (0, vR a0)]) O dX9_there_24 2 rfl (by decide) rfl ?_
    refine g_goto (tgt := 4) O dX9_there_27 (by decide) ?_
    refine g_pick [2, 1, 0] rfl ?_
    exact ih (i1 + 0) (i2 + 1) s
theorem hd_X9_there : yX9_there.cls ≠ "java/lang/invoke/MethodHandle" ∧ yX9_there.cls ≠ "java/lang/invoke/VarHandle" ∧ (parseMethodDescriptor yX9_there.desc).map (fun d => d.parameters.length) = some 1 := by decide +kernel
set_option maxRecDepth 20000 in
set_option maxHeartbeats 4000000 in
theorem ct_X9_there {a0 : Nat} (ha0 : Kd LM a0 0)  (s : St) : Ctr LM yX9_there cX9_there 3 (Option.some .int) 1 0 0 [vR a0] s (X9_there a0 s) := by
  obtain ⟨fs0, hf0⟩ := ha0.at
  refine Ctr.of (by decide +kernel) (fun ρ => Nat.le_of_ble_eq_true rfl) (lv := [(0, vR a0)]) (fun ρ => rfl) (fun K X O hrt hfr hlo => ?_)
  unfold X9_there
  refine g_iconst O dX9_there_0 ?_
  refine g_istore_n (lv2 := [(1, vI 0), (0, vR a0)]) O dX9_there_1 rfl (by decide) rfl ?_
  refine g_iconst O dX9_there_2 ?_
  refine g_istore_n (lv2 := [(2, vI 0), (1, vI 0), (0, vR a0)]) O dX9_there_3 rfl (by decide) rfl ?_
  refine g_pick [2, 1, 0] rfl ?_
  refine lt_X9_there_4 O hrt hfr hlo ha0 (fun x1 s2 => ?_) FU 0 0 s
  refine g_iload_n O dX9_there_30 rfl 0 rfl ?_
  exact g_iret O hrt rfl dX9_there_31
def X9_pairs_8  (k : Int → St → Rs) : Nat → Int → Int → St → Rs
  | 0, _, _, _ => none
  | n + 1, i1, i2, s => cl (X9_many 0 s) (fun v1 s2 => cLt i2 v1 (rd s2 22 12 i2 (fun v3 => cEq v3 (-9) (X9_pairs_8 k n (i1 + 0) (i2 + 1) s2) (X9_pairs_8 k n (i1 + 1) (i2 + 1) s2))) (k i1 s2))
def X9_pairs  (s : St) : Rs := cl (X9_laysWay s) (fun _ s2 => X9_pairs_8  (fun x3 s4 => some (x3, s4)) FU 0 0 s2)
set_option maxRecDepth 20000 in
set_option maxHeartbeats 4000000 in
theorem lt_X9_pairs_8 {K : Cx} {X : Wx} (O : OKx LM K X yX9_pairs.cls cX9_pairs 3) (hrt : (kMe K).sig.returnType = (Option.some .int)) (hfr : (kR K).frames = 6) (hlo : (kR K).locals = 134)  {k : Int → St → Rs}  (hk : ∀ (i1 : Int) (s : St), GX LM K X 3 1 42 [(1, vI i1)] [] s (k i1 s)) : ∀ (n : Nat) (i1 : Int) (i2 : Int) (s : St), GX LM K X 3 1 8 [(0, vR 0), (1, vI i1), (2, vI i2)] [] s (X9_pairs_8 k n i1 i2 s) := by
  intro n
  induction n with
  | zero => intro i1 i2 s; exact GX.none
  | succ n ih =>
    intro i1 i2 s
    rw [X9_pairs_8]
    refine g_iload_n O dX9_pairs_8 rfl 2 rfl ?_
    refine g_aload_n O dX9_pairs_9 rfl 0 rfl ?_
    refine g_iconst O dX9_pairs_10 ?_
    refine g_callV1 (As := [vI 0]) (rest := [vI i2]) (b := 0) (ci := 9) O mw_4_216 mw_4_218 mp_3_3 mw_4_219 mw_1_10 hd_X9_many rfl ⟨_, _, rfl⟩ rfl dX9_pairs_11 (ct_X9_many 0 s) (by rw [hfr]; decide) (by rw [hlo]; decide) (Nat.le_of_ble_eq_true rfl) (fun v1 s2 => ?_)
    refine g_icmp_ge (tgt := 42) O dX9_pairs_14 (by decide) ?_ ?_
    · refine g_pick [1] rfl ?_
      exact hk i1 s2
    refine g_iload_n O dX9_pairs_17 rfl 1 rfl ?_
    refine g_aload_n O dX9_pairs_18 rfl 0 rfl ?_
    refine g_getR O fw_9_74 rfl dX9_pairs_19 rfl ?_
    refine g_iload_n O dX9_pairs_22 rfl 2 rfl ?_
    refine g_iald O rfl (by decide) dX9_pairs_23 (fun v3 => ?_)
    refine g_bipush O dX9_pairs_24 (by decide +kernel) ?_
    refine g_icmp_ne (tgt := 33) O dX9_pairs_26 (by decide) ?_ ?_
    · refine g_iconst O dX9_pairs_33 ?_
      refine g_iadd O dX9_pairs_34 ?_
      refine g_istore_n (lv2 := [(1, vI (i1 + 1)), (0, vR 0), (2, vI i2)]) O dX9_pairs_35 rfl (by decide) rfl ?_
      refine g_iinc (lv2 := [(2, vI (i2 + 1)), (1, vI (i1 + 1)), (0, vR 0)]) O dX9_pairs_36 2 rfl (by decide) rfl ?_
      refine g_goto (tgt := 8) O dX9_pairs_39 (by decide) ?_
      refine g_pick [2, 1, 0] rfl ?_
      exact ih (i1 + 1) (i2 + 1) s2
    refine g_iconst O dX9_pairs_29 ?_
    refine g_goto (tgt := 34) O dX9_pairs_30 (by decide) ?_
    refine g_iadd O dX9_pairs_34 ?_
    refine g_istore_n (lv2 := [(1, vI (i1 + 0)), (0, vR 0), (2, vI i2)]) O dX9_pairs_35 rfl (by decide) rfl ?_
    refine g_iinc (lv2 := [(2, vI (i2 + 1)), (1, vI (i1 + 0)), (0, vR 0)]) O dX9_pairs_36 2 rfl (by decide) rfl ?_
    refine g_goto (tgt := 8) O dX9_pairs_39 (by decide) ?_
    refine g_pick [2, 1, 0] rfl ?_
    exact ih (i1 + 0) (i2 + 1) s2
theorem hd_X9_pairs : yX9_pairs.cls ≠ "java/lang/invoke/MethodHandle" ∧ yX9_pairs.cls ≠ "java/lang/invoke/VarHandle" ∧ (parseMethodDescriptor yX9_pairs.desc).map (fun d => d.parameters.length) = some 0 := by decide +kernel
set_option maxRecDepth 20000 in
set_option maxHeartbeats 4000000 in
theorem ct_X9_pairs   (s : St) : Ctr LM yX9_pairs cX9_pairs 3 (Option.some .int) 1 6 134 [vR 0] s (X9_pairs s) := by
  refine Ctr.of (by decide +kernel) (fun ρ => Nat.le_of_ble_eq_true rfl) (lv := [(0, vR 0)]) (fun ρ => rfl) (fun K X O hrt hfr hlo => ?_)
  unfold X9_pairs
  refine g_aload_n O dX9_pairs_0 rfl 0 rfl ?_
  refine g_callV0 (As := []) (rest := []) (b := 0) (ci := 9) O mw_5_95 mw_5_97 mp_4_8 mw_5_98 mw_1_10 hd_X9_laysWay rfl ⟨_, _, rfl⟩ rfl dX9_pairs_1 (ct_X9_laysWay  s) (by rw [hfr]; decide) (by rw [hlo]; decide) (Nat.le_of_ble_eq_true rfl) (fun _ s2 => ?_)
  refine g_iconst O dX9_pairs_4 ?_
  refine g_istore_n (lv2 := [(1, vI 0), (0, vR 0)]) O dX9_pairs_5 rfl (by decide) rfl ?_
  refine g_iconst O dX9_pairs_6 ?_
  refine g_istore_n (lv2 := [(2, vI 0), (1, vI 0), (0, vR 0)]) O dX9_pairs_7 rfl (by decide) rfl ?_
  refine g_pick [2, 1, 0] rfl ?_
  refine lt_X9_pairs_8 O hrt hfr hlo  (fun x3 s4 => ?_) FU 0 0 s2
  refine g_iload_n O dX9_pairs_42 rfl 0 rfl ?_
  exact g_iret O hrt rfl dX9_pairs_43
def X9_stepsOf  (s : St) : Rs := cl (X9_laysSteps s) (fun _ s2 => some (s2 0 30, s2))
theorem hd_X9_stepsOf : yX9_stepsOf.cls ≠ "java/lang/invoke/MethodHandle" ∧ yX9_stepsOf.cls ≠ "java/lang/invoke/VarHandle" ∧ (parseMethodDescriptor yX9_stepsOf.desc).map (fun d => d.parameters.length) = some 0 := by decide +kernel
set_option maxRecDepth 20000 in
set_option maxHeartbeats 4000000 in
theorem ct_X9_stepsOf   (s : St) : Ctr LM yX9_stepsOf cX9_stepsOf 1 (Option.some .int) 1 7 155 [vR 0] s (X9_stepsOf s) := by
  refine Ctr.of (by decide +kernel) (fun ρ => Nat.le_of_ble_eq_true rfl) (lv := [(0, vR 0)]) (fun ρ => rfl) (fun K X O hrt hfr hlo => ?_)
  unfold X9_stepsOf
  refine g_aload_n O dX9_stepsOf_0 rfl 0 rfl ?_
  refine g_callV0 (As := []) (rest := []) (b := 0) (ci := 9) O mw_5_112 mw_5_114 mp_4_11 mw_5_115 mw_1_10 hd_X9_laysSteps rfl ⟨_, _, rfl⟩ rfl dX9_stepsOf_1 (ct_X9_laysSteps  s) (by rw [hfr]; decide) (by rw [hlo]; decide) (Nat.le_of_ble_eq_true rfl) (fun _ s2 => ?_)
  refine g_aload_n O dX9_stepsOf_4 rfl 0 rfl ?_
  refine g_getI O fw_9_241 rfl dX9_stepsOf_5 rfl ?_
  exact g_iret O hrt rfl dX9_stepsOf_8
def X9_keptMany_4  (k : Int → St → Rs) : Nat → Int → Int → St → Rs
  | 0, _, _, _ => none
  | n + 1, i1, i2, s => cLt i2 3 (rd s 8 3 i2 (fun v1 => cEq v1 0 (X9_keptMany_4 k n (i1 + 0) (i2 + 1) s) (X9_keptMany_4 k n (i1 + 1) (i2 + 1) s))) (k i1 s)
def X9_keptMany  (s : St) : Rs := X9_keptMany_4  (fun x1 s2 => some (x1, s2)) FU 0 0 s
set_option maxRecDepth 20000 in
set_option maxHeartbeats 4000000 in
theorem lt_X9_keptMany_4 {K : Cx} {X : Wx} (O : OKx LM K X yX9_keptMany.cls cX9_keptMany 3) (hrt : (kMe K).sig.returnType = (Option.some .int)) (hfr : (kR K).frames = 0) (hlo : (kR K).locals = 0)  {k : Int → St → Rs}  (hk : ∀ (i1 : Int) (s : St), GX LM K X 3 1 32 [(1, vI i1)] [] s (k i1 s)) : ∀ (n : Nat) (i1 : Int) (i2 : Int) (s : St), GX LM K X 3 1 4 [(0, vR 0), (1, vI i1), (2, vI i2)] [] s (X9_keptMany_4 k n i1 i2 s) := by
  intro n
  induction n with
  | zero => intro i1 i2 s; exact GX.none
  | succ n ih =>
    intro i1 i2 s
    rw [X9_keptMany_4]
    refine g_iload_n O dX9_keptMany_4 rfl 2 rfl ?_
    refine g_iconst O dX9_keptMany_5 ?_
    refine g_icmp_ge (tgt := 32) O dX9_keptMany_6 (by decide) ?_ ?_
    · refine g_pick [1] rfl ?_
      exact hk i1 s
    refine g_iload_n O dX9_keptMany_9 rfl 1 rfl ?_
    refine g_aload_n O dX9_keptMany_10 rfl 0 rfl ?_
    refine g_getR O fw_9_31 rfl dX9_keptMany_11 rfl ?_
    refine g_iload_n O dX9_keptMany_14 rfl 2 rfl ?_
    refine g_zald O rfl (by decide) dX9_keptMany_15 (fun v1 => ?_)
    refine g_if_eq (tgt := 23) O dX9_keptMany_16 (by decide) ?_ ?_
    · refine g_iconst O dX9_keptMany_23 ?_
      refine g_iadd O dX9_keptMany_24 ?_
      refine g_istore_n (lv2 := [(1, vI (i1 + 0)), (0, vR 0), (2, vI i2)]) O dX9_keptMany_25 rfl (by decide) rfl ?_
      refine g_iinc (lv2 := [(2, vI (i2 + 1)), (1, vI (i1 + 0)), (0, vR 0)]) O dX9_keptMany_26 2 rfl (by decide) rfl ?_
      refine g_goto (tgt := 4) O dX9_keptMany_29 (by decide) ?_
      refine g_pick [2, 1, 0] rfl ?_
      exact ih (i1 + 0) (i2 + 1) s
    refine g_iconst O dX9_keptMany_19 ?_
    refine g_goto (tgt := 24) O dX9_keptMany_20 (by decide) ?_
    refine g_iadd O dX9_keptMany_24 ?_
    refine g_istore_n (lv2 := [(1, vI (i1 + 1)), (0, vR 0), (2, vI i2)]) O dX9_keptMany_25 rfl (by decide) rfl ?_
    refine g_iinc (lv2 := [(2, vI (i2 + 1)), (1, vI (i1 + 1)), (0, vR 0)]) O dX9_keptMany_26 2 rfl (by decide) rfl ?_
    refine g_goto (tgt := 4) O dX9_keptMany_29 (by decide) ?_
    refine g_pick [2, 1, 0] rfl ?_
    exact ih (i1 + 1) (i2 + 1) s
theorem hd_X9_keptMany : yX9_keptMany.cls ≠ "java/lang/invoke/MethodHandle" ∧ yX9_keptMany.cls ≠ "java/lang/invoke/VarHandle" ∧ (parseMethodDescriptor yX9_keptMany.desc).map (fun d => d.parameters.length) = some 0 := by decide +kernel
set_option maxRecDepth 20000 in
set_option maxHeartbeats 4000000 in
theorem ct_X9_keptMany   (s : St) : Ctr LM yX9_keptMany cX9_keptMany 3 (Option.some .int) 1 0 0 [vR 0] s (X9_keptMany s) := by
  refine Ctr.of (by decide +kernel) (fun ρ => Nat.le_of_ble_eq_true rfl) (lv := [(0, vR 0)]) (fun ρ => rfl) (fun K X O hrt hfr hlo => ?_)
  unfold X9_keptMany
  refine g_iconst O dX9_keptMany_0 ?_
  refine g_istore_n (lv2 := [(1, vI 0), (0, vR 0)]) O dX9_keptMany_1 rfl (by decide) rfl ?_
  refine g_iconst O dX9_keptMany_2 ?_
  refine g_istore_n (lv2 := [(2, vI 0), (1, vI 0), (0, vR 0)]) O dX9_keptMany_3 rfl (by decide) rfl ?_
  refine g_pick [2, 1, 0] rfl ?_
  refine lt_X9_keptMany_4 O hrt hfr hlo  (fun x1 s2 => ?_) FU 0 0 s
  refine g_iload_n O dX9_keptMany_32 rfl 0 rfl ?_
  exact g_iret O hrt rfl dX9_keptMany_33
def X9_count (i1 : Int) (s : St) : Rs := gR i1 (if i1 = 0 then cl (X9_many i1 s) (fun v1 s2 => some (v1, s2)) else (if i1 = 1 then cl (X9_many i1 s) (fun v3 s4 => some (v3, s4)) else (if i1 = 2 then cl (X9_areBoth s) (fun v5 s6 => cEq v5 0 (some ((-1), s6)) (cl (X9_leastOf s6) (fun v7 s8 => some (v7, s8)))) else (if i1 = 3 then cl (X9_areBoth s) (fun v9 s10 => cEq v9 0 (some ((-1), s10)) (cl (X9_stepsOf s10) (fun v11 s12 => some (v11, s12)))) else (if i1 = 4 then cl (X9_areBoth s) (fun v13 s14 => cEq v13 0 (some ((-1), s14)) (cl (X9_pairs s14) (fun v15 s16 => some (v15, s16)))) else (if i1 = 5 then cl (X9_keys (i1 - 5) 0 s) (fun v17 s18 => some (v17, s18)) else (if i1 = 6 then cl (X9_keys (i1 - 5) 0 s) (fun v19 s20 => some (v19, s20)) else (if i1 = 7 then rd s 5 53 ((50 + i1) - 7) (fun v21 => some (v21, s)) else (if i1 = 8 then rd s 5 53 ((50 + i1) - 7) (fun v22 => some (v22, s)) else (if i1 = 9 then rd s 5 53 ((50 + i1) - 7) (fun v23 => some (v23, s)) else (if i1 = 10 then some (s 0 6, s) else (if i1 = 11 then cl (X9_there 1 s) (fun v24 s25 => some (v24, s25)) else (if i1 = 12 then cl (X9_there 3 s) (fun v26 s27 => some (v26, s27)) else (if i1 = 13 then cl (X9_keptMany s) (fun v28 s29 => some (v28, s29)) else (some ((-1), s))))))))))))))))
theorem hd_X9_count : yX9_count.cls ≠ "java/lang/invoke/MethodHandle" ∧ yX9_count.cls ≠ "java/lang/invoke/VarHandle" ∧ (parseMethodDescriptor yX9_count.desc).map (fun d => d.parameters.length) = some 1 := by decide +kernel
set_option maxRecDepth 20000 in
set_option maxHeartbeats 4000000 in
theorem ct_X9_count  (i1 : Int) (s : St) : Ctr LM yX9_count cX9_count 2 (Option.some .int) 1 8 175 [vR 0, vI i1] s (X9_count i1 s) := by
  refine Ctr.of (by decide +kernel) (fun ρ => Nat.le_of_ble_eq_true rfl) (lv := [(0, vR 0), (1, vI i1)]) (fun ρ => rfl) (fun K X O hrt hfr hlo => ?_)
  unfold X9_count
  refine g_iload_n O dX9_count_0 rfl 1 rfl ?_
  refine g_gR (fun hr1 => ?_)
  refine g_ite (fun hc2 => ?_) (fun hc2 => ?_)
  · refine g_tin (k := 0) (tgt := 72) O dX9_count_1 hr1 hc2 (by decide) (by decide) rfl (by decide) ?_
    refine g_aload_n O dX9_count_72 rfl 0 rfl ?_
    refine g_iload_n O dX9_count_73 rfl 1 rfl ?_
    refine g_callV1 (As := [vI i1]) (rest := []) (b := 0) (ci := 9) O mw_4_216 mw_4_218 mp_3_3 mw_4_219 mw_1_10 hd_X9_many rfl ⟨_, _, rfl⟩ rfl dX9_count_74 (ct_X9_many i1 s) (by rw [hfr]; decide) (by rw [hlo]; decide) (Nat.le_of_ble_eq_true rfl) (fun v1 s2 => ?_)
    exact g_iret O hrt rfl dX9_count_77
  refine g_ite (fun hc3 => ?_) (fun hc3 => ?_)
  · refine g_tin (k := 1) (tgt := 72) O dX9_count_1 hr1 hc3 (by decide) (by decide) rfl (by decide) ?_
    refine g_aload_n O dX9_count_72 rfl 0 rfl ?_
    refine g_iload_n O dX9_count_73 rfl 1 rfl ?_
    refine g_callV1 (As := [vI i1]) (rest := []) (b := 0) (ci := 9) O mw_4_216 mw_4_218 mp_3_3 mw_4_219 mw_1_10 hd_X9_many rfl ⟨_, _, rfl⟩ rfl dX9_count_74 (ct_X9_many i1 s) (by rw [hfr]; decide) (by rw [hlo]; decide) (Nat.le_of_ble_eq_true rfl) (fun v3 s4 => ?_)
    exact g_iret O hrt rfl dX9_count_77
  refine g_ite (fun hc4 => ?_) (fun hc4 => ?_)
  · refine g_tin (k := 2) (tgt := 78) O dX9_count_1 hr1 hc4 (by decide) (by decide) rfl (by decide) ?_
    refine g_aload_n O dX9_count_78 rfl 0 rfl ?_
    refine g_callV1 (As := []) (rest := []) (b := 0) (ci := 9) O mw_5_60 mw_5_62 mp_4_2 mw_5_63 mw_1_10 hd_X9_areBoth rfl ⟨_, _, rfl⟩ rfl dX9_count_79 (ct_X9_areBoth  s) (by rw [hfr]; decide) (by rw [hlo]; decide) (Nat.le_of_ble_eq_true rfl) (fun v5 s6 => ?_)
    refine g_if_eq (tgt := 92) O dX9_count_82 (by decide) ?_ ?_
    · refine g_iconst O dX9_count_92 ?_
      exact g_iret O hrt rfl dX9_count_93
    refine g_aload_n O dX9_count_85 rfl 0 rfl ?_
    refine g_callV1 (As := []) (rest := []) (b := 0) (ci := 9) O mw_5_64 mw_5_66 mp_4_3 mw_5_67 mw_1_10 hd_X9_leastOf rfl ⟨_, _, rfl⟩ rfl dX9_count_86 (ct_X9_leastOf  s6) (by rw [hfr]; decide) (by rw [hlo]; decide) (Nat.le_of_ble_eq_true rfl) (fun v7 s8 => ?_)
    refine g_goto (tgt := 93) O dX9_count_89 (by decide) ?_
    exact g_iret O hrt rfl dX9_count_93
  refine g_ite (fun hc5 => ?_) (fun hc5 => ?_)
  · refine g_tin (k := 3) (tgt := 94) O dX9_count_1 hr1 hc5 (by decide) (by decide) rfl (by decide) ?_
    refine g_aload_n O dX9_count_94 rfl 0 rfl ?_
    refine g_callV1 (As := []) (rest := []) (b := 0) (ci := 9) O mw_5_60 mw_5_62 mp_4_2 mw_5_63 mw_1_10 hd_X9_areBoth rfl ⟨_, _, rfl⟩ rfl dX9_count_95 (ct_X9_areBoth  s) (by rw [hfr]; decide) (by rw [hlo]; decide) (Nat.le_of_ble_eq_true rfl) (fun v9 s10 => ?_)
    refine g_if_eq (tgt := 108) O dX9_count_98 (by decide) ?_ ?_
    · refine g_iconst O dX9_count_108 ?_
      exact g_iret O hrt rfl dX9_count_109
    refine g_aload_n O dX9_count_101 rfl 0 rfl ?_
    refine g_callV1 (As := []) (rest := []) (b := 0) (ci := 9) O mw_5_223 mw_5_225 mp_5_7 mw_5_226 mw_1_10 hd_X9_stepsOf rfl ⟨_, _, rfl⟩ rfl dX9_count_102 (ct_X9_stepsOf  s10) (by rw [hfr]; decide) (by rw [hlo]; decide) (Nat.le_of_ble_eq_true rfl) (fun v11 s12 => ?_)
    refine g_goto (tgt := 109) O dX9_count_105 (by decide) ?_
    exact g_iret O hrt rfl dX9_count_109
  refine g_ite (fun hc6 => ?_) (fun hc6 => ?_)
  · refine g_tin (k := 4) (tgt := 110) O dX9_count_1 hr1 hc6 (by decide) (by decide) rfl (by decide) ?_
    refine g_aload_n O dX9_count_110 rfl 0 rfl ?_
    refine g_callV1 (As := []) (rest := []) (b := 0) (ci := 9) O mw_5_60 mw_5_62 mp_4_2 mw_5_63 mw_1_10 hd_X9_areBoth rfl ⟨_, _, rfl⟩ rfl dX9_count_111 (ct_X9_areBoth  s) (by rw [hfr]; decide) (by rw [hlo]; decide) (Nat.le_of_ble_eq_true rfl) (fun v13 s14 => ?_)
    refine g_if_eq (tgt := 124) O dX9_count_114 (by decide) ?_ ?_
    · refine g_iconst O dX9_count_124 ?_
      exact g_iret O hrt rfl dX9_count_125
    refine g_aload_n O dX9_count_117 rfl 0 rfl ?_
    refine g_callV1 (As := []) (rest := []) (b := 0) (ci := 9) O mw_5_227 mw_5_229 mp_5_8 mw_5_230 mw_1_10 hd_X9_pairs rfl ⟨_, _, rfl⟩ rfl dX9_count_118 (ct_X9_pairs  s14) (by rw [hfr]; decide) (by rw [hlo]; decide) (Nat.le_of_ble_eq_true rfl) (fun v15 s16 => ?_)
    refine g_goto (tgt := 125) O dX9_count_121 (by decide) ?_
    exact g_iret O hrt rfl dX9_count_125
  refine g_ite (fun hc7 => ?_) (fun hc7 => ?_)
  · refine g_tin (k := 5) (tgt := 126) O dX9_count_1 hr1 hc7 (by decide) (by decide) rfl (by decide) ?_
    refine g_aload_n O dX9_count_126 rfl 0 rfl ?_
    refine g_iload_n O dX9_count_127 rfl 1 rfl ?_
    refine g_iconst O dX9_count_128 ?_
    refine g_isub O dX9_count_129 ?_
    refine g_iconst O dX9_count_130 ?_
    refine g_callV1 (As := [vI (i1 - 5), vI 0]) (rest := []) (b := 0) (ci := 9) O mw_5_128 mw_5_130 mp_4_13 mw_5_131 mw_1_10 hd_X9_keys rfl ⟨_, _, rfl⟩ rfl dX9_count_131 (ct_X9_keys (i1 - 5) 0 s) (by rw [hfr]; decide) (by rw [hlo]; decide) (Nat.le_of_ble_eq_true rfl) (fun v17 s18 => ?_)
    exact g_iret O hrt rfl dX9_count_134
  refine g_ite (fun hc8 => ?_) (fun hc8 => ?_)
  · refine g_tin (k := 6) (tgt := 126) O dX9_count_1 hr1 hc8 (by decide) (by decide) rfl (by decide) ?_
    refine g_aload_n O dX9_count_126 rfl 0 rfl ?_
    refine g_iload_n O dX9_count_127 rfl 1 rfl ?_
    refine g_iconst O dX9_count_128 ?_
    refine g_isub O dX9_count_129 ?_
    refine g_iconst O dX9_count_130 ?_
    refine g_callV1 (As := [vI (i1 - 5), vI 0]) (rest := []) (b := 0) (ci := 9) O mw_5_128 mw_5_130 mp_4_13 mw_5_131 mw_1_10 hd_X9_keys rfl ⟨_, _, rfl⟩ rfl dX9_count_131 (ct_X9_keys (i1 - 5) 0 s) (by rw [hfr]; decide) (by rw [hlo]; decide) (Nat.le_of_ble_eq_true rfl) (fun v19 s20 => ?_)
    exact g_iret O hrt rfl dX9_count_134
  refine g_ite (fun hc9 => ?_) (fun hc9 => ?_)
  · refine g_tin (k := 7) (tgt := 135) O dX9_count_1 hr1 hc9 (by decide) (by decide) rfl (by decide) ?_
    refine g_aload_n O dX9_count_135 rfl 0 rfl ?_
    refine g_getR O fw_9_22 rfl dX9_count_136 rfl ?_
    refine g_bipush O dX9_count_139 (by decide +kernel) ?_
    refine g_iload_n O dX9_count_141 rfl 1 rfl ?_
    refine g_iadd O dX9_count_142 ?_
    refine g_bipush O dX9_count_143 (by decide +kernel) ?_
    refine g_isub O dX9_count_145 ?_
    refine g_iald O rfl (by decide) dX9_count_146 (fun v21 => ?_)
    exact g_iret O hrt rfl dX9_count_147
  refine g_ite (fun hc10 => ?_) (fun hc10 => ?_)
  · refine g_tin (k := 8) (tgt := 135) O dX9_count_1 hr1 hc10 (by decide) (by decide) rfl (by decide) ?_
    refine g_aload_n O dX9_count_135 rfl 0 rfl ?_
    refine g_getR O fw_9_22 rfl dX9_count_136 rfl ?_
    refine g_bipush O dX9_count_139 (by decide +kernel) ?_
    refine g_iload_n O dX9_count_141 rfl 1 rfl ?_
    refine g_iadd O dX9_count_142 ?_
    refine g_bipush O dX9_count_143 (by decide +kernel) ?_
    refine g_isub O dX9_count_145 ?_
    refine g_iald O rfl (by decide) dX9_count_146 (fun v22 => ?_)
    exact g_iret O hrt rfl dX9_count_147
  refine g_ite (fun hc11 => ?_) (fun hc11 => ?_)
  · refine g_tin (k := 9) (tgt := 135) O dX9_count_1 hr1 hc11 (by decide) (by decide) rfl (by decide) ?_
    refine g_aload_n O dX9_count_135 rfl 0 rfl ?_
    refine g_getR O fw_9_22 rfl dX9_count_136 rfl ?_
    refine g_bipush O dX9_count_139 (by decide +kernel) ?_
    refine g_iload_n O dX9_count_141 rfl 1 rfl ?_
    refine g_iadd O dX9_count_142 ?_
    refine g_bipush O dX9_count_143 (by decide +kernel) ?_
    refine g_isub O dX9_count_145 ?_
    refine g_iald O rfl (by decide) dX9_count_146 (fun v23 => ?_)
    exact g_iret O hrt rfl dX9_count_147
  refine g_ite (fun hc12 => ?_) (fun hc12 => ?_)
  · refine g_tin (k := 10) (tgt := 148) O dX9_count_1 hr1 hc12 (by decide) (by decide) rfl (by decide) ?_
    refine g_aload_n O dX9_count_148 rfl 0 rfl ?_
    refine g_getI O fw_9_144 rfl dX9_count_149 rfl ?_
    exact g_iret O hrt rfl dX9_count_152
  refine g_ite (fun hc13 => ?_) (fun hc13 => ?_)
  · refine g_tin (k := 11) (tgt := 153) O dX9_count_1 hr1 hc13 (by decide) (by decide) rfl (by decide) ?_
    refine g_aload_n O dX9_count_153 rfl 0 rfl ?_
    refine g_getR O fw_9_7 rfl dX9_count_154 rfl ?_
    refine g_callS1 (As := [vR 1]) (rest := []) O mw_5_231 mw_5_232 mw_5_233 mw_1_10 hd_X9_there rfl dX9_count_157 (ct_X9_there ⟨_, _, rfl⟩  s) (by rw [hfr]; decide) (by rw [hlo]; decide) (Nat.le_of_ble_eq_true rfl) (fun v24 s25 => ?_)
    exact g_iret O hrt rfl dX9_count_160
  refine g_ite (fun hc14 => ?_) (fun hc14 => ?_)
  · refine g_tin (k := 12) (tgt := 161) O dX9_count_1 hr1 hc14 (by decide) (by decide) rfl (by decide) ?_
    refine g_aload_n O dX9_count_161 rfl 0 rfl ?_
    refine g_getR O fw_9_16 rfl dX9_count_162 rfl ?_
    refine g_callS1 (As := [vR 3]) (rest := []) O mw_5_231 mw_5_232 mw_5_233 mw_1_10 hd_X9_there rfl dX9_count_165 (ct_X9_there ⟨_, _, rfl⟩  s) (by rw [hfr]; decide) (by rw [hlo]; decide) (Nat.le_of_ble_eq_true rfl) (fun v26 s27 => ?_)
    exact g_iret O hrt rfl dX9_count_168
  refine g_ite (fun hc15 => ?_) (fun hc15 => ?_)
  · refine g_tin (k := 13) (tgt := 169) O dX9_count_1 hr1 hc15 (by decide) (by decide) rfl (by decide) ?_
    refine g_aload_n O dX9_count_169 rfl 0 rfl ?_
    refine g_callV1 (As := []) (rest := []) (b := 0) (ci := 9) O mw_5_234 mw_5_236 mp_5_9 mw_5_237 mw_1_10 hd_X9_keptMany rfl ⟨_, _, rfl⟩ rfl dX9_count_170 (ct_X9_keptMany  s) (by rw [hfr]; decide) (by rw [hlo]; decide) (Nat.le_of_ble_eq_true rfl) (fun v28 s29 => ?_)
    exact g_iret O hrt rfl dX9_count_173
  refine g_tout (tgt := 174) O dX9_count_1 hr1 (by omega) (by decide) ?_
  refine g_iconst O dX9_count_174 ?_
  exact g_iret O hrt rfl dX9_count_175
def X9_finding  (s : St) : Rs := some (s 0 10, s)
theorem hd_X9_finding : yX9_finding.cls ≠ "java/lang/invoke/MethodHandle" ∧ yX9_finding.cls ≠ "java/lang/invoke/VarHandle" ∧ (parseMethodDescriptor yX9_finding.desc).map (fun d => d.parameters.length) = some 0 := by decide +kernel
set_option maxRecDepth 20000 in
set_option maxHeartbeats 4000000 in
theorem ct_X9_finding   (s : St) : Ctr LM yX9_finding cX9_finding 1 (Option.some .int) 1 0 0 [vR 0] s (X9_finding s) := by
  refine Ctr.of (by decide +kernel) (fun ρ => Nat.le_of_ble_eq_true rfl) (lv := [(0, vR 0)]) (fun ρ => rfl) (fun K X O hrt hfr hlo => ?_)
  unfold X9_finding
  refine g_aload_n O dX9_finding_0 rfl 0 rfl ?_
  refine g_getI O fw_9_83 rfl dX9_finding_1 rfl ?_
  exact g_iret O hrt rfl dX9_finding_4
def X9_findings (i1 : Int) (s : St) : Rs := cl (X9_in i1 1 5 s) (fun v1 s2 => cEq v1 0 (some ((-1), s2)) (rd s2 9 6 i1 (fun v3 => some (v3, s2))))
theorem hd_X9_findings : yX9_findings.cls ≠ "java/lang/invoke/MethodHandle" ∧ yX9_findings.cls ≠ "java/lang/invoke/VarHandle" ∧ (parseMethodDescriptor yX9_findings.desc).map (fun d => d.parameters.length) = some 1 := by decide +kernel
set_option maxRecDepth 20000 in
set_option maxHeartbeats 4000000 in
theorem ct_X9_findings  (i1 : Int) (s : St) : Ctr LM yX9_findings cX9_findings 2 (Option.some .int) 1 1 22 [vR 0, vI i1] s (X9_findings i1 s) := by
  refine Ctr.of (by decide +kernel) (fun ρ => Nat.le_of_ble_eq_true rfl) (lv := [(0, vR 0), (1, vI i1)]) (fun ρ => rfl) (fun K X O hrt hfr hlo => ?_)
  unfold X9_findings
  refine g_iload_n O dX9_findings_0 rfl 1 rfl ?_
  refine g_iconst O dX9_findings_1 ?_
  refine g_iconst O dX9_findings_2 ?_
  refine g_callS1 (As := [vI i1, vI 1, vI 5]) (rest := []) O mw_4_133 mw_4_134 mw_4_135 mw_1_10 hd_X9_in rfl dX9_findings_3 (ct_X9_in i1 1 5 s) (by rw [hfr]; decide) (by rw [hlo]; decide) (Nat.le_of_ble_eq_true rfl) (fun v1 s2 => ?_)
  refine g_if_eq (tgt := 18) O dX9_findings_6 (by decide) ?_ ?_
  · refine g_iconst O dX9_findings_18 ?_
    exact g_iret O hrt rfl dX9_findings_19
  refine g_aload_n O dX9_findings_9 rfl 0 rfl ?_
  refine g_getR O fw_9_35 rfl dX9_findings_10 rfl ?_
  refine g_iload_n O dX9_findings_13 rfl 1 rfl ?_
  refine g_iald O rfl (by decide) dX9_findings_14 (fun v3 => ?_)
  refine g_goto (tgt := 19) O dX9_findings_15 (by decide) ?_
  exact g_iret O hrt rfl dX9_findings_19
def X9_partnerTold (i1 : Int) (i2 : Int) (s : St) : Rs := cl (X9_areBoth s) (fun v1 s2 => cEq v1 0 (some ((-1), s2)) (cEq i1 0 (rd s2 22 12 i2 (fun v4 => some (v4, s2))) (rd s2 23 12 i2 (fun v3 => some (v3, s2)))))
theorem hd_X9_partnerTold : yX9_partnerTold.cls ≠ "java/lang/invoke/MethodHandle" ∧ yX9_partnerTold.cls ≠ "java/lang/invoke/VarHandle" ∧ (parseMethodDescriptor yX9_partnerTold.desc).map (fun d => d.parameters.length) = some 2 := by decide +kernel
set_option maxRecDepth 20000 in
set_option maxHeartbeats 4000000 in
theorem ct_X9_partnerTold  (i1 : Int) (i2 : Int) (s : St) : Ctr LM yX9_partnerTold cX9_partnerTold 3 (Option.some .int) 1 2 41 [vR 0, vI i1, vI i2] s (X9_partnerTold i1 i2 s) := by
  refine Ctr.of (by decide +kernel) (fun ρ => Nat.le_of_ble_eq_true rfl) (lv := [(0, vR 0), (1, vI i1), (2, vI i2)]) (fun ρ => rfl) (fun K X O hrt hfr hlo => ?_)
  unfold X9_partnerTold
  refine g_aload_n O dX9_partnerTold_0 rfl 0 rfl ?_
  refine g_callV1 (As := []) (rest := []) (b := 0) (ci := 9) O mw_5_60 mw_5_62 mp_4_2 mw_5_63 mw_1_10 hd_X9_areBoth rfl ⟨_, _, rfl⟩ rfl dX9_partnerTold_1 (ct_X9_areBoth  s) (by rw [hfr]; decide) (by rw [hlo]; decide) (Nat.le_of_ble_eq_true rfl) (fun v1 s2 => ?_)
  refine g_if_ne (tgt := 11) O dX9_partnerTold_4 (by decide) ?_ ?_
  · refine g_iload_n O dX9_partnerTold_11 rfl 1 rfl ?_
    refine g_if_ne (tgt := 24) O dX9_partnerTold_12 (by decide) ?_ ?_
    · refine g_aload_n O dX9_partnerTold_24 rfl 0 rfl ?_
      refine g_getR O fw_9_77 rfl dX9_partnerTold_25 rfl ?_
      refine g_iload_n O dX9_partnerTold_28 rfl 2 rfl ?_
      refine g_iald O rfl (by decide) dX9_partnerTold_29 (fun v3 => ?_)
      exact g_iret O hrt rfl dX9_partnerTold_30
    refine g_aload_n O dX9_partnerTold_15 rfl 0 rfl ?_
    refine g_getR O fw_9_74 rfl dX9_partnerTold_16 rfl ?_
    refine g_iload_n O dX9_partnerTold_19 rfl 2 rfl ?_
    refine g_iald O rfl (by decide) dX9_partnerTold_20 (fun v4 => ?_)
    refine g_goto (tgt := 30) O dX9_partnerTold_21 (by decide) ?_
    exact g_iret O hrt rfl dX9_partnerTold_30
  refine g_iconst O dX9_partnerTold_7 ?_
  refine g_goto (tgt := 30) O dX9_partnerTold_8 (by decide) ?_
  exact g_iret O hrt rfl dX9_partnerTold_30
def X9_digest_6  (k : Int → St → Rs) : Nat → Int → Int → St → Rs
  | 0, _, _, _ => none
  | n + 1, l1, i3, s => cLt i3 14 (cl (X9_count i3 s) (fun v1 s2 => X9_digest_6 k n ((31 * l1) + (w32 v1)) (i3 + 1) s2)) (k l1 s)
def X9_digest_52 (i3 : Int) (k : Int → St → Rs) : Nat → Int → Int → St → Rs
  | 0, _, _, _ => none
  | n + 1, l1, i4, s => cl (X9_many i3 s) (fun v1 s2 => cLt i4 v1 (cl (X9_codeOf i3 i4 s2) (fun v3 s4 => cl (X9_leftOf i3 i4 s4) (fun v5 s6 => cl (X9_above i3 i4 s6) (fun v7 s8 => cl (X9_partnerTold i3 i4 s8) (fun v9 s10 => X9_digest_52 i3 k n ((31 * ((31 * ((31 * ((31 * l1) + (w32 v3))) + (w32 v5))) + (w32 v7))) + (w32 v9)) (i4 + 1) s10))))) (k l1 s2))
def X9_digest_44  (k : Int → St → Rs) : Nat → Int → Int → St → Rs
  | 0, _, _, _ => none
  | n + 1, l1, i3, s => cLt i3 2 (X9_digest_52 i3 (fun x1 s2 => X9_digest_44 k n x1 (i3 + 1) s2) FU l1 0 s) (k l1 s)
def X9_digest_136  (k : Int → St → Rs) : Nat → Int → Int → St → Rs
  | 0, _, _, _ => none
  | n + 1, l1, i3, s => cLt i3 3 (rd s 8 3 i3 (fun v1 => cEq v1 0 (X9_digest_136 k n ((31 * l1) + (w32 (-1))) (i3 + 1) s) (rd s 7 6522 (2174 * i3) (fun v2 => X9_digest_136 k n ((31 * l1) + (w32 v2)) (i3 + 1) s)))) (k l1 s)
def X9_digest_203 (i3 : Int) (k : Int → St → Rs) : Nat → Int → Int → St → Rs
  | 0, _, _, _ => none
  | n + 1, l1, i4, s => rd s 1 6 i3 (fun v1 => cLt i4 v1 (rd s 2 240 ((40 * i3) + i4) (fun v2 => X9_digest_203 i3 k n ((31 * l1) + (w32 v2)) (i4 + 1) s)) (k l1 s))
def X9_digest_180  (k : Int → St → Rs) : Nat → Int → Int → St → Rs
  | 0, _, _, _ => none
  | n + 1, l1, i3, s => cLt i3 6 (rd s 1 6 i3 (fun v1 => X9_digest_203 i3 (fun x2 s3 => X9_digest_180 k n x2 (i3 + 1) s3) FU ((31 * l1) + (w32 v1)) 0 s)) (k l1 s)
def X9_digest_270 (i3 : Int) (k : Int → St → Rs) : Nat → Int → Int → St → Rs
  | 0, _, _, _ => none
  | n + 1, l1, i4, s => rd s 3 4 i3 (fun v1 => cLt i4 v1 (rd s 4 240 ((60 * i3) + i4) (fun v2 => X9_digest_270 i3 k n ((31 * l1) + (w32 v2)) (i4 + 1) s)) (k l1 s))
def X9_digest_248  (k : Int → St → Rs) : Nat → Int → Int → St → Rs
  | 0, _, _, _ => none
  | n + 1, l1, i3, s => cLt i3 4 (rd s 3 4 i3 (fun v1 => X9_digest_270 i3 (fun x2 s3 => X9_digest_248 k n x2 (i3 + 1) s3) FU ((31 * l1) + (w32 v1)) 0 s)) (k l1 s)
def X9_digest  (s : St) : Rs := X9_digest_6  (fun x1 s2 => cl (X9_areBoth s2) (fun v3 s4 => jn (fun  (s5 : St) => X9_digest_44  (fun x7 s8 => X9_digest_136  (fun x9 s10 => X9_digest_180  (fun x11 s12 => X9_digest_248  (fun x13 s14 => some (x13, s14)) FU x11 0 s12) FU x9 0 s10) FU x7 0 s8) FU x1 0 s5) (fun k6 => cEq v3 0 (k6 s4) (cl (X9_laysWay s4) (fun _ s16 => k6 s16))))) FU 17 0 s
set_option maxRecDepth 20000 in
set_option maxHeartbeats 4000000 in
theorem lt_X9_digest_6 {K : Cx} {X : Wx} (O : OKx LM K X yX9_digest.cls cX9_digest 5) (hrt : (kMe K).sig.returnType = (Option.some .long)) (hfr : (kR K).frames = 9) (hlo : (kR K).locals = 196)  {k : Int → St → Rs}  (hk : ∀ (l1 : Int) (s : St), GX LM K X 5 2 31 [(0, vR 0), (1, vL l1)] [] s (k l1 s)) : ∀ (n : Nat) (l1 : Int) (i3 : Int) (s : St), GX LM K X 5 2 6 [(0, vR 0), (1, vL l1), (3, vI i3)] [] s (X9_digest_6 k n l1 i3 s) := by
  intro n
  induction n with
  | zero => intro l1 i3 s; exact GX.none
  | succ n ih =>
    intro l1 i3 s
    rw [X9_digest_6]
    refine g_iload_n O dX9_digest_6 rfl 2 rfl ?_
    refine g_bipush O dX9_digest_7 (by decide +kernel) ?_
    refine g_icmp_ge (tgt := 31) O dX9_digest_9 (by decide) ?_ ?_
    · refine g_pick [0, 1] rfl ?_
      exact hk l1 s
    refine g_ldc2 (x := 31) O dX9_digest_12 mw_6_11 (by decide +kernel) ?_
    refine g_lload_n O dX9_digest_15 rfl 1 rfl ?_
    refine g_lmul O dX9_digest_16 ?_
    refine g_aload_n O dX9_digest_17 rfl 0 rfl ?_
    refine g_iload_n O dX9_digest_18 rfl 2 rfl ?_
    refine g_callV1 (As := [vI i3]) (rest := [vL (31 * l1)]) (b := 0) (ci := 9) O mw_6_12 mw_5_220 mw_5_221 mw_5_222 mw_1_10 hd_X9_count rfl ⟨_, _, rfl⟩ rfl dX9_digest_19 (ct_X9_count i3 s) (by rw [hfr]; decide) (by rw [hlo]; decide) (Nat.le_of_ble_eq_true rfl) (fun v1 s2 => ?_)
    refine g_i2l O dX9_digest_22 ?_
    refine g_ladd O dX9_digest_23 ?_
    refine g_lstore_n (lv2 := [(1, vL ((31 * l1) + (w32 v1))), (0, vR 0), (3, vI i3)]) O dX9_digest_24 rfl (by decide) rfl ?_
    refine g_iinc (lv2 := [(3, vI (i3 + 1)), (1, vL ((31 * l1) + (w32 v1))), (0, vR 0)]) O dX9_digest_25 2 rfl (by decide) rfl ?_
    refine g_goto (tgt := 6) O dX9_digest_28 (by decide) ?_
    refine g_pick [2, 1, 0] rfl ?_
    exact ih ((31 * l1) + (w32 v1)) (i3 + 1) s2
set_option maxRecDepth 20000 in
set_option maxHeartbeats 4000000 in
theorem lt_X9_digest_52 {K : Cx} {X : Wx} (O : OKx LM K X yX9_digest.cls cX9_digest 5) (hrt : (kMe K).sig.returnType = (Option.some .long)) (hfr : (kR K).frames = 9) (hlo : (kR K).locals = 196) {i3 : Int} {k : Int → St → Rs}  (hk : ∀ (l1 : Int) (s : St), GX LM K X 5 2 128 [(0, vR 0), (1, vL l1), (3, vI i3)] [] s (k l1 s)) : ∀ (n : Nat) (l1 : Int) (i4 : Int) (s : St), GX LM K X 5 2 52 [(0, vR 0), (1, vL l1), (3, vI i3), (4, vI i4)] [] s (X9_digest_52 i3 k n l1 i4 s) := by
  intro n
  induction n with
  | zero => intro l1 i4 s; exact GX.none
  | succ n ih =>
    intro l1 i4 s
    rw [X9_digest_52]
    refine g_iload O dX9_digest_52 3 rfl ?_
    refine g_aload_n O dX9_digest_54 rfl 0 rfl ?_
    refine g_iload_n O dX9_digest_55 rfl 2 rfl ?_
    refine g_callV1 (As := [vI i3]) (rest := [vI i4]) (b := 0) (ci := 9) O mw_4_216 mw_4_218 mp_3_3 mw_4_219 mw_1_10 hd_X9_many rfl ⟨_, _, rfl⟩ rfl dX9_digest_56 (ct_X9_many i3 s) (by rw [hfr]; decide) (by rw [hlo]; decide) (Nat.le_of_ble_eq_true rfl) (fun v1 s2 => ?_)
    refine g_icmp_ge (tgt := 128) O dX9_digest_59 (by decide) ?_ ?_
    · refine g_pick [0, 1, 2] rfl ?_
      exact hk l1 s2
    refine g_ldc2 (x := 31) O dX9_digest_62 mw_6_11 (by decide +kernel) ?_
    refine g_lload_n O dX9_digest_65 rfl 1 rfl ?_
    refine g_lmul O dX9_digest_66 ?_
    refine g_aload_n O dX9_digest_67 rfl 0 rfl ?_
    refine g_iload_n O dX9_digest_68 rfl 2 rfl ?_
    refine g_iload O dX9_digest_69 3 rfl ?_
    refine g_callV1 (As := [vI i3, vI i4]) (rest := [vL (31 * l1)]) (b := 0) (ci := 9) O mw_4_220 mw_4_222 mp_3_4 mw_4_223 mw_1_10 hd_X9_codeOf rfl ⟨_, _, rfl⟩ rfl dX9_digest_71 (ct_X9_codeOf i3 i4 s2) (by rw [hfr]; decide) (by rw [hlo]; decide) (Nat.le_of_ble_eq_true rfl) (fun v3 s4 => ?_)
    refine g_i2l O dX9_digest_74 ?_
    refine g_ladd O dX9_digest_75 ?_
    refine g_lstore_n (lv2 := [(1, vL ((31 * l1) + (w32 v3))), (0, vR 0), (3, vI i3), (4, vI i4)]) O dX9_digest_76 rfl (by decide) rfl ?_
    refine g_ldc2 (x := 31) O dX9_digest_77 mw_6_11 (by decide +kernel) ?_
    refine g_lload_n O dX9_digest_80 rfl 0 rfl ?_
    refine g_lmul O dX9_digest_81 ?_
    refine g_aload_n O dX9_digest_82 rfl 1 rfl ?_
    refine g_iload_n O dX9_digest_83 rfl 2 rfl ?_
    refine g_iload O dX9_digest_84 3 rfl ?_
    refine g_callV1 (As := [vI i3, vI i4]) (rest := [vL (31 * ((31 * l1) + (w32 v3)))]) (b := 0) (ci := 9) O mw_4_235 mw_4_237 mp_3_7 mw_4_238 mw_1_10 hd_X9_leftOf rfl ⟨_, _, rfl⟩ rfl dX9_digest_86 (ct_X9_leftOf i3 i4 s4) (by rw [hfr]; decide) (by rw [hlo]; decide) (Nat.le_of_ble_eq_true rfl) (fun v5 s6 => ?_)
    refine g_i2l O dX9_digest_89 ?_
    refine g_ladd O dX9_digest_90 ?_
    refine g_lstore_n (lv2 := [(1, vL ((31 * ((31 * l1) + (w32 v3))) + (w32 v5))), (0, vR 0), (3, vI i3), (4, vI i4)]) O dX9_digest_91 rfl (by decide) rfl ?_
    refine g_ldc2 (x := 31) O dX9_digest_92 mw_6_11 (by decide +kernel) ?_
    refine g_lload_n O dX9_digest_95 rfl 0 rfl ?_
    refine g_lmul O dX9_digest_96 ?_
    refine g_aload_n O dX9_digest_97 rfl 1 rfl ?_
    refine g_iload_n O dX9_digest_98 rfl 2 rfl ?_
    refine g_iload O dX9_digest_99 3 rfl ?_
    refine g_callV1 (As := [vI i3, vI i4]) (rest := [vL (31 * ((31 * ((31 * l1) + (w32 v3))) + (w32 v5)))]) (b := 0) (ci := 9) O mw_5_26 mw_5_28 mp_3_13 mw_5_29 mw_1_10 hd_X9_above rfl ⟨_, _, rfl⟩ rfl dX9_digest_101 (ct_X9_above i3 i4 s6) (by rw [hfr]; decide) (by rw [hlo]; decide) (Nat.le_of_ble_eq_true rfl) (fun v7 s8 => ?_)
    refine g_i2l O dX9_digest_104 ?_
    refine g_ladd O dX9_digest_105 ?_
    refine g_lstore_n (lv2 := [(1, vL ((31 * ((31 * ((31 * l1) + (w32 v3))) + (w32 v5))) + (w32 v7))), (0, vR 0), (3, vI i3), (4, vI i4)]) O dX9_digest_106 rfl (by decide) rfl ?_
    refine g_ldc2 (x := 31) O dX9_digest_107 mw_6_11 (by decide +kernel) ?_
    refine g_lload_n O dX9_digest_110 rfl 0 rfl ?_
    refine g_lmul O dX9_digest_111 ?_
    refine g_aload_n O dX9_digest_112 rfl 1 rfl ?_
    refine g_iload_n O dX9_digest_113 rfl 2 rfl ?_
    refine g_iload O dX9_digest_114 3 rfl ?_
    refine g_callV1 (As := [vI i3, vI i4]) (rest := [vL (31 * ((31 * ((31 * ((31 * l1) + (w32 v3))) + (w32 v5))) + (w32 v7)))]) (b := 0) (ci := 9) O mw_6_13 mw_6_15 mp_5_10 mw_6_16 mw_1_10 hd_X9_partnerTold rfl ⟨_, _, rfl⟩ rfl dX9_digest_116 (ct_X9_partnerTold i3 i4 s8) (by rw [hfr]; decide) (by rw [hlo]; decide) (Nat.le_of_ble_eq_true rfl) (fun v9 s10 => ?_)
    refine g_i2l O dX9_digest_119 ?_
    refine g_ladd O dX9_digest_120 ?_
    refine g_lstore_n (lv2 := [(1, vL ((31 * ((31 * ((31 * ((31 * l1) + (w32 v3))) + (w32 v5))) + (w32 v7))) + (w32 v9))), (0, vR 0), (3, vI i3), (4, vI i4)]) O dX9_digest_121 rfl (by decide) rfl ?_
    refine g_iinc (lv2 := [(4, vI (i4 + 1)), (1, vL ((31 * ((31 * ((31 * ((31 * l1) + (w32 v3))) + (w32 v5))) + (w32 v7))) + (w32 v9))), (0, vR 0), (3, vI i3)]) O dX9_digest_122 3 rfl (by decide) rfl ?_
    refine g_goto (tgt := 52) O dX9_digest_125 (by decide) ?_
    refine g_pick [2, 1, 3, 0] rfl ?_
    exact ih ((31 * ((31 * ((31 * ((31 * l1) + (w32 v3))) + (w32 v5))) + (w32 v7))) + (w32 v9)) (i4 + 1) s10
set_option maxRecDepth 20000 in
set_option maxHeartbeats 4000000 in
theorem lt_X9_digest_44 {K : Cx} {X : Wx} (O : OKx LM K X yX9_digest.cls cX9_digest 5) (hrt : (kMe K).sig.returnType = (Option.some .long)) (hfr : (kR K).frames = 9) (hlo : (kR K).locals = 196)  {k : Int → St → Rs}  (hk : ∀ (l1 : Int) (s : St), GX LM K X 5 2 134 [(0, vR 0), (1, vL l1)] [] s (k l1 s)) : ∀ (n : Nat) (l1 : Int) (i3 : Int) (s : St), GX LM K X 5 2 44 [(0, vR 0), (1, vL l1), (3, vI i3)] [] s (X9_digest_44 k n l1 i3 s) := by
  intro n
  induction n with
  | zero => intro l1 i3 s; exact GX.none
  | succ n ih =>
    intro l1 i3 s
    rw [X9_digest_44]
    refine g_iload_n O dX9_digest_44 rfl 2 rfl ?_
    refine g_iconst O dX9_digest_45 ?_
    refine g_icmp_ge (tgt := 134) O dX9_digest_46 (by decide) ?_ ?_
    · refine g_pick [0, 1] rfl ?_
      exact hk l1 s
    refine g_iconst O dX9_digest_49 ?_
    refine g_istore (lv2 := [(4, vI 0), (0, vR 0), (1, vL l1), (3, vI i3)]) O dX9_digest_50 (by decide) rfl ?_
    refine g_pick [1, 2, 3, 0] rfl ?_
    refine lt_X9_digest_52 O hrt hfr hlo  (fun x1 s2 => ?_) FU l1 0 s
    refine g_iinc (lv2 := [(3, vI (i3 + 1)), (0, vR 0), (1, vL x1)]) O dX9_digest_128 2 rfl (by decide) rfl ?_
    refine g_goto (tgt := 44) O dX9_digest_131 (by decide) ?_
    refine g_pick [1, 2, 0] rfl ?_
    exact ih x1 (i3 + 1) s2
set_option maxRecDepth 20000 in
set_option maxHeartbeats 4000000 in
theorem lt_X9_digest_136 {K : Cx} {X : Wx} (O : OKx LM K X yX9_digest.cls cX9_digest 5) (hrt : (kMe K).sig.returnType = (Option.some .long)) (hfr : (kR K).frames = 9) (hlo : (kR K).locals = 196)  {k : Int → St → Rs}  (hk : ∀ (l1 : Int) (s : St), GX LM K X 5 2 178 [(0, vR 0), (1, vL l1)] [] s (k l1 s)) : ∀ (n : Nat) (l1 : Int) (i3 : Int) (s : St), GX LM K X 5 2 136 [(0, vR 0), (1, vL l1), (3, vI i3)] [] s (X9_digest_136 k n l1 i3 s) := by
  intro n
  induction n with
  | zero => intro l1 i3 s; exact GX.none
  | succ n ih =>
    intro l1 i3 s
    rw [X9_digest_136]
    refine g_iload_n O dX9_digest_136 rfl 2 rfl ?_
    refine g_iconst O dX9_digest_137 ?_
    refine g_icmp_ge (tgt := 178) O dX9_digest_138 (by decide) ?_ ?_
    · refine g_pick [0, 1] rfl ?_
      exact hk l1 s
    refine g_ldc2 (x := 31) O dX9_digest_141 mw_6_11 (by decide +kernel) ?_
    refine g_lload_n O dX9_digest_144 rfl 1 rfl ?_
    refine g_lmul O dX9_digest_145 ?_
    refine g_aload_n O dX9_digest_146 rfl 0 rfl ?_
    refine g_getR O fw_9_31 rfl dX9_digest_147 rfl ?_
    refine g_iload_n O dX9_digest_150 rfl 2 rfl ?_
    refine g_zald O rfl (by decide) dX9_digest_151 (fun v1 => ?_)
    refine g_if_eq (tgt := 168) O dX9_digest_152 (by decide) ?_ ?_
    · refine g_iconst O dX9_digest_168 ?_
      refine g_i2l O dX9_digest_169 ?_
      refine g_ladd O dX9_digest_170 ?_
      refine g_lstore_n (lv2 := [(1, vL ((31 * l1) + (w32 (-1)))), (0, vR 0), (3, vI i3)]) O dX9_digest_171 rfl (by decide) rfl ?_
      refine g_iinc (lv2 := [(3, vI (i3 + 1)), (1, vL ((31 * l1) + (w32 (-1)))), (0, vR 0)]) O dX9_digest_172 2 rfl (by decide) rfl ?_
      refine g_goto (tgt := 136) O dX9_digest_175 (by decide) ?_
      refine g_pick [2, 1, 0] rfl ?_
      exact ih ((31 * l1) + (w32 (-1))) (i3 + 1) s
    refine g_aload_n O dX9_digest_155 rfl 0 rfl ?_
    refine g_getR O fw_9_28 rfl dX9_digest_156 rfl ?_
    refine g_sipush O dX9_digest_159 (by decide +kernel) ?_
    refine g_iload_n O dX9_digest_162 rfl 2 rfl ?_
    refine g_imul O dX9_digest_163 ?_
    refine g_iald O rfl (by decide) dX9_digest_164 (fun v2 => ?_)
    refine g_goto (tgt := 169) O dX9_digest_165 (by decide) ?_
    refine g_i2l O dX9_digest_169 ?_
    refine g_ladd O dX9_digest_170 ?_
    refine g_lstore_n (lv2 := [(1, vL ((31 * l1) + (w32 v2))), (0, vR 0), (3, vI i3)]) O dX9_digest_171 rfl (by decide) rfl ?_
    refine g_iinc (lv2 := [(3, vI (i3 + 1)), (1, vL ((31 * l1) + (w32 v2))), (0, vR 0)]) O dX9_digest_172 2 rfl (by decide) rfl ?_
    refine g_goto (tgt := 136) O dX9_digest_175 (by decide) ?_
    refine g_pick [2, 1, 0] rfl ?_
    exact ih ((31 * l1) + (w32 v2)) (i3 + 1) s
set_option maxRecDepth 20000 in
set_option maxHeartbeats 4000000 in
theorem lt_X9_digest_203 {K : Cx} {X : Wx} (O : OKx LM K X yX9_digest.cls cX9_digest 5) (hrt : (kMe K).sig.returnType = (Option.some .long)) (hfr : (kR K).frames = 9) (hlo : (kR K).locals = 196) {i3 : Int} {k : Int → St → Rs}  (hk : ∀ (l1 : Int) (s : St), GX LM K X 5 2 240 [(0, vR 0), (1, vL l1), (3, vI i3)] [] s (k l1 s)) : ∀ (n : Nat) (l1 : Int) (i4 : Int) (s : St), GX LM K X 5 2 203 [(0, vR 0), (1, vL l1), (3, vI i3), (4, vI i4)] [] s (X9_digest_203 i3 k n l1 i4 s) := by
  intro n
  induction n with
  | zero => intro l1 i4 s; exact GX.none
  | succ n ih =>
    intro l1 i4 s
    rw [X9_digest_203]
    refine g_iload O dX9_digest_203 3 rfl ?_
    refine g_aload_n O dX9_digest_205 rfl 0 rfl ?_
    refine g_getR O fw_9_7 rfl dX9_digest_206 rfl ?_
    refine g_iload_n O dX9_digest_209 rfl 2 rfl ?_
    refine g_iald O rfl (by decide) dX9_digest_210 (fun v1 => ?_)
    refine g_icmp_ge (tgt := 240) O dX9_digest_211 (by decide) ?_ ?_
    · refine g_pick [0, 1, 2] rfl ?_
      exact hk l1 s
    refine g_ldc2 (x := 31) O dX9_digest_214 mw_6_11 (by decide +kernel) ?_
    refine g_lload_n O dX9_digest_217 rfl 1 rfl ?_
    refine g_lmul O dX9_digest_218 ?_
    refine g_aload_n O dX9_digest_219 rfl 0 rfl ?_
    refine g_getR O fw_9_13 rfl dX9_digest_220 rfl ?_
    refine g_bipush O dX9_digest_223 (by decide +kernel) ?_
    refine g_iload_n O dX9_digest_225 rfl 2 rfl ?_
    refine g_imul O dX9_digest_226 ?_
    refine g_iload O dX9_digest_227 3 rfl ?_
    refine g_iadd O dX9_digest_229 ?_
    refine g_iald O rfl (by decide) dX9_digest_230 (fun v2 => ?_)
    refine g_i2l O dX9_digest_231 ?_
    refine g_ladd O dX9_digest_232 ?_
    refine g_lstore_n (lv2 := [(1, vL ((31 * l1) + (w32 v2))), (0, vR 0), (3, vI i3), (4, vI i4)]) O dX9_digest_233 rfl (by decide) rfl ?_
    refine g_iinc (lv2 := [(4, vI (i4 + 1)), (1, vL ((31 * l1) + (w32 v2))), (0, vR 0), (3, vI i3)]) O dX9_digest_234 3 rfl (by decide) rfl ?_
    refine g_goto (tgt := 203) O dX9_digest_237 (by decide) ?_
    refine g_pick [2, 1, 3, 0] rfl ?_
    exact ih ((31 * l1) + (w32 v2)) (i4 + 1) s
set_option maxRecDepth 20000 in
set_option maxHeartbeats 4000000 in
theorem lt_X9_digest_180 {K : Cx} {X : Wx} (O : OKx LM K X yX9_digest.cls cX9_digest 5) (hrt : (kMe K).sig.returnType = (Option.some .long)) (hfr : (kR K).frames = 9) (hlo : (kR K).locals = 196)  {k : Int → St → Rs}  (hk : ∀ (l1 : Int) (s : St), GX LM K X 5 2 246 [(0, vR 0), (1, vL l1)] [] s (k l1 s)) : ∀ (n : Nat) (l1 : Int) (i3 : Int) (s : St), GX LM K X 5 2 180 [(0, vR 0), (1, vL l1), (3, vI i3)] [] s (X9_digest_180 k n l1 i3 s) := by
  intro n
  induction n with
  | zero => intro l1 i3 s; exact GX.none
  | succ n ih =>
    intro l1 i3 s
    rw [X9_digest_180]
    refine g_iload_n O dX9_digest_180 rfl 2 rfl ?_
    refine g_bipush O dX9_digest_181 (by decide +kernel) ?_
    refine g_icmp_ge (tgt := 246) O dX9_digest_183 (by decide) ?_ ?_
    · refine g_pick [0, 1] rfl ?_
      exact hk l1 s
    refine g_ldc2 (x := 31) O dX9_digest_186 mw_6_11 (by decide +kernel) ?_
    refine g_lload_n O dX9_digest_189 rfl 1 rfl ?_
    refine g_lmul O dX9_digest_190 ?_
    refine g_aload_n O dX9_digest_191 rfl 0 rfl ?_
    refine g_getR O fw_9_7 rfl dX9_digest_192 rfl ?_
    refine g_iload_n O dX9_digest_195 rfl 2 rfl ?_
    refine g_iald O rfl (by decide) dX9_digest_196 (fun v1 => ?_)
    refine g_i2l O dX9_digest_197 ?_
    refine g_ladd O dX9_digest_198 ?_
    refine g_lstore_n (lv2 := [(1, vL ((31 * l1) + (w32 v1))), (0, vR 0), (3, vI i3)]) O dX9_digest_199 rfl (by decide) rfl ?_
    refine g_iconst O dX9_digest_200 ?_
    refine g_istore (lv2 := [(4, vI 0), (1, vL ((31 * l1) + (w32 v1))), (0, vR 0), (3, vI i3)]) O dX9_digest_201 (by decide) rfl ?_
    refine g_pick [2, 1, 3, 0] rfl ?_
    refine lt_X9_digest_203 O hrt hfr hlo  (fun x2 s3 => ?_) FU ((31 * l1) + (w32 v1)) 0 s
    refine g_iinc (lv2 := [(3, vI (i3 + 1)), (0, vR 0), (1, vL x2)]) O dX9_digest_240 2 rfl (by decide) rfl ?_
    refine g_goto (tgt := 180) O dX9_digest_243 (by decide) ?_
    refine g_pick [1, 2, 0] rfl ?_
    exact ih x2 (i3 + 1) s3
set_option maxRecDepth 20000 in
set_option maxHeartbeats 4000000 in
theorem lt_X9_digest_270 {K : Cx} {X : Wx} (O : OKx LM K X yX9_digest.cls cX9_digest 5) (hrt : (kMe K).sig.returnType = (Option.some .long)) (hfr : (kR K).frames = 9) (hlo : (kR K).locals = 196) {i3 : Int} {k : Int → St → Rs}  (hk : ∀ (l1 : Int) (s : St), GX LM K X 5 2 307 [(0, vR 0), (1, vL l1), (3, vI i3)] [] s (k l1 s)) : ∀ (n : Nat) (l1 : Int) (i4 : Int) (s : St), GX LM K X 5 2 270 [(0, vR 0), (1, vL l1), (3, vI i3), (4, vI i4)] [] s (X9_digest_270 i3 k n l1 i4 s) := by
  intro n
  induction n with
  | zero => intro l1 i4 s; exact GX.none
  | succ n ih =>
    intro l1 i4 s
    rw [X9_digest_270]
    refine g_iload O dX9_digest_270 3 rfl ?_
    refine g_aload_n O dX9_digest_272 rfl 0 rfl ?_
    refine g_getR O fw_9_16 rfl dX9_digest_273 rfl ?_
    refine g_iload_n O dX9_digest_276 rfl 2 rfl ?_
    refine g_iald O rfl (by decide) dX9_digest_277 (fun v1 => ?_)
    refine g_icmp_ge (tgt := 307) O dX9_digest_278 (by decide) ?_ ?_
    · refine g_pick [0, 1, 2] rfl ?_
      exact hk l1 s
    refine g_ldc2 (x := 31) O dX9_digest_281 mw_6_11 (by decide +kernel) ?_
    refine g_lload_n O dX9_digest_284 rfl 1 rfl ?_
    refine g_lmul O dX9_digest_285 ?_
    refine g_aload_n O dX9_digest_286 rfl 0 rfl ?_
    refine g_getR O fw_9_19 rfl dX9_digest_287 rfl ?_
    refine g_bipush O dX9_digest_290 (by decide +kernel) ?_
    refine g_iload_n O dX9_digest_292 rfl 2 rfl ?_
    refine g_imul O dX9_digest_293 ?_
    refine g_iload O dX9_digest_294 3 rfl ?_
    refine g_iadd O dX9_digest_296 ?_
    refine g_iald O rfl (by decide) dX9_digest_297 (fun v2 => ?_)
    refine g_i2l O dX9_digest_298 ?_
    refine g_ladd O dX9_digest_299 ?_
    refine g_lstore_n (lv2 := [(1, vL ((31 * l1) + (w32 v2))), (0, vR 0), (3, vI i3), (4, vI i4)]) O dX9_digest_300 rfl (by decide) rfl ?_
    refine g_iinc (lv2 := [(4, vI (i4 + 1)), (1, vL ((31 * l1) + (w32 v2))), (0, vR 0), (3, vI i3)]) O dX9_digest_301 3 rfl (by decide) rfl ?_
    refine g_goto (tgt := 270) O dX9_digest_304 (by decide) ?_
    refine g_pick [2, 1, 3, 0] rfl ?_
    exact ih ((31 * l1) + (w32 v2)) (i4 + 1) s
set_option maxRecDepth 20000 in
set_option maxHeartbeats 4000000 in
theorem lt_X9_digest_248 {K : Cx} {X : Wx} (O : OKx LM K X yX9_digest.cls cX9_digest 5) (hrt : (kMe K).sig.returnType = (Option.some .long)) (hfr : (kR K).frames = 9) (hlo : (kR K).locals = 196)  {k : Int → St → Rs}  (hk : ∀ (l1 : Int) (s : St), GX LM K X 5 2 313 [(1, vL l1)] [] s (k l1 s)) : ∀ (n : Nat) (l1 : Int) (i3 : Int) (s : St), GX LM K X 5 2 248 [(0, vR 0), (1, vL l1), (3, vI i3)] [] s (X9_digest_248 k n l1 i3 s) := by
  intro n
  induction n with
  | zero => intro l1 i3 s; exact GX.none
  | succ n ih =>
    intro l1 i3 s
    rw [X9_digest_248]
    refine g_iload_n O dX9_digest_248 rfl 2 rfl ?_
    refine g_iconst O dX9_digest_249 ?_
    refine g_icmp_ge (tgt := 313) O dX9_digest_250 (by decide) ?_ ?_
    · refine g_pick [1] rfl ?_
      exact hk l1 s
    refine g_ldc2 (x := 31) O dX9_digest_253 mw_6_11 (by decide +kernel) ?_
    refine g_lload_n O dX9_digest_256 rfl 1 rfl ?_
    refine g_lmul O dX9_digest_257 ?_
    refine g_aload_n O dX9_digest_258 rfl 0 rfl ?_
    refine g_getR O fw_9_16 rfl dX9_digest_259 rfl ?_
    refine g_iload_n O dX9_digest_262 rfl 2 rfl ?_
    refine g_iald O rfl (by decide) dX9_digest_263 (fun v1 => ?_)
    refine g_i2l O dX9_digest_264 ?_
    refine g_ladd O dX9_digest_265 ?_
    refine g_lstore_n (lv2 := [(1, vL ((31 * l1) + (w32 v1))), (0, vR 0), (3, vI i3)]) O dX9_digest_266 rfl (by decide) rfl ?_
    refine g_iconst O dX9_digest_267 ?_
    refine g_istore (lv2 := [(4, vI 0), (1, vL ((31 * l1) + (w32 v1))), (0, vR 0), (3, vI i3)]) O dX9_digest_268 (by decide) rfl ?_
    refine g_pick [2, 1, 3, 0] rfl ?_
    refine lt_X9_digest_270 O hrt hfr hlo  (fun x2 s3 => ?_) FU ((31 * l1) + (w32 v1)) 0 s
    refine g_iinc (lv2 := [(3, vI (i3 + 1)), (0, vR 0), (1, vL x2)]) O dX9_digest_307 2 rfl (by decide) rfl ?_
    refine g_goto (tgt := 248) O dX9_digest_310 (by decide) ?_
    refine g_pick [1, 2, 0] rfl ?_
    exact ih x2 (i3 + 1) s3
theorem hd_X9_digest : yX9_digest.cls ≠ "java/lang/invoke/MethodHandle" ∧ yX9_digest.cls ≠ "java/lang/invoke/VarHandle" ∧ (parseMethodDescriptor yX9_digest.desc).map (fun d => d.parameters.length) = some 0 := by decide +kernel
set_option maxRecDepth 20000 in
set_option maxHeartbeats 4000000 in
theorem ct_X9_digest   (s : St) : Ctr LM yX9_digest cX9_digest 5 (Option.some .long) 2 9 196 [vR 0] s (X9_digest s) := by
  refine Ctr.of (by decide +kernel) (fun ρ => Nat.le_of_ble_eq_true rfl) (lv := [(0, vR 0)]) (fun ρ => rfl) (fun K X O hrt hfr hlo => ?_)
  unfold X9_digest
  refine g_ldc2 (x := 17) O dX9_digest_0 mw_6_10 (by decide +kernel) ?_
  refine g_lstore_n (lv2 := [(1, vL 17), (0, vR 0)]) O dX9_digest_3 rfl (by decide) rfl ?_
  refine g_iconst O dX9_digest_4 ?_
  refine g_istore_n (lv2 := [(3, vI 0), (1, vL 17), (0, vR 0)]) O dX9_digest_5 rfl (by decide) rfl ?_
  refine g_pick [2, 1, 0] rfl ?_
  refine lt_X9_digest_6 O hrt hfr hlo  (fun x1 s2 => ?_) FU 17 0 s
  refine g_aload_n O dX9_digest_31 rfl 0 rfl ?_
  refine g_callV1 (As := []) (rest := []) (b := 0) (ci := 9) O mw_5_60 mw_5_62 mp_4_2 mw_5_63 mw_1_10 hd_X9_areBoth rfl ⟨_, _, rfl⟩ rfl dX9_digest_32 (ct_X9_areBoth  s2) (by rw [hfr]; decide) (by rw [hlo]; decide) (Nat.le_of_ble_eq_true rfl) (fun v3 s4 => ?_)
  refine g_jn (fun (j : St → Rs) => ∀  (s5 : St), GX LM K X 5 2 42 [(0, vR 0), (1, vL x1)] [] s5 (j  s5)) ?_ ?_
  · intro  s5
    refine g_iconst O dX9_digest_42 ?_
    refine g_istore_n (lv2 := [(3, vI 0), (0, vR 0), (1, vL x1)]) O dX9_digest_43 rfl (by decide) rfl ?_
    refine g_pick [1, 2, 0] rfl ?_
    refine lt_X9_digest_44 O hrt hfr hlo  (fun x7 s8 => ?_) FU x1 0 s5
    refine g_iconst O dX9_digest_134 ?_
    refine g_istore_n (lv2 := [(3, vI 0), (0, vR 0), (1, vL x7)]) O dX9_digest_135 rfl (by decide) rfl ?_
    refine g_pick [1, 2, 0] rfl ?_
    refine lt_X9_digest_136 O hrt hfr hlo  (fun x9 s10 => ?_) FU x7 0 s8
    refine g_iconst O dX9_digest_178 ?_
    refine g_istore_n (lv2 := [(3, vI 0), (0, vR 0), (1, vL x9)]) O dX9_digest_179 rfl (by decide) rfl ?_
    refine g_pick [1, 2, 0] rfl ?_
    refine lt_X9_digest_180 O hrt hfr hlo  (fun x11 s12 => ?_) FU x9 0 s10
    refine g_iconst O dX9_digest_246 ?_
    refine g_istore_n (lv2 := [(3, vI 0), (0, vR 0), (1, vL x11)]) O dX9_digest_247 rfl (by decide) rfl ?_
    refine g_pick [1, 2, 0] rfl ?_
    refine lt_X9_digest_248 O hrt hfr hlo  (fun x13 s14 => ?_) FU x11 0 s12
    refine g_lload_n O dX9_digest_313 rfl 0 rfl ?_
    exact g_lret O hrt dX9_digest_314
  intro k6 hk6
  refine g_if_eq (tgt := 42) O dX9_digest_35 (by decide) ?_ ?_
  · exact hk6 s4
  refine g_aload_n O dX9_digest_38 rfl 0 rfl ?_
  refine g_callV0 (As := []) (rest := []) (b := 0) (ci := 9) O mw_5_95 mw_5_97 mp_4_8 mw_5_98 mw_1_10 hd_X9_laysWay rfl ⟨_, _, rfl⟩ rfl dX9_digest_39 (ct_X9_laysWay  s4) (by rw [hfr]; decide) (by rw [hlo]; decide) (Nat.le_of_ble_eq_true rfl) (fun _ s16 => ?_)
  exact hk6 s16
