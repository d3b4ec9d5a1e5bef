def X8_noRow (i0 : Int) (s : St) : Rs := cLt i0 0 (some (1, s)) (cLt i0 6 (some (0, s)) (some (1, s)))
theorem hd_X8_noRow : yX8_noRow.cls ≠ "java/lang/invoke/MethodHandle" ∧ yX8_noRow.cls ≠ "java/lang/invoke/VarHandle" ∧ (parseMethodDescriptor yX8_noRow.desc).map (fun d => d.parameters.length) = some 1 := by decide +kernel
set_option maxRecDepth 20000 in
set_option maxHeartbeats 4000000 in
theorem ct_X8_noRow  (i0 : Int) (s : St) : Ctr LC yX8_noRow cX8_noRow 1 (Option.some .boolean) 1 0 0 [vI i0] s (X8_noRow i0 s) := by
  refine Ctr.of (by decide +kernel) (fun ρ => Nat.le_of_ble_eq_true rfl) (lv := [(0, vI i0)]) (fun ρ => rfl) (fun K X O hrt hfr hlo => ?_)
  unfold X8_noRow
  refine g_iload_n O dX8_noRow_0 rfl 0 rfl ?_
  refine g_if_lt (tgt := 10) O dX8_noRow_1 (by decide) ?_ ?_
  · refine g_iconst O dX8_noRow_10 ?_
    refine g_goto (tgt := 15) O dX8_noRow_11 (by decide) ?_
    exact g_iret O hrt (by decide +kernel) dX8_noRow_15
  refine g_iload_n O dX8_noRow_4 rfl 0 rfl ?_
  refine g_bipush O dX8_noRow_5 (by decide +kernel) ?_
  refine g_icmp_lt (tgt := 14) O dX8_noRow_7 (by decide) ?_ ?_
  · refine g_iconst O dX8_noRow_14 ?_
    exact g_iret O hrt (by decide +kernel) dX8_noRow_15
  refine g_iconst O dX8_noRow_10 ?_
  refine g_goto (tgt := 15) O dX8_noRow_11 (by decide) ?_
  exact g_iret O hrt (by decide +kernel) dX8_noRow_15
def X8_found (i1 : Int) (s : St) : Rs := put s 0 9 i1 (fun s1 => rd s1 1 6 i1 (fun v2 => wr s1 1 6 i1 (v2 + 1) (fun s3 => some ((-3), s3))))
theorem hd_X8_found : yX8_found.cls ≠ "java/lang/invoke/MethodHandle" ∧ yX8_found.cls ≠ "java/lang/invoke/VarHandle" ∧ (parseMethodDescriptor yX8_found.desc).map (fun d => d.parameters.length) = some 1 := by decide +kernel
set_option maxRecDepth 20000 in
set_option maxHeartbeats 4000000 in
theorem ct_X8_found  (i1 : Int) (s : St) : Ctr LC yX8_found cX8_found 2 (Option.some .int) 1 0 0 [vR 0, vI i1] s (X8_found i1 s) := by
  refine Ctr.of (by decide +kernel) (fun ρ => Nat.le_of_ble_eq_true rfl) (lv := [(0, vR 0), (1, vI i1)]) (fun ρ => rfl) (fun K X O hrt hfr hlo => ?_)
  unfold X8_found
  refine g_aload_n O dX8_found_0 rfl 0 rfl ?_
  refine g_iload_n O dX8_found_1 rfl 1 rfl ?_
  refine g_putI O fw_8_64 rfl dX8_found_2 rfl rfl rfl (fun s1 => ?_)
  refine g_aload_n O dX8_found_5 rfl 0 rfl ?_
  refine g_getR O fw_8_60 rfl dX8_found_6 rfl ?_
  refine g_iload_n O dX8_found_9 rfl 1 rfl ?_
  refine g_dup2 O dX8_found_10 rfl rfl ?_
  refine g_iald O rfl (by decide) dX8_found_11 (fun v2 => ?_)
  refine g_iconst O dX8_found_12 ?_
  refine g_iadd O dX8_found_13 ?_
  refine g_iast O rfl (by decide) dX8_found_14 (fun s3 => ?_)
  refine g_bipush O dX8_found_15 (by decide +kernel) ?_
  exact g_iret O hrt rfl dX8_found_17
def X2_begin_7 (a0 : Nat) (k : St → Rs) : Nat → Int → St → Rs
  | 0, _, _ => none
  | n + 1, i2, s => cLt i2 40 (wr s (a0 + 1) 40 i2 0 (fun s1 => X2_begin_7 a0 k n (i2 + 1) s1)) (k s)
def X2_begin (a0 : Nat) (i1 : Int) (s : St) : Rs := put s a0 0 i1 (fun s1 => X2_begin_7 a0 (fun s2 => some (0, s2)) FU 0 s1)
set_option maxRecDepth 20000 in
set_option maxHeartbeats 4000000 in
theorem lt_X2_begin_7 {K : Cx} {X : Wx} (O : OKx LC K X yX2_begin.cls cX2_begin 3) (hrt : (kMe K).sig.returnType = none) (hfr : (kR K).frames = 0) (hlo : (kR K).locals = 0) {a0 : Nat} {k : St → Rs} (ha0 : Kd LC a0 12) (hk : ∀  (s : St), GX LC K X 3 0 26 [] [] s (k s)) : ∀ (n : Nat) (i2 : Int) (s : St), GX LC K X 3 0 7 [(0, vR a0), (2, vI i2)] [] s (X2_begin_7 a0 k n i2 s) := by
  intro n
  induction n with
  | zero => intro i2 s; exact GX.none
  | succ n ih =>
    intro i2 s
    rw [X2_begin_7]
    refine g_iload_n O dX2_begin_7 rfl 1 rfl ?_
    refine g_bipush O dX2_begin_8 (by decide +kernel) ?_
    refine g_icmp_ge (tgt := 26) O dX2_begin_10 (by decide) ?_ ?_
    · refine g_pick [] rfl ?_
      exact hk s
    refine g_aload_n O dX2_begin_13 rfl 0 rfl ?_
    refine g_getR O fw_2_15 (row_c ha0) dX2_begin_14 rfl ?_
    refine g_iload_n O dX2_begin_17 rfl 1 rfl ?_
    refine g_iconst O dX2_begin_18 ?_
    refine g_iast O (row_1 ha0) (by decide) dX2_begin_19 (fun s1 => ?_)
    refine g_iinc (lv2 := [(2, vI (i2 + 1)), (0, vR a0)]) O dX2_begin_20 1 rfl (by decide) rfl ?_
    refine g_goto (tgt := 7) O dX2_begin_23 (by decide) ?_
    refine g_pick [1, 0] rfl ?_
    exact ih (i2 + 1) s1
theorem hd_X2_begin : yX2_begin.cls ≠ "java/lang/invoke/MethodHandle" ∧ yX2_begin.cls ≠ "java/lang/invoke/VarHandle" ∧ (parseMethodDescriptor yX2_begin.desc).map (fun d => d.parameters.length) = some 1 := by decide +kernel
set_option maxRecDepth 20000 in
set_option maxHeartbeats 4000000 in
theorem ct_X2_begin {a0 : Nat} (ha0 : Kd LC a0 12) (i1 : Int) (s : St) : Ctr LC yX2_begin cX2_begin 3 none 0 0 0 [vR a0, vI i1] s (X2_begin a0 i1 s) := by
  refine Ctr.of (by decide +kernel) (fun ρ => Nat.le_of_ble_eq_true rfl) (lv := [(0, vR a0), (1, vI i1)]) (fun ρ => rfl) (fun K X O hrt hfr hlo => ?_)
  unfold X2_begin
  refine g_aload_n O dX2_begin_0 rfl 0 rfl ?_
  refine g_iload_n O dX2_begin_1 rfl 1 rfl ?_
  refine g_putI O fw_2_9 (row_c ha0) dX2_begin_2 rfl rfl rfl (fun s1 => ?_)
  refine g_iconst O dX2_begin_5 ?_
  refine g_istore_n (lv2 := [(2, vI 0), (0, vR a0), (1, vI i1)]) O dX2_begin_6 rfl (by decide) rfl ?_
  refine g_pick [1, 0] rfl ?_
  refine lt_X2_begin_7 O hrt hfr hlo ha0 (fun s2 => ?_) FU 0 s1
  exact g_vret O hrt dX2_begin_26
def X8_row (i1 : Int) (i2 : Int) (s : St) : Rs := cl (X8_noRow i1 s) (fun v1 s2 => cEq v1 0 (cLt 40 i2 (some ((-1), s2)) (cLt i2 0 (cl (X8_found 5 s2) (fun v6 s7 => some (v6, s7))) (rdR 6 i1 (fun j3 => cl (X2_begin (10 + 2 * j3) i2 s2) (fun _ s5 => some (i2, s5)))))) (some ((-1), s2)))
theorem hd_X8_row : yX8_row.cls ≠ "java/lang/invoke/MethodHandle" ∧ yX8_row.cls ≠ "java/lang/invoke/VarHandle" ∧ (parseMethodDescriptor yX8_row.desc).map (fun d => d.parameters.length) = some 2 := by decide +kernel
set_option maxRecDepth 20000 in
set_option maxHeartbeats 4000000 in
theorem ct_X8_row  (i1 : Int) (i2 : Int) (s : St) : Ctr LC yX8_row cX8_row 3 (Option.some .int) 1 1 22 [vR 0, vI i1, vI i2] s (X8_row i1 i2 s) := by
  refine Ctr.of (by decide +kernel) (fun ρ => Nat.le_of_ble_eq_true rfl) (lv := [(0, vR 0), (1, vI i1), (2, vI i2)]) (fun ρ => rfl) (fun K X O hrt hfr hlo => ?_)
  unfold X8_row
  refine g_iload_n O dX8_row_0 rfl 1 rfl ?_
  refine g_callS1 (As := [vI i1]) (rest := []) O mw_2_32 mw_2_33 mw_2_34 mw_1_1 hd_X8_noRow rfl dX8_row_1 (ct_X8_noRow i1 s) (by rw [hfr]; decide) (by rw [hlo]; decide) (Nat.le_of_ble_eq_true rfl) (fun v1 s2 => ?_)
  refine g_if_ne (tgt := 13) O dX8_row_4 (by decide) ?_ ?_
  · refine g_iconst O dX8_row_13 ?_
    exact g_iret O hrt rfl dX8_row_14
  refine g_iload_n O dX8_row_7 rfl 2 rfl ?_
  refine g_bipush O dX8_row_8 (by decide +kernel) ?_
  refine g_icmp_le (tgt := 15) O dX8_row_10 (by decide) ?_ ?_
  · refine g_iload_n O dX8_row_15 rfl 2 rfl ?_
    refine g_if_ge (tgt := 25) O dX8_row_16 (by decide) ?_ ?_
    · refine g_aload_n O dX8_row_25 rfl 0 rfl ?_
      refine g_getR O fw_8_11 rfl dX8_row_26 rfl ?_
      refine g_iload_n O dX8_row_29 rfl 1 rfl ?_
      refine g_aald (g := fun j => 10 + 2 * j) O rfl (by decide) (by decide) (by decide) el_2 dX8_row_30 (fun j3 hj1 => ?_)
      refine g_iload_n O dX8_row_31 rfl 2 rfl ?_
      refine g_callV0 (As := [vI i2]) (rest := []) (b := 10 + 2 * j3) (ci := 2) O mw_2_39 mw_2_40 mw_2_41 mw_2_42 mw_1_8 hd_X2_begin rfl (elk_2 hj1) rfl dX8_row_32 (ct_X2_begin (elk_2 hj1) i2 s2) (by rw [hfr]; decide) (by rw [hlo]; decide) (Nat.le_of_ble_eq_true rfl) (fun _ s5 => ?_)
      refine g_iload_n O dX8_row_35 rfl 2 rfl ?_
      exact g_iret O hrt rfl dX8_row_36
    refine g_aload_n O dX8_row_19 rfl 0 rfl ?_
    refine g_iconst O dX8_row_20 ?_
    refine g_callV1 (As := [vI 5]) (rest := []) (b := 0) (ci := 8) O mw_2_35 mw_2_37 mp_1_0 mw_2_38 mw_1_1 hd_X8_found rfl ⟨_, _, rfl⟩ rfl dX8_row_21 (ct_X8_found 5 s2) (by rw [hfr]; decide) (by rw [hlo]; decide) (Nat.le_of_ble_eq_true rfl) (fun v6 s7 => ?_)
    exact g_iret O hrt rfl dX8_row_24
  refine g_iconst O dX8_row_13 ?_
  exact g_iret O hrt rfl dX8_row_14
def X8_tell (i1 : Int) (s : St) : Rs := put s 0 10 i1 (fun s1 => some (1, s1))
theorem hd_X8_tell : yX8_tell.cls ≠ "java/lang/invoke/MethodHandle" ∧ yX8_tell.cls ≠ "java/lang/invoke/VarHandle" ∧ (parseMethodDescriptor yX8_tell.desc).map (fun d => d.parameters.length) = some 1 := by decide +kernel
set_option maxRecDepth 20000 in
set_option maxHeartbeats 4000000 in
theorem ct_X8_tell  (i1 : Int) (s : St) : Ctr LC yX8_tell cX8_tell 2 (Option.some .int) 1 0 0 [vR 0, vI i1] s (X8_tell i1 s) := by
  refine Ctr.of (by decide +kernel) (fun ρ => Nat.le_of_ble_eq_true rfl) (lv := [(0, vR 0), (1, vI i1)]) (fun ρ => rfl) (fun K X O hrt hfr hlo => ?_)
  unfold X8_tell
  refine g_aload_n O dX8_tell_0 rfl 0 rfl ?_
  refine g_iload_n O dX8_tell_1 rfl 1 rfl ?_
  refine g_putI O fw_8_68 rfl dX8_tell_2 rfl rfl rfl (fun s1 => ?_)
  refine g_iconst O dX8_tell_5 ?_
  exact g_iret O hrt rfl dX8_tell_6
def X8_lay (i1 : Int) (i2 : Int) (i3 : Int) (s : St) : Rs := cl (X8_noRow i1 s) (fun v1 s2 => cEq v1 0 (rdR 6 i1 (fun j3 => cLt (s2 (10 + 2 * j3) 0) 0 (cl (X8_found 1 s2) (fun v12 s13 => some (v12, s13))) (cLt i2 0 (cl (X8_found 2 s2) (fun v4 s5 => some (v4, s5))) (cLt i2 (s2 (10 + 2 * j3) 0) (rd s2 ((10 + 2 * j3) + 1) 40 i2 (fun v6 => wr s2 ((10 + 2 * j3) + 1) 40 i2 i3 (fun s7 => cl (X8_tell v6 s7) (fun v8 s9 => some (v8, s9))))) (cl (X8_found 2 s2) (fun v10 s11 => some (v10, s11))))))) (some ((-1), s2)))
theorem hd_X8_lay : yX8_lay.cls ≠ "java/lang/invoke/MethodHandle" ∧ yX8_lay.cls ≠ "java/lang/invoke/VarHandle" ∧ (parseMethodDescriptor yX8_lay.desc).map (fun d => d.parameters.length) = some 3 := by decide +kernel
set_option maxRecDepth 20000 in
set_option maxHeartbeats 4000000 in
theorem ct_X8_lay  (i1 : Int) (i2 : Int) (i3 : Int) (s : St) : Ctr LC yX8_lay cX8_lay 6 (Option.some .int) 1 1 21 [vR 0, vI i1, vI i2, vI i3] s (X8_lay i1 i2 i3 s) := by
  refine Ctr.of (by decide +kernel) (fun ρ => Nat.le_of_ble_eq_true rfl) (lv := [(0, vR 0), (1, vI i1), (2, vI i2), (3, vI i3)]) (fun ρ => rfl) (fun K X O hrt hfr hlo => ?_)
  unfold X8_lay
  refine g_iload_n O dX8_lay_0 rfl 1 rfl ?_
  refine g_callS1 (As := [vI i1]) (rest := []) O mw_2_32 mw_2_33 mw_2_34 mw_1_1 hd_X8_noRow rfl dX8_lay_1 (ct_X8_noRow i1 s) (by rw [hfr]; decide) (by rw [hlo]; decide) (Nat.le_of_ble_eq_true rfl) (fun v1 s2 => ?_)
  refine g_if_eq (tgt := 9) O dX8_lay_4 (by decide) ?_ ?_
  · refine g_aload_n O dX8_lay_9 rfl 0 rfl ?_
    refine g_getR O fw_8_11 rfl dX8_lay_10 rfl ?_
    refine g_iload_n O dX8_lay_13 rfl 1 rfl ?_
    refine g_aald (g := fun j => 10 + 2 * j) O rfl (by decide) (by decide) (by decide) el_2 dX8_lay_14 (fun j3 hj1 => ?_)
    refine g_astore (lv2 := [(4, vR (10 + 2 * j3)), (0, vR 0), (1, vI i1), (2, vI i2), (3, vI i3)]) O dX8_lay_15 (by decide) rfl ?_
    refine g_aload O dX8_lay_17 0 rfl ?_
    refine g_getI O fw_8_84 (row_c (elk_2 hj1)) dX8_lay_19 rfl ?_
    refine g_if_ge (tgt := 31) O dX8_lay_22 (by decide) ?_ ?_
    · refine g_iload_n O dX8_lay_31 rfl 3 rfl ?_
      refine g_if_lt (tgt := 44) O dX8_lay_32 (by decide) ?_ ?_
      · refine g_aload_n O dX8_lay_44 rfl 1 rfl ?_
        refine g_iconst O dX8_lay_45 ?_
        refine g_callV1 (As := [vI 2]) (rest := []) (b := 0) (ci := 8) O mw_2_35 mw_2_37 mp_1_0 mw_2_38 mw_1_1 hd_X8_found rfl ⟨_, _, rfl⟩ rfl dX8_lay_46 (ct_X8_found 2 s2) (by rw [hfr]; decide) (by rw [hlo]; decide) (Nat.le_of_ble_eq_true rfl) (fun v4 s5 => ?_)
        exact g_iret O hrt rfl dX8_lay_49
      refine g_iload_n O dX8_lay_35 rfl 3 rfl ?_
      refine g_aload O dX8_lay_36 0 rfl ?_
      refine g_getI O fw_8_84 (row_c (elk_2 hj1)) dX8_lay_38 rfl ?_
      refine g_icmp_lt (tgt := 50) O dX8_lay_41 (by decide) ?_ ?_
      · refine g_aload O dX8_lay_50 0 rfl ?_
        refine g_getR O fw_8_87 (row_c (elk_2 hj1)) dX8_lay_52 rfl ?_
        refine g_iload_n O dX8_lay_55 rfl 3 rfl ?_
        refine g_iald O (row_1 (elk_2 hj1)) (by decide) dX8_lay_56 (fun v6 => ?_)
        refine g_istore (lv2 := [(5, vI v6), (4, vR (10 + 2 * j3)), (0, vR 0), (1, vI i1), (2, vI i2), (3, vI i3)]) O dX8_lay_57 (by decide) rfl ?_
        refine g_aload O dX8_lay_59 1 rfl ?_
        refine g_getR O fw_8_87 (row_c (elk_2 hj1)) dX8_lay_61 rfl ?_
        refine g_iload_n O dX8_lay_64 rfl 4 rfl ?_
        refine g_iload_n O dX8_lay_65 rfl 5 rfl ?_
        refine g_iast O (row_1 (elk_2 hj1)) (by decide) dX8_lay_66 (fun s7 => ?_)
        refine g_aload_n O dX8_lay_67 rfl 2 rfl ?_
        refine g_iload O dX8_lay_68 0 rfl ?_
        refine g_callV1 (As := [vI v6]) (rest := []) (b := 0) (ci := 8) O mw_2_47 mw_2_49 mp_1_1 mw_2_50 mw_1_1 hd_X8_tell rfl ⟨_, _, rfl⟩ rfl dX8_lay_70 (ct_X8_tell v6 s7) (by rw [hfr]; decide) (by rw [hlo]; decide) (Nat.le_of_ble_eq_true rfl) (fun v8 s9 => ?_)
        exact g_iret O hrt rfl dX8_lay_73
      refine g_aload_n O dX8_lay_44 rfl 1 rfl ?_
      refine g_iconst O dX8_lay_45 ?_
      refine g_callV1 (As := [vI 2]) (rest := []) (b := 0) (ci := 8) O mw_2_35 mw_2_37 mp_1_0 mw_2_38 mw_1_1 hd_X8_found rfl ⟨_, _, rfl⟩ rfl dX8_lay_46 (ct_X8_found 2 s2) (by rw [hfr]; decide) (by rw [hlo]; decide) (Nat.le_of_ble_eq_true rfl) (fun v10 s11 => ?_)
      exact g_iret O hrt rfl dX8_lay_49
    refine g_aload_n O dX8_lay_25 rfl 1 rfl ?_
    refine g_iconst O dX8_lay_26 ?_
    refine g_callV1 (As := [vI 1]) (rest := []) (b := 0) (ci := 8) O mw_2_35 mw_2_37 mp_1_0 mw_2_38 mw_1_1 hd_X8_found rfl ⟨_, _, rfl⟩ rfl dX8_lay_27 (ct_X8_found 1 s2) (by rw [hfr]; decide) (by rw [hlo]; decide) (Nat.le_of_ble_eq_true rfl) (fun v12 s13 => ?_)
    exact g_iret O hrt rfl dX8_lay_30
  refine g_iconst O dX8_lay_7 ?_
  exact g_iret O hrt rfl dX8_lay_8
def X8_at (i1 : Int) (i2 : Int) (s : St) : Rs := cl (X8_noRow i1 s) (fun v1 s2 => cEq v1 0 (rdR 6 i1 (fun j3 => cLt (s2 (10 + 2 * j3) 0) 0 (cl (X8_found 1 s2) (fun v11 s12 => some (v11, s12))) (cLt i2 0 (cl (X8_found 2 s2) (fun v4 s5 => some (v4, s5))) (cLt i2 (s2 (10 + 2 * j3) 0) (rd s2 ((10 + 2 * j3) + 1) 40 i2 (fun v6 => cl (X8_tell v6 s2) (fun v7 s8 => some (v7, s8)))) (cl (X8_found 2 s2) (fun v9 s10 => some (v9, s10))))))) (some ((-1), s2)))
theorem hd_X8_at : yX8_at.cls ≠ "java/lang/invoke/MethodHandle" ∧ yX8_at.cls ≠ "java/lang/invoke/VarHandle" ∧ (parseMethodDescriptor yX8_at.desc).map (fun d => d.parameters.length) = some 2 := by decide +kernel
set_option maxRecDepth 20000 in
set_option maxHeartbeats 4000000 in
theorem ct_X8_at  (i1 : Int) (i2 : Int) (s : St) : Ctr LC yX8_at cX8_at 4 (Option.some .int) 1 1 21 [vR 0, vI i1, vI i2] s (X8_at i1 i2 s) := by
  refine Ctr.of (by decide +kernel) (fun ρ => Nat.le_of_ble_eq_true rfl) (lv := [(0, vR 0), (1, vI i1), (2, vI i2)]) (fun ρ => rfl) (fun K X O hrt hfr hlo => ?_)
  unfold X8_at
  refine g_iload_n O dX8_at_0 rfl 1 rfl ?_
  refine g_callS1 (As := [vI i1]) (rest := []) O mw_2_32 mw_2_33 mw_2_34 mw_1_1 hd_X8_noRow rfl dX8_at_1 (ct_X8_noRow i1 s) (by rw [hfr]; decide) (by rw [hlo]; decide) (Nat.le_of_ble_eq_true rfl) (fun v1 s2 => ?_)
  refine g_if_eq (tgt := 9) O dX8_at_4 (by decide) ?_ ?_
  · refine g_aload_n O dX8_at_9 rfl 0 rfl ?_
    refine g_getR O fw_8_11 rfl dX8_at_10 rfl ?_
    refine g_iload_n O dX8_at_13 rfl 1 rfl ?_
    refine g_aald (g := fun j => 10 + 2 * j) O rfl (by decide) (by decide) (by decide) el_2 dX8_at_14 (fun j3 hj1 => ?_)
    refine g_astore_n (lv2 := [(3, vR (10 + 2 * j3)), (0, vR 0), (1, vI i1), (2, vI i2)]) O dX8_at_15 rfl (by decide) rfl ?_
    refine g_aload_n O dX8_at_16 rfl 0 rfl ?_
    refine g_getI O fw_8_84 (row_c (elk_2 hj1)) dX8_at_17 rfl ?_
    refine g_if_ge (tgt := 29) O dX8_at_20 (by decide) ?_ ?_
    · refine g_iload_n O dX8_at_29 rfl 3 rfl ?_
      refine g_if_lt (tgt := 41) O dX8_at_30 (by decide) ?_ ?_
      · refine g_aload_n O dX8_at_41 rfl 1 rfl ?_
        refine g_iconst O dX8_at_42 ?_
        refine g_callV1 (As := [vI 2]) (rest := []) (b := 0) (ci := 8) O mw_2_35 mw_2_37 mp_1_0 mw_2_38 mw_1_1 hd_X8_found rfl ⟨_, _, rfl⟩ rfl dX8_at_43 (ct_X8_found 2 s2) (by rw [hfr]; decide) (by rw [hlo]; decide) (Nat.le_of_ble_eq_true rfl) (fun v4 s5 => ?_)
        exact g_iret O hrt rfl dX8_at_46
      refine g_iload_n O dX8_at_33 rfl 3 rfl ?_
      refine g_aload_n O dX8_at_34 rfl 0 rfl ?_
      refine g_getI O fw_8_84 (row_c (elk_2 hj1)) dX8_at_35 rfl ?_
      refine g_icmp_lt (tgt := 47) O dX8_at_38 (by decide) ?_ ?_
      · refine g_aload_n O dX8_at_47 rfl 1 rfl ?_
        refine g_aload_n O dX8_at_48 rfl 0 rfl ?_
        refine g_getR O fw_8_87 (row_c (elk_2 hj1)) dX8_at_49 rfl ?_
        refine g_iload_n O dX8_at_52 rfl 3 rfl ?_
        refine g_iald O (row_1 (elk_2 hj1)) (by decide) dX8_at_53 (fun v6 => ?_)
        refine g_callV1 (As := [vI v6]) (rest := []) (b := 0) (ci := 8) O mw_2_47 mw_2_49 mp_1_1 mw_2_50 mw_1_1 hd_X8_tell rfl ⟨_, _, rfl⟩ rfl dX8_at_54 (ct_X8_tell v6 s2) (by rw [hfr]; decide) (by rw [hlo]; decide) (Nat.le_of_ble_eq_true rfl) (fun v7 s8 => ?_)
        exact g_iret O hrt rfl dX8_at_57
      refine g_aload_n O dX8_at_41 rfl 1 rfl ?_
      refine g_iconst O dX8_at_42 ?_
      refine g_callV1 (As := [vI 2]) (rest := []) (b := 0) (ci := 8) O mw_2_35 mw_2_37 mp_1_0 mw_2_38 mw_1_1 hd_X8_found rfl ⟨_, _, rfl⟩ rfl dX8_at_43 (ct_X8_found 2 s2) (by rw [hfr]; decide) (by rw [hlo]; decide) (Nat.le_of_ble_eq_true rfl) (fun v9 s10 => ?_)
      exact g_iret O hrt rfl dX8_at_46
    refine g_aload_n O dX8_at_23 rfl 1 rfl ?_
    refine g_iconst O dX8_at_24 ?_
    refine g_callV1 (As := [vI 1]) (rest := []) (b := 0) (ci := 8) O mw_2_35 mw_2_37 mp_1_0 mw_2_38 mw_1_1 hd_X8_found rfl ⟨_, _, rfl⟩ rfl dX8_at_25 (ct_X8_found 1 s2) (by rw [hfr]; decide) (by rw [hlo]; decide) (Nat.le_of_ble_eq_true rfl) (fun v11 s12 => ?_)
    exact g_iret O hrt rfl dX8_at_28
  refine g_iconst O dX8_at_7 ?_
  exact g_iret O hrt rfl dX8_at_8
def X8_tear (i1 : Int) (s : St) : Rs := cl (X8_noRow i1 s) (fun v1 s2 => cEq v1 0 (rdR 6 i1 (fun j3 => cLt (s2 (10 + 2 * j3) 0) 0 (cl (X8_found 1 s2) (fun v6 s7 => some (v6, s7))) (rdR 6 i1 (fun j4 => put s2 (10 + 2 * j4) 0 (-1) (fun s5 => some (1, s5)))))) (some ((-1), s2)))
theorem hd_X8_tear : yX8_tear.cls ≠ "java/lang/invoke/MethodHandle" ∧ yX8_tear.cls ≠ "java/lang/invoke/VarHandle" ∧ (parseMethodDescriptor yX8_tear.desc).map (fun d => d.parameters.length) = some 1 := by decide +kernel
set_option maxRecDepth 20000 in
set_option maxHeartbeats 4000000 in
theorem ct_X8_tear  (i1 : Int) (s : St) : Ctr LC yX8_tear cX8_tear 2 (Option.some .int) 1 1 21 [vR 0, vI i1] s (X8_tear i1 s) := by
  refine Ctr.of (by decide +kernel) (fun ρ => Nat.le_of_ble_eq_true rfl) (lv := [(0, vR 0), (1, vI i1)]) (fun ρ => rfl) (fun K X O hrt hfr hlo => ?_)
  unfold X8_tear
  refine g_iload_n O dX8_tear_0 rfl 1 rfl ?_
  refine g_callS1 (As := [vI i1]) (rest := []) O mw_2_32 mw_2_33 mw_2_34 mw_1_1 hd_X8_noRow rfl dX8_tear_1 (ct_X8_noRow i1 s) (by rw [hfr]; decide) (by rw [hlo]; decide) (Nat.le_of_ble_eq_true rfl) (fun v1 s2 => ?_)
  refine g_if_eq (tgt := 9) O dX8_tear_4 (by decide) ?_ ?_
  · refine g_aload_n O dX8_tear_9 rfl 0 rfl ?_
    refine g_getR O fw_8_11 rfl dX8_tear_10 rfl ?_
    refine g_iload_n O dX8_tear_13 rfl 1 rfl ?_
    refine g_aald (g := fun j => 10 + 2 * j) O rfl (by decide) (by decide) (by decide) el_2 dX8_tear_14 (fun j3 hj1 => ?_)
    refine g_getI O fw_8_84 (row_c (elk_2 hj1)) dX8_tear_15 rfl ?_
    refine g_if_ge (tgt := 27) O dX8_tear_18 (by decide) ?_ ?_
    · refine g_aload_n O dX8_tear_27 rfl 0 rfl ?_
      refine g_getR O fw_8_11 rfl dX8_tear_28 rfl ?_
      refine g_iload_n O dX8_tear_31 rfl 1 rfl ?_
      refine g_aald (g := fun j => 10 + 2 * j) O rfl (by decide) (by decide) (by decide) el_2 dX8_tear_32 (fun j4 hj2 => ?_)
      refine g_iconst O dX8_tear_33 ?_
      refine g_putI O fw_8_84 (row_c (elk_2 hj2)) dX8_tear_34 rfl rfl rfl (fun s5 => ?_)
      refine g_iconst O dX8_tear_37 ?_
      exact g_iret O hrt rfl dX8_tear_38
    refine g_aload_n O dX8_tear_21 rfl 0 rfl ?_
    refine g_iconst O dX8_tear_22 ?_
    refine g_callV1 (As := [vI 1]) (rest := []) (b := 0) (ci := 8) O mw_2_35 mw_2_37 mp_1_0 mw_2_38 mw_1_1 hd_X8_found rfl ⟨_, _, rfl⟩ rfl dX8_tear_23 (ct_X8_found 1 s2) (by rw [hfr]; decide) (by rw [hlo]; decide) (Nat.le_of_ble_eq_true rfl) (fun v6 s7 => ?_)
    exact g_iret O hrt rfl dX8_tear_26
  refine g_iconst O dX8_tear_7 ?_
  exact g_iret O hrt rfl dX8_tear_8
def X2_lacks (a0 : Nat) (i1 : Int) (i2 : Int) (s : St) : Rs := cLt i1 0 (some (1, s)) (lcm ((w32 i1) + (w32 i2)) (w32 (s a0 0)) (fun v1 => cLt 0 v1 (some (1, s)) (some (0, s))))
theorem hd_X2_lacks : yX2_lacks.cls ≠ "java/lang/invoke/MethodHandle" ∧ yX2_lacks.cls ≠ "java/lang/invoke/VarHandle" ∧ (parseMethodDescriptor yX2_lacks.desc).map (fun d => d.parameters.length) = some 2 := by decide +kernel
set_option maxRecDepth 20000 in
set_option maxHeartbeats 4000000 in
theorem ct_X2_lacks {a0 : Nat} (ha0 : Kd LC a0 12) (i1 : Int) (i2 : Int) (s : St) : Ctr LC yX2_lacks cX2_lacks 3 (Option.some .boolean) 1 0 0 [vR a0, vI i1, vI i2] s (X2_lacks a0 i1 i2 s) := by
  refine Ctr.of (by decide +kernel) (fun ρ => Nat.le_of_ble_eq_true rfl) (lv := [(0, vR a0), (1, vI i1), (2, vI i2)]) (fun ρ => rfl) (fun K X O hrt hfr hlo => ?_)
  unfold X2_lacks
  refine g_iload_n O dX2_lacks_0 rfl 1 rfl ?_
  refine g_if_lt (tgt := 18) O dX2_lacks_1 (by decide) ?_ ?_
  · refine g_iconst O dX2_lacks_18 ?_
    refine g_goto (tgt := 23) O dX2_lacks_19 (by decide) ?_
    exact g_iret O hrt (by decide +kernel) dX2_lacks_23
  refine g_iload_n O dX2_lacks_4 rfl 1 rfl ?_
  refine g_i2l O dX2_lacks_5 ?_
  refine g_iload_n O dX2_lacks_6 rfl 2 rfl ?_
  refine g_i2l O dX2_lacks_7 ?_
  refine g_ladd O dX2_lacks_8 ?_
  refine g_aload_n O dX2_lacks_9 rfl 0 rfl ?_
  refine g_getI O fw_2_9 (row_c ha0) dX2_lacks_10 rfl ?_
  refine g_i2l O dX2_lacks_13 ?_
  refine g_lcmp O dX2_lacks_14 (fun v1 => ?_)
  refine g_if_le (tgt := 22) O dX2_lacks_15 (by decide) ?_ ?_
  · refine g_iconst O dX2_lacks_22 ?_
    exact g_iret O hrt (by decide +kernel) dX2_lacks_23
  refine g_iconst O dX2_lacks_18 ?_
  refine g_goto (tgt := 23) O dX2_lacks_19 (by decide) ?_
  exact g_iret O hrt (by decide +kernel) dX2_lacks_23
def X8_copy (i1 : Int) (i2 : Int) (i3 : Int) (i4 : Int) (i5 : Int) (s : St) : Rs := cl (X8_noRow i1 s) (fun v1 s2 => cEq v1 0 (cl (X8_noRow i3 s2) (fun v3 s4 => cEq v3 0 (cLt i5 0 (cl (X8_found 5 s4) (fun v24 s25 => some (v24, s25))) (rdR 6 i1 (fun j5 => cLt (s4 (10 + 2 * j5) 0) 0 (cl (X8_found 1 s4) (fun v6 s7 => some (v6, s7))) (rdR 6 i3 (fun j8 => cLt (s4 (10 + 2 * j8) 0) 0 (cl (X8_found 1 s4) (fun v22 s23 => some (v22, s23))) (rdR 6 i1 (fun j9 => cl (X2_lacks (10 + 2 * j9) i2 i5 s4) (fun v10 s11 => cEq v10 0 (rdR 6 i3 (fun j14 => cl (X2_lacks (10 + 2 * j14) i4 i5 s11) (fun v15 s16 => cEq v15 0 (rdR 6 i1 (fun j17 => rdR 6 i3 (fun j18 => cpA s16 ((10 + 2 * j17) + 1) 40 i2 ((10 + 2 * j18) + 1) 40 i4 i5 (fun s19 => some (1, s19))))) (cl (X8_found 2 s16) (fun v20 s21 => some (v20, s21)))))) (cl (X8_found 2 s11) (fun v12 s13 => some (v12, s13))))))))))) (some ((-1), s4)))) (some ((-1), s2)))
theorem hd_X8_copy : yX8_copy.cls ≠ "java/lang/invoke/MethodHandle" ∧ yX8_copy.cls ≠ "java/lang/invoke/VarHandle" ∧ (parseMethodDescriptor yX8_copy.desc).map (fun d => d.parameters.length) = some 5 := by decide +kernel
set_option maxRecDepth 20000 in
set_option maxHeartbeats 4000000 in
theorem ct_X8_copy  (i1 : Int) (i2 : Int) (i3 : Int) (i4 : Int) (i5 : Int) (s : St) : Ctr LC yX8_copy cX8_copy 6 (Option.some .int) 1 1 26 [vR 0, vI i1, vI i2, vI i3, vI i4, vI i5] s (X8_copy i1 i2 i3 i4 i5 s) := by
  refine Ctr.of (by decide +kernel) (fun ρ => Nat.le_of_ble_eq_true rfl) (lv := [(0, vR 0), (1, vI i1), (2, vI i2), (3, vI i3), (4, vI i4), (5, vI i5)]) (fun ρ => rfl) (fun K X O hrt hfr hlo => ?_)
  unfold X8_copy
  refine g_iload_n O dX8_copy_0 rfl 1 rfl ?_
  refine g_callS1 (As := [vI i1]) (rest := []) O mw_2_32 mw_2_33 mw_2_34 mw_1_1 hd_X8_noRow rfl dX8_copy_1 (ct_X8_noRow i1 s) (by rw [hfr]; decide) (by rw [hlo]; decide) (Nat.le_of_ble_eq_true rfl) (fun v1 s2 => ?_)
  refine g_if_ne (tgt := 14) O dX8_copy_4 (by decide) ?_ ?_
  · refine g_iconst O dX8_copy_14 ?_
    exact g_iret O hrt rfl dX8_copy_15
  refine g_iload_n O dX8_copy_7 rfl 3 rfl ?_
  refine g_callS1 (As := [vI i3]) (rest := []) O mw_2_32 mw_2_33 mw_2_34 mw_1_1 hd_X8_noRow rfl dX8_copy_8 (ct_X8_noRow i3 s2) (by rw [hfr]; decide) (by rw [hlo]; decide) (Nat.le_of_ble_eq_true rfl) (fun v3 s4 => ?_)
  refine g_if_eq (tgt := 16) O dX8_copy_11 (by decide) ?_ ?_
  · refine g_iload O dX8_copy_16 5 rfl ?_
    refine g_if_ge (tgt := 27) O dX8_copy_18 (by decide) ?_ ?_
    · refine g_aload_n O dX8_copy_27 rfl 0 rfl ?_
      refine g_getR O fw_8_11 rfl dX8_copy_28 rfl ?_
      refine g_iload_n O dX8_copy_31 rfl 1 rfl ?_
      refine g_aald (g := fun j => 10 + 2 * j) O rfl (by decide) (by decide) (by decide) el_2 dX8_copy_32 (fun j5 hj1 => ?_)
      refine g_getI O fw_8_84 (row_c (elk_2 hj1)) dX8_copy_33 rfl ?_
      refine g_if_lt (tgt := 51) O dX8_copy_36 (by decide) ?_ ?_
      · refine g_aload_n O dX8_copy_51 rfl 0 rfl ?_
        refine g_iconst O dX8_copy_52 ?_
        refine g_callV1 (As := [vI 1]) (rest := []) (b := 0) (ci := 8) O mw_2_35 mw_2_37 mp_1_0 mw_2_38 mw_1_1 hd_X8_found rfl ⟨_, _, rfl⟩ rfl dX8_copy_53 (ct_X8_found 1 s4) (by rw [hfr]; decide) (by rw [hlo]; decide) (Nat.le_of_ble_eq_true rfl) (fun v6 s7 => ?_)
        exact g_iret O hrt rfl dX8_copy_56
      refine g_aload_n O dX8_copy_39 rfl 0 rfl ?_
      refine g_getR O fw_8_11 rfl dX8_copy_40 rfl ?_
      refine g_iload_n O dX8_copy_43 rfl 3 rfl ?_
      refine g_aald (g := fun j => 10 + 2 * j) O rfl (by decide) (by decide) (by decide) el_2 dX8_copy_44 (fun j8 hj2 => ?_)
      refine g_getI O fw_8_84 (row_c (elk_2 hj2)) dX8_copy_45 rfl ?_
      refine g_if_ge (tgt := 57) O dX8_copy_48 (by decide) ?_ ?_
      · refine g_aload_n O dX8_copy_57 rfl 0 rfl ?_
        refine g_getR O fw_8_11 rfl dX8_copy_58 rfl ?_
        refine g_iload_n O dX8_copy_61 rfl 1 rfl ?_
        refine g_aald (g := fun j => 10 + 2 * j) O rfl (by decide) (by decide) (by decide) el_2 dX8_copy_62 (fun j9 hj3 => ?_)
        refine g_iload_n O dX8_copy_63 rfl 2 rfl ?_
        refine g_iload O dX8_copy_64 5 rfl ?_
        refine g_callV1 (As := [vI i2, vI i5]) (rest := []) (b := 10 + 2 * j9) (ci := 2) O mw_2_63 mw_2_64 mw_2_65 mw_2_66 mw_1_8 hd_X2_lacks rfl (elk_2 hj3) rfl dX8_copy_66 (ct_X2_lacks (elk_2 hj3) i2 i5 s4) (by rw [hfr]; decide) (by rw [hlo]; decide) (Nat.le_of_ble_eq_true rfl) (fun v10 s11 => ?_)
        refine g_if_ne (tgt := 88) O dX8_copy_69 (by decide) ?_ ?_
        · refine g_aload_n O dX8_copy_88 rfl 0 rfl ?_
          refine g_iconst O dX8_copy_89 ?_
          refine g_callV1 (As := [vI 2]) (rest := []) (b := 0) (ci := 8) O mw_2_35 mw_2_37 mp_1_0 mw_2_38 mw_1_1 hd_X8_found rfl ⟨_, _, rfl⟩ rfl dX8_copy_90 (ct_X8_found 2 s11) (by rw [hfr]; decide) (by rw [hlo]; decide) (Nat.le_of_ble_eq_true rfl) (fun v12 s13 => ?_)
          exact g_iret O hrt rfl dX8_copy_93
        refine g_aload_n O dX8_copy_72 rfl 0 rfl ?_
        refine g_getR O fw_8_11 rfl dX8_copy_73 rfl ?_
        refine g_iload_n O dX8_copy_76 rfl 3 rfl ?_
        refine g_aald (g := fun j => 10 + 2 * j) O rfl (by decide) (by decide) (by decide) el_2 dX8_copy_77 (fun j14 hj4 => ?_)
        refine g_iload O dX8_copy_78 4 rfl ?_
        refine g_iload O dX8_copy_80 5 rfl ?_
        refine g_callV1 (As := [vI i4, vI i5]) (rest := []) (b := 10 + 2 * j14) (ci := 2) O mw_2_63 mw_2_64 mw_2_65 mw_2_66 mw_1_8 hd_X2_lacks rfl (elk_2 hj4) rfl dX8_copy_82 (ct_X2_lacks (elk_2 hj4) i4 i5 s11) (by rw [hfr]; decide) (by rw [hlo]; decide) (Nat.le_of_ble_eq_true rfl) (fun v15 s16 => ?_)
        refine g_if_eq (tgt := 94) O dX8_copy_85 (by decide) ?_ ?_
        · refine g_aload_n O dX8_copy_94 rfl 0 rfl ?_
          refine g_getR O fw_8_11 rfl dX8_copy_95 rfl ?_
          refine g_iload_n O dX8_copy_98 rfl 1 rfl ?_
          refine g_aald (g := fun j => 10 + 2 * j) O rfl (by decide) (by decide) (by decide) el_2 dX8_copy_99 (fun j17 hj5 => ?_)
          refine g_getR O fw_8_87 (row_c (elk_2 hj5)) dX8_copy_100 rfl ?_
          refine g_iload_n O dX8_copy_103 rfl 2 rfl ?_
          refine g_aload_n O dX8_copy_104 rfl 0 rfl ?_
          refine g_getR O fw_8_11 rfl dX8_copy_105 rfl ?_
          refine g_iload_n O dX8_copy_108 rfl 3 rfl ?_
          refine g_aald (g := fun j => 10 + 2 * j) O rfl (by decide) (by decide) (by decide) el_2 dX8_copy_109 (fun j18 hj6 => ?_)
          refine g_getR O fw_8_87 (row_c (elk_2 hj6)) dX8_copy_110 rfl ?_
          refine g_iload O dX8_copy_113 4 rfl ?_
          refine g_iload O dX8_copy_115 5 rfl ?_
          refine g_copy O mw_2_67 mw_2_69 mw_2_68 mw_1_11 (row_1 (elk_2 hj5)) (row_1 (elk_2 hj6)) (by decide) (by decide) (by rw [hfr]; decide) (by rw [hlo]; exact Nat.le_of_ble_eq_true rfl) dX8_copy_117 (fun s19 => ?_)
          refine g_iconst O dX8_copy_120 ?_
          exact g_iret O hrt rfl dX8_copy_121
        refine g_aload_n O dX8_copy_88 rfl 0 rfl ?_
        refine g_iconst O dX8_copy_89 ?_
        refine g_callV1 (As := [vI 2]) (rest := []) (b := 0) (ci := 8) O mw_2_35 mw_2_37 mp_1_0 mw_2_38 mw_1_1 hd_X8_found rfl ⟨_, _, rfl⟩ rfl dX8_copy_90 (ct_X8_found 2 s16) (by rw [hfr]; decide) (by rw [hlo]; decide) (Nat.le_of_ble_eq_true rfl) (fun v20 s21 => ?_)
        exact g_iret O hrt rfl dX8_copy_93
      refine g_aload_n O dX8_copy_51 rfl 0 rfl ?_
      refine g_iconst O dX8_copy_52 ?_
      refine g_callV1 (As := [vI 1]) (rest := []) (b := 0) (ci := 8) O mw_2_35 mw_2_37 mp_1_0 mw_2_38 mw_1_1 hd_X8_found rfl ⟨_, _, rfl⟩ rfl dX8_copy_53 (ct_X8_found 1 s4) (by rw [hfr]; decide) (by rw [hlo]; decide) (Nat.le_of_ble_eq_true rfl) (fun v22 s23 => ?_)
      exact g_iret O hrt rfl dX8_copy_56
    refine g_aload_n O dX8_copy_21 rfl 0 rfl ?_
    refine g_iconst O dX8_copy_22 ?_
    refine g_callV1 (As := [vI 5]) (rest := []) (b := 0) (ci := 8) O mw_2_35 mw_2_37 mp_1_0 mw_2_38 mw_1_1 hd_X8_found rfl ⟨_, _, rfl⟩ rfl dX8_copy_23 (ct_X8_found 5 s4) (by rw [hfr]; decide) (by rw [hlo]; decide) (Nat.le_of_ble_eq_true rfl) (fun v24 s25 => ?_)
    exact g_iret O hrt rfl dX8_copy_26
  refine g_iconst O dX8_copy_14 ?_
  exact g_iret O hrt rfl dX8_copy_15
def X2_sum_4 (a0 : Nat) (k : Int → St → Rs) : Nat → Int → Int → St → Rs
  | 0, _, _, _ => none
  | n + 1, l1, i3, s => cLt i3 (s a0 0) (rd s (a0 + 1) 40 i3 (fun v1 => X2_sum_4 a0 k n (l1 + (w32 v1)) (i3 + 1) s)) (k l1 s)
def X2_sum (a0 : Nat) (s : St) : Rs := X2_sum_4 a0 (fun x1 s2 => some (x1, s2)) FU 0 0 s
set_option maxRecDepth 20000 in
set_option maxHeartbeats 4000000 in
theorem lt_X2_sum_4 {K : Cx} {X : Wx} (O : OKx LC K X yX2_sum.cls cX2_sum 4) (hrt : (kMe K).sig.returnType = (Option.some .long)) (hfr : (kR K).frames = 0) (hlo : (kR K).locals = 0) {a0 : Nat} {k : Int → St → Rs} (ha0 : Kd LC a0 12) (hk : ∀ (l1 : Int) (s : St), GX LC K X 4 2 28 [(1, vL l1)] [] s (k l1 s)) : ∀ (n : Nat) (l1 : Int) (i3 : Int) (s : St), GX LC K X 4 2 4 [(0, vR a0), (1, vL l1), (3, vI i3)] [] s (X2_sum_4 a0 k n l1 i3 s) := by
  intro n
  induction n with
  | zero => intro l1 i3 s; exact GX.none
  | succ n ih =>
    intro l1 i3 s
    rw [X2_sum_4]
    refine g_iload_n O dX2_sum_4 rfl 2 rfl ?_
    refine g_aload_n O dX2_sum_5 rfl 0 rfl ?_
    refine g_getI O fw_2_9 (row_c ha0) dX2_sum_6 rfl ?_
    refine g_icmp_ge (tgt := 28) O dX2_sum_9 (by decide) ?_ ?_
    · refine g_pick [1] rfl ?_
      exact hk l1 s
    refine g_lload_n O dX2_sum_12 rfl 1 rfl ?_
    refine g_aload_n O dX2_sum_13 rfl 0 rfl ?_
    refine g_getR O fw_2_15 (row_c ha0) dX2_sum_14 rfl ?_
    refine g_iload_n O dX2_sum_17 rfl 2 rfl ?_
    refine g_iald O (row_1 ha0) (by decide) dX2_sum_18 (fun v1 => ?_)
    refine g_i2l O dX2_sum_19 ?_
    refine g_ladd O dX2_sum_20 ?_
    refine g_lstore_n (lv2 := [(1, vL (l1 + (w32 v1))), (0, vR a0), (3, vI i3)]) O dX2_sum_21 rfl (by decide) rfl ?_
    refine g_iinc (lv2 := [(3, vI (i3 + 1)), (1, vL (l1 + (w32 v1))), (0, vR a0)]) O dX2_sum_22 2 rfl (by decide) rfl ?_
    refine g_goto (tgt := 4) O dX2_sum_25 (by decide) ?_
    refine g_pick [2, 1, 0] rfl ?_
    exact ih (l1 + (w32 v1)) (i3 + 1) s
theorem hd_X2_sum : yX2_sum.cls ≠ "java/lang/invoke/MethodHandle" ∧ yX2_sum.cls ≠ "java/lang/invoke/VarHandle" ∧ (parseMethodDescriptor yX2_sum.desc).map (fun d => d.parameters.length) = some 0 := by decide +kernel
set_option maxRecDepth 20000 in
set_option maxHeartbeats 4000000 in
theorem ct_X2_sum {a0 : Nat} (ha0 : Kd LC a0 12)  (s : St) : Ctr LC yX2_sum cX2_sum 4 (Option.some .long) 2 0 0 [vR a0] s (X2_sum a0 s) := by
  refine Ctr.of (by decide +kernel) (fun ρ => Nat.le_of_ble_eq_true rfl) (lv := [(0, vR a0)]) (fun ρ => rfl) (fun K X O hrt hfr hlo => ?_)
  unfold X2_sum
  refine g_lconst (x := 0) O dX2_sum_0 (by decide +kernel) ?_
  refine g_lstore_n (lv2 := [(1, vL 0), (0, vR a0)]) O dX2_sum_1 rfl (by decide) rfl ?_
  refine g_iconst O dX2_sum_2 ?_
  refine g_istore_n (lv2 := [(3, vI 0), (1, vL 0), (0, vR a0)]) O dX2_sum_3 rfl (by decide) rfl ?_
  refine g_pick [2, 1, 0] rfl ?_
  refine lt_X2_sum_4 O hrt hfr hlo ha0 (fun x1 s2 => ?_) FU 0 0 s
  refine g_lload_n O dX2_sum_28 rfl 0 rfl ?_
  exact g_lret O hrt dX2_sum_29
def X8_mean (i1 : Int) (s : St) : Rs := cl (X8_noRow i1 s) (fun v1 s2 => cEq v1 0 (rdR 6 i1 (fun j3 => cLt (s2 (10 + 2 * j3) 0) 0 (cl (X8_found 1 s2) (fun v11 s12 => some (v11, s12))) (cEq (s2 (10 + 2 * j3) 0) 0 (cl (X8_found 4 s2) (fun v9 s10 => some (v9, s10))) (cl (X2_sum (10 + 2 * j3) s2) (fun v4 s5 => dvL v4 (w32 (s5 (10 + 2 * j3) 0)) (fun v6 => cl (X8_tell v6 s5) (fun v7 s8 => some (v7, s8)))))))) (some ((-1), s2)))
theorem hd_X8_mean : yX8_mean.cls ≠ "java/lang/invoke/MethodHandle" ∧ yX8_mean.cls ≠ "java/lang/invoke/VarHandle" ∧ (parseMethodDescriptor yX8_mean.desc).map (fun d => d.parameters.length) = some 1 := by decide +kernel
set_option maxRecDepth 20000 in
set_option maxHeartbeats 4000000 in
theorem ct_X8_mean  (i1 : Int) (s : St) : Ctr LC yX8_mean cX8_mean 3 (Option.some .int) 1 1 23 [vR 0, vI i1] s (X8_mean i1 s) := by
  refine Ctr.of (by decide +kernel) (fun ρ => Nat.le_of_ble_eq_true rfl) (lv := [(0, vR 0), (1, vI i1)]) (fun ρ => rfl) (fun K X O hrt hfr hlo => ?_)
  unfold X8_mean
  refine g_iload_n O dX8_mean_0 rfl 1 rfl ?_
  refine g_callS1 (As := [vI i1]) (rest := []) O mw_2_32 mw_2_33 mw_2_34 mw_1_1 hd_X8_noRow rfl dX8_mean_1 (ct_X8_noRow i1 s) (by rw [hfr]; decide) (by rw [hlo]; decide) (Nat.le_of_ble_eq_true rfl) (fun v1 s2 => ?_)
  refine g_if_eq (tgt := 9) O dX8_mean_4 (by decide) ?_ ?_
  · refine g_aload_n O dX8_mean_9 rfl 0 rfl ?_
    refine g_getR O fw_8_11 rfl dX8_mean_10 rfl ?_
    refine g_iload_n O dX8_mean_13 rfl 1 rfl ?_
    refine g_aald (g := fun j => 10 + 2 * j) O rfl (by decide) (by decide) (by decide) el_2 dX8_mean_14 (fun j3 hj1 => ?_)
    refine g_astore_n (lv2 := [(2, vR (10 + 2 * j3)), (0, vR 0), (1, vI i1)]) O dX8_mean_15 rfl (by decide) rfl ?_
    refine g_aload_n O dX8_mean_16 rfl 0 rfl ?_
    refine g_getI O fw_8_84 (row_c (elk_2 hj1)) dX8_mean_17 rfl ?_
    refine g_if_ge (tgt := 29) O dX8_mean_20 (by decide) ?_ ?_
    · refine g_aload_n O dX8_mean_29 rfl 0 rfl ?_
      refine g_getI O fw_8_84 (row_c (elk_2 hj1)) dX8_mean_30 rfl ?_
      refine g_if_ne (tgt := 42) O dX8_mean_33 (by decide) ?_ ?_
      · refine g_aload_n O dX8_mean_42 rfl 1 rfl ?_
        refine g_aload_n O dX8_mean_43 rfl 0 rfl ?_
        refine g_callV2 (As := []) (rest := [vR 0]) (b := 10 + 2 * j3) (ci := 2) O mw_2_74 mw_2_75 mw_2_76 mw_2_77 mw_1_8 hd_X2_sum rfl (elk_2 hj1) rfl dX8_mean_44 (ct_X2_sum (elk_2 hj1)  s2) (by rw [hfr]; decide) (by rw [hlo]; decide) (Nat.le_of_ble_eq_true rfl) (fun v4 s5 => ?_)
        refine g_aload_n O dX8_mean_47 rfl 0 rfl ?_
        refine g_getI O fw_8_84 (row_c (elk_2 hj1)) dX8_mean_48 rfl ?_
        refine g_i2l O dX8_mean_51 ?_
        refine g_ldiv O dX8_mean_52 (fun v6 => ?_)
        refine g_l2i O dX8_mean_53 ?_
        refine g_callV1 (As := [vI v6]) (rest := []) (b := 0) (ci := 8) O mw_2_47 mw_2_49 mp_1_1 mw_2_50 mw_1_1 hd_X8_tell rfl ⟨_, _, rfl⟩ rfl dX8_mean_54 (ct_X8_tell v6 s5) (by rw [hfr]; decide) (by rw [hlo]; decide) (Nat.le_of_ble_eq_true rfl) (fun v7 s8 => ?_)
        exact g_iret O hrt rfl dX8_mean_57
      refine g_aload_n O dX8_mean_36 rfl 1 rfl ?_
      refine g_iconst O dX8_mean_37 ?_
      refine g_callV1 (As := [vI 4]) (rest := []) (b := 0) (ci := 8) O mw_2_35 mw_2_37 mp_1_0 mw_2_38 mw_1_1 hd_X8_found rfl ⟨_, _, rfl⟩ rfl dX8_mean_38 (ct_X8_found 4 s2) (by rw [hfr]; decide) (by rw [hlo]; decide) (Nat.le_of_ble_eq_true rfl) (fun v9 s10 => ?_)
      exact g_iret O hrt rfl dX8_mean_41
    refine g_aload_n O dX8_mean_23 rfl 1 rfl ?_
    refine g_iconst O dX8_mean_24 ?_
    refine g_callV1 (As := [vI 1]) (rest := []) (b := 0) (ci := 8) O mw_2_35 mw_2_37 mp_1_0 mw_2_38 mw_1_1 hd_X8_found rfl ⟨_, _, rfl⟩ rfl dX8_mean_25 (ct_X8_found 1 s2) (by rw [hfr]; decide) (by rw [hlo]; decide) (Nat.le_of_ble_eq_true rfl) (fun v11 s12 => ?_)
    exact g_iret O hrt rfl dX8_mean_28
  refine g_iconst O dX8_mean_7 ?_
  exact g_iret O hrt rfl dX8_mean_8
def X8_noText (i0 : Int) (s : St) : Rs := cLt i0 0 (some (1, s)) (cLt i0 4 (some (0, s)) (some (1, s)))
theorem hd_X8_noText : yX8_noText.cls ≠ "java/lang/invoke/MethodHandle" ∧ yX8_noText.cls ≠ "java/lang/invoke/VarHandle" ∧ (parseMethodDescriptor yX8_noText.desc).map (fun d => d.parameters.length) = some 1 := by decide +kernel
set_option maxRecDepth 20000 in
set_option maxHeartbeats 4000000 in
theorem ct_X8_noText  (i0 : Int) (s : St) : Ctr LC yX8_noText cX8_noText 1 (Option.some .boolean) 1 0 0 [vI i0] s (X8_noText i0 s) := by
  refine Ctr.of (by decide +kernel) (fun ρ => Nat.le_of_ble_eq_true rfl) (lv := [(0, vI i0)]) (fun ρ => rfl) (fun K X O hrt hfr hlo => ?_)
  unfold X8_noText
  refine g_iload_n O dX8_noText_0 rfl 0 rfl ?_
  refine g_if_lt (tgt := 9) O dX8_noText_1 (by decide) ?_ ?_
  · refine g_iconst O dX8_noText_9 ?_
    refine g_goto (tgt := 14) O dX8_noText_10 (by decide) ?_
    exact g_iret O hrt (by decide +kernel) dX8_noText_14
  refine g_iload_n O dX8_noText_4 rfl 0 rfl ?_
  refine g_iconst O dX8_noText_5 ?_
  refine g_icmp_lt (tgt := 13) O dX8_noText_6 (by decide) ?_ ?_
  · refine g_iconst O dX8_noText_13 ?_
    exact g_iret O hrt (by decide +kernel) dX8_noText_14
  refine g_iconst O dX8_noText_9 ?_
  refine g_goto (tgt := 14) O dX8_noText_10 (by decide) ?_
  exact g_iret O hrt (by decide +kernel) dX8_noText_14
def X5_begin_7 (a0 : Nat) (k : St → Rs) : Nat → Int → St → Rs
  | 0, _, _ => none
  | n + 1, i2, s => cLt i2 60 (wr s (a0 + 1) 60 i2 (nb8 32) (fun s1 => X5_begin_7 a0 k n (i2 + 1) s1)) (k s)
def X5_begin (a0 : Nat) (i1 : Int) (s : St) : Rs := put s a0 0 i1 (fun s1 => X5_begin_7 a0 (fun s2 => some (0, s2)) FU 0 s1)
set_option maxRecDepth 20000 in
set_option maxHeartbeats 4000000 in
theorem lt_X5_begin_7 {K : Cx} {X : Wx} (O : OKx LC K X yX5_begin.cls cX5_begin 3) (hrt : (kMe K).sig.returnType = none) (hfr : (kR K).frames = 0) (hlo : (kR K).locals = 0) {a0 : Nat} {k : St → Rs} (ha0 : Kd LC a0 15) (hk : ∀  (s : St), GX LC K X 3 0 27 [] [] s (k s)) : ∀ (n : Nat) (i2 : Int) (s : St), GX LC K X 3 0 7 [(0, vR a0), (2, vI i2)] [] s (X5_begin_7 a0 k n i2 s) := by
  intro n
  induction n with
  | zero => intro i2 s; exact GX.none
  | succ n ih =>
    intro i2 s
    rw [X5_begin_7]
    refine g_iload_n O dX5_begin_7 rfl 1 rfl ?_
    refine g_bipush O dX5_begin_8 (by decide +kernel) ?_
    refine g_icmp_ge (tgt := 27) O dX5_begin_10 (by decide) ?_ ?_
    · refine g_pick [] rfl ?_
      exact hk s
    refine g_aload_n O dX5_begin_13 rfl 0 rfl ?_
    refine g_getR O fw_5_15 (txt_c ha0) dX5_begin_14 rfl ?_
    refine g_iload_n O dX5_begin_17 rfl 1 rfl ?_
    refine g_bipush O dX5_begin_18 (by decide +kernel) ?_
    refine g_bast O (txt_1 ha0) (by decide) dX5_begin_20 (fun s1 => ?_)
    refine g_iinc (lv2 := [(2, vI (i2 + 1)), (0, vR a0)]) O dX5_begin_21 1 rfl (by decide) rfl ?_
    refine g_goto (tgt := 7) O dX5_begin_24 (by decide) ?_
    refine g_pick [1, 0] rfl ?_
    exact ih (i2 + 1) s1
theorem hd_X5_begin : yX5_begin.cls ≠ "java/lang/invoke/MethodHandle" ∧ yX5_begin.cls ≠ "java/lang/invoke/VarHandle" ∧ (parseMethodDescriptor yX5_begin.desc).map (fun d => d.parameters.length) = some 1 := by decide +kernel
set_option maxRecDepth 20000 in
set_option maxHeartbeats 4000000 in
theorem ct_X5_begin {a0 : Nat} (ha0 : Kd LC a0 15) (i1 : Int) (s : St) : Ctr LC yX5_begin cX5_begin 3 none 0 0 0 [vR a0, vI i1] s (X5_begin a0 i1 s) := by
  refine Ctr.of (by decide +kernel) (fun ρ => Nat.le_of_ble_eq_true rfl) (lv := [(0, vR a0), (1, vI i1)]) (fun ρ => rfl) (fun K X O hrt hfr hlo => ?_)
  unfold X5_begin
  refine g_aload_n O dX5_begin_0 rfl 0 rfl ?_
  refine g_iload_n O dX5_begin_1 rfl 1 rfl ?_
  refine g_putI O fw_5_9 (txt_c ha0) dX5_begin_2 rfl rfl rfl (fun s1 => ?_)
  refine g_iconst O dX5_begin_5 ?_
  refine g_istore_n (lv2 := [(2, vI 0), (0, vR a0), (1, vI i1)]) O dX5_begin_6 rfl (by decide) rfl ?_
  refine g_pick [1, 0] rfl ?_
  refine lt_X5_begin_7 O hrt hfr hlo ha0 (fun s2 => ?_) FU 0 s1
  exact g_vret O hrt dX5_begin_27
def X8_text (i1 : Int) (i2 : Int) (s : St) : Rs := cl (X8_noText i1 s) (fun v1 s2 => cEq v1 0 (cLt 60 i2 (some ((-1), s2)) (cLt i2 0 (cl (X8_found 5 s2) (fun v6 s7 => some (v6, s7))) (rdR 4 i1 (fun j3 => cl (X5_begin (22 + 2 * j3) i2 s2) (fun _ s5 => some (i2, s5)))))) (some ((-1), s2)))
theorem hd_X8_text : yX8_text.cls ≠ "java/lang/invoke/MethodHandle" ∧ yX8_text.cls ≠ "java/lang/invoke/VarHandle" ∧ (parseMethodDescriptor yX8_text.desc).map (fun d => d.parameters.length) = some 2 := by decide +kernel
set_option maxRecDepth 20000 in
set_option maxHeartbeats 4000000 in
theorem ct_X8_text  (i1 : Int) (i2 : Int) (s : St) : Ctr LC yX8_text cX8_text 3 (Option.some .int) 1 1 22 [vR 0, vI i1, vI i2] s (X8_text i1 i2 s) := by
  refine Ctr.of (by decide +kernel) (fun ρ => Nat.le_of_ble_eq_true rfl) (lv := [(0, vR 0), (1, vI i1), (2, vI i2)]) (fun ρ => rfl) (fun K X O hrt hfr hlo => ?_)
  unfold X8_text
  refine g_iload_n O dX8_text_0 rfl 1 rfl ?_
  refine g_callS1 (As := [vI i1]) (rest := []) O mw_2_82 mw_2_83 mw_2_84 mw_1_1 hd_X8_noText rfl dX8_text_1 (ct_X8_noText i1 s) (by rw [hfr]; decide) (by rw [hlo]; decide) (Nat.le_of_ble_eq_true rfl) (fun v1 s2 => ?_)
  refine g_if_ne (tgt := 13) O dX8_text_4 (by decide) ?_ ?_
  · refine g_iconst O dX8_text_13 ?_
    exact g_iret O hrt rfl dX8_text_14
  refine g_iload_n O dX8_text_7 rfl 2 rfl ?_
  refine g_bipush O dX8_text_8 (by decide +kernel) ?_
  refine g_icmp_le (tgt := 15) O dX8_text_10 (by decide) ?_ ?_
  · refine g_iload_n O dX8_text_15 rfl 2 rfl ?_
    refine g_if_ge (tgt := 25) O dX8_text_16 (by decide) ?_ ?_
    · refine g_aload_n O dX8_text_25 rfl 0 rfl ?_
      refine g_getR O fw_8_17 rfl dX8_text_26 rfl ?_
      refine g_iload_n O dX8_text_29 rfl 1 rfl ?_
      refine g_aald (g := fun j => 22 + 2 * j) O rfl (by decide) (by decide) (by decide) el_3 dX8_text_30 (fun j3 hj1 => ?_)
      refine g_iload_n O dX8_text_31 rfl 2 rfl ?_
      refine g_callV0 (As := [vI i2]) (rest := []) (b := 22 + 2 * j3) (ci := 5) O mw_2_85 mw_2_86 mw_2_87 mw_2_88 mw_1_9 hd_X5_begin rfl (elk_3 hj1) rfl dX8_text_32 (ct_X5_begin (elk_3 hj1) i2 s2) (by rw [hfr]; decide) (by rw [hlo]; decide) (Nat.le_of_ble_eq_true rfl) (fun _ s5 => ?_)
      refine g_iload_n O dX8_text_35 rfl 2 rfl ?_
      exact g_iret O hrt rfl dX8_text_36
    refine g_aload_n O dX8_text_19 rfl 0 rfl ?_
    refine g_iconst O dX8_text_20 ?_
    refine g_callV1 (As := [vI 5]) (rest := []) (b := 0) (ci := 8) O mw_2_35 mw_2_37 mp_1_0 mw_2_38 mw_1_1 hd_X8_found rfl ⟨_, _, rfl⟩ rfl dX8_text_21 (ct_X8_found 5 s2) (by rw [hfr]; decide) (by rw [hlo]; decide) (Nat.le_of_ble_eq_true rfl) (fun v6 s7 => ?_)
    exact g_iret O hrt rfl dX8_text_24
  refine g_iconst O dX8_text_13 ?_
  exact g_iret O hrt rfl dX8_text_14
def X8_put (i1 : Int) (i2 : Int) (i3 : Int) (s : St) : Rs := cl (X8_noText i1 s) (fun v1 s2 => cEq v1 0 (rdR 4 i1 (fun j3 => cLt (s2 (22 + 2 * j3) 0) 0 (cl (X8_found 1 s2) (fun v10 s11 => some (v10, s11))) (cLt i2 0 (cl (X8_found 2 s2) (fun v4 s5 => some (v4, s5))) (cLt i2 (s2 (22 + 2 * j3) 0) (rd s2 ((22 + 2 * j3) + 1) 60 i2 (fun v6 => wr s2 ((22 + 2 * j3) + 1) 60 i2 (nb8 (nb8 i3)) (fun s7 => some (v6 + 1000, s7)))) (cl (X8_found 2 s2) (fun v8 s9 => some (v8, s9))))))) (some ((-1), s2)))
theorem hd_X8_put : yX8_put.cls ≠ "java/lang/invoke/MethodHandle" ∧ yX8_put.cls ≠ "java/lang/invoke/VarHandle" ∧ (parseMethodDescriptor yX8_put.desc).map (fun d => d.parameters.length) = some 3 := by decide +kernel
set_option maxRecDepth 20000 in
set_option maxHeartbeats 4000000 in
theorem ct_X8_put  (i1 : Int) (i2 : Int) (i3 : Int) (s : St) : Ctr LC yX8_put cX8_put 6 (Option.some .int) 1 1 21 [vR 0, vI i1, vI i2, vI i3] s (X8_put i1 i2 i3 s) := by
  refine Ctr.of (by decide +kernel) (fun ρ => Nat.le_of_ble_eq_true rfl) (lv := [(0, vR 0), (1, vI i1), (2, vI i2), (3, vI i3)]) (fun ρ => rfl) (fun K X O hrt hfr hlo => ?_)
  unfold X8_put
  refine g_iload_n O dX8_put_0 rfl 1 rfl ?_
  refine g_callS1 (As := [vI i1]) (rest := []) O mw_2_82 mw_2_83 mw_2_84 mw_1_1 hd_X8_noText rfl dX8_put_1 (ct_X8_noText i1 s) (by rw [hfr]; decide) (by rw [hlo]; decide) (Nat.le_of_ble_eq_true rfl) (fun v1 s2 => ?_)
  refine g_if_eq (tgt := 9) O dX8_put_4 (by decide) ?_ ?_
  · refine g_aload_n O dX8_put_9 rfl 0 rfl ?_
    refine g_getR O fw_8_17 rfl dX8_put_10 rfl ?_
    refine g_iload_n O dX8_put_13 rfl 1 rfl ?_
    refine g_aald (g := fun j => 22 + 2 * j) O rfl (by decide) (by decide) (by decide) el_3 dX8_put_14 (fun j3 hj1 => ?_)
    refine g_astore (lv2 := [(4, vR (22 + 2 * j3)), (0, vR 0), (1, vI i1), (2, vI i2), (3, vI i3)]) O dX8_put_15 (by decide) rfl ?_
    refine g_aload O dX8_put_17 0 rfl ?_
    refine g_getI O fw_8_111 (txt_c (elk_3 hj1)) dX8_put_19 rfl ?_
    refine g_if_ge (tgt := 31) O dX8_put_22 (by decide) ?_ ?_
    · refine g_iload_n O dX8_put_31 rfl 3 rfl ?_
      refine g_if_lt (tgt := 44) O dX8_put_32 (by decide) ?_ ?_
      · refine g_aload_n O dX8_put_44 rfl 1 rfl ?_
        refine g_iconst O dX8_put_45 ?_
        refine g_callV1 (As := [vI 2]) (rest := []) (b := 0) (ci := 8) O mw_2_35 mw_2_37 mp_1_0 mw_2_38 mw_1_1 hd_X8_found rfl ⟨_, _, rfl⟩ rfl dX8_put_46 (ct_X8_found 2 s2) (by rw [hfr]; decide) (by rw [hlo]; decide) (Nat.le_of_ble_eq_true rfl) (fun v4 s5 => ?_)
        exact g_iret O hrt rfl dX8_put_49
      refine g_iload_n O dX8_put_35 rfl 3 rfl ?_
      refine g_aload O dX8_put_36 0 rfl ?_
      refine g_getI O fw_8_111 (txt_c (elk_3 hj1)) dX8_put_38 rfl ?_
      refine g_icmp_lt (tgt := 50) O dX8_put_41 (by decide) ?_ ?_
      · refine g_aload O dX8_put_50 0 rfl ?_
        refine g_getR O fw_8_112 (txt_c (elk_3 hj1)) dX8_put_52 rfl ?_
        refine g_iload_n O dX8_put_55 rfl 3 rfl ?_
        refine g_bald O (txt_1 (elk_3 hj1)) (by decide) dX8_put_56 (fun v6 => ?_)
        refine g_istore (lv2 := [(5, vI v6), (4, vR (22 + 2 * j3)), (0, vR 0), (1, vI i1), (2, vI i2), (3, vI i3)]) O dX8_put_57 (by decide) rfl ?_
        refine g_aload O dX8_put_59 1 rfl ?_
        refine g_getR O fw_8_112 (txt_c (elk_3 hj1)) dX8_put_61 rfl ?_
        refine g_iload_n O dX8_put_64 rfl 4 rfl ?_
        refine g_iload_n O dX8_put_65 rfl 5 rfl ?_
        refine g_i2b O dX8_put_66 ?_
        refine g_bast O (txt_1 (elk_3 hj1)) (by decide) dX8_put_67 (fun s7 => ?_)
        refine g_iload O dX8_put_68 0 rfl ?_
        refine g_sipush O dX8_put_70 (by decide +kernel) ?_
        refine g_iadd O dX8_put_73 ?_
        exact g_iret O hrt rfl dX8_put_74
      refine g_aload_n O dX8_put_44 rfl 1 rfl ?_
      refine g_iconst O dX8_put_45 ?_
      refine g_callV1 (As := [vI 2]) (rest := []) (b := 0) (ci := 8) O mw_2_35 mw_2_37 mp_1_0 mw_2_38 mw_1_1 hd_X8_found rfl ⟨_, _, rfl⟩ rfl dX8_put_46 (ct_X8_found 2 s2) (by rw [hfr]; decide) (by rw [hlo]; decide) (Nat.le_of_ble_eq_true rfl) (fun v8 s9 => ?_)
      exact g_iret O hrt rfl dX8_put_49
    refine g_aload_n O dX8_put_25 rfl 1 rfl ?_
    refine g_iconst O dX8_put_26 ?_
    refine g_callV1 (As := [vI 1]) (rest := []) (b := 0) (ci := 8) O mw_2_35 mw_2_37 mp_1_0 mw_2_38 mw_1_1 hd_X8_found rfl ⟨_, _, rfl⟩ rfl dX8_put_27 (ct_X8_found 1 s2) (by rw [hfr]; decide) (by rw [hlo]; decide) (Nat.le_of_ble_eq_true rfl) (fun v10 s11 => ?_)
    exact g_iret O hrt rfl dX8_put_30
  refine g_iconst O dX8_put_7 ?_
  exact g_iret O hrt rfl dX8_put_8
def X1_opens  (s : St) : Rs := cEq (s 9 5) 1 (cEq (s 47 0) 0 (some (0, s)) (cLt (s 9 3) 12 (put s 47 0 ((s 47 0) - 1) (fun s1 => rd s1 48 12 (s1 47 0) (fun v2 => wr s1 50 12 (s1 9 3) v2 (fun s3 => wr s3 51 12 (s3 9 3) (s3 47 0) (fun s4 => put s4 9 3 ((s4 9 3) + 1) (fun s5 => put s5 9 5 2 (fun s6 => some (1, s6)))))))) (some (0, s)))) (some (0, s))
theorem hd_X1_opens : yX1_opens.cls ≠ "java/lang/invoke/MethodHandle" ∧ yX1_opens.cls ≠ "java/lang/invoke/VarHandle" ∧ (parseMethodDescriptor yX1_opens.desc).map (fun d => d.parameters.length) = some 0 := by decide +kernel
set_option maxRecDepth 20000 in
set_option maxHeartbeats 4000000 in
theorem ct_X1_opens   (s : St) : Ctr LC yX1_opens cX1_opens 1 (Option.some .boolean) 1 0 0 [vR 9] s (X1_opens s) := by
  refine Ctr.of (by decide +kernel) (fun ρ => Nat.le_of_ble_eq_true rfl) (lv := [(0, vR 9)]) (fun ρ => rfl) (fun K X O hrt hfr hlo => ?_)
  unfold X1_opens
  refine g_aload_n O dX1_opens_0 rfl 0 rfl ?_
  refine g_getI O fw_1_32 rfl dX1_opens_1 rfl ?_
  refine g_iconst O dX1_opens_4 ?_
  refine g_icmp_ne (tgt := 27) O dX1_opens_5 (by decide) ?_ ?_
  · refine g_iconst O dX1_opens_27 ?_
    exact g_iret O hrt (by decide +kernel) dX1_opens_28
  refine g_aload_n O dX1_opens_8 rfl 0 rfl ?_
  refine g_getR O fw_1_12 rfl dX1_opens_9 rfl ?_
  refine g_getI O fw_1_35 rfl dX1_opens_12 rfl ?_
  refine g_if_eq (tgt := 27) O dX1_opens_15 (by decide) ?_ ?_
  · refine g_iconst O dX1_opens_27 ?_
    exact g_iret O hrt (by decide +kernel) dX1_opens_28
  refine g_aload_n O dX1_opens_18 rfl 0 rfl ?_
  refine g_getI O fw_1_25 rfl dX1_opens_19 rfl ?_
  refine g_bipush O dX1_opens_22 (by decide +kernel) ?_
  refine g_icmp_lt (tgt := 29) O dX1_opens_24 (by decide) ?_ ?_
  · refine g_aload_n O dX1_opens_29 rfl 0 rfl ?_
    refine g_getR O fw_1_12 rfl dX1_opens_30 rfl ?_
    refine g_dup O dX1_opens_33 rfl ?_
    refine g_getI O fw_1_35 rfl dX1_opens_34 rfl ?_
    refine g_iconst O dX1_opens_37 ?_
    refine g_isub O dX1_opens_38 ?_
    refine g_putI O fw_1_35 rfl dX1_opens_39 rfl rfl rfl (fun s1 => ?_)
    refine g_aload_n O dX1_opens_42 rfl 0 rfl ?_
    refine g_getR O fw_1_18 rfl dX1_opens_43 rfl ?_
    refine g_aload_n O dX1_opens_46 rfl 0 rfl ?_
    refine g_getI O fw_1_25 rfl dX1_opens_47 rfl ?_
    refine g_aload_n O dX1_opens_50 rfl 0 rfl ?_
    refine g_getR O fw_1_12 rfl dX1_opens_51 rfl ?_
    refine g_getR O fw_1_69 rfl dX1_opens_54 rfl ?_
    refine g_aload_n O dX1_opens_57 rfl 0 rfl ?_
    refine g_getR O fw_1_12 rfl dX1_opens_58 rfl ?_
    refine g_getI O fw_1_35 rfl dX1_opens_61 rfl ?_
    refine g_iald O rfl (by decide) dX1_opens_64 (fun v2 => ?_)
    refine g_iast O rfl (by decide) dX1_opens_65 (fun s3 => ?_)
    refine g_aload_n O dX1_opens_66 rfl 0 rfl ?_
    refine g_getR O fw_1_22 rfl dX1_opens_67 rfl ?_
    refine g_aload_n O dX1_opens_70 rfl 0 rfl ?_
    refine g_getI O fw_1_25 rfl dX1_opens_71 rfl ?_
    refine g_aload_n O dX1_opens_74 rfl 0 rfl ?_
    refine g_getR O fw_1_12 rfl dX1_opens_75 rfl ?_
    refine g_getI O fw_1_35 rfl dX1_opens_78 rfl ?_
    refine g_iast O rfl (by decide) dX1_opens_81 (fun s4 => ?_)
    refine g_aload_n O dX1_opens_82 rfl 0 rfl ?_
    refine g_dup O dX1_opens_83 rfl ?_
    refine g_getI O fw_1_25 rfl dX1_opens_84 rfl ?_
    refine g_iconst O dX1_opens_87 ?_
    refine g_iadd O dX1_opens_88 ?_
    refine g_putI O fw_1_25 rfl dX1_opens_89 rfl rfl rfl (fun s5 => ?_)
    refine g_aload_n O dX1_opens_92 rfl 0 rfl ?_
    refine g_iconst O dX1_opens_93 ?_
    refine g_putI O fw_1_32 rfl dX1_opens_94 rfl rfl rfl (fun s6 => ?_)
    refine g_iconst O dX1_opens_97 ?_
    exact g_iret O hrt (by decide +kernel) dX1_opens_98
  refine g_iconst O dX1_opens_27 ?_
  exact g_iret O hrt (by decide +kernel) dX1_opens_28
def X6_append (a0 : Nat) (i1 : Int) (i2 : Int) (s : St) : Rs := cLt (s a0 0) 12 (wr s (a0 + 1) 12 (s a0 0) i1 (fun s1 => wr s1 (a0 + 2) 12 (s1 a0 0) i2 (fun s2 => put s2 a0 0 ((s2 a0 0) + 1) (fun s3 => some (0, s3))))) (some (0, s))
theorem hd_X6_append : yX6_append.cls ≠ "java/lang/invoke/MethodHandle" ∧ yX6_append.cls ≠ "java/lang/invoke/VarHandle" ∧ (parseMethodDescriptor yX6_append.desc).map (fun d => d.parameters.length) = some 2 := by decide +kernel
set_option maxRecDepth 20000 in
set_option maxHeartbeats 4000000 in
theorem ct_X6_append {a0 : Nat} (ha0 : Kd LC a0 16) (i1 : Int) (i2 : Int) (s : St) : Ctr LC yX6_append cX6_append 3 none 0 0 0 [vR a0, vI i1, vI i2] s (X6_append a0 i1 i2 s) := by
  refine Ctr.of (by decide +kernel) (fun ρ => Nat.le_of_ble_eq_true rfl) (lv := [(0, vR a0), (1, vI i1), (2, vI i2)]) (fun ρ => rfl) (fun K X O hrt hfr hlo => ?_)
  unfold X6_append
  refine g_aload_n O dX6_append_0 rfl 0 rfl ?_
  refine g_getI O fw_6_9 (tree_c ha0) dX6_append_1 rfl ?_
  refine g_bipush O dX6_append_4 (by decide +kernel) ?_
  refine g_icmp_ge (tgt := 39) O dX6_append_6 (by decide) ?_ ?_
  · exact g_vret O hrt dX6_append_39
  refine g_aload_n O dX6_append_9 rfl 0 rfl ?_
  refine g_getR O fw_6_15 (tree_c ha0) dX6_append_10 rfl ?_
  refine g_aload_n O dX6_append_13 rfl 0 rfl ?_
  refine g_getI O fw_6_9 (tree_c ha0) dX6_append_14 rfl ?_
  refine g_iload_n O dX6_append_17 rfl 1 rfl ?_
  refine g_iast O (tree_1 ha0) (by decide) dX6_append_18 (fun s1 => ?_)
  refine g_aload_n O dX6_append_19 rfl 0 rfl ?_
  refine g_getR O fw_6_19 (tree_c ha0) dX6_append_20 rfl ?_
  refine g_aload_n O dX6_append_23 rfl 0 rfl ?_
  refine g_getI O fw_6_9 (tree_c ha0) dX6_append_24 rfl ?_
  refine g_iload_n O dX6_append_27 rfl 2 rfl ?_
  refine g_iast O (tree_2 ha0) (by decide) dX6_append_28 (fun s2 => ?_)
  refine g_aload_n O dX6_append_29 rfl 0 rfl ?_
  refine g_dup O dX6_append_30 rfl ?_
  refine g_getI O fw_6_9 (tree_c ha0) dX6_append_31 rfl ?_
  refine g_iconst O dX6_append_34 ?_
  refine g_iadd O dX6_append_35 ?_
  refine g_putI O fw_6_9 (tree_c ha0) dX6_append_36 rfl rfl rfl (fun s3 => ?_)
  exact g_vret O hrt dX6_append_39
def X1_closes  (s : St) : Rs := cEq (s 9 5) 2 (some (0, s)) (cEq (s 9 3) 0 (some (0, s)) (put s 9 3 ((s 9 3) - 1) (fun s1 => rd s1 50 12 (s1 9 3) (fun v2 => rd s1 51 12 (s1 9 3) (fun v3 => cl (X6_append 47 v2 (((s1 47 0) - v3) + 1) s1) (fun _ s5 => put s5 9 5 3 (fun s6 => some (1, s6))))))))
theorem hd_X1_closes : yX1_closes.cls ≠ "java/lang/invoke/MethodHandle" ∧ yX1_closes.cls ≠ "java/lang/invoke/VarHandle" ∧ (parseMethodDescriptor yX1_closes.desc).map (fun d => d.parameters.length) = some 0 := by decide +kernel
set_option maxRecDepth 20000 in
set_option maxHeartbeats 4000000 in
theorem ct_X1_closes   (s : St) : Ctr LC yX1_closes cX1_closes 1 (Option.some .boolean) 1 1 22 [vR 9] s (X1_closes s) := by
  refine Ctr.of (by decide +kernel) (fun ρ => Nat.le_of_ble_eq_true rfl) (lv := [(0, vR 9)]) (fun ρ => rfl) (fun K X O hrt hfr hlo => ?_)
  unfold X1_closes
  refine g_aload_n O dX1_closes_0 rfl 0 rfl ?_
  refine g_getI O fw_1_32 rfl dX1_closes_1 rfl ?_
  refine g_iconst O dX1_closes_4 ?_
  refine g_icmp_eq (tgt := 15) O dX1_closes_5 (by decide) ?_ ?_
  · refine g_iconst O dX1_closes_15 ?_
    exact g_iret O hrt (by decide +kernel) dX1_closes_16
  refine g_aload_n O dX1_closes_8 rfl 0 rfl ?_
  refine g_getI O fw_1_25 rfl dX1_closes_9 rfl ?_
  refine g_if_ne (tgt := 17) O dX1_closes_12 (by decide) ?_ ?_
  · refine g_aload_n O dX1_closes_17 rfl 0 rfl ?_
    refine g_dup O dX1_closes_18 rfl ?_
    refine g_getI O fw_1_25 rfl dX1_closes_19 rfl ?_
    refine g_iconst O dX1_closes_22 ?_
    refine g_isub O dX1_closes_23 ?_
    refine g_putI O fw_1_25 rfl dX1_closes_24 rfl rfl rfl (fun s1 => ?_)
    refine g_aload_n O dX1_closes_27 rfl 0 rfl ?_
    refine g_getR O fw_1_12 rfl dX1_closes_28 rfl ?_
    refine g_aload_n O dX1_closes_31 rfl 0 rfl ?_
    refine g_getR O fw_1_18 rfl dX1_closes_32 rfl ?_
    refine g_aload_n O dX1_closes_35 rfl 0 rfl ?_
    refine g_getI O fw_1_25 rfl dX1_closes_36 rfl ?_
    refine g_iald O rfl (by decide) dX1_closes_39 (fun v2 => ?_)
    refine g_aload_n O dX1_closes_40 rfl 0 rfl ?_
    refine g_getR O fw_1_12 rfl dX1_closes_41 rfl ?_
    refine g_getI O fw_1_35 rfl dX1_closes_44 rfl ?_
    refine g_aload_n O dX1_closes_47 rfl 0 rfl ?_
    refine g_getR O fw_1_22 rfl dX1_closes_48 rfl ?_
    refine g_aload_n O dX1_closes_51 rfl 0 rfl ?_
    refine g_getI O fw_1_25 rfl dX1_closes_52 rfl ?_
    refine g_iald O rfl (by decide) dX1_closes_55 (fun v3 => ?_)
    refine g_isub O dX1_closes_56 ?_
    refine g_iconst O dX1_closes_57 ?_
    refine g_iadd O dX1_closes_58 ?_
    refine g_callV0 (As := [vI v2, vI (((s1 47 0) - v3) + 1)]) (rest := []) (b := 47) (ci := 6) O mw_2_113 mw_2_114 mw_2_115 mw_2_116 mw_1_4 hd_X6_append rfl ⟨_, _, rfl⟩ rfl dX1_closes_59 (ct_X6_append ⟨_, _, rfl⟩ v2 (((s1 47 0) - v3) + 1) s1) (by rw [hfr]; decide) (by rw [hlo]; decide) (Nat.le_of_ble_eq_true rfl) (fun _ s5 => ?_)
    refine g_aload_n O dX1_closes_62 rfl 0 rfl ?_
    refine g_iconst O dX1_closes_63 ?_
    refine g_putI O fw_1_32 rfl dX1_closes_64 rfl rfl rfl (fun s6 => ?_)
    refine g_iconst O dX1_closes_67 ?_
    exact g_iret O hrt (by decide +kernel) dX1_closes_68
  refine g_iconst O dX1_closes_15 ?_
  exact g_iret O hrt (by decide +kernel) dX1_closes_16
def X8_kindOf (i0 : Int) (s : St) : Rs := jn (fun  (s1 : St) => jn (fun  (s3 : St) => jn (fun  (s5 : St) => jn (fun  (s7 : St) => cLt i0 106 (some ((-1), s7)) (cLt 114 i0 (some ((-1), s7)) (some (4, s7)))) (fun k8 => cLt i0 74 (k8 s5) (cLt 82 i0 (k8 s5) (some (3, s5))))) (fun k6 => cLt i0 48 (k6 s3) (cLt 57 i0 (k6 s3) (some (2, s3))))) (fun k4 => cLt i0 65 (k4 s1) (cLt 73 i0 (k4 s1) (some (1, s1))))) (fun k2 => cLt i0 97 (k2 s) (cLt 105 i0 (k2 s) (some (0, s))))
theorem hd_X8_kindOf : yX8_kindOf.cls ≠ "java/lang/invoke/MethodHandle" ∧ yX8_kindOf.cls ≠ "java/lang/invoke/VarHandle" ∧ (parseMethodDescriptor yX8_kindOf.desc).map (fun d => d.parameters.length) = some 1 := by decide +kernel
set_option maxRecDepth 20000 in
set_option maxHeartbeats 4000000 in
theorem ct_X8_kindOf  (i0 : Int) (s : St) : Ctr LC yX8_kindOf cX8_kindOf 1 (Option.some .int) 1 0 0 [vI i0] s (X8_kindOf i0 s) := by
  refine Ctr.of (by decide +kernel) (fun ρ => Nat.le_of_ble_eq_true rfl) (lv := [(0, vI i0)]) (fun ρ => rfl) (fun K X O hrt hfr hlo => ?_)
  unfold X8_kindOf
  refine g_iload_n O dX8_kindOf_0 rfl 0 rfl ?_
  refine g_bipush O dX8_kindOf_1 (by decide +kernel) ?_
  refine g_jn (fun (j : St → Rs) => ∀  (s1 : St), GX LC K X 1 1 14 [(0, vI i0)] [] s1 (j  s1)) ?_ ?_
  · intro  s1
    refine g_iload_n O dX8_kindOf_14 rfl 0 rfl ?_
    refine g_bipush O dX8_kindOf_15 (by decide +kernel) ?_
    refine g_jn (fun (j : St → Rs) => ∀  (s3 : St), GX LC K X 1 1 28 [(0, vI i0)] [] s3 (j  s3)) ?_ ?_
    · intro  s3
      refine g_iload_n O dX8_kindOf_28 rfl 0 rfl ?_
      refine g_bipush O dX8_kindOf_29 (by decide +kernel) ?_
      refine g_jn (fun (j : St → Rs) => ∀  (s5 : St), GX LC K X 1 1 42 [(0, vI i0)] [] s5 (j  s5)) ?_ ?_
      · intro  s5
        refine g_iload_n O dX8_kindOf_42 rfl 0 rfl ?_
        refine g_bipush O dX8_kindOf_43 (by decide +kernel) ?_
        refine g_jn (fun (j : St → Rs) => ∀  (s7 : St), GX LC K X 1 1 56 [(0, vI i0)] [] s7 (j  s7)) ?_ ?_
        · intro  s7
          refine g_iload_n O dX8_kindOf_56 rfl 0 rfl ?_
          refine g_bipush O dX8_kindOf_57 (by decide +kernel) ?_
          refine g_icmp_lt (tgt := 70) O dX8_kindOf_59 (by decide) ?_ ?_
          · refine g_iconst O dX8_kindOf_70 ?_
            exact g_iret O hrt rfl dX8_kindOf_71
          refine g_iload_n O dX8_kindOf_62 rfl 0 rfl ?_
          refine g_bipush O dX8_kindOf_63 (by decide +kernel) ?_
          refine g_icmp_gt (tgt := 70) O dX8_kindOf_65 (by decide) ?_ ?_
          · refine g_iconst O dX8_kindOf_70 ?_
            exact g_iret O hrt rfl dX8_kindOf_71
          refine g_iconst O dX8_kindOf_68 ?_
          exact g_iret O hrt rfl dX8_kindOf_69
        intro k8 hk8
        refine g_icmp_lt (tgt := 56) O dX8_kindOf_45 (by decide) ?_ ?_
        · exact hk8 s5
        refine g_iload_n O dX8_kindOf_48 rfl 0 rfl ?_
        refine g_bipush O dX8_kindOf_49 (by decide +kernel) ?_
        refine g_icmp_gt (tgt := 56) O dX8_kindOf_51 (by decide) ?_ ?_
        · exact hk8 s5
        refine g_iconst O dX8_kindOf_54 ?_
        exact g_iret O hrt rfl dX8_kindOf_55
      intro k6 hk6
      refine g_icmp_lt (tgt := 42) O dX8_kindOf_31 (by decide) ?_ ?_
      · exact hk6 s3
      refine g_iload_n O dX8_kindOf_34 rfl 0 rfl ?_
      refine g_bipush O dX8_kindOf_35 (by decide +kernel) ?_
      refine g_icmp_gt (tgt := 42) O dX8_kindOf_37 (by decide) ?_ ?_
      · exact hk6 s3
      refine g_iconst O dX8_kindOf_40 ?_
      exact g_iret O hrt rfl dX8_kindOf_41
    intro k4 hk4
    refine g_icmp_lt (tgt := 28) O dX8_kindOf_17 (by decide) ?_ ?_
    · exact hk4 s1
    refine g_iload_n O dX8_kindOf_20 rfl 0 rfl ?_
    refine g_bipush O dX8_kindOf_21 (by decide +kernel) ?_
    refine g_icmp_gt (tgt := 28) O dX8_kindOf_23 (by decide) ?_ ?_
    · exact hk4 s1
    refine g_iconst O dX8_kindOf_26 ?_
    exact g_iret O hrt rfl dX8_kindOf_27
  intro k2 hk2
  refine g_icmp_lt (tgt := 14) O dX8_kindOf_3 (by decide) ?_ ?_
  · exact hk2 s
  refine g_iload_n O dX8_kindOf_6 rfl 0 rfl ?_
  refine g_bipush O dX8_kindOf_7 (by decide +kernel) ?_
  refine g_icmp_gt (tgt := 14) O dX8_kindOf_9 (by decide) ?_ ?_
  · exact hk2 s
  refine g_iconst O dX8_kindOf_12 ?_
  exact g_iret O hrt rfl dX8_kindOf_13
def X1_begins (i1 : Int) (s : St) : Rs := cLt (s 9 4) 12 (jn (fun  (s1 : St) => cl (X6_append 47 i1 1 s1) (fun _ s4 => put s4 9 4 ((s4 9 4) + 1) (fun s5 => put s5 9 5 1 (fun s6 => some (1, s6))))) (fun k2 => cLt 0 (s 9 4) (cEq (s 9 3) 0 (some (0, s)) (k2 s)) (k2 s))) (some (0, s))
theorem hd_X1_begins : yX1_begins.cls ≠ "java/lang/invoke/MethodHandle" ∧ yX1_begins.cls ≠ "java/lang/invoke/VarHandle" ∧ (parseMethodDescriptor yX1_begins.desc).map (fun d => d.parameters.length) = some 1 := by decide +kernel
set_option maxRecDepth 20000 in
set_option maxHeartbeats 4000000 in
theorem ct_X1_begins  (i1 : Int) (s : St) : Ctr LC yX1_begins cX1_begins 2 (Option.some .boolean) 1 1 22 [vR 9, vI i1] s (X1_begins i1 s) := by
  refine Ctr.of (by decide +kernel) (fun ρ => Nat.le_of_ble_eq_true rfl) (lv := [(0, vR 9), (1, vI i1)]) (fun ρ => rfl) (fun K X O hrt hfr hlo => ?_)
  unfold X1_begins
  refine g_aload_n O dX1_begins_0 rfl 0 rfl ?_
  refine g_getI O fw_1_29 rfl dX1_begins_1 rfl ?_
  refine g_bipush O dX1_begins_4 (by decide +kernel) ?_
  refine g_icmp_ge (tgt := 23) O dX1_begins_6 (by decide) ?_ ?_
  · refine g_iconst O dX1_begins_23 ?_
    exact g_iret O hrt (by decide +kernel) dX1_begins_24
  refine g_aload_n O dX1_begins_9 rfl 0 rfl ?_
  refine g_getI O fw_1_29 rfl dX1_begins_10 rfl ?_
  refine g_jn (fun (j : St → Rs) => ∀  (s1 : St), GX LC K X 2 1 25 [(0, vR 9), (1, vI i1)] [] s1 (j  s1)) ?_ ?_
  · intro  s1
    refine g_aload_n O dX1_begins_25 rfl 0 rfl ?_
    refine g_getR O fw_1_12 rfl dX1_begins_26 rfl ?_
    refine g_iload_n O dX1_begins_29 rfl 1 rfl ?_
    refine g_iconst O dX1_begins_30 ?_
    refine g_callV0 (As := [vI i1, vI 1]) (rest := []) (b := 47) (ci := 6) O mw_2_113 mw_2_114 mw_2_115 mw_2_116 mw_1_4 hd_X6_append rfl ⟨_, _, rfl⟩ rfl dX1_begins_31 (ct_X6_append ⟨_, _, rfl⟩ i1 1 s1) (by rw [hfr]; decide) (by rw [hlo]; decide) (Nat.le_of_ble_eq_true rfl) (fun _ s4 => ?_)
    refine g_aload_n O dX1_begins_34 rfl 0 rfl ?_
    refine g_dup O dX1_begins_35 rfl ?_
    refine g_getI O fw_1_29 rfl dX1_begins_36 rfl ?_
    refine g_iconst O dX1_begins_39 ?_
    refine g_iadd O dX1_begins_40 ?_
    refine g_putI O fw_1_29 rfl dX1_begins_41 rfl rfl rfl (fun s5 => ?_)
    refine g_aload_n O dX1_begins_44 rfl 0 rfl ?_
    refine g_iconst O dX1_begins_45 ?_
    refine g_putI O fw_1_32 rfl dX1_begins_46 rfl rfl rfl (fun s6 => ?_)
    refine g_iconst O dX1_begins_49 ?_
    exact g_iret O hrt (by decide +kernel) dX1_begins_50
  intro k2 hk2
  refine g_if_le (tgt := 25) O dX1_begins_13 (by decide) ?_ ?_
  · exact hk2 s
  refine g_aload_n O dX1_begins_16 rfl 0 rfl ?_
  refine g_getI O fw_1_25 rfl dX1_begins_17 rfl ?_
  refine g_if_ne (tgt := 25) O dX1_begins_20 (by decide) ?_ ?_
  · exact hk2 s
  refine g_iconst O dX1_begins_23 ?_
  exact g_iret O hrt (by decide +kernel) dX1_begins_24
def X1_accepts (i1 : Int) (s : St) : Rs := gR i1 (if i1 = 32 then some (1, s) else (if i1 = 40 then cl (X1_opens s) (fun v1 s2 => gB v1 (some (v1, s2))) else (if i1 = 41 then cl (X1_closes s) (fun v3 s4 => gB v3 (some (v3, s4))) else (cl (X8_kindOf i1 s) (fun v5 s6 => cEq v5 (-1) (some (0, s6)) (cl (X1_begins i1 s6) (fun v7 s8 => cEq v7 0 (some (0, s8)) (some (1, s8)))))))))
theorem hd_X1_accepts : yX1_accepts.cls ≠ "java/lang/invoke/MethodHandle" ∧ yX1_accepts.cls ≠ "java/lang/invoke/VarHandle" ∧ (parseMethodDescriptor yX1_accepts.desc).map (fun d => d.parameters.length) = some 1 := by decide +kernel
set_option maxRecDepth 20000 in
set_option maxHeartbeats 4000000 in
theorem ct_X1_accepts  (i1 : Int) (s : St) : Ctr LC yX1_accepts cX1_accepts 2 (Option.some .boolean) 1 2 43 [vR 9, vI i1] s (X1_accepts i1 s) := by
  refine Ctr.of (by decide +kernel) (fun ρ => Nat.le_of_ble_eq_true rfl) (lv := [(0, vR 9), (1, vI i1)]) (fun ρ => rfl) (fun K X O hrt hfr hlo => ?_)
  unfold X1_accepts
  refine g_iload_n O dX1_accepts_0 rfl 1 rfl ?_
  refine g_gR (fun hr1 => ?_)
  refine g_ite (fun hc2 => ?_) (fun hc2 => ?_)
  · refine g_lsw (off := 35) (tgt := 36) O dX1_accepts_1 (by decide +kernel) hr1 (by rw [hc2]; try rfl) (by decide) ?_
    refine g_iconst O dX1_accepts_36 ?_
    exact g_iret O hrt (by decide +kernel) dX1_accepts_37
  refine g_ite (fun hc3 => ?_) (fun hc3 => ?_)
  · refine g_lsw (off := 37) (tgt := 38) O dX1_accepts_1 (by decide +kernel) hr1 (by rw [hc3]; try rfl) (by decide) ?_
    refine g_aload_n O dX1_accepts_38 rfl 0 rfl ?_
    refine g_callV1 (As := []) (rest := []) (b := 9) (ci := 1) O mw_2_105 mw_2_107 mp_1_3 mw_2_108 mw_1_7 hd_X1_opens rfl ⟨_, _, rfl⟩ rfl dX1_accepts_39 (ct_X1_opens  s) (by rw [hfr]; decide) (by rw [hlo]; decide) (Nat.le_of_ble_eq_true rfl) (fun v1 s2 => ?_)
    refine g_gB (fun hb => ?_)
    exact g_iret O hrt (nar_b hb) dX1_accepts_42
  refine g_ite (fun hc4 => ?_) (fun hc4 => ?_)
  · refine g_lsw (off := 42) (tgt := 43) O dX1_accepts_1 (by decide +kernel) hr1 (by rw [hc4]; try rfl) (by decide) ?_
    refine g_aload_n O dX1_accepts_43 rfl 0 rfl ?_
    refine g_callV1 (As := []) (rest := []) (b := 9) (ci := 1) O mw_2_109 mw_2_111 mp_1_4 mw_2_112 mw_1_7 hd_X1_closes rfl ⟨_, _, rfl⟩ rfl dX1_accepts_44 (ct_X1_closes  s) (by rw [hfr]; decide) (by rw [hlo]; decide) (Nat.le_of_ble_eq_true rfl) (fun v3 s4 => ?_)
    refine g_gB (fun hb => ?_)
    exact g_iret O hrt (nar_b hb) dX1_accepts_47
  refine g_lsw (off := 47) (tgt := 48) O dX1_accepts_1 (by decide +kernel) hr1 (by simp [Op.lookupswitch.offset, show ¬ (32 : Int) = i1 from fun q => hc2 q.symm, show ¬ (40 : Int) = i1 from fun q => hc3 q.symm, show ¬ (41 : Int) = i1 from fun q => hc4 q.symm]) (by decide) ?_
  refine g_iload_n O dX1_accepts_48 rfl 1 rfl ?_
  refine g_callN1 (As := [vI i1]) (rest := []) O O.2.2.2.2.2.2.2.1.1 mw_2_118 mw_2_119 mw_1_1 hd_X8_kindOf rfl dX1_accepts_49 (ct_X8_kindOf i1 s) (by rw [hfr]; decide) (by rw [hlo]; decide) (Nat.le_of_ble_eq_true rfl) (fun v5 s6 => ?_)
  refine g_iconst O dX1_accepts_52 ?_
  refine g_icmp_eq (tgt := 68) O dX1_accepts_53 (by decide) ?_ ?_
  · refine g_iconst O dX1_accepts_68 ?_
    exact g_iret O hrt (by decide +kernel) dX1_accepts_69
  refine g_aload_n O dX1_accepts_56 rfl 0 rfl ?_
  refine g_iload_n O dX1_accepts_57 rfl 1 rfl ?_
  refine g_callV1 (As := [vI i1]) (rest := []) (b := 9) (ci := 1) O mw_2_120 mw_2_122 mp_1_5 mw_2_123 mw_1_7 hd_X1_begins rfl ⟨_, _, rfl⟩ rfl dX1_accepts_58 (ct_X1_begins i1 s6) (by rw [hfr]; decide) (by rw [hlo]; decide) (Nat.le_of_ble_eq_true rfl) (fun v7 s8 => ?_)
  refine g_if_eq (tgt := 68) O dX1_accepts_61 (by decide) ?_ ?_
  · refine g_iconst O dX1_accepts_68 ?_
    exact g_iret O hrt (by decide +kernel) dX1_accepts_69
  refine g_iconst O dX1_accepts_64 ?_
  refine g_goto (tgt := 69) O dX1_accepts_65 (by decide) ?_
  exact g_iret O hrt (by decide +kernel) dX1_accepts_69
def X1_read_25 (a1 : Nat) (k : St → Rs) : Nat → Int → St → Rs
  | 0, _, _ => none
  | n + 1, i2, s => cLt i2 (s a1 0) (rd s (a1 + 1) 60 i2 (fun v1 => cl (X1_accepts v1 s) (fun v2 s3 => cEq v2 0 (some (i2, s3)) (X1_read_25 a1 k n (i2 + 1) s3)))) (k s)
def X1_read (a1 : Nat) (s : St) : Rs := put s 47 0 0 (fun s1 => put s1 9 3 0 (fun s2 => put s2 9 4 0 (fun s3 => put s3 9 5 0 (fun s4 => X1_read_25 a1 (fun s5 => cLt 0 (s5 9 4) (cEq (s5 9 3) 0 (some ((-9), s5)) (some (s5 a1 0, s5))) (some (s5 a1 0, s5))) FU 0 s4))))
set_option maxRecDepth 20000 in
set_option maxHeartbeats 4000000 in
theorem lt_X1_read_25 {K : Cx} {X : Wx} (O : OKx LC K X yX1_read.cls cX1_read 3) (hrt : (kMe K).sig.returnType = (Option.some .int)) (hfr : (kR K).frames = 3) (hlo : (kR K).locals = 64) {a1 : Nat} {k : St → Rs} (ha1 : Kd LC a1 15) (hk : ∀  (s : St), GX LC K X 3 1 54 [(0, vR 9), (1, vR a1)] [] s (k s)) : ∀ (n : Nat) (i2 : Int) (s : St), GX LC K X 3 1 25 [(0, vR 9), (1, vR a1), (2, vI i2)] [] s (X1_read_25 a1 k n i2 s) := by
  intro n
  induction n with
  | zero => intro i2 s; exact GX.none
  | succ n ih =>
    intro i2 s
    rw [X1_read_25]
    refine g_iload_n O dX1_read_25 rfl 2 rfl ?_
    refine g_aload_n O dX1_read_26 rfl 1 rfl ?_
    refine g_getI O fw_1_38 (txt_c ha1) dX1_read_27 rfl ?_
    refine g_icmp_ge (tgt := 54) O dX1_read_30 (by decide) ?_ ?_
    · refine g_pick [0, 1] rfl ?_
      exact hk s
    refine g_aload_n O dX1_read_33 rfl 0 rfl ?_
    refine g_aload_n O dX1_read_34 rfl 1 rfl ?_
    refine g_getR O fw_1_43 (txt_c ha1) dX1_read_35 rfl ?_
    refine g_iload_n O dX1_read_38 rfl 2 rfl ?_
    refine g_bald O (txt_1 ha1) (by decide) dX1_read_39 (fun v1 => ?_)
    refine g_callV1 (As := [vI v1]) (rest := []) (b := 9) (ci := 1) O mw_2_101 mw_2_103 mp_1_2 mw_2_104 mw_1_7 hd_X1_accepts rfl ⟨_, _, rfl⟩ rfl dX1_read_40 (ct_X1_accepts v1 s) (by rw [hfr]; decide) (by rw [hlo]; decide) (Nat.le_of_ble_eq_true rfl) (fun v2 s3 => ?_)
    refine g_if_ne (tgt := 48) O dX1_read_43 (by decide) ?_ ?_
    · refine g_iinc (lv2 := [(2, vI (i2 + 1)), (0, vR 9), (1, vR a1)]) O dX1_read_48 2 rfl (by decide) rfl ?_
      refine g_goto (tgt := 25) O dX1_read_51 (by decide) ?_
      refine g_pick [1, 2, 0] rfl ?_
      exact ih (i2 + 1) s3
    refine g_iload_n O dX1_read_46 rfl 2 rfl ?_
    exact g_iret O hrt rfl dX1_read_47
theorem hd_X1_read : yX1_read.cls ≠ "java/lang/invoke/MethodHandle" ∧ yX1_read.cls ≠ "java/lang/invoke/VarHandle" ∧ (parseMethodDescriptor yX1_read.desc).map (fun d => d.parameters.length) = some 1 := by decide +kernel
set_option maxRecDepth 20000 in
set_option maxHeartbeats 4000000 in
theorem ct_X1_read {a1 : Nat} (ha1 : Kd LC a1 15)  (s : St) : Ctr LC yX1_read cX1_read 3 (Option.some .int) 1 3 64 [vR 9, vR a1] s (X1_read a1 s) := by
  refine Ctr.of (by decide +kernel) (fun ρ => Nat.le_of_ble_eq_true rfl) (lv := [(0, vR 9), (1, vR a1)]) (fun ρ => rfl) (fun K X O hrt hfr hlo => ?_)
  unfold X1_read
  refine g_aload_n O dX1_read_0 rfl 0 rfl ?_
  refine g_getR O fw_1_12 rfl dX1_read_1 rfl ?_
  refine g_iconst O dX1_read_4 ?_
  refine g_putI O fw_1_35 rfl dX1_read_5 rfl rfl rfl (fun s1 => ?_)
  refine g_aload_n O dX1_read_8 rfl 0 rfl ?_
  refine g_iconst O dX1_read_9 ?_
  refine g_putI O fw_1_25 rfl dX1_read_10 rfl rfl rfl (fun s2 => ?_)
  refine g_aload_n O dX1_read_13 rfl 0 rfl ?_
  refine g_iconst O dX1_read_14 ?_
  refine g_putI O fw_1_29 rfl dX1_read_15 rfl rfl rfl (fun s3 => ?_)
  refine g_aload_n O dX1_read_18 rfl 0 rfl ?_
  refine g_iconst O dX1_read_19 ?_
  refine g_putI O fw_1_32 rfl dX1_read_20 rfl rfl rfl (fun s4 => ?_)
  refine g_iconst O dX1_read_23 ?_
  refine g_istore_n (lv2 := [(2, vI 0), (0, vR 9), (1, vR a1)]) O dX1_read_24 rfl (by decide) rfl ?_
  refine g_pick [1, 2, 0] rfl ?_
  refine lt_X1_read_25 O hrt hfr hlo ha1 (fun s5 => ?_) FU 0 s4
  refine g_aload_n O dX1_read_54 rfl 0 rfl ?_
  refine g_getI O fw_1_29 rfl dX1_read_55 rfl ?_
  refine g_if_le (tgt := 73) O dX1_read_58 (by decide) ?_ ?_
  · refine g_aload_n O dX1_read_73 rfl 1 rfl ?_
    refine g_getI O fw_1_38 (txt_c ha1) dX1_read_74 rfl ?_
    exact g_iret O hrt rfl dX1_read_77
  refine g_aload_n O dX1_read_61 rfl 0 rfl ?_
  refine g_getI O fw_1_25 rfl dX1_read_62 rfl ?_
  refine g_if_ne (tgt := 73) O dX1_read_65 (by decide) ?_ ?_
  · refine g_aload_n O dX1_read_73 rfl 1 rfl ?_
    refine g_getI O fw_1_38 (txt_c ha1) dX1_read_74 rfl ?_
    exact g_iret O hrt rfl dX1_read_77
  refine g_bipush O dX1_read_68 (by decide +kernel) ?_
  refine g_goto (tgt := 77) O dX1_read_70 (by decide) ?_
  exact g_iret O hrt rfl dX1_read_77
def X8_fault (i1 : Int) (s : St) : Rs := cl (X8_noText i1 s) (fun v1 s2 => cEq v1 0 (rdR 4 i1 (fun j3 => cLt (s2 (22 + 2 * j3) 0) 0 (cl (X8_found 1 s2) (fun v7 s8 => some (v7, s8))) (rdR 4 i1 (fun j4 => cl (X1_read (22 + 2 * j4) s2) (fun v5 s6 => some (v5, s6)))))) (some ((-1), s2)))
theorem hd_X8_fault : yX8_fault.cls ≠ "java/lang/invoke/MethodHandle" ∧ yX8_fault.cls ≠ "java/lang/invoke/VarHandle" ∧ (parseMethodDescriptor yX8_fault.desc).map (fun d => d.parameters.length) = some 1 := by decide +kernel
set_option maxRecDepth 20000 in
set_option maxHeartbeats 4000000 in
theorem ct_X8_fault  (i1 : Int) (s : St) : Ctr LC yX8_fault cX8_fault 2 (Option.some .int) 1 4 86 [vR 0, vI i1] s (X8_fault i1 s) := by
  refine Ctr.of (by decide +kernel) (fun ρ => Nat.le_of_ble_eq_true rfl) (lv := [(0, vR 0), (1, vI i1)]) (fun ρ => rfl) (fun K X O hrt hfr hlo => ?_)
  unfold X8_fault
  refine g_iload_n O dX8_fault_0 rfl 1 rfl ?_
  refine g_callS1 (As := [vI i1]) (rest := []) O mw_2_82 mw_2_83 mw_2_84 mw_1_1 hd_X8_noText rfl dX8_fault_1 (ct_X8_noText i1 s) (by rw [hfr]; decide) (by rw [hlo]; decide) (Nat.le_of_ble_eq_true rfl) (fun v1 s2 => ?_)
  refine g_if_eq (tgt := 9) O dX8_fault_4 (by decide) ?_ ?_
  · refine g_aload_n O dX8_fault_9 rfl 0 rfl ?_
    refine g_getR O fw_8_17 rfl dX8_fault_10 rfl ?_
    refine g_iload_n O dX8_fault_13 rfl 1 rfl ?_
    refine g_aald (g := fun j => 22 + 2 * j) O rfl (by decide) (by decide) (by decide) el_3 dX8_fault_14 (fun j3 hj1 => ?_)
    refine g_getI O fw_8_111 (txt_c (elk_3 hj1)) dX8_fault_15 rfl ?_
    refine g_if_ge (tgt := 27) O dX8_fault_18 (by decide) ?_ ?_
    · refine g_aload_n O dX8_fault_27 rfl 0 rfl ?_
      refine g_getR O fw_8_49 rfl dX8_fault_28 rfl ?_
      refine g_aload_n O dX8_fault_31 rfl 0 rfl ?_
      refine g_getR O fw_8_17 rfl dX8_fault_32 rfl ?_
      refine g_iload_n O dX8_fault_35 rfl 1 rfl ?_
      refine g_aald (g := fun j => 22 + 2 * j) O rfl (by decide) (by decide) (by decide) el_3 dX8_fault_36 (fun j4 hj2 => ?_)
      refine g_callV1 (As := [vR (22 + 2 * j4)]) (rest := []) (b := 9) (ci := 1) O mw_2_97 mw_2_98 mw_2_99 mw_2_100 mw_1_7 hd_X1_read rfl ⟨_, _, rfl⟩ rfl dX8_fault_37 (ct_X1_read (elk_3 hj2)  s2) (by rw [hfr]; decide) (by rw [hlo]; decide) (Nat.le_of_ble_eq_true rfl) (fun v5 s6 => ?_)
      exact g_iret O hrt rfl dX8_fault_40
    refine g_aload_n O dX8_fault_21 rfl 0 rfl ?_
    refine g_iconst O dX8_fault_22 ?_
    refine g_callV1 (As := [vI 1]) (rest := []) (b := 0) (ci := 8) O mw_2_35 mw_2_37 mp_1_0 mw_2_38 mw_1_1 hd_X8_found rfl ⟨_, _, rfl⟩ rfl dX8_fault_23 (ct_X8_found 1 s2) (by rw [hfr]; decide) (by rw [hlo]; decide) (Nat.le_of_ble_eq_true rfl) (fun v7 s8 => ?_)
    exact g_iret O hrt rfl dX8_fault_26
  refine g_iconst O dX8_fault_7 ?_
  exact g_iret O hrt rfl dX8_fault_8
def X8_noDocument (i0 : Int) (s : St) : Rs := cLt i0 0 (some (1, s)) (cLt 1 i0 (some (1, s)) (some (0, s)))
theorem hd_X8_noDocument : yX8_noDocument.cls ≠ "java/lang/invoke/MethodHandle" ∧ yX8_noDocument.cls ≠ "java/lang/invoke/VarHandle" ∧ (parseMethodDescriptor yX8_noDocument.desc).map (fun d => d.parameters.length) = some 1 := by decide +kernel
set_option maxRecDepth 20000 in
set_option maxHeartbeats 4000000 in
theorem ct_X8_noDocument  (i0 : Int) (s : St) : Ctr LC yX8_noDocument cX8_noDocument 1 (Option.some .boolean) 1 0 0 [vI i0] s (X8_noDocument i0 s) := by
  refine Ctr.of (by decide +kernel) (fun ρ => Nat.le_of_ble_eq_true rfl) (lv := [(0, vI i0)]) (fun ρ => rfl) (fun K X O hrt hfr hlo => ?_)
  unfold X8_noDocument
  refine g_iload_n O dX8_noDocument_0 rfl 0 rfl ?_
  refine g_if_lt (tgt := 9) O dX8_noDocument_1 (by decide) ?_ ?_
  · refine g_iconst O dX8_noDocument_9 ?_
    refine g_goto (tgt := 14) O dX8_noDocument_10 (by decide) ?_
    exact g_iret O hrt (by decide +kernel) dX8_noDocument_14
  refine g_iload_n O dX8_noDocument_4 rfl 0 rfl ?_
  refine g_iconst O dX8_noDocument_5 ?_
  refine g_icmp_le (tgt := 13) O dX8_noDocument_6 (by decide) ?_ ?_
  · refine g_iconst O dX8_noDocument_13 ?_
    exact g_iret O hrt (by decide +kernel) dX8_noDocument_14
  refine g_iconst O dX8_noDocument_9 ?_
  refine g_goto (tgt := 14) O dX8_noDocument_10 (by decide) ?_
  exact g_iret O hrt (by decide +kernel) dX8_noDocument_14
def X3_tree (i1 : Int) (s : St) : Rs := cEq i1 0 (some ((38 : Nat), s)) (some ((41 : Nat), s))
theorem hd_X3_tree : yX3_tree.cls ≠ "java/lang/invoke/MethodHandle" ∧ yX3_tree.cls ≠ "java/lang/invoke/VarHandle" ∧ (parseMethodDescriptor yX3_tree.desc).map (fun d => d.parameters.length) = some 1 := by decide +kernel
set_option maxRecDepth 20000 in
set_option maxHeartbeats 4000000 in
theorem ct_X3_tree  (i1 : Int) (s : St) : Ctr LC yX3_tree cX3_tree 2 (Option.some (.object "MarkScripts$Tree")) 3 0 0 [vR 6, vI i1] s (X3_tree i1 s) := by
  refine Ctr.of (by decide +kernel) (fun ρ => Nat.le_of_ble_eq_true rfl) (lv := [(0, vR 6), (1, vI i1)]) (fun ρ => rfl) (fun K X O hrt hfr hlo => ?_)
  unfold X3_tree
  refine g_iload_n O dX3_tree_0 rfl 1 rfl ?_
  refine g_if_ne (tgt := 11) O dX3_tree_1 (by decide) ?_ ?_
  · refine g_aload_n O dX3_tree_11 rfl 0 rfl ?_
    refine g_getR O fw_3_18 rfl dX3_tree_12 rfl ?_
    exact g_aret O hrt dX3_tree_15
  refine g_aload_n O dX3_tree_4 rfl 0 rfl ?_
  refine g_getR O fw_3_14 rfl dX3_tree_5 rfl ?_
  refine g_goto (tgt := 15) O dX3_tree_8 (by decide) ?_
  exact g_aret O hrt dX3_tree_15
def X6_take (a0 : Nat) (a1 : Nat) (s : St) : Rs := put s a0 0 (s a1 0) (fun s1 => cpA s1 (a1 + 1) 12 0 (a0 + 1) 12 0 12 (fun s2 => cpA s2 (a1 + 2) 12 0 (a0 + 2) 12 0 12 (fun s3 => some (0, s3))))
theorem hd_X6_take : yX6_take.cls ≠ "java/lang/invoke/MethodHandle" ∧ yX6_take.cls ≠ "java/lang/invoke/VarHandle" ∧ (parseMethodDescriptor yX6_take.desc).map (fun d => d.parameters.length) = some 1 := by decide +kernel
set_option maxRecDepth 20000 in
set_option maxHeartbeats 4000000 in
theorem ct_X6_take {a0 : Nat} (ha0 : Kd LC a0 16) {a1 : Nat} (ha1 : Kd LC a1 16)  (s : St) : Ctr LC yX6_take cX6_take 2 none 0 1 26 [vR a0, vR a1] s (X6_take a0 a1 s) := by
  refine Ctr.of (by decide +kernel) (fun ρ => Nat.le_of_ble_eq_true rfl) (lv := [(0, vR a0), (1, vR a1)]) (fun ρ => rfl) (fun K X O hrt hfr hlo => ?_)
  unfold X6_take
  refine g_aload_n O dX6_take_0 rfl 0 rfl ?_
  refine g_aload_n O dX6_take_1 rfl 1 rfl ?_
  refine g_getI O fw_6_9 (tree_c ha1) dX6_take_2 rfl ?_
  refine g_putI O fw_6_9 (tree_c ha0) dX6_take_5 rfl rfl rfl (fun s1 => ?_)
  refine g_aload_n O dX6_take_8 rfl 1 rfl ?_
  refine g_getR O fw_6_15 (tree_c ha1) dX6_take_9 rfl ?_
  refine g_iconst O dX6_take_12 ?_
  refine g_aload_n O dX6_take_13 rfl 0 rfl ?_
  refine g_getR O fw_6_15 (tree_c ha0) dX6_take_14 rfl ?_
  refine g_iconst O dX6_take_17 ?_
  refine g_bipush O dX6_take_18 (by decide +kernel) ?_
  refine g_copy O mw_2_139 mw_2_69 mw_2_68 mw_1_11 (tree_1 ha1) (tree_1 ha0) (by decide) (by decide) (by rw [hfr]; decide) (by rw [hlo]; exact Nat.le_of_ble_eq_true rfl) dX6_take_20 (fun s2 => ?_)
  refine g_aload_n O dX6_take_23 rfl 1 rfl ?_
  refine g_getR O fw_6_19 (tree_c ha1) dX6_take_24 rfl ?_
  refine g_iconst O dX6_take_27 ?_
  refine g_aload_n O dX6_take_28 rfl 0 rfl ?_
  refine g_getR O fw_6_19 (tree_c ha0) dX6_take_29 rfl ?_
  refine g_iconst O dX6_take_32 ?_
  refine g_bipush O dX6_take_33 (by decide +kernel) ?_
  refine g_copy O mw_2_139 mw_2_69 mw_2_68 mw_1_11 (tree_2 ha1) (tree_2 ha0) (by decide) (by decide) (by rw [hfr]; decide) (by rw [hlo]; exact Nat.le_of_ble_eq_true rfl) dX6_take_35 (fun s3 => ?_)
  exact g_vret O hrt dX6_take_38
def X8_document_91 (i1 : Int) (k : St → Rs) : Nat → Int → St → Rs
  | 0, _, _ => none
  | n + 1, i3, s => cLt i3 3 (rdR 3 i3 (fun j1 => put s (32 + 2 * j1) 0 (-1) (fun s2 => X8_document_91 i1 k n (i3 + 1) s2))) (k s)
def X8_document (i1 : Int) (i2 : Int) (s : St) : Rs := cl (X8_noDocument i1 s) (fun v1 s2 => cEq v1 0 (cl (X8_noText i2 s2) (fun v3 s4 => cEq v3 0 (rdR 4 i2 (fun j5 => cLt (s4 (22 + 2 * j5) 0) 0 (cl (X8_found 1 s4) (fun v18 s19 => some (v18, s19))) (rdR 4 i2 (fun j6 => cl (X1_read (22 + 2 * j6) s4) (fun v7 s8 => cEq v7 (-9) (cl (X3_tree i1 s8) (fun v9 s10 => gK LC v9.toNat 16 (cl (X6_take v9.toNat 47 s10) (fun _ s12 => put s12 5 1 1 (fun s13 => put s13 30 0 0 (fun s14 => X8_document_91 i1 (fun s15 => cl (X3_tree i1 s15) (fun v16 s17 => gK LC v16.toNat 16 (some (s17 v16.toNat 0, s17)))) FU 0 s14)))))) (some ((-4), s8))))))) (some ((-1), s4)))) (some ((-1), s2)))
set_option maxRecDepth 20000 in
set_option maxHeartbeats 4000000 in
theorem lt_X8_document_91 {K : Cx} {X : Wx} (O : OKx LC K X yX8_document.cls cX8_document 4) (hrt : (kMe K).sig.returnType = (Option.some .int)) (hfr : (kR K).frames = 4) (hlo : (kR K).locals = 86) {i1 : Int} {k : St → Rs}  (hk : ∀  (s : St), GX LC K X 4 1 112 [(0, vR 0), (1, vI i1)] [] s (k s)) : ∀ (n : Nat) (i3 : Int) (s : St), GX LC K X 4 1 91 [(0, vR 0), (1, vI i1), (3, vI i3)] [] s (X8_document_91 i1 k n i3 s) := by
  intro n
  induction n with
  | zero => intro i3 s; exact GX.none
  | succ n ih =>
    intro i3 s
    rw [X8_document_91]
    refine g_iload_n O dX8_document_91 rfl 2 rfl ?_
    refine g_iconst O dX8_document_92 ?_
    refine g_icmp_ge (tgt := 112) O dX8_document_93 (by decide) ?_ ?_
    · refine g_pick [0, 1] rfl ?_
      exact hk s
    refine g_aload_n O dX8_document_96 rfl 0 rfl ?_
    refine g_getR O fw_8_42 rfl dX8_document_97 rfl ?_
    refine g_iload_n O dX8_document_100 rfl 2 rfl ?_
    refine g_aald (g := fun j => 32 + 2 * j) O rfl (by decide) (by decide) (by decide) el_4 dX8_document_101 (fun j1 hj1 => ?_)
    refine g_iconst O dX8_document_102 ?_
    refine g_putI O fw_8_139 (log_c (elk_4 hj1)) dX8_document_103 rfl rfl rfl (fun s2 => ?_)
    refine g_iinc (lv2 := [(3, vI (i3 + 1)), (0, vR 0), (1, vI i1)]) O dX8_document_106 2 rfl (by decide) rfl ?_
    refine g_goto (tgt := 91) O dX8_document_109 (by decide) ?_
    refine g_pick [1, 2, 0] rfl ?_
    exact ih (i3 + 1) s2
theorem hd_X8_document : yX8_document.cls ≠ "java/lang/invoke/MethodHandle" ∧ yX8_document.cls ≠ "java/lang/invoke/VarHandle" ∧ (parseMethodDescriptor yX8_document.desc).map (fun d => d.parameters.length) = some 2 := by decide +kernel
set_option maxRecDepth 20000 in
set_option maxHeartbeats 4000000 in
theorem ct_X8_document  (i1 : Int) (i2 : Int) (s : St) : Ctr LC yX8_document cX8_document 4 (Option.some .int) 1 4 86 [vR 0, vI i1, vI i2] s (X8_document i1 i2 s) := by
  refine Ctr.of (by decide +kernel) (fun ρ => Nat.le_of_ble_eq_true rfl) (lv := [(0, vR 0), (1, vI i1), (2, vI i2)]) (fun ρ => rfl) (fun K X O hrt hfr hlo => ?_)
  unfold X8_document
  refine g_iload_n O dX8_document_0 rfl 1 rfl ?_
  refine g_callS1 (As := [vI i1]) (rest := []) O mw_2_128 mw_2_129 mw_2_130 mw_1_1 hd_X8_noDocument rfl dX8_document_1 (ct_X8_noDocument i1 s) (by rw [hfr]; decide) (by rw [hlo]; decide) (Nat.le_of_ble_eq_true rfl) (fun v1 s2 => ?_)
  refine g_if_ne (tgt := 14) O dX8_document_4 (by decide) ?_ ?_
  · refine g_iconst O dX8_document_14 ?_
    exact g_iret O hrt rfl dX8_document_15
  refine g_iload_n O dX8_document_7 rfl 2 rfl ?_
  refine g_callS1 (As := [vI i2]) (rest := []) O mw_2_82 mw_2_83 mw_2_84 mw_1_1 hd_X8_noText rfl dX8_document_8 (ct_X8_noText i2 s2) (by rw [hfr]; decide) (by rw [hlo]; decide) (Nat.le_of_ble_eq_true rfl) (fun v3 s4 => ?_)
  refine g_if_eq (tgt := 16) O dX8_document_11 (by decide) ?_ ?_
  · refine g_aload_n O dX8_document_16 rfl 0 rfl ?_
    refine g_getR O fw_8_17 rfl dX8_document_17 rfl ?_
    refine g_iload_n O dX8_document_20 rfl 2 rfl ?_
    refine g_aald (g := fun j => 22 + 2 * j) O rfl (by decide) (by decide) (by decide) el_3 dX8_document_21 (fun j5 hj1 => ?_)
    refine g_getI O fw_8_111 (txt_c (elk_3 hj1)) dX8_document_22 rfl ?_
    refine g_if_ge (tgt := 34) O dX8_document_25 (by decide) ?_ ?_
    · refine g_aload_n O dX8_document_34 rfl 0 rfl ?_
      refine g_getR O fw_8_49 rfl dX8_document_35 rfl ?_
      refine g_aload_n O dX8_document_38 rfl 0 rfl ?_
      refine g_getR O fw_8_17 rfl dX8_document_39 rfl ?_
      refine g_iload_n O dX8_document_42 rfl 2 rfl ?_
      refine g_aald (g := fun j => 22 + 2 * j) O rfl (by decide) (by decide) (by decide) el_3 dX8_document_43 (fun j6 hj2 => ?_)
      refine g_callV1 (As := [vR (22 + 2 * j6)]) (rest := []) (b := 9) (ci := 1) O mw_2_97 mw_2_98 mw_2_99 mw_2_100 mw_1_7 hd_X1_read rfl ⟨_, _, rfl⟩ rfl dX8_document_44 (ct_X1_read (elk_3 hj2)  s4) (by rw [hfr]; decide) (by rw [hlo]; decide) (Nat.le_of_ble_eq_true rfl) (fun v7 s8 => ?_)
      refine g_bipush O dX8_document_47 (by decide +kernel) ?_
      refine g_icmp_eq (tgt := 55) O dX8_document_49 (by decide) ?_ ?_
      · refine g_aload_n O dX8_document_55 rfl 0 rfl ?_
        refine g_getR O fw_8_32 rfl dX8_document_56 rfl ?_
        refine g_iload_n O dX8_document_59 rfl 1 rfl ?_
        refine g_callV3 (As := [vI i1]) (rest := []) (b := 6) (ci := 3) O mw_2_131 mw_2_132 mw_2_133 mw_2_134 mw_1_3 hd_X3_tree rfl ⟨_, _, rfl⟩ rfl dX8_document_60 (ct_X3_tree i1 s8) (by rw [hfr]; decide) (by rw [hlo]; decide) (Nat.le_of_ble_eq_true rfl) (fun v9 s10 => ?_)
        refine g_gK (by decide) (fun hk3 => ?_)
        refine g_aload_n O dX8_document_63 rfl 0 rfl ?_
        refine g_getR O fw_8_49 rfl dX8_document_64 rfl ?_
        refine g_getR O fw_8_129 rfl dX8_document_67 rfl ?_
        refine g_callV0 (As := [vR 47]) (rest := []) (b := v9.toNat) (ci := 6) O mw_2_135 mw_2_136 mw_2_137 mw_2_138 mw_1_4 hd_X6_take rfl hk3 rfl dX8_document_70 (ct_X6_take hk3 ⟨_, _, rfl⟩  s10) (by rw [hfr]; decide) (by rw [hlo]; decide) (Nat.le_of_ble_eq_true rfl) (fun _ s12 => ?_)
        refine g_aload_n O dX8_document_73 rfl 0 rfl ?_
        refine g_getR O fw_8_24 rfl dX8_document_74 rfl ?_
        refine g_iconst O dX8_document_77 ?_
        refine g_putI O fw_8_135 rfl dX8_document_78 rfl (by decide +kernel) rfl (fun s13 => ?_)
        refine g_aload_n O dX8_document_81 rfl 0 rfl ?_
        refine g_getR O fw_8_38 rfl dX8_document_82 rfl ?_
        refine g_iconst O dX8_document_85 ?_
        refine g_putI O fw_8_139 rfl dX8_document_86 rfl rfl rfl (fun s14 => ?_)
        refine g_iconst O dX8_document_89 ?_
        refine g_istore_n (lv2 := [(3, vI 0), (0, vR 0), (1, vI i1), (2, vI i2)]) O dX8_document_90 rfl (by decide) rfl ?_
        refine g_pick [1, 2, 0] rfl ?_
        refine lt_X8_document_91 O hrt hfr hlo  (fun s15 => ?_) FU 0 s14
        refine g_aload_n O dX8_document_112 rfl 0 rfl ?_
        refine g_getR O fw_8_32 rfl dX8_document_113 rfl ?_
        refine g_iload_n O dX8_document_116 rfl 1 rfl ?_
        refine g_callV3 (As := [vI i1]) (rest := []) (b := 6) (ci := 3) O mw_2_131 mw_2_132 mw_2_133 mw_2_134 mw_1_3 hd_X3_tree rfl ⟨_, _, rfl⟩ rfl dX8_document_117 (ct_X3_tree i1 s15) (by rw [hfr]; decide) (by rw [hlo]; decide) (Nat.le_of_ble_eq_true rfl) (fun v16 s17 => ?_)
        refine g_gK (by decide) (fun hk4 => ?_)
        refine g_getI O fw_8_142 (tree_c hk4) dX8_document_120 rfl ?_
        exact g_iret O hrt rfl dX8_document_123
      refine g_bipush O dX8_document_52 (by decide +kernel) ?_
      exact g_iret O hrt rfl dX8_document_54
    refine g_aload_n O dX8_document_28 rfl 0 rfl ?_
    refine g_iconst O dX8_document_29 ?_
    refine g_callV1 (As := [vI 1]) (rest := []) (b := 0) (ci := 8) O mw_2_35 mw_2_37 mp_1_0 mw_2_38 mw_1_1 hd_X8_found rfl ⟨_, _, rfl⟩ rfl dX8_document_30 (ct_X8_found 1 s4) (by rw [hfr]; decide) (by rw [hlo]; decide) (Nat.le_of_ble_eq_true rfl) (fun v18 s19 => ?_)
    exact g_iret O hrt rfl dX8_document_33
  refine g_iconst O dX8_document_14 ?_
  exact g_iret O hrt rfl dX8_document_15
def X5_append (a0 : Nat) (i1 : Int) (s : St) : Rs := cLt (s a0 0) 0 (some (0, s)) (cLt (s a0 0) 60 (wr s (a0 + 1) 60 (s a0 0) (nb8 (nb8 i1)) (fun s1 => put s1 a0 0 ((s1 a0 0) + 1) (fun s2 => some (0, s2)))) (some (0, s)))
theorem hd_X5_append : yX5_append.cls ≠ "java/lang/invoke/MethodHandle" ∧ yX5_append.cls ≠ "java/lang/invoke/VarHandle" ∧ (parseMethodDescriptor yX5_append.desc).map (fun d => d.parameters.length) = some 1 := by decide +kernel
set_option maxRecDepth 20000 in
set_option maxHeartbeats 4000000 in
theorem ct_X5_append {a0 : Nat} (ha0 : Kd LC a0 15) (i1 : Int) (s : St) : Ctr LC yX5_append cX5_append 2 none 0 0 0 [vR a0, vI i1] s (X5_append a0 i1 s) := by
  refine Ctr.of (by decide +kernel) (fun ρ => Nat.le_of_ble_eq_true rfl) (lv := [(0, vR a0), (1, vI i1)]) (fun ρ => rfl) (fun K X O hrt hfr hlo => ?_)
  unfold X5_append
  refine g_aload_n O dX5_append_0 rfl 0 rfl ?_
  refine g_getI O fw_5_9 (txt_c ha0) dX5_append_1 rfl ?_
  refine g_if_lt (tgt := 37) O dX5_append_4 (by decide) ?_ ?_
  · exact g_vret O hrt dX5_append_37
  refine g_aload_n O dX5_append_7 rfl 0 rfl ?_
  refine g_getI O fw_5_9 (txt_c ha0) dX5_append_8 rfl ?_
  refine g_bipush O dX5_append_11 (by decide +kernel) ?_
  refine g_icmp_ge (tgt := 37) O dX5_append_13 (by decide) ?_ ?_
  · exact g_vret O hrt dX5_append_37
  refine g_aload_n O dX5_append_16 rfl 0 rfl ?_
  refine g_getR O fw_5_15 (txt_c ha0) dX5_append_17 rfl ?_
  refine g_aload_n O dX5_append_20 rfl 0 rfl ?_
  refine g_getI O fw_5_9 (txt_c ha0) dX5_append_21 rfl ?_
  refine g_iload_n O dX5_append_24 rfl 1 rfl ?_
  refine g_i2b O dX5_append_25 ?_
  refine g_bast O (txt_1 ha0) (by decide) dX5_append_26 (fun s1 => ?_)
  refine g_aload_n O dX5_append_27 rfl 0 rfl ?_
  refine g_dup O dX5_append_28 rfl ?_
  refine g_getI O fw_5_9 (txt_c ha0) dX5_append_29 rfl ?_
  refine g_iconst O dX5_append_32 ?_
  refine g_iadd O dX5_append_33 ?_
  refine g_putI O fw_5_9 (txt_c ha0) dX5_append_34 rfl rfl rfl (fun s2 => ?_)
  exact g_vret O hrt dX5_append_37
def X6_leftmost (a0 : Nat) (i1 : Int) (s : St) : Rs := rd s (a0 + 2) 12 i1 (fun v1 => some ((i1 - v1) + 1, s))
theorem hd_X6_leftmost : yX6_leftmost.cls ≠ "java/lang/invoke/MethodHandle" ∧ yX6_leftmost.cls ≠ "java/lang/invoke/VarHandle" ∧ (parseMethodDescriptor yX6_leftmost.desc).map (fun d => d.parameters.length) = some 1 := by decide +kernel
set_option maxRecDepth 20000 in
set_option maxHeartbeats 4000000 in
theorem ct_X6_leftmost {a0 : Nat} (ha0 : Kd LC a0 16) (i1 : Int) (s : St) : Ctr LC yX6_leftmost cX6_leftmost 2 (Option.some .int) 1 0 0 [vR a0, vI i1] s (X6_leftmost a0 i1 s) := by
  refine Ctr.of (by decide +kernel) (fun ρ => Nat.le_of_ble_eq_true rfl) (lv := [(0, vR a0), (1, vI i1)]) (fun ρ => rfl) (fun K X O hrt hfr hlo => ?_)
  unfold X6_leftmost
  refine g_iload_n O dX6_leftmost_0 rfl 1 rfl ?_
  refine g_aload_n O dX6_leftmost_1 rfl 0 rfl ?_
  refine g_getR O fw_6_19 (tree_c ha0) dX6_leftmost_2 rfl ?_
  refine g_iload_n O dX6_leftmost_5 rfl 1 rfl ?_
  refine g_iald O (tree_2 ha0) (by decide) dX6_leftmost_6 (fun v1 => ?_)
  refine g_isub O dX6_leftmost_7 ?_
  refine g_iconst O dX6_leftmost_8 ?_
  refine g_iadd O dX6_leftmost_9 ?_
  exact g_iret O hrt rfl dX6_leftmost_10
def X5_printDownTo_7 (a0 : Nat) (i1 : Int) (a2 : Nat) (k : St → Rs) : Nat → Int → St → Rs
  | 0, _, _ => none
  | n + 1, i3, s => cLt i3 i1 (k s) (cl (X6_leftmost a2 i3 s) (fun v1 s2 => cEq v1 i1 (rd s2 (a2 + 1) 12 i3 (fun v3 => cl (X5_append a0 v3 s2) (fun _ s5 => cLt i1 i3 (cl (X5_append a0 40 s5) (fun _ s7 => X5_printDownTo_7 a0 i1 a2 k n (i3 + (-1)) s7)) (X5_printDownTo_7 a0 i1 a2 k n (i3 + (-1)) s5)))) (X5_printDownTo_7 a0 i1 a2 k n (i3 + (-1)) s2)))
def X5_printDownTo (a0 : Nat) (i1 : Int) (a2 : Nat) (s : St) : Rs := X5_printDownTo_7 a0 i1 a2 (fun s1 => some (0, s1)) FU ((s a2 0) - 1) s
set_option maxRecDepth 20000 in
set_option maxHeartbeats 4000000 in
theorem lt_X5_printDownTo_7 {K : Cx} {X : Wx} (O : OKx LC K X yX5_printDownTo.cls cX5_printDownTo 4) (hrt : (kMe K).sig.returnType = none) (hfr : (kR K).frames = 1) (hlo : (kR K).locals = 21) {a0 : Nat} {i1 : Int} {a2 : Nat} {k : St → Rs} (ha0 : Kd LC a0 15) (ha2 : Kd LC a2 16) (hk : ∀  (s : St), GX LC K X 4 0 48 [] [] s (k s)) : ∀ (n : Nat) (i3 : Int) (s : St), GX LC K X 4 0 7 [(0, vR a0), (1, vI i1), (2, vR a2), (3, vI i3)] [] s (X5_printDownTo_7 a0 i1 a2 k n i3 s) := by
  intro n
  induction n with
  | zero => intro i3 s; exact GX.none
  | succ n ih =>
    intro i3 s
    rw [X5_printDownTo_7]
    refine g_iload_n O dX5_printDownTo_7 rfl 3 rfl ?_
    refine g_iload_n O dX5_printDownTo_8 rfl 1 rfl ?_
    refine g_icmp_lt (tgt := 48) O dX5_printDownTo_9 (by decide) ?_ ?_
    · refine g_pick [] rfl ?_
      exact hk s
    refine g_aload_n O dX5_printDownTo_12 rfl 2 rfl ?_
    refine g_iload_n O dX5_printDownTo_13 rfl 3 rfl ?_
    refine g_callV1 (As := [vI i3]) (rest := []) (b := a2) (ci := 6) O mw_2_156 mw_2_157 mw_2_158 mw_2_159 mw_1_4 hd_X6_leftmost rfl ha2 rfl dX5_printDownTo_14 (ct_X6_leftmost ha2 i3 s) (by rw [hfr]; decide) (by rw [hlo]; decide) (Nat.le_of_ble_eq_true rfl) (fun v1 s2 => ?_)
    refine g_iload_n O dX5_printDownTo_17 rfl 1 rfl ?_
    refine g_icmp_ne (tgt := 42) O dX5_printDownTo_18 (by decide) ?_ ?_
    · refine g_iinc (lv2 := [(3, vI (i3 + (-1))), (0, vR a0), (1, vI i1), (2, vR a2)]) O dX5_printDownTo_42 3 rfl (by decide) rfl ?_
      refine g_goto (tgt := 7) O dX5_printDownTo_45 (by decide) ?_
      refine g_pick [1, 2, 3, 0] rfl ?_
      exact ih (i3 + (-1)) s2
    refine g_aload_n O dX5_printDownTo_21 rfl 0 rfl ?_
    refine g_aload_n O dX5_printDownTo_22 rfl 2 rfl ?_
    refine g_getR O fw_5_40 (tree_c ha2) dX5_printDownTo_23 rfl ?_
    refine g_iload_n O dX5_printDownTo_26 rfl 3 rfl ?_
    refine g_iald O (tree_1 ha2) (by decide) dX5_printDownTo_27 (fun v3 => ?_)
    refine g_callV0 (As := [vI v3]) (rest := []) (b := a0) (ci := 5) O mw_2_148 mw_2_150 mp_1_6 mw_2_151 mw_1_9 hd_X5_append rfl ha0 rfl dX5_printDownTo_28 (ct_X5_append ha0 v3 s2) (by rw [hfr]; decide) (by rw [hlo]; decide) (Nat.le_of_ble_eq_true rfl) (fun _ s5 => ?_)
    refine g_iload_n O dX5_printDownTo_31 rfl 3 rfl ?_
    refine g_iload_n O dX5_printDownTo_32 rfl 1 rfl ?_
    refine g_icmp_le (tgt := 42) O dX5_printDownTo_33 (by decide) ?_ ?_
    · refine g_iinc (lv2 := [(3, vI (i3 + (-1))), (0, vR a0), (1, vI i1), (2, vR a2)]) O dX5_printDownTo_42 3 rfl (by decide) rfl ?_
      refine g_goto (tgt := 7) O dX5_printDownTo_45 (by decide) ?_
      refine g_pick [1, 2, 3, 0] rfl ?_
      exact ih (i3 + (-1)) s5
    refine g_aload_n O dX5_printDownTo_36 rfl 0 rfl ?_
    refine g_bipush O dX5_printDownTo_37 (by decide +kernel) ?_
    refine g_callV0 (As := [vI 40]) (rest := []) (b := a0) (ci := 5) O mw_2_148 mw_2_150 mp_1_6 mw_2_151 mw_1_9 hd_X5_append rfl ha0 rfl dX5_printDownTo_39 (ct_X5_append ha0 40 s5) (by rw [hfr]; decide) (by rw [hlo]; decide) (Nat.le_of_ble_eq_true rfl) (fun _ s7 => ?_)
    refine g_iinc (lv2 := [(3, vI (i3 + (-1))), (0, vR a0), (1, vI i1), (2, vR a2)]) O dX5_printDownTo_42 3 rfl (by decide) rfl ?_
    refine g_goto (tgt := 7) O dX5_printDownTo_45 (by decide) ?_
    refine g_pick [1, 2, 3, 0] rfl ?_
    exact ih (i3 + (-1)) s7
theorem hd_X5_printDownTo : yX5_printDownTo.cls ≠ "java/lang/invoke/MethodHandle" ∧ yX5_printDownTo.cls ≠ "java/lang/invoke/VarHandle" ∧ (parseMethodDescriptor yX5_printDownTo.desc).map (fun d => d.parameters.length) = some 2 := by decide +kernel
set_option maxRecDepth 20000 in
set_option maxHeartbeats 4000000 in
theorem ct_X5_printDownTo {a0 : Nat} (ha0 : Kd LC a0 15) {a2 : Nat} (ha2 : Kd LC a2 16) (i1 : Int) (s : St) : Ctr LC yX5_printDownTo cX5_printDownTo 4 none 0 1 21 [vR a0, vI i1, vR a2] s (X5_printDownTo a0 i1 a2 s) := by
  refine Ctr.of (by decide +kernel) (fun ρ => Nat.le_of_ble_eq_true rfl) (lv := [(0, vR a0), (1, vI i1), (2, vR a2)]) (fun ρ => rfl) (fun K X O hrt hfr hlo => ?_)
  unfold X5_printDownTo
  refine g_aload_n O dX5_printDownTo_0 rfl 2 rfl ?_
  refine g_getI O fw_5_19 (tree_c ha2) dX5_printDownTo_1 rfl ?_
  refine g_iconst O dX5_printDownTo_4 ?_
  refine g_isub O dX5_printDownTo_5 ?_
  refine g_istore_n (lv2 := [(3, vI ((s a2 0) - 1)), (0, vR a0), (1, vI i1), (2, vR a2)]) O dX5_printDownTo_6 rfl (by decide) rfl ?_
  refine g_pick [1, 2, 3, 0] rfl ?_
  refine lt_X5_printDownTo_7 O hrt hfr hlo ha0 ha2 (fun s1 => ?_) FU ((s a2 0) - 1) s
  exact g_vret O hrt dX5_printDownTo_48
def X5_print_7 (a0 : Nat) (a1 : Nat) (k : St → Rs) : Nat → Int → St → Rs
  | 0, _, _ => none
  | n + 1, i2, s => cLt i2 (s a1 0) (rd s (a1 + 2) 12 i2 (fun v1 => cLt 1 v1 (cl (X5_append a0 41 s) (fun _ s5 => X5_print_7 a0 a1 k n (i2 + 1) s5)) (cl (X5_printDownTo a0 i2 a1 s) (fun _ s3 => X5_print_7 a0 a1 k n (i2 + 1) s3)))) (k s)
def X5_print (a0 : Nat) (a1 : Nat) (s : St) : Rs := put s a0 0 0 (fun s1 => X5_print_7 a0 a1 (fun s2 => some (s2 a0 0, s2)) FU 0 s1)
set_option maxRecDepth 20000 in
set_option maxHeartbeats 4000000 in
theorem lt_X5_print_7 {K : Cx} {X : Wx} (O : OKx LC K X yX5_print.cls cX5_print 3) (hrt : (kMe K).sig.returnType = (Option.some .int)) (hfr : (kR K).frames = 2) (hlo : (kR K).locals = 44) {a0 : Nat} {a1 : Nat} {k : St → Rs} (ha0 : Kd LC a0 15) (ha1 : Kd LC a1 16) (hk : ∀  (s : St), GX LC K X 3 1 46 [(0, vR a0)] [] s (k s)) : ∀ (n : Nat) (i2 : Int) (s : St), GX LC K X 3 1 7 [(0, vR a0), (1, vR a1), (2, vI i2)] [] s (X5_print_7 a0 a1 k n i2 s) := by
  intro n
  induction n with
  | zero => intro i2 s; exact GX.none
  | succ n ih =>
    intro i2 s
    rw [X5_print_7]
    refine g_iload_n O dX5_print_7 rfl 2 rfl ?_
    refine g_aload_n O dX5_print_8 rfl 1 rfl ?_
    refine g_getI O fw_5_19 (tree_c ha1) dX5_print_9 rfl ?_
    refine g_icmp_ge (tgt := 46) O dX5_print_12 (by decide) ?_ ?_
    · refine g_pick [0] rfl ?_
      exact hk s
    refine g_aload_n O dX5_print_15 rfl 1 rfl ?_
    refine g_getR O fw_5_24 (tree_c ha1) dX5_print_16 rfl ?_
    refine g_iload_n O dX5_print_19 rfl 2 rfl ?_
    refine g_iald O (tree_2 ha1) (by decide) dX5_print_20 (fun v1 => ?_)
    refine g_iconst O dX5_print_21 ?_
    refine g_icmp_le (tgt := 34) O dX5_print_22 (by decide) ?_ ?_
    · refine g_aload_n O dX5_print_34 rfl 0 rfl ?_
      refine g_iload_n O dX5_print_35 rfl 2 rfl ?_
      refine g_aload_n O dX5_print_36 rfl 1 rfl ?_
      refine g_callV0 (As := [vI i2, vR a1]) (rest := []) (b := a0) (ci := 5) O mw_2_152 mw_2_154 mp_1_7 mw_2_155 mw_1_9 hd_X5_printDownTo rfl ha0 rfl dX5_print_37 (ct_X5_printDownTo ha0 ha1 i2 s) (by rw [hfr]; decide) (by rw [hlo]; decide) (Nat.le_of_ble_eq_true rfl) (fun _ s3 => ?_)
      refine g_iinc (lv2 := [(2, vI (i2 + 1)), (0, vR a0), (1, vR a1)]) O dX5_print_40 2 rfl (by decide) rfl ?_
      refine g_goto (tgt := 7) O dX5_print_43 (by decide) ?_
      refine g_pick [1, 2, 0] rfl ?_
      exact ih (i2 + 1) s3
    refine g_aload_n O dX5_print_25 rfl 0 rfl ?_
    refine g_bipush O dX5_print_26 (by decide +kernel) ?_
    refine g_callV0 (As := [vI 41]) (rest := []) (b := a0) (ci := 5) O mw_2_148 mw_2_150 mp_1_6 mw_2_151 mw_1_9 hd_X5_append rfl ha0 rfl dX5_print_28 (ct_X5_append ha0 41 s) (by rw [hfr]; decide) (by rw [hlo]; decide) (Nat.le_of_ble_eq_true rfl) (fun _ s5 => ?_)
    refine g_goto (tgt := 40) O dX5_print_31 (by decide) ?_
    refine g_iinc (lv2 := [(2, vI (i2 + 1)), (0, vR a0), (1, vR a1)]) O dX5_print_40 2 rfl (by decide) rfl ?_
    refine g_goto (tgt := 7) O dX5_print_43 (by decide) ?_
    refine g_pick [1, 2, 0] rfl ?_
    exact ih (i2 + 1) s5
theorem hd_X5_print : yX5_print.cls ≠ "java/lang/invoke/MethodHandle" ∧ yX5_print.cls ≠ "java/lang/invoke/VarHandle" ∧ (parseMethodDescriptor yX5_print.desc).map (fun d => d.parameters.length) = some 1 := by decide +kernel
set_option maxRecDepth 20000 in
set_option maxHeartbeats 4000000 in
theorem ct_X5_print {a0 : Nat} (ha0 : Kd LC a0 15) {a1 : Nat} (ha1 : Kd LC a1 16)  (s : St) : Ctr LC yX5_print cX5_print 3 (Option.some .int) 1 2 44 [vR a0, vR a1] s (X5_print a0 a1 s) := by
  refine Ctr.of (by decide +kernel) (fun ρ => Nat.le_of_ble_eq_true rfl) (lv := [(0, vR a0), (1, vR a1)]) (fun ρ => rfl) (fun K X O hrt hfr hlo => ?_)
  unfold X5_print
  refine g_aload_n O dX5_print_0 rfl 0 rfl ?_
  refine g_iconst O dX5_print_1 ?_
  refine g_putI O fw_5_9 (txt_c ha0) dX5_print_2 rfl rfl rfl (fun s1 => ?_)
  refine g_iconst O dX5_print_5 ?_
  refine g_istore_n (lv2 := [(2, vI 0), (0, vR a0), (1, vR a1)]) O dX5_print_6 rfl (by decide) rfl ?_
  refine g_pick [1, 2, 0] rfl ?_
  refine lt_X5_print_7 O hrt hfr hlo ha0 ha1 (fun s2 => ?_) FU 0 s1
  refine g_aload_n O dX5_print_46 rfl 0 rfl ?_
  refine g_getI O fw_5_9 (txt_c ha0) dX5_print_47 rfl ?_
  exact g_iret O hrt rfl dX5_print_50
def X8_write (i1 : Int) (i2 : Int) (s : St) : Rs := cl (X8_noDocument i1 s) (fun v1 s2 => cEq v1 0 (cl (X8_noText i2 s2) (fun v3 s4 => cEq v3 0 (cl (X3_tree i1 s4) (fun v5 s6 => gK LC v5.toNat 16 (cEq (s6 v5.toNat 0) 0 (some ((-4), s6)) (rdR 4 i2 (fun j7 => cl (X3_tree i1 s6) (fun v8 s9 => gK LC v8.toNat 16 (cl (X5_print (22 + 2 * j7) v8.toNat s9) (fun v10 s11 => some (v10, s11))))))))) (some ((-1), s4)))) (some ((-1), s2)))
theorem hd_X8_write : yX8_write.cls ≠ "java/lang/invoke/MethodHandle" ∧ yX8_write.cls ≠ "java/lang/invoke/VarHandle" ∧ (parseMethodDescriptor yX8_write.desc).map (fun d => d.parameters.length) = some 2 := by decide +kernel
set_option maxRecDepth 20000 in
set_option maxHeartbeats 4000000 in
theorem ct_X8_write  (i1 : Int) (i2 : Int) (s : St) : Ctr LC yX8_write cX8_write 3 (Option.some .int) 1 3 66 [vR 0, vI i1, vI i2] s (X8_write i1 i2 s) := by
  refine Ctr.of (by decide +kernel) (fun ρ => Nat.le_of_ble_eq_true rfl) (lv := [(0, vR 0), (1, vI i1), (2, vI i2)]) (fun ρ => rfl) (fun K X O hrt hfr hlo => ?_)
  unfold X8_write
  refine g_iload_n O dX8_write_0 rfl 1 rfl ?_
  refine g_callS1 (As := [vI i1]) (rest := []) O mw_2_128 mw_2_129 mw_2_130 mw_1_1 hd_X8_noDocument rfl dX8_write_1 (ct_X8_noDocument i1 s) (by rw [hfr]; decide) (by rw [hlo]; decide) (Nat.le_of_ble_eq_true rfl) (fun v1 s2 => ?_)
  refine g_if_ne (tgt := 14) O dX8_write_4 (by decide) ?_ ?_
  · refine g_iconst O dX8_write_14 ?_
    exact g_iret O hrt rfl dX8_write_15
  refine g_iload_n O dX8_write_7 rfl 2 rfl ?_
  refine g_callS1 (As := [vI i2]) (rest := []) O mw_2_82 mw_2_83 mw_2_84 mw_1_1 hd_X8_noText rfl dX8_write_8 (ct_X8_noText i2 s2) (by rw [hfr]; decide) (by rw [hlo]; decide) (Nat.le_of_ble_eq_true rfl) (fun v3 s4 => ?_)
  refine g_if_eq (tgt := 16) O dX8_write_11 (by decide) ?_ ?_
  · refine g_aload_n O dX8_write_16 rfl 0 rfl ?_
    refine g_getR O fw_8_32 rfl dX8_write_17 rfl ?_
    refine g_iload_n O dX8_write_20 rfl 1 rfl ?_
    refine g_callV3 (As := [vI i1]) (rest := []) (b := 6) (ci := 3) O mw_2_131 mw_2_132 mw_2_133 mw_2_134 mw_1_3 hd_X3_tree rfl ⟨_, _, rfl⟩ rfl dX8_write_21 (ct_X3_tree i1 s4) (by rw [hfr]; decide) (by rw [hlo]; decide) (Nat.le_of_ble_eq_true rfl) (fun v5 s6 => ?_)
    refine g_gK (by decide) (fun hk1 => ?_)
    refine g_getI O fw_8_142 (tree_c hk1) dX8_write_24 rfl ?_
    refine g_if_ne (tgt := 33) O dX8_write_27 (by decide) ?_ ?_
    · refine g_aload_n O dX8_write_33 rfl 0 rfl ?_
      refine g_getR O fw_8_17 rfl dX8_write_34 rfl ?_
      refine g_iload_n O dX8_write_37 rfl 2 rfl ?_
      refine g_aald (g := fun j => 22 + 2 * j) O rfl (by decide) (by decide) (by decide) el_3 dX8_write_38 (fun j7 hj2 => ?_)
      refine g_aload_n O dX8_write_39 rfl 0 rfl ?_
      refine g_getR O fw_8_32 rfl dX8_write_40 rfl ?_
      refine g_iload_n O dX8_write_43 rfl 1 rfl ?_
      refine g_callV3 (As := [vI i1]) (rest := [vR (22 + 2 * j7)]) (b := 6) (ci := 3) O mw_2_131 mw_2_132 mw_2_133 mw_2_134 mw_1_3 hd_X3_tree rfl ⟨_, _, rfl⟩ rfl dX8_write_44 (ct_X3_tree i1 s6) (by rw [hfr]; decide) (by rw [hlo]; decide) (Nat.le_of_ble_eq_true rfl) (fun v8 s9 => ?_)
      refine g_gK (by decide) (fun hk3 => ?_)
      refine g_callV1 (As := [vR v8.toNat]) (rest := []) (b := 22 + 2 * j7) (ci := 5) O mw_2_144 mw_2_145 mw_2_146 mw_2_147 mw_1_9 hd_X5_print rfl (elk_3 hj2) rfl dX8_write_47 (ct_X5_print (elk_3 hj2) hk3  s9) (by rw [hfr]; decide) (by rw [hlo]; decide) (Nat.le_of_ble_eq_true rfl) (fun v10 s11 => ?_)
      exact g_iret O hrt rfl dX8_write_50
    refine g_bipush O dX8_write_30 (by decide +kernel) ?_
    exact g_iret O hrt rfl dX8_write_32
  refine g_iconst O dX8_write_14 ?_
  exact g_iret O hrt rfl dX8_write_15
def X6_has (a0 : Nat) (i1 : Int) (s : St) : Rs := cLt i1 0 (some (0, s)) (cLt i1 (s a0 0) (some (1, s)) (some (0, s)))
theorem hd_X6_has : yX6_has.cls ≠ "java/lang/invoke/MethodHandle" ∧ yX6_has.cls ≠ "java/lang/invoke/VarHandle" ∧ (parseMethodDescriptor yX6_has.desc).map (fun d => d.parameters.length) = some 1 := by decide +kernel
set_option maxRecDepth 20000 in
set_option maxHeartbeats 4000000 in
theorem ct_X6_has {a0 : Nat} (ha0 : Kd LC a0 16) (i1 : Int) (s : St) : Ctr LC yX6_has cX6_has 2 (Option.some .boolean) 1 0 0 [vR a0, vI i1] s (X6_has a0 i1 s) := by
  refine Ctr.of (by decide +kernel) (fun ρ => Nat.le_of_ble_eq_true rfl) (lv := [(0, vR a0), (1, vI i1)]) (fun ρ => rfl) (fun K X O hrt hfr hlo => ?_)
  unfold X6_has
  refine g_iload_n O dX6_has_0 rfl 1 rfl ?_
  refine g_if_lt (tgt := 16) O dX6_has_1 (by decide) ?_ ?_
  · refine g_iconst O dX6_has_16 ?_
    exact g_iret O hrt (by decide +kernel) dX6_has_17
  refine g_iload_n O dX6_has_4 rfl 1 rfl ?_
  refine g_aload_n O dX6_has_5 rfl 0 rfl ?_
  refine g_getI O fw_6_9 (tree_c ha0) dX6_has_6 rfl ?_
  refine g_icmp_ge (tgt := 16) O dX6_has_9 (by decide) ?_ ?_
  · refine g_iconst O dX6_has_16 ?_
    exact g_iret O hrt (by decide +kernel) dX6_has_17
  refine g_iconst O dX6_has_12 ?_
  refine g_goto (tgt := 17) O dX6_has_13 (by decide) ?_
  exact g_iret O hrt (by decide +kernel) dX6_has_17
def X8_noNode (i1 : Int) (i2 : Int) (s : St) : Rs := cl (X8_noDocument i1 s) (fun v1 s2 => cEq v1 0 (cl (X3_tree i1 s2) (fun v3 s4 => gK LC v3.toNat 16 (cl (X6_has v3.toNat i2 s4) (fun v5 s6 => cEq v5 0 (some (1, s6)) (some (0, s6)))))) (some (1, s2)))
theorem hd_X8_noNode : yX8_noNode.cls ≠ "java/lang/invoke/MethodHandle" ∧ yX8_noNode.cls ≠ "java/lang/invoke/VarHandle" ∧ (parseMethodDescriptor yX8_noNode.desc).map (fun d => d.parameters.length) = some 2 := by decide +kernel
set_option maxRecDepth 20000 in
set_option maxHeartbeats 4000000 in
theorem ct_X8_noNode  (i1 : Int) (i2 : Int) (s : St) : Ctr LC yX8_noNode cX8_noNode 3 (Option.some .boolean) 1 1 21 [vR 0, vI i1, vI i2] s (X8_noNode i1 i2 s) := by
  refine Ctr.of (by decide +kernel) (fun ρ => Nat.le_of_ble_eq_true rfl) (lv := [(0, vR 0), (1, vI i1), (2, vI i2)]) (fun ρ => rfl) (fun K X O hrt hfr hlo => ?_)
  unfold X8_noNode
  refine g_iload_n O dX8_noNode_0 rfl 1 rfl ?_
  refine g_callS1 (As := [vI i1]) (rest := []) O mw_2_128 mw_2_129 mw_2_130 mw_1_1 hd_X8_noDocument rfl dX8_noNode_1 (ct_X8_noDocument i1 s) (by rw [hfr]; decide) (by rw [hlo]; decide) (Nat.le_of_ble_eq_true rfl) (fun v1 s2 => ?_)
  refine g_if_ne (tgt := 22) O dX8_noNode_4 (by decide) ?_ ?_
  · refine g_iconst O dX8_noNode_22 ?_
    refine g_goto (tgt := 27) O dX8_noNode_23 (by decide) ?_
    exact g_iret O hrt (by decide +kernel) dX8_noNode_27
  refine g_aload_n O dX8_noNode_7 rfl 0 rfl ?_
  refine g_getR O fw_8_32 rfl dX8_noNode_8 rfl ?_
  refine g_iload_n O dX8_noNode_11 rfl 1 rfl ?_
  refine g_callV3 (As := [vI i1]) (rest := []) (b := 6) (ci := 3) O mw_2_131 mw_2_132 mw_2_133 mw_2_134 mw_1_3 hd_X3_tree rfl ⟨_, _, rfl⟩ rfl dX8_noNode_12 (ct_X3_tree i1 s2) (by rw [hfr]; decide) (by rw [hlo]; decide) (Nat.le_of_ble_eq_true rfl) (fun v3 s4 => ?_)
  refine g_gK (by decide) (fun hk1 => ?_)
  refine g_iload_n O dX8_noNode_15 rfl 2 rfl ?_
  refine g_callV1 (As := [vI i2]) (rest := []) (b := v3.toNat) (ci := 6) O mw_2_168 mw_2_169 mw_2_170 mw_2_171 mw_1_4 hd_X6_has rfl hk1 rfl dX8_noNode_16 (ct_X6_has hk1 i2 s4) (by rw [hfr]; decide) (by rw [hlo]; decide) (Nat.le_of_ble_eq_true rfl) (fun v5 s6 => ?_)
  refine g_if_ne (tgt := 26) O dX8_noNode_19 (by decide) ?_ ?_
  · refine g_iconst O dX8_noNode_26 ?_
    exact g_iret O hrt (by decide +kernel) dX8_noNode_27
  refine g_iconst O dX8_noNode_22 ?_
  refine g_goto (tgt := 27) O dX8_noNode_23 (by decide) ?_
  exact g_iret O hrt (by decide +kernel) dX8_noNode_27
def X6_parent_4 (a0 : Nat) (i1 : Int) (k : St → Rs) : Nat → Int → St → Rs
  | 0, _, _ => none
  | n + 1, i2, s => cLt i2 (s a0 0) (cl (X6_leftmost a0 i2 s) (fun v1 s2 => cLt i1 v1 (X6_parent_4 a0 i1 k n (i2 + 1) s2) (some (i2, s2)))) (k s)
def X6_parent (a0 : Nat) (i1 : Int) (s : St) : Rs := X6_parent_4 a0 i1 (fun s1 => some ((-9), s1)) FU (i1 + 1) s
set_option maxRecDepth 20000 in
set_option maxHeartbeats 4000000 in
theorem lt_X6_parent_4 {K : Cx} {X : Wx} (O : OKx LC K X yX6_parent.cls cX6_parent 3) (hrt : (kMe K).sig.returnType = (Option.some .int)) (hfr : (kR K).frames = 1) (hlo : (kR K).locals = 21) {a0 : Nat} {i1 : Int} {k : St → Rs} (ha0 : Kd LC a0 16) (hk : ∀  (s : St), GX LC K X 3 1 29 [] [] s (k s)) : ∀ (n : Nat) (i2 : Int) (s : St), GX LC K X 3 1 4 [(0, vR a0), (1, vI i1), (2, vI i2)] [] s (X6_parent_4 a0 i1 k n i2 s) := by
  intro n
  induction n with
  | zero => intro i2 s; exact GX.none
  | succ n ih =>
    intro i2 s
    rw [X6_parent_4]
    refine g_iload_n O dX6_parent_4 rfl 2 rfl ?_
    refine g_aload_n O dX6_parent_5 rfl 0 rfl ?_
    refine g_getI O fw_6_9 (tree_c ha0) dX6_parent_6 rfl ?_
    refine g_icmp_ge (tgt := 29) O dX6_parent_9 (by decide) ?_ ?_
    · refine g_pick [] rfl ?_
      exact hk s
    refine g_aload_n O dX6_parent_12 rfl 0 rfl ?_
    refine g_iload_n O dX6_parent_13 rfl 2 rfl ?_
    refine g_callV1 (As := [vI i2]) (rest := []) (b := a0) (ci := 6) O mw_2_182 mw_2_157 mw_2_158 mw_2_159 mw_1_4 hd_X6_leftmost rfl ha0 rfl dX6_parent_14 (ct_X6_leftmost ha0 i2 s) (by rw [hfr]; decide) (by rw [hlo]; decide) (Nat.le_of_ble_eq_true rfl) (fun v1 s2 => ?_)
    refine g_iload_n O dX6_parent_17 rfl 1 rfl ?_
    refine g_icmp_gt (tgt := 23) O dX6_parent_18 (by decide) ?_ ?_
    · refine g_iinc (lv2 := [(2, vI (i2 + 1)), (0, vR a0), (1, vI i1)]) O dX6_parent_23 2 rfl (by decide) rfl ?_
      refine g_goto (tgt := 4) O dX6_parent_26 (by decide) ?_
      refine g_pick [1, 2, 0] rfl ?_
      exact ih (i2 + 1) s2
    refine g_iload_n O dX6_parent_21 rfl 2 rfl ?_
    exact g_iret O hrt rfl dX6_parent_22
theorem hd_X6_parent : yX6_parent.cls ≠ "java/lang/invoke/MethodHandle" ∧ yX6_parent.cls ≠ "java/lang/invoke/VarHandle" ∧ (parseMethodDescriptor yX6_parent.desc).map (fun d => d.parameters.length) = some 1 := by decide +kernel
set_option maxRecDepth 20000 in
set_option maxHeartbeats 4000000 in
theorem ct_X6_parent {a0 : Nat} (ha0 : Kd LC a0 16) (i1 : Int) (s : St) : Ctr LC yX6_parent cX6_parent 3 (Option.some .int) 1 1 21 [vR a0, vI i1] s (X6_parent a0 i1 s) := by
  refine Ctr.of (by decide +kernel) (fun ρ => Nat.le_of_ble_eq_true rfl) (lv := [(0, vR a0), (1, vI i1)]) (fun ρ => rfl) (fun K X O hrt hfr hlo => ?_)
  unfold X6_parent
  refine g_iload_n O dX6_parent_0 rfl 1 rfl ?_
  refine g_iconst O dX6_parent_1 ?_
  refine g_iadd O dX6_parent_2 ?_
  refine g_istore_n (lv2 := [(2, vI (i1 + 1)), (0, vR a0), (1, vI i1)]) O dX6_parent_3 rfl (by decide) rfl ?_
  refine g_pick [1, 2, 0] rfl ?_
  refine lt_X6_parent_4 O hrt hfr hlo ha0 (fun s1 => ?_) FU (i1 + 1) s
  refine g_bipush O dX6_parent_29 (by decide +kernel) ?_
  exact g_iret O hrt rfl dX6_parent_31
def X6_children_8 (a0 : Nat) (i1 : Int) (k : Int → St → Rs) : Nat → Int → Int → St → Rs
  | 0, _, _, _ => none
  | n + 1, i2, i3, s => cLt i3 i1 (cl (X6_parent a0 i3 s) (fun v1 s2 => cEq v1 i1 (X6_children_8 a0 i1 k n (i2 + 1) (i3 + 1) s2) (X6_children_8 a0 i1 k n i2 (i3 + 1) s2))) (k i2 s)
def X6_children (a0 : Nat) (i1 : Int) (s : St) : Rs := cl (X6_leftmost a0 i1 s) (fun v1 s2 => X6_children_8 a0 i1 (fun x3 s4 => some (x3, s4)) FU 0 v1 s2)
set_option maxRecDepth 20000 in
set_option maxHeartbeats 4000000 in
theorem lt_X6_children_8 {K : Cx} {X : Wx} (O : OKx LC K X yX6_children.cls cX6_children 4) (hrt : (kMe K).sig.returnType = (Option.some .int)) (hfr : (kR K).frames = 2) (hlo : (kR K).locals = 43) {a0 : Nat} {i1 : Int} {k : Int → St → Rs} (ha0 : Kd LC a0 16) (hk : ∀ (i2 : Int) (s : St), GX LC K X 4 1 31 [(2, vI i2)] [] s (k i2 s)) : ∀ (n : Nat) (i2 : Int) (i3 : Int) (s : St), GX LC K X 4 1 8 [(0, vR a0), (1, vI i1), (2, vI i2), (3, vI i3)] [] s (X6_children_8 a0 i1 k n i2 i3 s) := by
  intro n
  induction n with
  | zero => intro i2 i3 s; exact GX.none
  | succ n ih =>
    intro i2 i3 s
    rw [X6_children_8]
    refine g_iload_n O dX6_children_8 rfl 3 rfl ?_
    refine g_iload_n O dX6_children_9 rfl 1 rfl ?_
    refine g_icmp_ge (tgt := 31) O dX6_children_10 (by decide) ?_ ?_
    · refine g_pick [2] rfl ?_
      exact hk i2 s
    refine g_aload_n O dX6_children_13 rfl 0 rfl ?_
    refine g_iload_n O dX6_children_14 rfl 3 rfl ?_
    refine g_callV1 (As := [vI i3]) (rest := []) (b := a0) (ci := 6) O mw_2_183 mw_2_184 mw_2_185 mw_2_186 mw_1_4 hd_X6_parent rfl ha0 rfl dX6_children_15 (ct_X6_parent ha0 i3 s) (by rw [hfr]; decide) (by rw [hlo]; decide) (Nat.le_of_ble_eq_true rfl) (fun v1 s2 => ?_)
    refine g_iload_n O dX6_children_18 rfl 1 rfl ?_
    refine g_icmp_ne (tgt := 25) O dX6_children_19 (by decide) ?_ ?_
    · refine g_iinc (lv2 := [(3, vI (i3 + 1)), (0, vR a0), (1, vI i1), (2, vI i2)]) O dX6_children_25 3 rfl (by decide) rfl ?_
      refine g_goto (tgt := 8) O dX6_children_28 (by decide) ?_
      refine g_pick [1, 2, 3, 0] rfl ?_
      exact ih i2 (i3 + 1) s2
    refine g_iinc (lv2 := [(2, vI (i2 + 1)), (0, vR a0), (1, vI i1), (3, vI i3)]) O dX6_children_22 2 rfl (by decide) rfl ?_
    refine g_iinc (lv2 := [(3, vI (i3 + 1)), (2, vI (i2 + 1)), (0, vR a0), (1, vI i1)]) O dX6_children_25 3 rfl (by decide) rfl ?_
    refine g_goto (tgt := 8) O dX6_children_28 (by decide) ?_
    refine g_pick [2, 3, 1, 0] rfl ?_
    exact ih (i2 + 1) (i3 + 1) s2
theorem hd_X6_children : yX6_children.cls ≠ "java/lang/invoke/MethodHandle" ∧ yX6_children.cls ≠ "java/lang/invoke/VarHandle" ∧ (parseMethodDescriptor yX6_children.desc).map (fun d => d.parameters.length) = some 1 := by decide +kernel
set_option maxRecDepth 20000 in
set_option maxHeartbeats 4000000 in
theorem ct_X6_children {a0 : Nat} (ha0 : Kd LC a0 16) (i1 : Int) (s : St) : Ctr LC yX6_children cX6_children 4 (Option.some .int) 1 2 43 [vR a0, vI i1] s (X6_children a0 i1 s) := by
  refine Ctr.of (by decide +kernel) (fun ρ => Nat.le_of_ble_eq_true rfl) (lv := [(0, vR a0), (1, vI i1)]) (fun ρ => rfl) (fun K X O hrt hfr hlo => ?_)
  unfold X6_children
  refine g_iconst O dX6_children_0 ?_
  refine g_istore_n (lv2 := [(2, vI 0), (0, vR a0), (1, vI i1)]) O dX6_children_1 rfl (by decide) rfl ?_
  refine g_aload_n O dX6_children_2 rfl 1 rfl ?_
  refine g_iload_n O dX6_children_3 rfl 2 rfl ?_
  refine g_callV1 (As := [vI i1]) (rest := []) (b := a0) (ci := 6) O mw_2_182 mw_2_157 mw_2_158 mw_2_159 mw_1_4 hd_X6_leftmost rfl ha0 rfl dX6_children_4 (ct_X6_leftmost ha0 i1 s) (by rw [hfr]; decide) (by rw [hlo]; decide) (Nat.le_of_ble_eq_true rfl) (fun v1 s2 => ?_)
  refine g_istore_n (lv2 := [(3, vI v1), (2, vI 0), (0, vR a0), (1, vI i1)]) O dX6_children_7 rfl (by decide) rfl ?_
  refine g_pick [2, 3, 1, 0] rfl ?_
  refine lt_X6_children_8 O hrt hfr hlo ha0 (fun x3 s4 => ?_) FU 0 v1 s2
  refine g_iload_n O dX6_children_31 rfl 0 rfl ?_
  exact g_iret O hrt rfl dX6_children_32
def X6_isKey (a0 : Nat) (i1 : Int) (i2 : Int) (s : St) : Rs := cl (X6_parent a0 i1 s) (fun v1 s2 => cEq v1 (-9) (some (1, s2)) (cEq i2 0 (cl (X6_leftmost a0 v1 s2) (fun v3 s4 => cl (X6_leftmost a0 i1 s4) (fun v5 s6 => cEq v3 v5 (some (0, s6)) (some (1, s6))))) (cEq v1 (i1 + 1) (some (0, s2)) (some (1, s2)))))
theorem hd_X6_isKey : yX6_isKey.cls ≠ "java/lang/invoke/MethodHandle" ∧ yX6_isKey.cls ≠ "java/lang/invoke/VarHandle" ∧ (parseMethodDescriptor yX6_isKey.desc).map (fun d => d.parameters.length) = some 2 := by decide +kernel
set_option maxRecDepth 20000 in
set_option maxHeartbeats 4000000 in
theorem ct_X6_isKey {a0 : Nat} (ha0 : Kd LC a0 16) (i1 : Int) (i2 : Int) (s : St) : Ctr LC yX6_isKey cX6_isKey 4 (Option.some .boolean) 1 2 43 [vR a0, vI i1, vI i2] s (X6_isKey a0 i1 i2 s) := by
  refine Ctr.of (by decide +kernel) (fun ρ => Nat.le_of_ble_eq_true rfl) (lv := [(0, vR a0), (1, vI i1), (2, vI i2)]) (fun ρ => rfl) (fun K X O hrt hfr hlo => ?_)
  unfold X6_isKey
  refine g_aload_n O dX6_isKey_0 rfl 0 rfl ?_
  refine g_iload_n O dX6_isKey_1 rfl 1 rfl ?_
  refine g_callV1 (As := [vI i1]) (rest := []) (b := a0) (ci := 6) O mw_2_183 mw_2_184 mw_2_185 mw_2_186 mw_1_4 hd_X6_parent rfl ha0 rfl dX6_isKey_2 (ct_X6_parent ha0 i1 s) (by rw [hfr]; decide) (by rw [hlo]; decide) (Nat.le_of_ble_eq_true rfl) (fun v1 s2 => ?_)
  refine g_istore_n (lv2 := [(3, vI v1), (0, vR a0), (1, vI i1), (2, vI i2)]) O dX6_isKey_5 rfl (by decide) rfl ?_
  refine g_iload_n O dX6_isKey_6 rfl 0 rfl ?_
  refine g_bipush O dX6_isKey_7 (by decide +kernel) ?_
  refine g_icmp_ne (tgt := 14) O dX6_isKey_9 (by decide) ?_ ?_
  · refine g_iload_n O dX6_isKey_14 rfl 3 rfl ?_
    refine g_if_ne (tgt := 39) O dX6_isKey_15 (by decide) ?_ ?_
    · refine g_iload_n O dX6_isKey_39 rfl 0 rfl ?_
      refine g_iload_n O dX6_isKey_40 rfl 2 rfl ?_
      refine g_iconst O dX6_isKey_41 ?_
      refine g_iadd O dX6_isKey_42 ?_
      refine g_icmp_eq (tgt := 50) O dX6_isKey_43 (by decide) ?_ ?_
      · refine g_iconst O dX6_isKey_50 ?_
        exact g_iret O hrt (by decide +kernel) dX6_isKey_51
      refine g_iconst O dX6_isKey_46 ?_
      refine g_goto (tgt := 51) O dX6_isKey_47 (by decide) ?_
      exact g_iret O hrt (by decide +kernel) dX6_isKey_51
    refine g_aload_n O dX6_isKey_18 rfl 1 rfl ?_
    refine g_iload_n O dX6_isKey_19 rfl 0 rfl ?_
    refine g_callV1 (As := [vI v1]) (rest := []) (b := a0) (ci := 6) O mw_2_182 mw_2_157 mw_2_158 mw_2_159 mw_1_4 hd_X6_leftmost rfl ha0 rfl dX6_isKey_20 (ct_X6_leftmost ha0 v1 s2) (by rw [hfr]; decide) (by rw [hlo]; decide) (Nat.le_of_ble_eq_true rfl) (fun v3 s4 => ?_)
    refine g_aload_n O dX6_isKey_23 rfl 1 rfl ?_
    refine g_iload_n O dX6_isKey_24 rfl 2 rfl ?_
    refine g_callV1 (As := [vI i1]) (rest := [vI v3]) (b := a0) (ci := 6) O mw_2_182 mw_2_157 mw_2_158 mw_2_159 mw_1_4 hd_X6_leftmost rfl ha0 rfl dX6_isKey_25 (ct_X6_leftmost ha0 i1 s4) (by rw [hfr]; decide) (by rw [hlo]; decide) (Nat.le_of_ble_eq_true rfl) (fun v5 s6 => ?_)
    refine g_icmp_eq (tgt := 35) O dX6_isKey_28 (by decide) ?_ ?_
    · refine g_iconst O dX6_isKey_35 ?_
      refine g_goto (tgt := 51) O dX6_isKey_36 (by decide) ?_
      exact g_iret O hrt (by decide +kernel) dX6_isKey_51
    refine g_iconst O dX6_isKey_31 ?_
    refine g_goto (tgt := 51) O dX6_isKey_32 (by decide) ?_
    exact g_iret O hrt (by decide +kernel) dX6_isKey_51
  refine g_iconst O dX6_isKey_12 ?_
  exact g_iret O hrt (by decide +kernel) dX6_isKey_13
