def X7_refresh  (s : St) : Rs := cEq (s 5 1) 0 (some (0, s)) (cl (X3_isWhole s) (fun v1 s2 => cEq v1 0 (some (0, s2)) (cl (X7_measure s2) (fun _ s4 => cl (X7_pairUp s4) (fun _ s6 => cl (X7_listSteps s6) (fun _ s8 => put s8 5 1 0 (fun s9 => some (0, s9))))))))
theorem hd_X7_refresh : yX7_refresh.cls ≠ "java/lang/invoke/MethodHandle" ∧ yX7_refresh.cls ≠ "java/lang/invoke/VarHandle" ∧ (parseMethodDescriptor yX7_refresh.desc).map (fun d => d.parameters.length) = some 0 := by decide +kernel
set_option maxRecDepth 20000 in
set_option maxHeartbeats 4000000 in
theorem ct_X7_refresh   (s : St) : Ctr LC yX7_refresh cX7_refresh 1 none 0 5 106 [vR 5] s (X7_refresh s) := by
  refine Ctr.of (by decide +kernel) (fun ρ => Nat.le_of_ble_eq_true rfl) (lv := [(0, vR 5)]) (fun ρ => rfl) (fun K X O hrt hfr hlo => ?_)
  unfold X7_refresh
  refine g_aload_n O dX7_refresh_0 rfl 0 rfl ?_
  refine g_getI O fw_7_18 rfl dX7_refresh_1 rfl ?_
  refine g_if_eq (tgt := 34) O dX7_refresh_4 (by decide) ?_ ?_
  · exact g_vret O hrt dX7_refresh_34
  refine g_aload_n O dX7_refresh_7 rfl 0 rfl ?_
  refine g_getR O fw_7_12 rfl dX7_refresh_8 rfl ?_
  refine g_callV1 (As := []) (rest := []) (b := 6) (ci := 3) O mw_2_236 mw_2_229 mw_2_230 mw_2_231 mw_1_3 hd_X3_isWhole rfl ⟨_, _, rfl⟩ rfl dX7_refresh_11 (ct_X3_isWhole  s) (by rw [hfr]; decide) (by rw [hlo]; decide) (Nat.le_of_ble_eq_true rfl) (fun v1 s2 => ?_)
  refine g_if_eq (tgt := 34) O dX7_refresh_14 (by decide) ?_ ?_
  · exact g_vret O hrt dX7_refresh_34
  refine g_aload_n O dX7_refresh_17 rfl 0 rfl ?_
  refine g_callV0 (As := []) (rest := []) (b := 5) (ci := 7) O mw_2_237 mw_2_238 mw_2_239 mw_3_0 mw_1_2 hd_X7_measure rfl ⟨_, _, rfl⟩ rfl dX7_refresh_18 (ct_X7_measure  s2) (by rw [hfr]; decide) (by rw [hlo]; decide) (Nat.le_of_ble_eq_true rfl) (fun _ s4 => ?_)
  refine g_aload_n O dX7_refresh_21 rfl 0 rfl ?_
  refine g_callV0 (As := []) (rest := []) (b := 5) (ci := 7) O mw_3_25 mw_3_27 mp_1_12 mw_3_28 mw_1_2 hd_X7_pairUp rfl ⟨_, _, rfl⟩ rfl dX7_refresh_22 (ct_X7_pairUp  s4) (by rw [hfr]; decide) (by rw [hlo]; decide) (Nat.le_of_ble_eq_true rfl) (fun _ s6 => ?_)
  refine g_aload_n O dX7_refresh_25 rfl 0 rfl ?_
  refine g_callV0 (As := []) (rest := []) (b := 5) (ci := 7) O mw_3_37 mw_3_39 mp_1_15 mw_3_40 mw_1_2 hd_X7_listSteps rfl ⟨_, _, rfl⟩ rfl dX7_refresh_26 (ct_X7_listSteps  s6) (by rw [hfr]; decide) (by rw [hlo]; decide) (Nat.le_of_ble_eq_true rfl) (fun _ s8 => ?_)
  refine g_aload_n O dX7_refresh_29 rfl 0 rfl ?_
  refine g_iconst O dX7_refresh_30 ?_
  refine g_putI O fw_7_18 rfl dX7_refresh_31 rfl (by decide +kernel) rfl (fun s9 => ?_)
  exact g_vret O hrt dX7_refresh_34
def X7_distance  (s : St) : Rs := cLt 0 (s 38 0) (cLt 0 (s 41 0) (rdR 12 ((s 38 0) - 1) (fun j1 => rd s (63 + j1) 12 ((s 41 0) - 1) (fun v2 => some (v2, s)))) (some (0, s))) (some (0, s))
theorem hd_X7_distance : yX7_distance.cls ≠ "java/lang/invoke/MethodHandle" ∧ yX7_distance.cls ≠ "java/lang/invoke/VarHandle" ∧ (parseMethodDescriptor yX7_distance.desc).map (fun d => d.parameters.length) = some 0 := by decide +kernel
set_option maxRecDepth 20000 in
set_option maxHeartbeats 4000000 in
theorem ct_X7_distance   (s : St) : Ctr LC yX7_distance cX7_distance 1 (Option.some .int) 1 0 0 [vR 5] s (X7_distance s) := by
  refine Ctr.of (by decide +kernel) (fun ρ => Nat.le_of_ble_eq_true rfl) (lv := [(0, vR 5)]) (fun ρ => rfl) (fun K X O hrt hfr hlo => ?_)
  unfold X7_distance
  refine g_aload_n O dX7_distance_0 rfl 0 rfl ?_
  refine g_getR O fw_7_45 rfl dX7_distance_1 rfl ?_
  refine g_getI O fw_7_82 rfl dX7_distance_4 rfl ?_
  refine g_if_le (tgt := 47) O dX7_distance_7 (by decide) ?_ ?_
  · refine g_iconst O dX7_distance_47 ?_
    exact g_iret O hrt rfl dX7_distance_48
  refine g_aload_n O dX7_distance_10 rfl 0 rfl ?_
  refine g_getR O fw_7_49 rfl dX7_distance_11 rfl ?_
  refine g_getI O fw_7_82 rfl dX7_distance_14 rfl ?_
  refine g_if_le (tgt := 47) O dX7_distance_17 (by decide) ?_ ?_
  · refine g_iconst O dX7_distance_47 ?_
    exact g_iret O hrt rfl dX7_distance_48
  refine g_aload_n O dX7_distance_20 rfl 0 rfl ?_
  refine g_getR O fw_7_35 rfl dX7_distance_21 rfl ?_
  refine g_aload_n O dX7_distance_24 rfl 0 rfl ?_
  refine g_getR O fw_7_45 rfl dX7_distance_25 rfl ?_
  refine g_getI O fw_7_82 rfl dX7_distance_28 rfl ?_
  refine g_iconst O dX7_distance_31 ?_
  refine g_isub O dX7_distance_32 ?_
  refine g_aald (g := fun j => 63 + j) O rfl (by decide) (by decide) (by decide) el_59 dX7_distance_33 (fun j1 hj1 => ?_)
  refine g_aload_n O dX7_distance_34 rfl 0 rfl ?_
  refine g_getR O fw_7_49 rfl dX7_distance_35 rfl ?_
  refine g_getI O fw_7_82 rfl dX7_distance_38 rfl ?_
  refine g_iconst O dX7_distance_41 ?_
  refine g_isub O dX7_distance_42 ?_
  refine g_iald O (elc_59 hj1) (by decide) dX7_distance_43 (fun v2 => ?_)
  refine g_goto (tgt := 48) O dX7_distance_44 (by decide) ?_
  exact g_iret O hrt rfl dX7_distance_48
def X8_least  (s : St) : Rs := cl (X3_isWhole s) (fun v1 s2 => cEq v1 0 (some ((-4), s2)) (cl (X7_refresh s2) (fun _ s4 => cl (X7_distance s4) (fun v5 s6 => some (v5, s6)))))
theorem hd_X8_least : yX8_least.cls ≠ "java/lang/invoke/MethodHandle" ∧ yX8_least.cls ≠ "java/lang/invoke/VarHandle" ∧ (parseMethodDescriptor yX8_least.desc).map (fun d => d.parameters.length) = some 0 := by decide +kernel
set_option maxRecDepth 20000 in
set_option maxHeartbeats 4000000 in
theorem ct_X8_least   (s : St) : Ctr LC yX8_least cX8_least 1 (Option.some .int) 1 6 126 [vR 0] s (X8_least s) := by
  refine Ctr.of (by decide +kernel) (fun ρ => Nat.le_of_ble_eq_true rfl) (lv := [(0, vR 0)]) (fun ρ => rfl) (fun K X O hrt hfr hlo => ?_)
  unfold X8_least
  refine g_aload_n O dX8_least_0 rfl 0 rfl ?_
  refine g_getR O fw_8_32 rfl dX8_least_1 rfl ?_
  refine g_callV1 (As := []) (rest := []) (b := 6) (ci := 3) O mw_2_228 mw_2_229 mw_2_230 mw_2_231 mw_1_3 hd_X3_isWhole rfl ⟨_, _, rfl⟩ rfl dX8_least_4 (ct_X3_isWhole  s) (by rw [hfr]; decide) (by rw [hlo]; decide) (Nat.le_of_ble_eq_true rfl) (fun v1 s2 => ?_)
  refine g_if_ne (tgt := 13) O dX8_least_7 (by decide) ?_ ?_
  · refine g_aload_n O dX8_least_13 rfl 0 rfl ?_
    refine g_getR O fw_8_24 rfl dX8_least_14 rfl ?_
    refine g_callV0 (As := []) (rest := []) (b := 5) (ci := 7) O mw_2_232 mw_2_233 mw_2_234 mw_2_235 mw_1_2 hd_X7_refresh rfl ⟨_, _, rfl⟩ rfl dX8_least_17 (ct_X7_refresh  s2) (by rw [hfr]; decide) (by rw [hlo]; decide) (Nat.le_of_ble_eq_true rfl) (fun _ s4 => ?_)
    refine g_aload_n O dX8_least_20 rfl 0 rfl ?_
    refine g_getR O fw_8_24 rfl dX8_least_21 rfl ?_
    refine g_callV1 (As := []) (rest := []) (b := 5) (ci := 7) O mw_3_45 mw_3_46 mw_3_47 mw_3_48 mw_1_2 hd_X7_distance rfl ⟨_, _, rfl⟩ rfl dX8_least_24 (ct_X7_distance  s4) (by rw [hfr]; decide) (by rw [hlo]; decide) (Nat.le_of_ble_eq_true rfl) (fun v5 s6 => ?_)
    exact g_iret O hrt rfl dX8_least_27
  refine g_bipush O dX8_least_10 (by decide +kernel) ?_
  exact g_iret O hrt rfl dX8_least_12
def X8_cost (i1 : Int) (i2 : Int) (s : St) : Rs := cl (X8_noNode 0 i1 s) (fun v1 s2 => cEq v1 0 (cl (X8_noNode 1 i2 s2) (fun v3 s4 => cEq v3 0 (cl (X7_refresh s4) (fun _ s6 => rdR 12 i1 (fun j7 => rd s6 (75 + j7) 12 i2 (fun v8 => put s6 0 10 v8 (fun s9 => rdR 12 i1 (fun j10 => rd s9 (63 + j10) 12 i2 (fun v11 => some (v11, s9)))))))) (some ((-1), s4)))) (some ((-1), s2)))
theorem hd_X8_cost : yX8_cost.cls ≠ "java/lang/invoke/MethodHandle" ∧ yX8_cost.cls ≠ "java/lang/invoke/VarHandle" ∧ (parseMethodDescriptor yX8_cost.desc).map (fun d => d.parameters.length) = some 2 := by decide +kernel
set_option maxRecDepth 20000 in
set_option maxHeartbeats 4000000 in
theorem ct_X8_cost  (i1 : Int) (i2 : Int) (s : St) : Ctr LC yX8_cost cX8_cost 3 (Option.some .int) 1 6 126 [vR 0, vI i1, vI i2] s (X8_cost i1 i2 s) := by
  refine Ctr.of (by decide +kernel) (fun ρ => Nat.le_of_ble_eq_true rfl) (lv := [(0, vR 0), (1, vI i1), (2, vI i2)]) (fun ρ => rfl) (fun K X O hrt hfr hlo => ?_)
  unfold X8_cost
  refine g_aload_n O dX8_cost_0 rfl 0 rfl ?_
  refine g_iconst O dX8_cost_1 ?_
  refine g_iload_n O dX8_cost_2 rfl 1 rfl ?_
  refine g_callV1 (As := [vI 0, vI i1]) (rest := []) (b := 0) (ci := 8) O mw_2_164 mw_2_166 mp_1_8 mw_2_167 mw_1_1 hd_X8_noNode rfl ⟨_, _, rfl⟩ rfl dX8_cost_3 (ct_X8_noNode 0 i1 s) (by rw [hfr]; decide) (by rw [hlo]; decide) (Nat.le_of_ble_eq_true rfl) (fun v1 s2 => ?_)
  refine g_if_ne (tgt := 18) O dX8_cost_6 (by decide) ?_ ?_
  · refine g_iconst O dX8_cost_18 ?_
    exact g_iret O hrt rfl dX8_cost_19
  refine g_aload_n O dX8_cost_9 rfl 0 rfl ?_
  refine g_iconst O dX8_cost_10 ?_
  refine g_iload_n O dX8_cost_11 rfl 2 rfl ?_
  refine g_callV1 (As := [vI 1, vI i2]) (rest := []) (b := 0) (ci := 8) O mw_2_164 mw_2_166 mp_1_8 mw_2_167 mw_1_1 hd_X8_noNode rfl ⟨_, _, rfl⟩ rfl dX8_cost_12 (ct_X8_noNode 1 i2 s2) (by rw [hfr]; decide) (by rw [hlo]; decide) (Nat.le_of_ble_eq_true rfl) (fun v3 s4 => ?_)
  refine g_if_eq (tgt := 20) O dX8_cost_15 (by decide) ?_ ?_
  · refine g_aload_n O dX8_cost_20 rfl 0 rfl ?_
    refine g_getR O fw_8_24 rfl dX8_cost_21 rfl ?_
    refine g_callV0 (As := []) (rest := []) (b := 5) (ci := 7) O mw_2_232 mw_2_233 mw_2_234 mw_2_235 mw_1_2 hd_X7_refresh rfl ⟨_, _, rfl⟩ rfl dX8_cost_24 (ct_X7_refresh  s4) (by rw [hfr]; decide) (by rw [hlo]; decide) (Nat.le_of_ble_eq_true rfl) (fun _ s6 => ?_)
    refine g_aload_n O dX8_cost_27 rfl 0 rfl ?_
    refine g_aload_n O dX8_cost_28 rfl 0 rfl ?_
    refine g_getR O fw_8_24 rfl dX8_cost_29 rfl ?_
    refine g_getR O fw_8_185 rfl dX8_cost_32 rfl ?_
    refine g_iload_n O dX8_cost_35 rfl 1 rfl ?_
    refine g_aald (g := fun j => 75 + j) O rfl (by decide) (by decide) (by decide) el_60 dX8_cost_36 (fun j7 hj1 => ?_)
    refine g_iload_n O dX8_cost_37 rfl 2 rfl ?_
    refine g_iald O (elc_60 hj1) (by decide) dX8_cost_38 (fun v8 => ?_)
    refine g_putI O fw_8_68 rfl dX8_cost_39 rfl rfl rfl (fun s9 => ?_)
    refine g_aload_n O dX8_cost_42 rfl 0 rfl ?_
    refine g_getR O fw_8_24 rfl dX8_cost_43 rfl ?_
    refine g_getR O fw_8_189 rfl dX8_cost_46 rfl ?_
    refine g_iload_n O dX8_cost_49 rfl 1 rfl ?_
    refine g_aald (g := fun j => 63 + j) O rfl (by decide) (by decide) (by decide) el_59 dX8_cost_50 (fun j10 hj2 => ?_)
    refine g_iload_n O dX8_cost_51 rfl 2 rfl ?_
    refine g_iald O (elc_59 hj2) (by decide) dX8_cost_52 (fun v11 => ?_)
    exact g_iret O hrt rfl dX8_cost_53
  refine g_iconst O dX8_cost_18 ?_
  exact g_iret O hrt rfl dX8_cost_19
def X7_partnerOf (i1 : Int) (i2 : Int) (s : St) : Rs := cEq i1 0 (rd s 57 12 i2 (fun v2 => some (v2, s))) (rd s 58 12 i2 (fun v1 => some (v1, s)))
theorem hd_X7_partnerOf : yX7_partnerOf.cls ≠ "java/lang/invoke/MethodHandle" ∧ yX7_partnerOf.cls ≠ "java/lang/invoke/VarHandle" ∧ (parseMethodDescriptor yX7_partnerOf.desc).map (fun d => d.parameters.length) = some 2 := by decide +kernel
set_option maxRecDepth 20000 in
set_option maxHeartbeats 4000000 in
theorem ct_X7_partnerOf  (i1 : Int) (i2 : Int) (s : St) : Ctr LC yX7_partnerOf cX7_partnerOf 3 (Option.some .int) 1 0 0 [vR 5, vI i1, vI i2] s (X7_partnerOf i1 i2 s) := by
  refine Ctr.of (by decide +kernel) (fun ρ => Nat.le_of_ble_eq_true rfl) (lv := [(0, vR 5), (1, vI i1), (2, vI i2)]) (fun ρ => rfl) (fun K X O hrt hfr hlo => ?_)
  unfold X7_partnerOf
  refine g_iload_n O dX7_partnerOf_0 rfl 1 rfl ?_
  refine g_if_ne (tgt := 13) O dX7_partnerOf_1 (by decide) ?_ ?_
  · refine g_aload_n O dX7_partnerOf_13 rfl 0 rfl ?_
    refine g_getR O fw_7_66 rfl dX7_partnerOf_14 rfl ?_
    refine g_iload_n O dX7_partnerOf_17 rfl 2 rfl ?_
    refine g_iald O rfl (by decide) dX7_partnerOf_18 (fun v1 => ?_)
    exact g_iret O hrt rfl dX7_partnerOf_19
  refine g_aload_n O dX7_partnerOf_4 rfl 0 rfl ?_
  refine g_getR O fw_7_63 rfl dX7_partnerOf_5 rfl ?_
  refine g_iload_n O dX7_partnerOf_8 rfl 2 rfl ?_
  refine g_iald O rfl (by decide) dX7_partnerOf_9 (fun v2 => ?_)
  refine g_goto (tgt := 19) O dX7_partnerOf_10 (by decide) ?_
  exact g_iret O hrt rfl dX7_partnerOf_19
def X8_partner (i1 : Int) (i2 : Int) (s : St) : Rs := cl (X8_noNode i1 i2 s) (fun v1 s2 => cEq v1 0 (cl (X3_isWhole s2) (fun v3 s4 => cEq v3 0 (some ((-4), s4)) (cl (X7_refresh s4) (fun _ s6 => cl (X7_partnerOf i1 i2 s6) (fun v7 s8 => some (v7, s8)))))) (some ((-1), s2)))
theorem hd_X8_partner : yX8_partner.cls ≠ "java/lang/invoke/MethodHandle" ∧ yX8_partner.cls ≠ "java/lang/invoke/VarHandle" ∧ (parseMethodDescriptor yX8_partner.desc).map (fun d => d.parameters.length) = some 2 := by decide +kernel
set_option maxRecDepth 20000 in
set_option maxHeartbeats 4000000 in
theorem ct_X8_partner  (i1 : Int) (i2 : Int) (s : St) : Ctr LC yX8_partner cX8_partner 3 (Option.some .int) 1 6 126 [vR 0, vI i1, vI i2] s (X8_partner i1 i2 s) := by
  refine Ctr.of (by decide +kernel) (fun ρ => Nat.le_of_ble_eq_true rfl) (lv := [(0, vR 0), (1, vI i1), (2, vI i2)]) (fun ρ => rfl) (fun K X O hrt hfr hlo => ?_)
  unfold X8_partner
  refine g_aload_n O dX8_partner_0 rfl 0 rfl ?_
  refine g_iload_n O dX8_partner_1 rfl 1 rfl ?_
  refine g_iload_n O dX8_partner_2 rfl 2 rfl ?_
  refine g_callV1 (As := [vI i1, vI i2]) (rest := []) (b := 0) (ci := 8) O mw_2_164 mw_2_166 mp_1_8 mw_2_167 mw_1_1 hd_X8_noNode rfl ⟨_, _, rfl⟩ rfl dX8_partner_3 (ct_X8_noNode i1 i2 s) (by rw [hfr]; decide) (by rw [hlo]; decide) (Nat.le_of_ble_eq_true rfl) (fun v1 s2 => ?_)
  refine g_if_eq (tgt := 11) O dX8_partner_6 (by decide) ?_ ?_
  · refine g_aload_n O dX8_partner_11 rfl 0 rfl ?_
    refine g_getR O fw_8_32 rfl dX8_partner_12 rfl ?_
    refine g_callV1 (As := []) (rest := []) (b := 6) (ci := 3) O mw_2_228 mw_2_229 mw_2_230 mw_2_231 mw_1_3 hd_X3_isWhole rfl ⟨_, _, rfl⟩ rfl dX8_partner_15 (ct_X3_isWhole  s2) (by rw [hfr]; decide) (by rw [hlo]; decide) (Nat.le_of_ble_eq_true rfl) (fun v3 s4 => ?_)
    refine g_if_ne (tgt := 24) O dX8_partner_18 (by decide) ?_ ?_
    · refine g_aload_n O dX8_partner_24 rfl 0 rfl ?_
      refine g_getR O fw_8_24 rfl dX8_partner_25 rfl ?_
      refine g_callV0 (As := []) (rest := []) (b := 5) (ci := 7) O mw_2_232 mw_2_233 mw_2_234 mw_2_235 mw_1_2 hd_X7_refresh rfl ⟨_, _, rfl⟩ rfl dX8_partner_28 (ct_X7_refresh  s4) (by rw [hfr]; decide) (by rw [hlo]; decide) (Nat.le_of_ble_eq_true rfl) (fun _ s6 => ?_)
      refine g_aload_n O dX8_partner_31 rfl 0 rfl ?_
      refine g_getR O fw_8_24 rfl dX8_partner_32 rfl ?_
      refine g_iload_n O dX8_partner_35 rfl 1 rfl ?_
      refine g_iload_n O dX8_partner_36 rfl 2 rfl ?_
      refine g_callV1 (As := [vI i1, vI i2]) (rest := []) (b := 5) (ci := 7) O mw_3_57 mw_3_58 mw_3_59 mw_3_60 mw_1_2 hd_X7_partnerOf rfl ⟨_, _, rfl⟩ rfl dX8_partner_37 (ct_X7_partnerOf i1 i2 s6) (by rw [hfr]; decide) (by rw [hlo]; decide) (Nat.le_of_ble_eq_true rfl) (fun v7 s8 => ?_)
      exact g_iret O hrt rfl dX8_partner_40
    refine g_bipush O dX8_partner_21 (by decide +kernel) ?_
    exact g_iret O hrt rfl dX8_partner_23
  refine g_iconst O dX8_partner_9 ?_
  exact g_iret O hrt rfl dX8_partner_10
def X8_step (i1 : Int) (i2 : Int) (s : St) : Rs := cLt i1 0 (some ((-1), s)) (cLt i2 0 (some ((-1), s)) (cLt 2 i2 (some ((-1), s)) (cl (X3_isWhole s) (fun v1 s2 => cEq v1 0 (some ((-4), s2)) (cl (X7_refresh s2) (fun _ s4 => cLt i1 (s4 8 0) (gR i2 (if i2 = 0 then rd s4 52 24 i1 (fun v5 => cl (X8_tell v5 s4) (fun v6 s7 => some (v6, s7))) else (if i2 = 1 then rd s4 53 24 i1 (fun v8 => cl (X8_tell v8 s4) (fun v9 s10 => some (v9, s10))) else (rd s4 54 24 i1 (fun v11 => cl (X8_tell v11 s4) (fun v12 s13 => some (v12, s13))))))) (some ((-9), s4))))))))
theorem hd_X8_step : yX8_step.cls ≠ "java/lang/invoke/MethodHandle" ∧ yX8_step.cls ≠ "java/lang/invoke/VarHandle" ∧ (parseMethodDescriptor yX8_step.desc).map (fun d => d.parameters.length) = some 2 := by decide +kernel
set_option maxRecDepth 20000 in
set_option maxHeartbeats 4000000 in
theorem ct_X8_step  (i1 : Int) (i2 : Int) (s : St) : Ctr LC yX8_step cX8_step 4 (Option.some .int) 1 6 126 [vR 0, vI i1, vI i2] s (X8_step i1 i2 s) := by
  refine Ctr.of (by decide +kernel) (fun ρ => Nat.le_of_ble_eq_true rfl) (lv := [(0, vR 0), (1, vI i1), (2, vI i2)]) (fun ρ => rfl) (fun K X O hrt hfr hlo => ?_)
  unfold X8_step
  refine g_iload_n O dX8_step_0 rfl 1 rfl ?_
  refine g_if_lt (tgt := 13) O dX8_step_1 (by decide) ?_ ?_
  · refine g_iconst O dX8_step_13 ?_
    exact g_iret O hrt rfl dX8_step_14
  refine g_iload_n O dX8_step_4 rfl 2 rfl ?_
  refine g_if_lt (tgt := 13) O dX8_step_5 (by decide) ?_ ?_
  · refine g_iconst O dX8_step_13 ?_
    exact g_iret O hrt rfl dX8_step_14
  refine g_iload_n O dX8_step_8 rfl 2 rfl ?_
  refine g_iconst O dX8_step_9 ?_
  refine g_icmp_le (tgt := 15) O dX8_step_10 (by decide) ?_ ?_
  · refine g_aload_n O dX8_step_15 rfl 0 rfl ?_
    refine g_getR O fw_8_32 rfl dX8_step_16 rfl ?_
    refine g_callV1 (As := []) (rest := []) (b := 6) (ci := 3) O mw_2_228 mw_2_229 mw_2_230 mw_2_231 mw_1_3 hd_X3_isWhole rfl ⟨_, _, rfl⟩ rfl dX8_step_19 (ct_X3_isWhole  s) (by rw [hfr]; decide) (by rw [hlo]; decide) (Nat.le_of_ble_eq_true rfl) (fun v1 s2 => ?_)
    refine g_if_ne (tgt := 28) O dX8_step_22 (by decide) ?_ ?_
    · refine g_aload_n O dX8_step_28 rfl 0 rfl ?_
      refine g_getR O fw_8_24 rfl dX8_step_29 rfl ?_
      refine g_callV0 (As := []) (rest := []) (b := 5) (ci := 7) O mw_2_232 mw_2_233 mw_2_234 mw_2_235 mw_1_2 hd_X7_refresh rfl ⟨_, _, rfl⟩ rfl dX8_step_32 (ct_X7_refresh  s2) (by rw [hfr]; decide) (by rw [hlo]; decide) (Nat.le_of_ble_eq_true rfl) (fun _ s4 => ?_)
      refine g_aload_n O dX8_step_35 rfl 0 rfl ?_
      refine g_getR O fw_8_24 rfl dX8_step_36 rfl ?_
      refine g_getR O fw_8_196 rfl dX8_step_39 rfl ?_
      refine g_astore_n (lv2 := [(3, vR 8), (0, vR 0), (1, vI i1), (2, vI i2)]) O dX8_step_42 rfl (by decide) rfl ?_
      refine g_iload_n O dX8_step_43 rfl 2 rfl ?_
      refine g_aload_n O dX8_step_44 rfl 0 rfl ?_
      refine g_getI O fw_8_200 rfl dX8_step_45 rfl ?_
      refine g_icmp_lt (tgt := 54) O dX8_step_48 (by decide) ?_ ?_
      · refine g_iload_n O dX8_step_54 rfl 3 rfl ?_
        refine g_gR (fun hr1 => ?_)
        refine g_ite (fun hc2 => ?_) (fun hc2 => ?_)
        · refine g_lsw (off := 25) (tgt := 80) O dX8_step_55 (by decide +kernel) hr1 (by rw [hc2]; try rfl) (by decide) ?_
          refine g_aload_n O dX8_step_80 rfl 1 rfl ?_
          refine g_aload_n O dX8_step_81 rfl 0 rfl ?_
          refine g_getR O fw_8_203 rfl dX8_step_82 rfl ?_
          refine g_iload_n O dX8_step_85 rfl 2 rfl ?_
          refine g_iald O rfl (by decide) dX8_step_86 (fun v5 => ?_)
          refine g_callV1 (As := [vI v5]) (rest := []) (b := 0) (ci := 8) O mw_2_47 mw_2_49 mp_1_1 mw_2_50 mw_1_1 hd_X8_tell rfl ⟨_, _, rfl⟩ rfl dX8_step_87 (ct_X8_tell v5 s4) (by rw [hfr]; decide) (by rw [hlo]; decide) (Nat.le_of_ble_eq_true rfl) (fun v6 s7 => ?_)
          exact g_iret O hrt rfl dX8_step_90
        refine g_ite (fun hc3 => ?_) (fun hc3 => ?_)
        · refine g_lsw (off := 36) (tgt := 91) O dX8_step_55 (by decide +kernel) hr1 (by rw [hc3]; try rfl) (by decide) ?_
          refine g_aload_n O dX8_step_91 rfl 1 rfl ?_
          refine g_aload_n O dX8_step_92 rfl 0 rfl ?_
          refine g_getR O fw_8_206 rfl dX8_step_93 rfl ?_
          refine g_iload_n O dX8_step_96 rfl 2 rfl ?_
          refine g_iald O rfl (by decide) dX8_step_97 (fun v8 => ?_)
          refine g_callV1 (As := [vI v8]) (rest := []) (b := 0) (ci := 8) O mw_2_47 mw_2_49 mp_1_1 mw_2_50 mw_1_1 hd_X8_tell rfl ⟨_, _, rfl⟩ rfl dX8_step_98 (ct_X8_tell v8 s4) (by rw [hfr]; decide) (by rw [hlo]; decide) (Nat.le_of_ble_eq_true rfl) (fun v9 s10 => ?_)
          exact g_iret O hrt rfl dX8_step_101
        refine g_lsw (off := 47) (tgt := 102) O dX8_step_55 (by decide +kernel) hr1 (by simp [Op.lookupswitch.offset, show ¬ (0 : Int) = i2 from fun q => hc2 q.symm, show ¬ (1 : Int) = i2 from fun q => hc3 q.symm]) (by decide) ?_
        refine g_aload_n O dX8_step_102 rfl 1 rfl ?_
        refine g_aload_n O dX8_step_103 rfl 0 rfl ?_
        refine g_getR O fw_8_209 rfl dX8_step_104 rfl ?_
        refine g_iload_n O dX8_step_107 rfl 2 rfl ?_
        refine g_iald O rfl (by decide) dX8_step_108 (fun v11 => ?_)
        refine g_callV1 (As := [vI v11]) (rest := []) (b := 0) (ci := 8) O mw_2_47 mw_2_49 mp_1_1 mw_2_50 mw_1_1 hd_X8_tell rfl ⟨_, _, rfl⟩ rfl dX8_step_109 (ct_X8_tell v11 s4) (by rw [hfr]; decide) (by rw [hlo]; decide) (Nat.le_of_ble_eq_true rfl) (fun v12 s13 => ?_)
        exact g_iret O hrt rfl dX8_step_112
      refine g_bipush O dX8_step_51 (by decide +kernel) ?_
      exact g_iret O hrt rfl dX8_step_53
    refine g_bipush O dX8_step_25 (by decide +kernel) ?_
    exact g_iret O hrt rfl dX8_step_27
  refine g_iconst O dX8_step_13 ?_
  exact g_iret O hrt rfl dX8_step_14
def X7_relabelUpTo_2 (i1 : Int) (a2 : Nat) (k : St → Rs) : Nat → Int → St → Rs
  | 0, _, _ => none
  | n + 1, i3, s => cLt i3 i1 (rd s 53 24 i3 (fun v1 => rd s 52 24 i3 (fun v2 => cEq v2 1 (rd s 57 12 v1 (fun v3 => cEq v3 (-9) (X7_relabelUpTo_2 i1 a2 k n (i3 + 1) s) (rd s 57 12 v1 (fun v4 => rd s 42 12 v4 (fun v5 => wr s (a2 + 1) 12 v1 v5 (fun s6 => X7_relabelUpTo_2 i1 a2 k n (i3 + 1) s6)))))) (X7_relabelUpTo_2 i1 a2 k n (i3 + 1) s)))) (k s)
def X7_relabelUpTo (i1 : Int) (a2 : Nat) (s : St) : Rs := X7_relabelUpTo_2 i1 a2 (fun s1 => some (0, s1)) FU 0 s
set_option maxRecDepth 20000 in
set_option maxHeartbeats 4000000 in
theorem lt_X7_relabelUpTo_2 {K : Cx} {X : Wx} (O : OKx LC K X yX7_relabelUpTo.cls cX7_relabelUpTo 5) (hrt : (kMe K).sig.returnType = none) (hfr : (kR K).frames = 0) (hlo : (kR K).locals = 0) {i1 : Int} {a2 : Nat} {k : St → Rs} (ha2 : Kd LC a2 16) (hk : ∀  (s : St), GX LC K X 5 0 71 [] [] s (k s)) : ∀ (n : Nat) (i3 : Int) (s : St), GX LC K X 5 0 2 [(0, vR 5), (1, vI i1), (2, vR a2), (3, vI i3)] [] s (X7_relabelUpTo_2 i1 a2 k n i3 s) := by
  intro n
  induction n with
  | zero => intro i3 s; exact GX.none
  | succ n ih =>
    intro i3 s
    rw [X7_relabelUpTo_2]
    refine g_iload_n O dX7_relabelUpTo_2 rfl 3 rfl ?_
    refine g_iload_n O dX7_relabelUpTo_3 rfl 1 rfl ?_
    refine g_icmp_ge (tgt := 71) O dX7_relabelUpTo_4 (by decide) ?_ ?_
    · refine g_pick [] rfl ?_
      exact hk s
    refine g_aload_n O dX7_relabelUpTo_7 rfl 0 rfl ?_
    refine g_getR O fw_7_29 rfl dX7_relabelUpTo_8 rfl ?_
    refine g_getR O fw_7_149 rfl dX7_relabelUpTo_11 rfl ?_
    refine g_iload_n O dX7_relabelUpTo_14 rfl 3 rfl ?_
    refine g_iald O rfl (by decide) dX7_relabelUpTo_15 (fun v1 => ?_)
    refine g_istore (lv2 := [(4, vI v1), (0, vR 5), (1, vI i1), (2, vR a2), (3, vI i3)]) O dX7_relabelUpTo_16 (by decide) rfl ?_
    refine g_aload_n O dX7_relabelUpTo_18 rfl 1 rfl ?_
    refine g_getR O fw_7_29 rfl dX7_relabelUpTo_19 rfl ?_
    refine g_getR O fw_7_134 rfl dX7_relabelUpTo_22 rfl ?_
    refine g_iload_n O dX7_relabelUpTo_25 rfl 4 rfl ?_
    refine g_iald O rfl (by decide) dX7_relabelUpTo_26 (fun v2 => ?_)
    refine g_iconst O dX7_relabelUpTo_27 ?_
    refine g_icmp_ne (tgt := 65) O dX7_relabelUpTo_28 (by decide) ?_ ?_
    · refine g_iinc (lv2 := [(3, vI (i3 + 1)), (4, vI v1), (0, vR 5), (1, vI i1), (2, vR a2)]) O dX7_relabelUpTo_65 4 rfl (by decide) rfl ?_
      refine g_goto (tgt := 2) O dX7_relabelUpTo_68 (by decide) ?_
      refine g_pick [2, 3, 4, 0] rfl ?_
      exact ih (i3 + 1) s
    refine g_aload_n O dX7_relabelUpTo_31 rfl 1 rfl ?_
    refine g_getR O fw_7_63 rfl dX7_relabelUpTo_32 rfl ?_
    refine g_iload O dX7_relabelUpTo_35 0 rfl ?_
    refine g_iald O rfl (by decide) dX7_relabelUpTo_37 (fun v3 => ?_)
    refine g_bipush O dX7_relabelUpTo_38 (by decide +kernel) ?_
    refine g_icmp_eq (tgt := 65) O dX7_relabelUpTo_40 (by decide) ?_ ?_
    · refine g_iinc (lv2 := [(3, vI (i3 + 1)), (4, vI v1), (0, vR 5), (1, vI i1), (2, vR a2)]) O dX7_relabelUpTo_65 4 rfl (by decide) rfl ?_
      refine g_goto (tgt := 2) O dX7_relabelUpTo_68 (by decide) ?_
      refine g_pick [2, 3, 4, 0] rfl ?_
      exact ih (i3 + 1) s
    refine g_aload_n O dX7_relabelUpTo_43 rfl 3 rfl ?_
    refine g_getR O fw_7_102 (tree_c ha2) dX7_relabelUpTo_44 rfl ?_
    refine g_iload O dX7_relabelUpTo_47 0 rfl ?_
    refine g_aload_n O dX7_relabelUpTo_49 rfl 1 rfl ?_
    refine g_getR O fw_7_49 rfl dX7_relabelUpTo_50 rfl ?_
    refine g_getR O fw_7_102 rfl dX7_relabelUpTo_53 rfl ?_
    refine g_aload_n O dX7_relabelUpTo_56 rfl 1 rfl ?_
    refine g_getR O fw_7_63 rfl dX7_relabelUpTo_57 rfl ?_
    refine g_iload O dX7_relabelUpTo_60 0 rfl ?_
    refine g_iald O rfl (by decide) dX7_relabelUpTo_62 (fun v4 => ?_)
    refine g_iald O rfl (by decide) dX7_relabelUpTo_63 (fun v5 => ?_)
    refine g_iast O (tree_1 ha2) (by decide) dX7_relabelUpTo_64 (fun s6 => ?_)
    refine g_iinc (lv2 := [(3, vI (i3 + 1)), (4, vI v1), (0, vR 5), (1, vI i1), (2, vR a2)]) O dX7_relabelUpTo_65 4 rfl (by decide) rfl ?_
    refine g_goto (tgt := 2) O dX7_relabelUpTo_68 (by decide) ?_
    refine g_pick [2, 3, 4, 0] rfl ?_
    exact ih (i3 + 1) s6
theorem hd_X7_relabelUpTo : yX7_relabelUpTo.cls ≠ "java/lang/invoke/MethodHandle" ∧ yX7_relabelUpTo.cls ≠ "java/lang/invoke/VarHandle" ∧ (parseMethodDescriptor yX7_relabelUpTo.desc).map (fun d => d.parameters.length) = some 2 := by decide +kernel
set_option maxRecDepth 20000 in
set_option maxHeartbeats 4000000 in
theorem ct_X7_relabelUpTo {a2 : Nat} (ha2 : Kd LC a2 16) (i1 : Int) (s : St) : Ctr LC yX7_relabelUpTo cX7_relabelUpTo 5 none 0 0 0 [vR 5, vI i1, vR a2] s (X7_relabelUpTo i1 a2 s) := by
  refine Ctr.of (by decide +kernel) (fun ρ => Nat.le_of_ble_eq_true rfl) (lv := [(0, vR 5), (1, vI i1), (2, vR a2)]) (fun ρ => rfl) (fun K X O hrt hfr hlo => ?_)
  unfold X7_relabelUpTo
  refine g_iconst O dX7_relabelUpTo_0 ?_
  refine g_istore_n (lv2 := [(3, vI 0), (0, vR 5), (1, vI i1), (2, vR a2)]) O dX7_relabelUpTo_1 rfl (by decide) rfl ?_
  refine g_pick [1, 2, 3, 0] rfl ?_
  refine lt_X7_relabelUpTo_2 O hrt hfr hlo ha2 (fun s1 => ?_) FU 0 s
  exact g_vret O hrt dX7_relabelUpTo_71
def X6_remove_4 (a0 : Nat) (i1 : Int) (k : St → Rs) : Nat → Int → St → Rs
  | 0, _, _ => none
  | n + 1, i2, s => cLt i2 (s a0 0) (cl (X6_leftmost a0 i2 s) (fun v1 s2 => cLt i1 v1 (X6_remove_4 a0 i1 k n (i2 + 1) s2) (rd s2 (a0 + 2) 12 i2 (fun v3 => wr s2 (a0 + 2) 12 i2 (v3 - 1) (fun s4 => X6_remove_4 a0 i1 k n (i2 + 1) s4))))) (k s)
def X6_remove_39 (a0 : Nat) (k : St → Rs) : Nat → Int → St → Rs
  | 0, _, _ => none
  | n + 1, i2, s => cLt i2 ((s a0 0) - 1) (rd s (a0 + 1) 12 (i2 + 1) (fun v1 => wr s (a0 + 1) 12 i2 v1 (fun s2 => rd s2 (a0 + 2) 12 (i2 + 1) (fun v3 => wr s2 (a0 + 2) 12 i2 v3 (fun s4 => X6_remove_39 a0 k n (i2 + 1) s4))))) (k s)
def X6_remove (a0 : Nat) (i1 : Int) (s : St) : Rs := X6_remove_4 a0 i1 (fun s1 => X6_remove_39 a0 (fun s2 => put s2 a0 0 ((s2 a0 0) - 1) (fun s3 => some (0, s3))) FU i1 s1) FU (i1 + 1) s
set_option maxRecDepth 20000 in
set_option maxHeartbeats 4000000 in
theorem lt_X6_remove_4 {K : Cx} {X : Wx} (O : OKx LC K X yX6_remove.cls cX6_remove 3) (hrt : (kMe K).sig.returnType = none) (hfr : (kR K).frames = 1) (hlo : (kR K).locals = 21) {a0 : Nat} {i1 : Int} {k : St → Rs} (ha0 : Kd LC a0 16) (hk : ∀  (s : St), GX LC K X 3 0 37 [(0, vR a0), (1, vI i1)] [] s (k s)) : ∀ (n : Nat) (i2 : Int) (s : St), GX LC K X 3 0 4 [(0, vR a0), (1, vI i1), (2, vI i2)] [] s (X6_remove_4 a0 i1 k n i2 s) := by
  intro n
  induction n with
  | zero => intro i2 s; exact GX.none
  | succ n ih =>
    intro i2 s
    rw [X6_remove_4]
    refine g_iload_n O dX6_remove_4 rfl 2 rfl ?_
    refine g_aload_n O dX6_remove_5 rfl 0 rfl ?_
    refine g_getI O fw_6_9 (tree_c ha0) dX6_remove_6 rfl ?_
    refine g_icmp_ge (tgt := 37) O dX6_remove_9 (by decide) ?_ ?_
    · refine g_pick [0, 1] rfl ?_
      exact hk s
    refine g_aload_n O dX6_remove_12 rfl 0 rfl ?_
    refine g_iload_n O dX6_remove_13 rfl 2 rfl ?_
    refine g_callV1 (As := [vI i2]) (rest := []) (b := a0) (ci := 6) O mw_2_182 mw_2_157 mw_2_158 mw_2_159 mw_1_4 hd_X6_leftmost rfl ha0 rfl dX6_remove_14 (ct_X6_leftmost ha0 i2 s) (by rw [hfr]; decide) (by rw [hlo]; decide) (Nat.le_of_ble_eq_true rfl) (fun v1 s2 => ?_)
    refine g_iload_n O dX6_remove_17 rfl 1 rfl ?_
    refine g_icmp_gt (tgt := 31) O dX6_remove_18 (by decide) ?_ ?_
    · refine g_iinc (lv2 := [(2, vI (i2 + 1)), (0, vR a0), (1, vI i1)]) O dX6_remove_31 2 rfl (by decide) rfl ?_
      refine g_goto (tgt := 4) O dX6_remove_34 (by decide) ?_
      refine g_pick [1, 2, 0] rfl ?_
      exact ih (i2 + 1) s2
    refine g_aload_n O dX6_remove_21 rfl 0 rfl ?_
    refine g_getR O fw_6_19 (tree_c ha0) dX6_remove_22 rfl ?_
    refine g_iload_n O dX6_remove_25 rfl 2 rfl ?_
    refine g_dup2 O dX6_remove_26 rfl rfl ?_
    refine g_iald O (tree_2 ha0) (by decide) dX6_remove_27 (fun v3 => ?_)
    refine g_iconst O dX6_remove_28 ?_
    refine g_isub O dX6_remove_29 ?_
    refine g_iast O (tree_2 ha0) (by decide) dX6_remove_30 (fun s4 => ?_)
    refine g_iinc (lv2 := [(2, vI (i2 + 1)), (0, vR a0), (1, vI i1)]) O dX6_remove_31 2 rfl (by decide) rfl ?_
    refine g_goto (tgt := 4) O dX6_remove_34 (by decide) ?_
    refine g_pick [1, 2, 0] rfl ?_
    exact ih (i2 + 1) s4
set_option maxRecDepth 20000 in
set_option maxHeartbeats 4000000 in
theorem lt_X6_remove_39 {K : Cx} {X : Wx} (O : OKx LC K X yX6_remove.cls cX6_remove 3) (hrt : (kMe K).sig.returnType = none) (hfr : (kR K).frames = 1) (hlo : (kR K).locals = 21) {a0 : Nat} {k : St → Rs} (ha0 : Kd LC a0 16) (hk : ∀  (s : St), GX LC K X 3 0 83 [(0, vR a0)] [] s (k s)) : ∀ (n : Nat) (i2 : Int) (s : St), GX LC K X 3 0 39 [(0, vR a0), (2, vI i2)] [] s (X6_remove_39 a0 k n i2 s) := by
  intro n
  induction n with
  | zero => intro i2 s; exact GX.none
  | succ n ih =>
    intro i2 s
    rw [X6_remove_39]
    refine g_iload_n O dX6_remove_39 rfl 1 rfl ?_
    refine g_aload_n O dX6_remove_40 rfl 0 rfl ?_
    refine g_getI O fw_6_9 (tree_c ha0) dX6_remove_41 rfl ?_
    refine g_iconst O dX6_remove_44 ?_
    refine g_isub O dX6_remove_45 ?_
    refine g_icmp_ge (tgt := 83) O dX6_remove_46 (by decide) ?_ ?_
    · refine g_pick [0] rfl ?_
      exact hk s
    refine g_aload_n O dX6_remove_49 rfl 0 rfl ?_
    refine g_getR O fw_6_15 (tree_c ha0) dX6_remove_50 rfl ?_
    refine g_iload_n O dX6_remove_53 rfl 1 rfl ?_
    refine g_aload_n O dX6_remove_54 rfl 0 rfl ?_
    refine g_getR O fw_6_15 (tree_c ha0) dX6_remove_55 rfl ?_
    refine g_iload_n O dX6_remove_58 rfl 1 rfl ?_
    refine g_iconst O dX6_remove_59 ?_
    refine g_iadd O dX6_remove_60 ?_
    refine g_iald O (tree_1 ha0) (by decide) dX6_remove_61 (fun v1 => ?_)
    refine g_iast O (tree_1 ha0) (by decide) dX6_remove_62 (fun s2 => ?_)
    refine g_aload_n O dX6_remove_63 rfl 0 rfl ?_
    refine g_getR O fw_6_19 (tree_c ha0) dX6_remove_64 rfl ?_
    refine g_iload_n O dX6_remove_67 rfl 1 rfl ?_
    refine g_aload_n O dX6_remove_68 rfl 0 rfl ?_
    refine g_getR O fw_6_19 (tree_c ha0) dX6_remove_69 rfl ?_
    refine g_iload_n O dX6_remove_72 rfl 1 rfl ?_
    refine g_iconst O dX6_remove_73 ?_
    refine g_iadd O dX6_remove_74 ?_
    refine g_iald O (tree_2 ha0) (by decide) dX6_remove_75 (fun v3 => ?_)
    refine g_iast O (tree_2 ha0) (by decide) dX6_remove_76 (fun s4 => ?_)
    refine g_iinc (lv2 := [(2, vI (i2 + 1)), (0, vR a0)]) O dX6_remove_77 1 rfl (by decide) rfl ?_
    refine g_goto (tgt := 39) O dX6_remove_80 (by decide) ?_
    refine g_pick [1, 0] rfl ?_
    exact ih (i2 + 1) s4
theorem hd_X6_remove : yX6_remove.cls ≠ "java/lang/invoke/MethodHandle" ∧ yX6_remove.cls ≠ "java/lang/invoke/VarHandle" ∧ (parseMethodDescriptor yX6_remove.desc).map (fun d => d.parameters.length) = some 1 := by decide +kernel
set_option maxRecDepth 20000 in
set_option maxHeartbeats 4000000 in
theorem ct_X6_remove {a0 : Nat} (ha0 : Kd LC a0 16) (i1 : Int) (s : St) : Ctr LC yX6_remove cX6_remove 3 none 0 1 21 [vR a0, vI i1] s (X6_remove a0 i1 s) := by
  refine Ctr.of (by decide +kernel) (fun ρ => Nat.le_of_ble_eq_true rfl) (lv := [(0, vR a0), (1, vI i1)]) (fun ρ => rfl) (fun K X O hrt hfr hlo => ?_)
  unfold X6_remove
  refine g_iload_n O dX6_remove_0 rfl 1 rfl ?_
  refine g_iconst O dX6_remove_1 ?_
  refine g_iadd O dX6_remove_2 ?_
  refine g_istore_n (lv2 := [(2, vI (i1 + 1)), (0, vR a0), (1, vI i1)]) O dX6_remove_3 rfl (by decide) rfl ?_
  refine g_pick [1, 2, 0] rfl ?_
  refine lt_X6_remove_4 O hrt hfr hlo ha0 (fun s1 => ?_) FU (i1 + 1) s
  refine g_iload_n O dX6_remove_37 rfl 1 rfl ?_
  refine g_istore_n (lv2 := [(2, vI i1), (0, vR a0), (1, vI i1)]) O dX6_remove_38 rfl (by decide) rfl ?_
  refine g_pick [1, 0] rfl ?_
  refine lt_X6_remove_39 O hrt hfr hlo ha0 (fun s2 => ?_) FU i1 s1
  refine g_aload_n O dX6_remove_83 rfl 0 rfl ?_
  refine g_dup O dX6_remove_84 rfl ?_
  refine g_getI O fw_6_9 (tree_c ha0) dX6_remove_85 rfl ?_
  refine g_iconst O dX6_remove_88 ?_
  refine g_isub O dX6_remove_89 ?_
  refine g_putI O fw_6_9 (tree_c ha0) dX6_remove_90 rfl rfl rfl (fun s3 => ?_)
  exact g_vret O hrt dX6_remove_93
def X7_removeStep (i1 : Int) (i2 : Int) (a3 : Nat) (s : St) : Rs := rd s 52 24 i1 (fun v1 => cEq v1 i2 (rd s 53 24 i1 (fun v2 => cl (X6_has a3 v2 s) (fun v3 s4 => cEq v3 0 (some (0, s4)) (rd s4 53 24 i1 (fun v5 => cl (X6_remove a3 v5 s4) (fun _ s7 => some (0, s7))))))) (some (0, s)))
theorem hd_X7_removeStep : yX7_removeStep.cls ≠ "java/lang/invoke/MethodHandle" ∧ yX7_removeStep.cls ≠ "java/lang/invoke/VarHandle" ∧ (parseMethodDescriptor yX7_removeStep.desc).map (fun d => d.parameters.length) = some 3 := by decide +kernel
set_option maxRecDepth 20000 in
set_option maxHeartbeats 4000000 in
theorem ct_X7_removeStep {a3 : Nat} (ha3 : Kd LC a3 16) (i1 : Int) (i2 : Int) (s : St) : Ctr LC yX7_removeStep cX7_removeStep 4 none 0 2 43 [vR 5, vI i1, vI i2, vR a3] s (X7_removeStep i1 i2 a3 s) := by
  refine Ctr.of (by decide +kernel) (fun ρ => Nat.le_of_ble_eq_true rfl) (lv := [(0, vR 5), (1, vI i1), (2, vI i2), (3, vR a3)]) (fun ρ => rfl) (fun K X O hrt hfr hlo => ?_)
  unfold X7_removeStep
  refine g_aload_n O dX7_removeStep_0 rfl 0 rfl ?_
  refine g_getR O fw_7_29 rfl dX7_removeStep_1 rfl ?_
  refine g_getR O fw_7_134 rfl dX7_removeStep_4 rfl ?_
  refine g_iload_n O dX7_removeStep_7 rfl 1 rfl ?_
  refine g_iald O rfl (by decide) dX7_removeStep_8 (fun v1 => ?_)
  refine g_iload_n O dX7_removeStep_9 rfl 2 rfl ?_
  refine g_icmp_ne (tgt := 42) O dX7_removeStep_10 (by decide) ?_ ?_
  · exact g_vret O hrt dX7_removeStep_42
  refine g_aload_n O dX7_removeStep_13 rfl 3 rfl ?_
  refine g_aload_n O dX7_removeStep_14 rfl 0 rfl ?_
  refine g_getR O fw_7_29 rfl dX7_removeStep_15 rfl ?_
  refine g_getR O fw_7_149 rfl dX7_removeStep_18 rfl ?_
  refine g_iload_n O dX7_removeStep_21 rfl 1 rfl ?_
  refine g_iald O rfl (by decide) dX7_removeStep_22 (fun v2 => ?_)
  refine g_callV1 (As := [vI v2]) (rest := []) (b := a3) (ci := 6) O mw_3_82 mw_2_169 mw_2_170 mw_2_171 mw_1_4 hd_X6_has rfl ha3 rfl dX7_removeStep_23 (ct_X6_has ha3 v2 s) (by rw [hfr]; decide) (by rw [hlo]; decide) (Nat.le_of_ble_eq_true rfl) (fun v3 s4 => ?_)
  refine g_if_eq (tgt := 42) O dX7_removeStep_26 (by decide) ?_ ?_
  · exact g_vret O hrt dX7_removeStep_42
  refine g_aload_n O dX7_removeStep_29 rfl 3 rfl ?_
  refine g_aload_n O dX7_removeStep_30 rfl 0 rfl ?_
  refine g_getR O fw_7_29 rfl dX7_removeStep_31 rfl ?_
  refine g_getR O fw_7_149 rfl dX7_removeStep_34 rfl ?_
  refine g_iload_n O dX7_removeStep_37 rfl 1 rfl ?_
  refine g_iald O rfl (by decide) dX7_removeStep_38 (fun v5 => ?_)
  refine g_callV0 (As := [vI v5]) (rest := []) (b := a3) (ci := 6) O mw_3_83 mw_3_84 mw_3_85 mw_3_86 mw_1_4 hd_X6_remove rfl ha3 rfl dX7_removeStep_39 (ct_X6_remove ha3 v5 s4) (by rw [hfr]; decide) (by rw [hlo]; decide) (Nat.le_of_ble_eq_true rfl) (fun _ s7 => ?_)
  exact g_vret O hrt dX7_removeStep_42
def X7_grow_72 (a2 : Nat) (k : St → Rs) : Nat → Int → St → Rs
  | 0, _, _ => none
  | n + 1, i3, s => cLt i3 (s 8 0) (cl (X7_removeStep i3 2 a2 s) (fun _ s2 => X7_grow_72 a2 k n (i3 + 1) s2)) (k s)
def X7_grow_42 (a2 : Nat) (k : St → Rs) : Nat → Int → St → Rs
  | 0, _, _ => none
  | n + 1, i3, s => cLt i3 0 (k s) (cl (X7_removeStep i3 0 a2 s) (fun _ s2 => X7_grow_42 a2 k n (i3 + (-1)) s2))
def X7_grow (i1 : Int) (a2 : Nat) (s : St) : Rs := jn (fun  (s1 : St) => cl (X6_take a2 41 s1) (fun _ s4 => X7_grow_72 a2 (fun s5 => some (0, s5)) FU i1 s4)) (fun k2 => cLt i1 (s 8 0) (rd s 52 24 i1 (fun v6 => cEq v6 2 (k2 s) (cl (X6_take a2 38 s) (fun _ s8 => cl (X7_relabelUpTo i1 a2 s8) (fun _ s10 => X7_grow_42 a2 (fun s11 => some (0, s11)) FU (i1 - 1) s10))))) (k2 s))
set_option maxRecDepth 20000 in
set_option maxHeartbeats 4000000 in
theorem lt_X7_grow_72 {K : Cx} {X : Wx} (O : OKx LC K X yX7_grow.cls cX7_grow 4) (hrt : (kMe K).sig.returnType = none) (hfr : (kR K).frames = 3) (hlo : (kR K).locals = 66) {a2 : Nat} {k : St → Rs} (ha2 : Kd LC a2 16) (hk : ∀  (s : St), GX LC K X 4 0 96 [] [] s (k s)) : ∀ (n : Nat) (i3 : Int) (s : St), GX LC K X 4 0 72 [(0, vR 5), (2, vR a2), (3, vI i3)] [] s (X7_grow_72 a2 k n i3 s) := by
  intro n
  induction n with
  | zero => intro i3 s; exact GX.none
  | succ n ih =>
    intro i3 s
    rw [X7_grow_72]
    refine g_iload_n O dX7_grow_72 rfl 2 rfl ?_
    refine g_aload_n O dX7_grow_73 rfl 0 rfl ?_
    refine g_getR O fw_7_29 rfl dX7_grow_74 rfl ?_
    refine g_getI O fw_7_127 rfl dX7_grow_77 rfl ?_
    refine g_icmp_ge (tgt := 96) O dX7_grow_80 (by decide) ?_ ?_
    · refine g_pick [] rfl ?_
      exact hk s
    refine g_aload_n O dX7_grow_83 rfl 0 rfl ?_
    refine g_iload_n O dX7_grow_84 rfl 2 rfl ?_
    refine g_iconst O dX7_grow_85 ?_
    refine g_aload_n O dX7_grow_86 rfl 1 rfl ?_
    refine g_callV0 (As := [vI i3, vI 2, vR a2]) (rest := []) (b := 5) (ci := 7) O mw_3_78 mw_3_80 mp_2_1 mw_3_81 mw_1_2 hd_X7_removeStep rfl ⟨_, _, rfl⟩ rfl dX7_grow_87 (ct_X7_removeStep ha2 i3 2 s) (by rw [hfr]; decide) (by rw [hlo]; decide) (Nat.le_of_ble_eq_true rfl) (fun _ s2 => ?_)
    refine g_iinc (lv2 := [(3, vI (i3 + 1)), (0, vR 5), (2, vR a2)]) O dX7_grow_90 2 rfl (by decide) rfl ?_
    refine g_goto (tgt := 72) O dX7_grow_93 (by decide) ?_
    refine g_pick [1, 2, 0] rfl ?_
    exact ih (i3 + 1) s2
set_option maxRecDepth 20000 in
set_option maxHeartbeats 4000000 in
theorem lt_X7_grow_42 {K : Cx} {X : Wx} (O : OKx LC K X yX7_grow.cls cX7_grow 4) (hrt : (kMe K).sig.returnType = none) (hfr : (kR K).frames = 3) (hlo : (kR K).locals = 66) {a2 : Nat} {k : St → Rs} (ha2 : Kd LC a2 16) (hk : ∀  (s : St), GX LC K X 4 0 59 [] [] s (k s)) : ∀ (n : Nat) (i3 : Int) (s : St), GX LC K X 4 0 42 [(0, vR 5), (2, vR a2), (3, vI i3)] [] s (X7_grow_42 a2 k n i3 s) := by
  intro n
  induction n with
  | zero => intro i3 s; exact GX.none
  | succ n ih =>
    intro i3 s
    rw [X7_grow_42]
    refine g_iload_n O dX7_grow_42 rfl 2 rfl ?_
    refine g_if_lt (tgt := 59) O dX7_grow_43 (by decide) ?_ ?_
    · refine g_pick [] rfl ?_
      exact hk s
    refine g_aload_n O dX7_grow_46 rfl 0 rfl ?_
    refine g_iload_n O dX7_grow_47 rfl 2 rfl ?_
    refine g_iconst O dX7_grow_48 ?_
    refine g_aload_n O dX7_grow_49 rfl 1 rfl ?_
    refine g_callV0 (As := [vI i3, vI 0, vR a2]) (rest := []) (b := 5) (ci := 7) O mw_3_78 mw_3_80 mp_2_1 mw_3_81 mw_1_2 hd_X7_removeStep rfl ⟨_, _, rfl⟩ rfl dX7_grow_50 (ct_X7_removeStep ha2 i3 0 s) (by rw [hfr]; decide) (by rw [hlo]; decide) (Nat.le_of_ble_eq_true rfl) (fun _ s2 => ?_)
    refine g_iinc (lv2 := [(3, vI (i3 + (-1))), (0, vR 5), (2, vR a2)]) O dX7_grow_53 2 rfl (by decide) rfl ?_
    refine g_goto (tgt := 42) O dX7_grow_56 (by decide) ?_
    refine g_pick [1, 2, 0] rfl ?_
    exact ih (i3 + (-1)) s2
theorem hd_X7_grow : yX7_grow.cls ≠ "java/lang/invoke/MethodHandle" ∧ yX7_grow.cls ≠ "java/lang/invoke/VarHandle" ∧ (parseMethodDescriptor yX7_grow.desc).map (fun d => d.parameters.length) = some 2 := by decide +kernel
set_option maxRecDepth 20000 in
set_option maxHeartbeats 4000000 in
theorem ct_X7_grow {a2 : Nat} (ha2 : Kd LC a2 16) (i1 : Int) (s : St) : Ctr LC yX7_grow cX7_grow 4 none 0 3 66 [vR 5, vI i1, vR a2] s (X7_grow i1 a2 s) := by
  refine Ctr.of (by decide +kernel) (fun ρ => Nat.le_of_ble_eq_true rfl) (lv := [(0, vR 5), (1, vI i1), (2, vR a2)]) (fun ρ => rfl) (fun K X O hrt hfr hlo => ?_)
  unfold X7_grow
  refine g_iload_n O dX7_grow_0 rfl 1 rfl ?_
  refine g_aload_n O dX7_grow_1 rfl 0 rfl ?_
  refine g_getR O fw_7_29 rfl dX7_grow_2 rfl ?_
  refine g_getI O fw_7_127 rfl dX7_grow_5 rfl ?_
  refine g_jn (fun (j : St → Rs) => ∀  (s1 : St), GX LC K X 4 0 62 [(0, vR 5), (1, vI i1), (2, vR a2)] [] s1 (j  s1)) ?_ ?_
  · intro  s1
    refine g_aload_n O dX7_grow_62 rfl 2 rfl ?_
    refine g_aload_n O dX7_grow_63 rfl 0 rfl ?_
    refine g_getR O fw_7_49 rfl dX7_grow_64 rfl ?_
    refine g_callV0 (As := [vR 41]) (rest := []) (b := a2) (ci := 6) O mw_3_73 mw_2_136 mw_2_137 mw_2_138 mw_1_4 hd_X6_take rfl ha2 rfl dX7_grow_67 (ct_X6_take ha2 ⟨_, _, rfl⟩  s1) (by rw [hfr]; decide) (by rw [hlo]; decide) (Nat.le_of_ble_eq_true rfl) (fun _ s4 => ?_)
    refine g_iload_n O dX7_grow_70 rfl 1 rfl ?_
    refine g_istore_n (lv2 := [(3, vI i1), (0, vR 5), (1, vI i1), (2, vR a2)]) O dX7_grow_71 rfl (by decide) rfl ?_
    refine g_pick [1, 3, 0] rfl ?_
    refine lt_X7_grow_72 O hrt hfr hlo ha2 (fun s5 => ?_) FU i1 s4
    exact g_vret O hrt dX7_grow_96
  intro k2 hk2
  refine g_icmp_ge (tgt := 62) O dX7_grow_8 (by decide) ?_ ?_
  · exact hk2 s
  refine g_aload_n O dX7_grow_11 rfl 0 rfl ?_
  refine g_getR O fw_7_29 rfl dX7_grow_12 rfl ?_
  refine g_getR O fw_7_134 rfl dX7_grow_15 rfl ?_
  refine g_iload_n O dX7_grow_18 rfl 1 rfl ?_
  refine g_iald O rfl (by decide) dX7_grow_19 (fun v6 => ?_)
  refine g_iconst O dX7_grow_20 ?_
  refine g_icmp_eq (tgt := 62) O dX7_grow_21 (by decide) ?_ ?_
  · exact hk2 s
  refine g_aload_n O dX7_grow_24 rfl 2 rfl ?_
  refine g_aload_n O dX7_grow_25 rfl 0 rfl ?_
  refine g_getR O fw_7_45 rfl dX7_grow_26 rfl ?_
  refine g_callV0 (As := [vR 38]) (rest := []) (b := a2) (ci := 6) O mw_3_73 mw_2_136 mw_2_137 mw_2_138 mw_1_4 hd_X6_take rfl ha2 rfl dX7_grow_29 (ct_X6_take ha2 ⟨_, _, rfl⟩  s) (by rw [hfr]; decide) (by rw [hlo]; decide) (Nat.le_of_ble_eq_true rfl) (fun _ s8 => ?_)
  refine g_aload_n O dX7_grow_32 rfl 0 rfl ?_
  refine g_iload_n O dX7_grow_33 rfl 1 rfl ?_
  refine g_aload_n O dX7_grow_34 rfl 2 rfl ?_
  refine g_callV0 (As := [vI i1, vR a2]) (rest := []) (b := 5) (ci := 7) O mw_3_74 mw_3_76 mp_2_0 mw_3_77 mw_1_2 hd_X7_relabelUpTo rfl ⟨_, _, rfl⟩ rfl dX7_grow_35 (ct_X7_relabelUpTo ha2 i1 s8) (by rw [hfr]; decide) (by rw [hlo]; decide) (Nat.le_of_ble_eq_true rfl) (fun _ s10 => ?_)
  refine g_iload_n O dX7_grow_38 rfl 1 rfl ?_
  refine g_iconst O dX7_grow_39 ?_
  refine g_isub O dX7_grow_40 ?_
  refine g_istore_n (lv2 := [(3, vI (i1 - 1)), (0, vR 5), (1, vI i1), (2, vR a2)]) O dX7_grow_41 rfl (by decide) rfl ?_
  refine g_pick [1, 3, 0] rfl ?_
  refine lt_X7_grow_42 O hrt hfr hlo ha2 (fun s11 => ?_) FU (i1 - 1) s10
  refine g_goto (tgt := 96) O dX7_grow_59 (by decide) ?_
  exact g_vret O hrt dX7_grow_96
def X8_behind (i1 : Int) (i2 : Int) (s : St) : Rs := cLt i1 0 (some ((-1), s)) (cl (X8_noText i2 s) (fun v1 s2 => cEq v1 0 (cl (X3_isWhole s2) (fun v3 s4 => cEq v3 0 (some ((-4), s4)) (cl (X7_refresh s4) (fun _ s6 => cLt (s6 8 0) i1 (some ((-6), s6)) (cl (X7_grow i1 44 s6) (fun _ s8 => rdR 4 i2 (fun j9 => cl (X5_print (22 + 2 * j9) 44 s8) (fun v10 s11 => some (v10, s11))))))))) (some ((-1), s2))))
theorem hd_X8_behind : yX8_behind.cls ≠ "java/lang/invoke/MethodHandle" ∧ yX8_behind.cls ≠ "java/lang/invoke/VarHandle" ∧ (parseMethodDescriptor yX8_behind.desc).map (fun d => d.parameters.length) = some 2 := by decide +kernel
set_option maxRecDepth 20000 in
set_option maxHeartbeats 4000000 in
theorem ct_X8_behind  (i1 : Int) (i2 : Int) (s : St) : Ctr LC yX8_behind cX8_behind 3 (Option.some .int) 1 6 126 [vR 0, vI i1, vI i2] s (X8_behind i1 i2 s) := by
  refine Ctr.of (by decide +kernel) (fun ρ => Nat.le_of_ble_eq_true rfl) (lv := [(0, vR 0), (1, vI i1), (2, vI i2)]) (fun ρ => rfl) (fun K X O hrt hfr hlo => ?_)
  unfold X8_behind
  refine g_iload_n O dX8_behind_0 rfl 1 rfl ?_
  refine g_if_lt (tgt := 11) O dX8_behind_1 (by decide) ?_ ?_
  · refine g_iconst O dX8_behind_11 ?_
    exact g_iret O hrt rfl dX8_behind_12
  refine g_iload_n O dX8_behind_4 rfl 2 rfl ?_
  refine g_callS1 (As := [vI i2]) (rest := []) O mw_2_82 mw_2_83 mw_2_84 mw_1_1 hd_X8_noText rfl dX8_behind_5 (ct_X8_noText i2 s) (by rw [hfr]; decide) (by rw [hlo]; decide) (Nat.le_of_ble_eq_true rfl) (fun v1 s2 => ?_)
  refine g_if_eq (tgt := 13) O dX8_behind_8 (by decide) ?_ ?_
  · refine g_aload_n O dX8_behind_13 rfl 0 rfl ?_
    refine g_getR O fw_8_32 rfl dX8_behind_14 rfl ?_
    refine g_callV1 (As := []) (rest := []) (b := 6) (ci := 3) O mw_2_228 mw_2_229 mw_2_230 mw_2_231 mw_1_3 hd_X3_isWhole rfl ⟨_, _, rfl⟩ rfl dX8_behind_17 (ct_X3_isWhole  s2) (by rw [hfr]; decide) (by rw [hlo]; decide) (Nat.le_of_ble_eq_true rfl) (fun v3 s4 => ?_)
    refine g_if_ne (tgt := 26) O dX8_behind_20 (by decide) ?_ ?_
    · refine g_aload_n O dX8_behind_26 rfl 0 rfl ?_
      refine g_getR O fw_8_24 rfl dX8_behind_27 rfl ?_
      refine g_callV0 (As := []) (rest := []) (b := 5) (ci := 7) O mw_2_232 mw_2_233 mw_2_234 mw_2_235 mw_1_2 hd_X7_refresh rfl ⟨_, _, rfl⟩ rfl dX8_behind_30 (ct_X7_refresh  s4) (by rw [hfr]; decide) (by rw [hlo]; decide) (Nat.le_of_ble_eq_true rfl) (fun _ s6 => ?_)
      refine g_iload_n O dX8_behind_33 rfl 1 rfl ?_
      refine g_aload_n O dX8_behind_34 rfl 0 rfl ?_
      refine g_getR O fw_8_24 rfl dX8_behind_35 rfl ?_
      refine g_getR O fw_8_196 rfl dX8_behind_38 rfl ?_
      refine g_getI O fw_8_200 rfl dX8_behind_41 rfl ?_
      refine g_icmp_le (tgt := 50) O dX8_behind_44 (by decide) ?_ ?_
      · refine g_aload_n O dX8_behind_50 rfl 0 rfl ?_
        refine g_getR O fw_8_24 rfl dX8_behind_51 rfl ?_
        refine g_iload_n O dX8_behind_54 rfl 1 rfl ?_
        refine g_aload_n O dX8_behind_55 rfl 0 rfl ?_
        refine g_getR O fw_8_56 rfl dX8_behind_56 rfl ?_
        refine g_callV0 (As := [vI i1, vR 44]) (rest := []) (b := 5) (ci := 7) O mw_3_69 mw_3_70 mw_3_71 mw_3_72 mw_1_2 hd_X7_grow rfl ⟨_, _, rfl⟩ rfl dX8_behind_59 (ct_X7_grow ⟨_, _, rfl⟩ i1 s6) (by rw [hfr]; decide) (by rw [hlo]; decide) (Nat.le_of_ble_eq_true rfl) (fun _ s8 => ?_)
        refine g_aload_n O dX8_behind_62 rfl 0 rfl ?_
        refine g_getR O fw_8_17 rfl dX8_behind_63 rfl ?_
        refine g_iload_n O dX8_behind_66 rfl 2 rfl ?_
        refine g_aald (g := fun j => 22 + 2 * j) O rfl (by decide) (by decide) (by decide) el_3 dX8_behind_67 (fun j9 hj1 => ?_)
        refine g_aload_n O dX8_behind_68 rfl 0 rfl ?_
        refine g_getR O fw_8_56 rfl dX8_behind_69 rfl ?_
        refine g_callV1 (As := [vR 44]) (rest := []) (b := 22 + 2 * j9) (ci := 5) O mw_2_144 mw_2_145 mw_2_146 mw_2_147 mw_1_9 hd_X5_print rfl (elk_3 hj1) rfl dX8_behind_72 (ct_X5_print (elk_3 hj1) ⟨_, _, rfl⟩  s8) (by rw [hfr]; decide) (by rw [hlo]; decide) (Nat.le_of_ble_eq_true rfl) (fun v10 s11 => ?_)
        exact g_iret O hrt rfl dX8_behind_75
      refine g_bipush O dX8_behind_47 (by decide +kernel) ?_
      exact g_iret O hrt rfl dX8_behind_49
    refine g_bipush O dX8_behind_23 (by decide +kernel) ?_
    exact g_iret O hrt rfl dX8_behind_25
  refine g_iconst O dX8_behind_11 ?_
  exact g_iret O hrt rfl dX8_behind_12
def X6_keys_4 (a0 : Nat) (i1 : Int) (k : Int → St → Rs) : Nat → Int → Int → St → Rs
  | 0, _, _, _ => none
  | n + 1, i2, i3, s => cLt i3 (s a0 0) (cl (X6_isKey a0 i3 i1 s) (fun v1 s2 => cEq v1 0 (X6_keys_4 a0 i1 k n i2 (i3 + 1) s2) (X6_keys_4 a0 i1 k n (i2 + 1) (i3 + 1) s2))) (k i2 s)
def X6_keys (a0 : Nat) (i1 : Int) (s : St) : Rs := X6_keys_4 a0 i1 (fun x1 s2 => some (x1, s2)) FU 0 0 s
set_option maxRecDepth 20000 in
set_option maxHeartbeats 4000000 in
theorem lt_X6_keys_4 {K : Cx} {X : Wx} (O : OKx LC K X yX6_keys.cls cX6_keys 4) (hrt : (kMe K).sig.returnType = (Option.some .int)) (hfr : (kR K).frames = 3) (hlo : (kR K).locals = 66) {a0 : Nat} {i1 : Int} {k : Int → St → Rs} (ha0 : Kd LC a0 16) (hk : ∀ (i2 : Int) (s : St), GX LC K X 4 1 30 [(2, vI i2)] [] s (k i2 s)) : ∀ (n : Nat) (i2 : Int) (i3 : Int) (s : St), GX LC K X 4 1 4 [(0, vR a0), (1, vI i1), (2, vI i2), (3, vI i3)] [] s (X6_keys_4 a0 i1 k n i2 i3 s) := by
  intro n
  induction n with
  | zero => intro i2 i3 s; exact GX.none
  | succ n ih =>
    intro i2 i3 s
    rw [X6_keys_4]
    refine g_iload_n O dX6_keys_4 rfl 3 rfl ?_
    refine g_aload_n O dX6_keys_5 rfl 0 rfl ?_
    refine g_getI O fw_6_9 (tree_c ha0) dX6_keys_6 rfl ?_
    refine g_icmp_ge (tgt := 30) O dX6_keys_9 (by decide) ?_ ?_
    · refine g_pick [2] rfl ?_
      exact hk i2 s
    refine g_aload_n O dX6_keys_12 rfl 0 rfl ?_
    refine g_iload_n O dX6_keys_13 rfl 3 rfl ?_
    refine g_iload_n O dX6_keys_14 rfl 1 rfl ?_
    refine g_callV1 (As := [vI i3, vI i1]) (rest := []) (b := a0) (ci := 6) O mw_3_95 mw_2_189 mw_2_190 mw_2_191 mw_1_4 hd_X6_isKey rfl ha0 rfl dX6_keys_15 (ct_X6_isKey ha0 i3 i1 s) (by rw [hfr]; decide) (by rw [hlo]; decide) (Nat.le_of_ble_eq_true rfl) (fun v1 s2 => ?_)
    refine g_if_eq (tgt := 24) O dX6_keys_18 (by decide) ?_ ?_
    · refine g_iinc (lv2 := [(3, vI (i3 + 1)), (0, vR a0), (1, vI i1), (2, vI i2)]) O dX6_keys_24 3 rfl (by decide) rfl ?_
      refine g_goto (tgt := 4) O dX6_keys_27 (by decide) ?_
      refine g_pick [1, 2, 3, 0] rfl ?_
      exact ih i2 (i3 + 1) s2
    refine g_iinc (lv2 := [(2, vI (i2 + 1)), (0, vR a0), (1, vI i1), (3, vI i3)]) O dX6_keys_21 2 rfl (by decide) rfl ?_
    refine g_iinc (lv2 := [(3, vI (i3 + 1)), (2, vI (i2 + 1)), (0, vR a0), (1, vI i1)]) O dX6_keys_24 3 rfl (by decide) rfl ?_
    refine g_goto (tgt := 4) O dX6_keys_27 (by decide) ?_
    refine g_pick [2, 3, 1, 0] rfl ?_
    exact ih (i2 + 1) (i3 + 1) s2
theorem hd_X6_keys : yX6_keys.cls ≠ "java/lang/invoke/MethodHandle" ∧ yX6_keys.cls ≠ "java/lang/invoke/VarHandle" ∧ (parseMethodDescriptor yX6_keys.desc).map (fun d => d.parameters.length) = some 1 := by decide +kernel
set_option maxRecDepth 20000 in
set_option maxHeartbeats 4000000 in
theorem ct_X6_keys {a0 : Nat} (ha0 : Kd LC a0 16) (i1 : Int) (s : St) : Ctr LC yX6_keys cX6_keys 4 (Option.some .int) 1 3 66 [vR a0, vI i1] s (X6_keys a0 i1 s) := by
  refine Ctr.of (by decide +kernel) (fun ρ => Nat.le_of_ble_eq_true rfl) (lv := [(0, vR a0), (1, vI i1)]) (fun ρ => rfl) (fun K X O hrt hfr hlo => ?_)
  unfold X6_keys
  refine g_iconst O dX6_keys_0 ?_
  refine g_istore_n (lv2 := [(2, vI 0), (0, vR a0), (1, vI i1)]) O dX6_keys_1 rfl (by decide) rfl ?_
  refine g_iconst O dX6_keys_2 ?_
  refine g_istore_n (lv2 := [(3, vI 0), (2, vI 0), (0, vR a0), (1, vI i1)]) O dX6_keys_3 rfl (by decide) rfl ?_
  refine g_pick [2, 3, 1, 0] rfl ?_
  refine lt_X6_keys_4 O hrt hfr hlo ha0 (fun x1 s2 => ?_) FU 0 0 s
  refine g_iload_n O dX6_keys_30 rfl 0 rfl ?_
  exact g_iret O hrt rfl dX6_keys_31
def X6_keySizes_4 (a0 : Nat) (i1 : Int) (k : Int → St → Rs) : Nat → Int → Int → St → Rs
  | 0, _, _, _ => none
  | n + 1, i2, i3, s => cLt i3 (s a0 0) (cl (X6_isKey a0 i3 i1 s) (fun v1 s2 => cEq v1 0 (X6_keySizes_4 a0 i1 k n i2 (i3 + 1) s2) (rd s2 (a0 + 2) 12 i3 (fun v3 => X6_keySizes_4 a0 i1 k n (i2 + v3) (i3 + 1) s2)))) (k i2 s)
def X6_keySizes (a0 : Nat) (i1 : Int) (s : St) : Rs := X6_keySizes_4 a0 i1 (fun x1 s2 => some (x1, s2)) FU 0 0 s
set_option maxRecDepth 20000 in
set_option maxHeartbeats 4000000 in
theorem lt_X6_keySizes_4 {K : Cx} {X : Wx} (O : OKx LC K X yX6_keySizes.cls cX6_keySizes 4) (hrt : (kMe K).sig.returnType = (Option.some .int)) (hfr : (kR K).frames = 3) (hlo : (kR K).locals = 66) {a0 : Nat} {i1 : Int} {k : Int → St → Rs} (ha0 : Kd LC a0 16) (hk : ∀ (i2 : Int) (s : St), GX LC K X 4 1 36 [(2, vI i2)] [] s (k i2 s)) : ∀ (n : Nat) (i2 : Int) (i3 : Int) (s : St), GX LC K X 4 1 4 [(0, vR a0), (1, vI i1), (2, vI i2), (3, vI i3)] [] s (X6_keySizes_4 a0 i1 k n i2 i3 s) := by
  intro n
  induction n with
  | zero => intro i2 i3 s; exact GX.none
  | succ n ih =>
    intro i2 i3 s
    rw [X6_keySizes_4]
    refine g_iload_n O dX6_keySizes_4 rfl 3 rfl ?_
    refine g_aload_n O dX6_keySizes_5 rfl 0 rfl ?_
    refine g_getI O fw_6_9 (tree_c ha0) dX6_keySizes_6 rfl ?_
    refine g_icmp_ge (tgt := 36) O dX6_keySizes_9 (by decide) ?_ ?_
    · refine g_pick [2] rfl ?_
      exact hk i2 s
    refine g_aload_n O dX6_keySizes_12 rfl 0 rfl ?_
    refine g_iload_n O dX6_keySizes_13 rfl 3 rfl ?_
    refine g_iload_n O dX6_keySizes_14 rfl 1 rfl ?_
    refine g_callV1 (As := [vI i3, vI i1]) (rest := []) (b := a0) (ci := 6) O mw_3_95 mw_2_189 mw_2_190 mw_2_191 mw_1_4 hd_X6_isKey rfl ha0 rfl dX6_keySizes_15 (ct_X6_isKey ha0 i3 i1 s) (by rw [hfr]; decide) (by rw [hlo]; decide) (Nat.le_of_ble_eq_true rfl) (fun v1 s2 => ?_)
    refine g_if_eq (tgt := 30) O dX6_keySizes_18 (by decide) ?_ ?_
    · refine g_iinc (lv2 := [(3, vI (i3 + 1)), (0, vR a0), (1, vI i1), (2, vI i2)]) O dX6_keySizes_30 3 rfl (by decide) rfl ?_
      refine g_goto (tgt := 4) O dX6_keySizes_33 (by decide) ?_
      refine g_pick [1, 2, 3, 0] rfl ?_
      exact ih i2 (i3 + 1) s2
    refine g_iload_n O dX6_keySizes_21 rfl 2 rfl ?_
    refine g_aload_n O dX6_keySizes_22 rfl 0 rfl ?_
    refine g_getR O fw_6_19 (tree_c ha0) dX6_keySizes_23 rfl ?_
    refine g_iload_n O dX6_keySizes_26 rfl 3 rfl ?_
    refine g_iald O (tree_2 ha0) (by decide) dX6_keySizes_27 (fun v3 => ?_)
    refine g_iadd O dX6_keySizes_28 ?_
    refine g_istore_n (lv2 := [(2, vI (i2 + v3)), (0, vR a0), (1, vI i1), (3, vI i3)]) O dX6_keySizes_29 rfl (by decide) rfl ?_
    refine g_iinc (lv2 := [(3, vI (i3 + 1)), (2, vI (i2 + v3)), (0, vR a0), (1, vI i1)]) O dX6_keySizes_30 3 rfl (by decide) rfl ?_
    refine g_goto (tgt := 4) O dX6_keySizes_33 (by decide) ?_
    refine g_pick [2, 3, 1, 0] rfl ?_
    exact ih (i2 + v3) (i3 + 1) s2
theorem hd_X6_keySizes : yX6_keySizes.cls ≠ "java/lang/invoke/MethodHandle" ∧ yX6_keySizes.cls ≠ "java/lang/invoke/VarHandle" ∧ (parseMethodDescriptor yX6_keySizes.desc).map (fun d => d.parameters.length) = some 1 := by decide +kernel
set_option maxRecDepth 20000 in
set_option maxHeartbeats 4000000 in
theorem ct_X6_keySizes {a0 : Nat} (ha0 : Kd LC a0 16) (i1 : Int) (s : St) : Ctr LC yX6_keySizes cX6_keySizes 4 (Option.some .int) 1 3 66 [vR a0, vI i1] s (X6_keySizes a0 i1 s) := by
  refine Ctr.of (by decide +kernel) (fun ρ => Nat.le_of_ble_eq_true rfl) (lv := [(0, vR a0), (1, vI i1)]) (fun ρ => rfl) (fun K X O hrt hfr hlo => ?_)
  unfold X6_keySizes
  refine g_iconst O dX6_keySizes_0 ?_
  refine g_istore_n (lv2 := [(2, vI 0), (0, vR a0), (1, vI i1)]) O dX6_keySizes_1 rfl (by decide) rfl ?_
  refine g_iconst O dX6_keySizes_2 ?_
  refine g_istore_n (lv2 := [(3, vI 0), (2, vI 0), (0, vR a0), (1, vI i1)]) O dX6_keySizes_3 rfl (by decide) rfl ?_
  refine g_pick [2, 3, 1, 0] rfl ?_
  refine lt_X6_keySizes_4 O hrt hfr hlo ha0 (fun x1 s2 => ?_) FU 0 0 s
  refine g_iload_n O dX6_keySizes_36 rfl 0 rfl ?_
  exact g_iret O hrt rfl dX6_keySizes_37
def X8_work (i1 : Int) (s : St) : Rs := cLt i1 0 (some ((-1), s)) (cLt 1 i1 (some ((-1), s)) (cl (X3_isWhole s) (fun v1 s2 => cEq v1 0 (some ((-4), s2)) (cl (X6_keys 38 i1 s2) (fun v3 s4 => cl (X6_keys 41 i1 s4) (fun v5 s6 => put s6 0 10 (v3 * v5) (fun s7 => cl (X6_keySizes 38 i1 s7) (fun v8 s9 => cl (X6_keySizes 41 i1 s9) (fun v10 s11 => some (v8 * v10, s11))))))))))
theorem hd_X8_work : yX8_work.cls ≠ "java/lang/invoke/MethodHandle" ∧ yX8_work.cls ≠ "java/lang/invoke/VarHandle" ∧ (parseMethodDescriptor yX8_work.desc).map (fun d => d.parameters.length) = some 1 := by decide +kernel
set_option maxRecDepth 20000 in
set_option maxHeartbeats 4000000 in
theorem ct_X8_work  (i1 : Int) (s : St) : Ctr LC yX8_work cX8_work 2 (Option.some .int) 1 4 89 [vR 0, vI i1] s (X8_work i1 s) := by
  refine Ctr.of (by decide +kernel) (fun ρ => Nat.le_of_ble_eq_true rfl) (lv := [(0, vR 0), (1, vI i1)]) (fun ρ => rfl) (fun K X O hrt hfr hlo => ?_)
  unfold X8_work
  refine g_iload_n O dX8_work_0 rfl 1 rfl ?_
  refine g_if_lt (tgt := 9) O dX8_work_1 (by decide) ?_ ?_
  · refine g_iconst O dX8_work_9 ?_
    exact g_iret O hrt rfl dX8_work_10
  refine g_iload_n O dX8_work_4 rfl 1 rfl ?_
  refine g_iconst O dX8_work_5 ?_
  refine g_icmp_le (tgt := 11) O dX8_work_6 (by decide) ?_ ?_
  · refine g_aload_n O dX8_work_11 rfl 0 rfl ?_
    refine g_getR O fw_8_32 rfl dX8_work_12 rfl ?_
    refine g_callV1 (As := []) (rest := []) (b := 6) (ci := 3) O mw_2_228 mw_2_229 mw_2_230 mw_2_231 mw_1_3 hd_X3_isWhole rfl ⟨_, _, rfl⟩ rfl dX8_work_15 (ct_X3_isWhole  s) (by rw [hfr]; decide) (by rw [hlo]; decide) (Nat.le_of_ble_eq_true rfl) (fun v1 s2 => ?_)
    refine g_if_ne (tgt := 24) O dX8_work_18 (by decide) ?_ ?_
    · refine g_aload_n O dX8_work_24 rfl 0 rfl ?_
      refine g_aload_n O dX8_work_25 rfl 0 rfl ?_
      refine g_getR O fw_8_32 rfl dX8_work_26 rfl ?_
      refine g_getR O fw_8_216 rfl dX8_work_29 rfl ?_
      refine g_iload_n O dX8_work_32 rfl 1 rfl ?_
      refine g_callV1 (As := [vI i1]) (rest := [vR 0]) (b := 38) (ci := 6) O mw_3_91 mw_3_92 mw_3_93 mw_3_94 mw_1_4 hd_X6_keys rfl ⟨_, _, rfl⟩ rfl dX8_work_33 (ct_X6_keys ⟨_, _, rfl⟩ i1 s2) (by rw [hfr]; decide) (by rw [hlo]; decide) (Nat.le_of_ble_eq_true rfl) (fun v3 s4 => ?_)
      refine g_aload_n O dX8_work_36 rfl 0 rfl ?_
      refine g_getR O fw_8_32 rfl dX8_work_37 rfl ?_
      refine g_getR O fw_8_222 rfl dX8_work_40 rfl ?_
      refine g_iload_n O dX8_work_43 rfl 1 rfl ?_
      refine g_callV1 (As := [vI i1]) (rest := [vI v3, vR 0]) (b := 41) (ci := 6) O mw_3_91 mw_3_92 mw_3_93 mw_3_94 mw_1_4 hd_X6_keys rfl ⟨_, _, rfl⟩ rfl dX8_work_44 (ct_X6_keys ⟨_, _, rfl⟩ i1 s4) (by rw [hfr]; decide) (by rw [hlo]; decide) (Nat.le_of_ble_eq_true rfl) (fun v5 s6 => ?_)
      refine g_imul O dX8_work_47 ?_
      refine g_putI O fw_8_68 rfl dX8_work_48 rfl rfl rfl (fun s7 => ?_)
      refine g_aload_n O dX8_work_51 rfl 0 rfl ?_
      refine g_getR O fw_8_32 rfl dX8_work_52 rfl ?_
      refine g_getR O fw_8_216 rfl dX8_work_55 rfl ?_
      refine g_iload_n O dX8_work_58 rfl 1 rfl ?_
      refine g_callV1 (As := [vI i1]) (rest := []) (b := 38) (ci := 6) O mw_3_96 mw_3_97 mw_3_98 mw_3_99 mw_1_4 hd_X6_keySizes rfl ⟨_, _, rfl⟩ rfl dX8_work_59 (ct_X6_keySizes ⟨_, _, rfl⟩ i1 s7) (by rw [hfr]; decide) (by rw [hlo]; decide) (Nat.le_of_ble_eq_true rfl) (fun v8 s9 => ?_)
      refine g_aload_n O dX8_work_62 rfl 0 rfl ?_
      refine g_getR O fw_8_32 rfl dX8_work_63 rfl ?_
      refine g_getR O fw_8_222 rfl dX8_work_66 rfl ?_
      refine g_iload_n O dX8_work_69 rfl 1 rfl ?_
      refine g_callV1 (As := [vI i1]) (rest := [vI v8]) (b := 41) (ci := 6) O mw_3_96 mw_3_97 mw_3_98 mw_3_99 mw_1_4 hd_X6_keySizes rfl ⟨_, _, rfl⟩ rfl dX8_work_70 (ct_X6_keySizes ⟨_, _, rfl⟩ i1 s9) (by rw [hfr]; decide) (by rw [hlo]; decide) (Nat.le_of_ble_eq_true rfl) (fun v10 s11 => ?_)
      refine g_imul O dX8_work_73 ?_
      exact g_iret O hrt rfl dX8_work_74
    refine g_bipush O dX8_work_21 (by decide +kernel) ?_
    exact g_iret O hrt rfl dX8_work_23
  refine g_iconst O dX8_work_9 ?_
  exact g_iret O hrt rfl dX8_work_10
def X7_between (i1 : Int) (i2 : Int) (i3 : Int) (s : St) : Rs := cEq i1 0 (rdR 12 i2 (fun j3 => rd s (63 + j3) 12 i3 (fun v4 => some (v4, s)))) (rdR 12 i3 (fun j1 => rd s (63 + j1) 12 i2 (fun v2 => some (v2, s))))
theorem hd_X7_between : yX7_between.cls ≠ "java/lang/invoke/MethodHandle" ∧ yX7_between.cls ≠ "java/lang/invoke/VarHandle" ∧ (parseMethodDescriptor yX7_between.desc).map (fun d => d.parameters.length) = some 3 := by decide +kernel
set_option maxRecDepth 20000 in
set_option maxHeartbeats 4000000 in
theorem ct_X7_between  (i1 : Int) (i2 : Int) (i3 : Int) (s : St) : Ctr LC yX7_between cX7_between 4 (Option.some .int) 1 0 0 [vR 5, vI i1, vI i2, vI i3] s (X7_between i1 i2 i3 s) := by
  refine Ctr.of (by decide +kernel) (fun ρ => Nat.le_of_ble_eq_true rfl) (lv := [(0, vR 5), (1, vI i1), (2, vI i2), (3, vI i3)]) (fun ρ => rfl) (fun K X O hrt hfr hlo => ?_)
  unfold X7_between
  refine g_iload_n O dX7_between_0 rfl 1 rfl ?_
  refine g_if_ne (tgt := 15) O dX7_between_1 (by decide) ?_ ?_
  · refine g_aload_n O dX7_between_15 rfl 0 rfl ?_
    refine g_getR O fw_7_35 rfl dX7_between_16 rfl ?_
    refine g_iload_n O dX7_between_19 rfl 3 rfl ?_
    refine g_aald (g := fun j => 63 + j) O rfl (by decide) (by decide) (by decide) el_59 dX7_between_20 (fun j1 hj1 => ?_)
    refine g_iload_n O dX7_between_21 rfl 2 rfl ?_
    refine g_iald O (elc_59 hj1) (by decide) dX7_between_22 (fun v2 => ?_)
    exact g_iret O hrt rfl dX7_between_23
  refine g_aload_n O dX7_between_4 rfl 0 rfl ?_
  refine g_getR O fw_7_35 rfl dX7_between_5 rfl ?_
  refine g_iload_n O dX7_between_8 rfl 2 rfl ?_
  refine g_aald (g := fun j => 63 + j) O rfl (by decide) (by decide) (by decide) el_59 dX7_between_9 (fun j3 hj2 => ?_)
  refine g_iload_n O dX7_between_10 rfl 3 rfl ?_
  refine g_iald O (elc_59 hj2) (by decide) dX7_between_11 (fun v4 => ?_)
  refine g_goto (tgt := 23) O dX7_between_12 (by decide) ?_
  exact g_iret O hrt rfl dX7_between_23
def X8_nearest_36 (i1 : Int) (i2 : Int) (k : Int → St → Rs) : Nat → Int → Int → St → Rs
  | 0, _, _, _ => none
  | n + 1, i3, i4, s => cl (X3_tree (1 - i1) s) (fun v1 s2 => gK LC v1.toNat 16 (cLt i4 (s2 v1.toNat 0) (cl (X7_between i1 i2 i4 s2) (fun v3 s4 => cl (X7_between i1 i2 i3 s4) (fun v5 s6 => cLt v3 v5 (X8_nearest_36 i1 i2 k n i4 (i4 + 1) s6) (X8_nearest_36 i1 i2 k n i3 (i4 + 1) s6)))) (k i3 s2)))
def X8_nearest (i1 : Int) (i2 : Int) (s : St) : Rs := cl (X8_noNode i1 i2 s) (fun v1 s2 => cEq v1 0 (cl (X3_isWhole s2) (fun v3 s4 => cEq v3 0 (some ((-4), s4)) (cl (X7_refresh s4) (fun _ s6 => X8_nearest_36 i1 i2 (fun x7 s8 => cl (X7_between i1 i2 x7 s8) (fun v9 s10 => put s10 0 10 v9 (fun s11 => some (x7, s11)))) FU 0 1 s6)))) (some ((-1), s2)))
set_option maxRecDepth 20000 in
set_option maxHeartbeats 4000000 in
theorem lt_X8_nearest_36 {K : Cx} {X : Wx} (O : OKx LC K X yX8_nearest.cls cX8_nearest 5) (hrt : (kMe K).sig.returnType = (Option.some .int)) (hfr : (kR K).frames = 6) (hlo : (kR K).locals = 126) {i1 : Int} {i2 : Int} {k : Int → St → Rs}  (hk : ∀ (i3 : Int) (s : St), GX LC K X 5 1 87 [(0, vR 0), (1, vI i1), (2, vI i2), (3, vI i3)] [] s (k i3 s)) : ∀ (n : Nat) (i3 : Int) (i4 : Int) (s : St), GX LC K X 5 1 36 [(0, vR 0), (1, vI i1), (2, vI i2), (3, vI i3), (4, vI i4)] [] s (X8_nearest_36 i1 i2 k n i3 i4 s) := by
  intro n
  induction n with
  | zero => intro i3 i4 s; exact GX.none
  | succ n ih =>
    intro i3 i4 s
    rw [X8_nearest_36]
    refine g_iload O dX8_nearest_36 4 rfl ?_
    refine g_aload_n O dX8_nearest_38 rfl 0 rfl ?_
    refine g_getR O fw_8_32 rfl dX8_nearest_39 rfl ?_
    refine g_iconst O dX8_nearest_42 ?_
    refine g_iload_n O dX8_nearest_43 rfl 1 rfl ?_
    refine g_isub O dX8_nearest_44 ?_
    refine g_callV3 (As := [vI (1 - i1)]) (rest := [vI i4]) (b := 6) (ci := 3) O mw_2_131 mw_2_132 mw_2_133 mw_2_134 mw_1_3 hd_X3_tree rfl ⟨_, _, rfl⟩ rfl dX8_nearest_45 (ct_X3_tree (1 - i1) s) (by rw [hfr]; decide) (by rw [hlo]; decide) (Nat.le_of_ble_eq_true rfl) (fun v1 s2 => ?_)
    refine g_gK (by decide) (fun hk1 => ?_)
    refine g_getI O fw_8_142 (tree_c hk1) dX8_nearest_48 rfl ?_
    refine g_icmp_ge (tgt := 87) O dX8_nearest_51 (by decide) ?_ ?_
    · refine g_pick [0, 1, 2, 3] rfl ?_
      exact hk i3 s2
    refine g_aload_n O dX8_nearest_54 rfl 0 rfl ?_
    refine g_getR O fw_8_24 rfl dX8_nearest_55 rfl ?_
    refine g_iload_n O dX8_nearest_58 rfl 1 rfl ?_
    refine g_iload_n O dX8_nearest_59 rfl 2 rfl ?_
    refine g_iload O dX8_nearest_60 4 rfl ?_
    refine g_callV1 (As := [vI i1, vI i2, vI i4]) (rest := []) (b := 5) (ci := 7) O mw_3_104 mw_3_105 mw_3_106 mw_3_107 mw_1_2 hd_X7_between rfl ⟨_, _, rfl⟩ rfl dX8_nearest_62 (ct_X7_between i1 i2 i4 s2) (by rw [hfr]; decide) (by rw [hlo]; decide) (Nat.le_of_ble_eq_true rfl) (fun v3 s4 => ?_)
    refine g_aload_n O dX8_nearest_65 rfl 0 rfl ?_
    refine g_getR O fw_8_24 rfl dX8_nearest_66 rfl ?_
    refine g_iload_n O dX8_nearest_69 rfl 1 rfl ?_
    refine g_iload_n O dX8_nearest_70 rfl 2 rfl ?_
    refine g_iload_n O dX8_nearest_71 rfl 3 rfl ?_
    refine g_callV1 (As := [vI i1, vI i2, vI i3]) (rest := [vI v3]) (b := 5) (ci := 7) O mw_3_104 mw_3_105 mw_3_106 mw_3_107 mw_1_2 hd_X7_between rfl ⟨_, _, rfl⟩ rfl dX8_nearest_72 (ct_X7_between i1 i2 i3 s4) (by rw [hfr]; decide) (by rw [hlo]; decide) (Nat.le_of_ble_eq_true rfl) (fun v5 s6 => ?_)
    refine g_icmp_ge (tgt := 81) O dX8_nearest_75 (by decide) ?_ ?_
    · refine g_iinc (lv2 := [(4, vI (i4 + 1)), (0, vR 0), (1, vI i1), (2, vI i2), (3, vI i3)]) O dX8_nearest_81 4 rfl (by decide) rfl ?_
      refine g_goto (tgt := 36) O dX8_nearest_84 (by decide) ?_
      refine g_pick [1, 2, 3, 4, 0] rfl ?_
      exact ih i3 (i4 + 1) s6
    refine g_iload O dX8_nearest_78 4 rfl ?_
    refine g_istore_n (lv2 := [(3, vI i4), (0, vR 0), (1, vI i1), (2, vI i2), (4, vI i4)]) O dX8_nearest_80 rfl (by decide) rfl ?_
    refine g_iinc (lv2 := [(4, vI (i4 + 1)), (3, vI i4), (0, vR 0), (1, vI i1), (2, vI i2)]) O dX8_nearest_81 4 rfl (by decide) rfl ?_
    refine g_goto (tgt := 36) O dX8_nearest_84 (by decide) ?_
    refine g_pick [2, 3, 4, 1, 0] rfl ?_
    exact ih i4 (i4 + 1) s6
theorem hd_X8_nearest : yX8_nearest.cls ≠ "java/lang/invoke/MethodHandle" ∧ yX8_nearest.cls ≠ "java/lang/invoke/VarHandle" ∧ (parseMethodDescriptor yX8_nearest.desc).map (fun d => d.parameters.length) = some 2 := by decide +kernel
set_option maxRecDepth 20000 in
set_option maxHeartbeats 4000000 in
theorem ct_X8_nearest  (i1 : Int) (i2 : Int) (s : St) : Ctr LC yX8_nearest cX8_nearest 5 (Option.some .int) 1 6 126 [vR 0, vI i1, vI i2] s (X8_nearest i1 i2 s) := by
  refine Ctr.of (by decide +kernel) (fun ρ => Nat.le_of_ble_eq_true rfl) (lv := [(0, vR 0), (1, vI i1), (2, vI i2)]) (fun ρ => rfl) (fun K X O hrt hfr hlo => ?_)
  unfold X8_nearest
  refine g_aload_n O dX8_nearest_0 rfl 0 rfl ?_
  refine g_iload_n O dX8_nearest_1 rfl 1 rfl ?_
  refine g_iload_n O dX8_nearest_2 rfl 2 rfl ?_
  refine g_callV1 (As := [vI i1, vI i2]) (rest := []) (b := 0) (ci := 8) O mw_2_164 mw_2_166 mp_1_8 mw_2_167 mw_1_1 hd_X8_noNode rfl ⟨_, _, rfl⟩ rfl dX8_nearest_3 (ct_X8_noNode i1 i2 s) (by rw [hfr]; decide) (by rw [hlo]; decide) (Nat.le_of_ble_eq_true rfl) (fun v1 s2 => ?_)
  refine g_if_eq (tgt := 11) O dX8_nearest_6 (by decide) ?_ ?_
  · refine g_aload_n O dX8_nearest_11 rfl 0 rfl ?_
    refine g_getR O fw_8_32 rfl dX8_nearest_12 rfl ?_
    refine g_callV1 (As := []) (rest := []) (b := 6) (ci := 3) O mw_2_228 mw_2_229 mw_2_230 mw_2_231 mw_1_3 hd_X3_isWhole rfl ⟨_, _, rfl⟩ rfl dX8_nearest_15 (ct_X3_isWhole  s2) (by rw [hfr]; decide) (by rw [hlo]; decide) (Nat.le_of_ble_eq_true rfl) (fun v3 s4 => ?_)
    refine g_if_ne (tgt := 24) O dX8_nearest_18 (by decide) ?_ ?_
    · refine g_aload_n O dX8_nearest_24 rfl 0 rfl ?_
      refine g_getR O fw_8_24 rfl dX8_nearest_25 rfl ?_
      refine g_callV0 (As := []) (rest := []) (b := 5) (ci := 7) O mw_2_232 mw_2_233 mw_2_234 mw_2_235 mw_1_2 hd_X7_refresh rfl ⟨_, _, rfl⟩ rfl dX8_nearest_28 (ct_X7_refresh  s4) (by rw [hfr]; decide) (by rw [hlo]; decide) (Nat.le_of_ble_eq_true rfl) (fun _ s6 => ?_)
      refine g_iconst O dX8_nearest_31 ?_
      refine g_istore_n (lv2 := [(3, vI 0), (0, vR 0), (1, vI i1), (2, vI i2)]) O dX8_nearest_32 rfl (by decide) rfl ?_
      refine g_iconst O dX8_nearest_33 ?_
      refine g_istore (lv2 := [(4, vI 1), (3, vI 0), (0, vR 0), (1, vI i1), (2, vI i2)]) O dX8_nearest_34 (by decide) rfl ?_
      refine g_pick [2, 3, 4, 1, 0] rfl ?_
      refine lt_X8_nearest_36 O hrt hfr hlo  (fun x7 s8 => ?_) FU 0 1 s6
      refine g_aload_n O dX8_nearest_87 rfl 0 rfl ?_
      refine g_aload_n O dX8_nearest_88 rfl 0 rfl ?_
      refine g_getR O fw_8_24 rfl dX8_nearest_89 rfl ?_
      refine g_iload_n O dX8_nearest_92 rfl 1 rfl ?_
      refine g_iload_n O dX8_nearest_93 rfl 2 rfl ?_
      refine g_iload_n O dX8_nearest_94 rfl 3 rfl ?_
      refine g_callV1 (As := [vI i1, vI i2, vI x7]) (rest := [vR 0]) (b := 5) (ci := 7) O mw_3_104 mw_3_105 mw_3_106 mw_3_107 mw_1_2 hd_X7_between rfl ⟨_, _, rfl⟩ rfl dX8_nearest_95 (ct_X7_between i1 i2 x7 s8) (by rw [hfr]; decide) (by rw [hlo]; decide) (Nat.le_of_ble_eq_true rfl) (fun v9 s10 => ?_)
      refine g_putI O fw_8_68 rfl dX8_nearest_98 rfl rfl rfl (fun s11 => ?_)
      refine g_iload_n O dX8_nearest_101 rfl 3 rfl ?_
      exact g_iret O hrt rfl dX8_nearest_102
    refine g_bipush O dX8_nearest_21 (by decide +kernel) ?_
    exact g_iret O hrt rfl dX8_nearest_23
  refine g_iconst O dX8_nearest_9 ?_
  exact g_iret O hrt rfl dX8_nearest_10
def X8_would (i1 : Int) (i2 : Int) (i3 : Int) (s : St) : Rs := cl (X8_noNode i1 i2 s) (fun v1 s2 => cEq v1 0 (cl (X8_kindOf i3 s2) (fun v3 s4 => cEq v3 (-1) (some ((-1), s4)) (cl (X3_isWhole s4) (fun v5 s6 => cEq v5 0 (some ((-4), s6)) (cl (X3_tree i1 s6) (fun v7 s8 => gK LC v7.toNat 16 (rd s8 (v7.toNat + 1) 12 i2 (fun v9 => wr s8 (v7.toNat + 1) 12 i2 i3 (fun s10 => cl (X7_measure s10) (fun _ s12 => wr s12 (v7.toNat + 1) 12 i2 v9 (fun s13 => put s13 5 1 1 (fun s14 => cl (X7_distance s14) (fun v15 s16 => cl (X8_tell v15 s16) (fun v17 s18 => some (v17, s18))))))))))))))) (some ((-1), s2)))
theorem hd_X8_would : yX8_would.cls ≠ "java/lang/invoke/MethodHandle" ∧ yX8_would.cls ≠ "java/lang/invoke/VarHandle" ∧ (parseMethodDescriptor yX8_would.desc).map (fun d => d.parameters.length) = some 3 := by decide +kernel
set_option maxRecDepth 20000 in
set_option maxHeartbeats 4000000 in
theorem ct_X8_would  (i1 : Int) (i2 : Int) (i3 : Int) (s : St) : Ctr LC yX8_would cX8_would 6 (Option.some .int) 1 5 106 [vR 0, vI i1, vI i2, vI i3] s (X8_would i1 i2 i3 s) := by
  refine Ctr.of (by decide +kernel) (fun ρ => Nat.le_of_ble_eq_true rfl) (lv := [(0, vR 0), (1, vI i1), (2, vI i2), (3, vI i3)]) (fun ρ => rfl) (fun K X O hrt hfr hlo => ?_)
  unfold X8_would
  refine g_aload_n O dX8_would_0 rfl 0 rfl ?_
  refine g_iload_n O dX8_would_1 rfl 1 rfl ?_
  refine g_iload_n O dX8_would_2 rfl 2 rfl ?_
  refine g_callV1 (As := [vI i1, vI i2]) (rest := []) (b := 0) (ci := 8) O mw_2_164 mw_2_166 mp_1_8 mw_2_167 mw_1_1 hd_X8_noNode rfl ⟨_, _, rfl⟩ rfl dX8_would_3 (ct_X8_noNode i1 i2 s) (by rw [hfr]; decide) (by rw [hlo]; decide) (Nat.le_of_ble_eq_true rfl) (fun v1 s2 => ?_)
  refine g_if_ne (tgt := 17) O dX8_would_6 (by decide) ?_ ?_
  · refine g_iconst O dX8_would_17 ?_
    exact g_iret O hrt rfl dX8_would_18
  refine g_iload_n O dX8_would_9 rfl 3 rfl ?_
  refine g_callS1 (As := [vI i3]) (rest := []) O mw_2_176 mw_2_118 mw_2_119 mw_1_1 hd_X8_kindOf rfl dX8_would_10 (ct_X8_kindOf i3 s2) (by rw [hfr]; decide) (by rw [hlo]; decide) (Nat.le_of_ble_eq_true rfl) (fun v3 s4 => ?_)
  refine g_iconst O dX8_would_13 ?_
  refine g_icmp_ne (tgt := 19) O dX8_would_14 (by decide) ?_ ?_
  · refine g_aload_n O dX8_would_19 rfl 0 rfl ?_
    refine g_getR O fw_8_32 rfl dX8_would_20 rfl ?_
    refine g_callV1 (As := []) (rest := []) (b := 6) (ci := 3) O mw_2_228 mw_2_229 mw_2_230 mw_2_231 mw_1_3 hd_X3_isWhole rfl ⟨_, _, rfl⟩ rfl dX8_would_23 (ct_X3_isWhole  s4) (by rw [hfr]; decide) (by rw [hlo]; decide) (Nat.le_of_ble_eq_true rfl) (fun v5 s6 => ?_)
    refine g_if_ne (tgt := 32) O dX8_would_26 (by decide) ?_ ?_
    · refine g_aload_n O dX8_would_32 rfl 0 rfl ?_
      refine g_getR O fw_8_32 rfl dX8_would_33 rfl ?_
      refine g_iload_n O dX8_would_36 rfl 1 rfl ?_
      refine g_callV3 (As := [vI i1]) (rest := []) (b := 6) (ci := 3) O mw_2_131 mw_2_132 mw_2_133 mw_2_134 mw_1_3 hd_X3_tree rfl ⟨_, _, rfl⟩ rfl dX8_would_37 (ct_X3_tree i1 s6) (by rw [hfr]; decide) (by rw [hlo]; decide) (Nat.le_of_ble_eq_true rfl) (fun v7 s8 => ?_)
      refine g_gK (by decide) (fun hk1 => ?_)
      refine g_astore (lv2 := [(4, vR v7.toNat), (0, vR 0), (1, vI i1), (2, vI i2), (3, vI i3)]) O dX8_would_40 (by decide) rfl ?_
      refine g_aload O dX8_would_42 0 rfl ?_
      refine g_getR O fw_8_156 (tree_c hk1) dX8_would_44 rfl ?_
      refine g_iload_n O dX8_would_47 rfl 3 rfl ?_
      refine g_iald O (tree_1 hk1) (by decide) dX8_would_48 (fun v9 => ?_)
      refine g_istore (lv2 := [(5, vI v9), (4, vR v7.toNat), (0, vR 0), (1, vI i1), (2, vI i2), (3, vI i3)]) O dX8_would_49 (by decide) rfl ?_
      refine g_aload O dX8_would_51 1 rfl ?_
      refine g_getR O fw_8_156 (tree_c hk1) dX8_would_53 rfl ?_
      refine g_iload_n O dX8_would_56 rfl 4 rfl ?_
      refine g_iload_n O dX8_would_57 rfl 5 rfl ?_
      refine g_iast O (tree_1 hk1) (by decide) dX8_would_58 (fun s10 => ?_)
      refine g_aload_n O dX8_would_59 rfl 2 rfl ?_
      refine g_getR O fw_8_24 rfl dX8_would_60 rfl ?_
      refine g_callV0 (As := []) (rest := []) (b := 5) (ci := 7) O mw_3_112 mw_2_238 mw_2_239 mw_3_0 mw_1_2 hd_X7_measure rfl ⟨_, _, rfl⟩ rfl dX8_would_63 (ct_X7_measure  s10) (by rw [hfr]; decide) (by rw [hlo]; decide) (Nat.le_of_ble_eq_true rfl) (fun _ s12 => ?_)
      refine g_aload O dX8_would_66 1 rfl ?_
      refine g_getR O fw_8_156 (tree_c hk1) dX8_would_68 rfl ?_
      refine g_iload_n O dX8_would_71 rfl 4 rfl ?_
      refine g_iload O dX8_would_72 0 rfl ?_
      refine g_iast O (tree_1 hk1) (by decide) dX8_would_74 (fun s13 => ?_)
      refine g_aload_n O dX8_would_75 rfl 2 rfl ?_
      refine g_getR O fw_8_24 rfl dX8_would_76 rfl ?_
      refine g_iconst O dX8_would_79 ?_
      refine g_putI O fw_8_135 rfl dX8_would_80 rfl (by decide +kernel) rfl (fun s14 => ?_)
      refine g_aload_n O dX8_would_83 rfl 2 rfl ?_
      refine g_aload_n O dX8_would_84 rfl 2 rfl ?_
      refine g_getR O fw_8_24 rfl dX8_would_85 rfl ?_
      refine g_callV1 (As := []) (rest := [vR 0]) (b := 5) (ci := 7) O mw_3_45 mw_3_46 mw_3_47 mw_3_48 mw_1_2 hd_X7_distance rfl ⟨_, _, rfl⟩ rfl dX8_would_88 (ct_X7_distance  s14) (by rw [hfr]; decide) (by rw [hlo]; decide) (Nat.le_of_ble_eq_true rfl) (fun v15 s16 => ?_)
      refine g_callV1 (As := [vI v15]) (rest := []) (b := 0) (ci := 8) O mw_2_47 mw_2_49 mp_1_1 mw_2_50 mw_1_1 hd_X8_tell rfl ⟨_, _, rfl⟩ rfl dX8_would_91 (ct_X8_tell v15 s16) (by rw [hfr]; decide) (by rw [hlo]; decide) (Nat.le_of_ble_eq_true rfl) (fun v17 s18 => ?_)
      exact g_iret O hrt rfl dX8_would_94
    refine g_bipush O dX8_would_29 (by decide +kernel) ?_
    exact g_iret O hrt rfl dX8_would_31
  refine g_iconst O dX8_would_17 ?_
  exact g_iret O hrt rfl dX8_would_18
def X3_packTree_9 (a0 : Nat) (a1 : Nat) (i2 : Int) (k : St → Rs) : Nat → Int → St → Rs
  | 0, _, _ => none
  | n + 1, i3, s => cLt i3 (s a0 0) (rd s (a0 + 1) 12 i3 (fun v1 => rd s (a0 + 2) 12 i3 (fun v2 => wr s a1 (ln LC a1) ((i2 + 1) + i3) (oOr (oShl v1 4) v2) (fun s3 => X3_packTree_9 a0 a1 i2 k n (i3 + 1) s3)))) (k s)
def X3_packTree (a0 : Nat) (a1 : Nat) (i2 : Int) (s : St) : Rs := wr s a1 (ln LC a1) i2 (s a0 0) (fun s1 => X3_packTree_9 a0 a1 i2 (fun s2 => some (0, s2)) FU 0 s1)
set_option maxRecDepth 20000 in
set_option maxHeartbeats 4000000 in
theorem lt_X3_packTree_9 {K : Cx} {X : Wx} (O : OKx LC K X yX3_packTree.cls cX3_packTree 4) (hrt : (kMe K).sig.returnType = none) (hfr : (kR K).frames = 0) (hlo : (kR K).locals = 0) {a0 : Nat} {a1 : Nat} {i2 : Int} {k : St → Rs} (ha0 : Kd LC a0 16) (ha1 : Kd LC a1 0) (hk : ∀  (s : St), GX LC K X 4 0 45 [] [] s (k s)) : ∀ (n : Nat) (i3 : Int) (s : St), GX LC K X 4 0 9 [(0, vR a0), (1, vR a1), (2, vI i2), (3, vI i3)] [] s (X3_packTree_9 a0 a1 i2 k n i3 s) := by
  obtain ⟨fsa1, hf1⟩ := ha1.at
  intro n
  induction n with
  | zero => intro i3 s; exact GX.none
  | succ n ih =>
    intro i3 s
    rw [X3_packTree_9]
    refine g_iload_n O dX3_packTree_9 rfl 3 rfl ?_
    refine g_aload_n O dX3_packTree_10 rfl 0 rfl ?_
    refine g_getI O fw_3_25 (tree_c ha0) dX3_packTree_11 rfl ?_
    refine g_icmp_ge (tgt := 45) O dX3_packTree_14 (by decide) ?_ ?_
    · refine g_pick [] rfl ?_
      exact hk s
    refine g_aload_n O dX3_packTree_17 rfl 1 rfl ?_
    refine g_iload_n O dX3_packTree_18 rfl 2 rfl ?_
    refine g_iconst O dX3_packTree_19 ?_
    refine g_iadd O dX3_packTree_20 ?_
    refine g_iload_n O dX3_packTree_21 rfl 3 rfl ?_
    refine g_iadd O dX3_packTree_22 ?_
    refine g_aload_n O dX3_packTree_23 rfl 0 rfl ?_
    refine g_getR O fw_3_58 (tree_c ha0) dX3_packTree_24 rfl ?_
    refine g_iload_n O dX3_packTree_27 rfl 3 rfl ?_
    refine g_iald O (tree_1 ha0) (by decide) dX3_packTree_28 (fun v1 => ?_)
    refine g_iconst O dX3_packTree_29 ?_
    refine g_ishl O dX3_packTree_30 ?_
    refine g_aload_n O dX3_packTree_31 rfl 0 rfl ?_
    refine g_getR O fw_3_61 (tree_c ha0) dX3_packTree_32 rfl ?_
    refine g_iload_n O dX3_packTree_35 rfl 3 rfl ?_
    refine g_iald O (tree_2 ha0) (by decide) dX3_packTree_36 (fun v2 => ?_)
    refine g_ior O dX3_packTree_37 ?_
    refine g_iast O hf1 (Nat.le_succ_of_le (ln_leC _)) dX3_packTree_38 (fun s3 => ?_)
    refine g_iinc (lv2 := [(3, vI (i3 + 1)), (0, vR a0), (1, vR a1), (2, vI i2)]) O dX3_packTree_39 3 rfl (by decide) rfl ?_
    refine g_goto (tgt := 9) O dX3_packTree_42 (by decide) ?_
    refine g_pick [1, 2, 3, 0] rfl ?_
    exact ih (i3 + 1) s3
theorem hd_X3_packTree : yX3_packTree.cls ≠ "java/lang/invoke/MethodHandle" ∧ yX3_packTree.cls ≠ "java/lang/invoke/VarHandle" ∧ (parseMethodDescriptor yX3_packTree.desc).map (fun d => d.parameters.length) = some 3 := by decide +kernel
set_option maxRecDepth 20000 in
set_option maxHeartbeats 4000000 in
theorem ct_X3_packTree {a0 : Nat} (ha0 : Kd LC a0 16) {a1 : Nat} (ha1 : Kd LC a1 0) (i2 : Int) (s : St) : Ctr LC yX3_packTree cX3_packTree 4 none 0 0 0 [vR a0, vR a1, vI i2] s (X3_packTree a0 a1 i2 s) := by
  obtain ⟨fs1, hf1⟩ := ha1.at
  refine Ctr.of (by decide +kernel) (fun ρ => Nat.le_of_ble_eq_true rfl) (lv := [(0, vR a0), (1, vR a1), (2, vI i2)]) (fun ρ => rfl) (fun K X O hrt hfr hlo => ?_)
  unfold X3_packTree
  refine g_aload_n O dX3_packTree_0 rfl 1 rfl ?_
  refine g_iload_n O dX3_packTree_1 rfl 2 rfl ?_
  refine g_aload_n O dX3_packTree_2 rfl 0 rfl ?_
  refine g_getI O fw_3_25 (tree_c ha0) dX3_packTree_3 rfl ?_
  refine g_iast O hf1 (Nat.le_succ_of_le (ln_leC _)) dX3_packTree_6 (fun s1 => ?_)
  refine g_iconst O dX3_packTree_7 ?_
  refine g_istore_n (lv2 := [(3, vI 0), (0, vR a0), (1, vR a1), (2, vI i2)]) O dX3_packTree_8 rfl (by decide) rfl ?_
  refine g_pick [1, 2, 3, 0] rfl ?_
  refine lt_X3_packTree_9 O hrt hfr hlo ha0 ha1 (fun s2 => ?_) FU 0 s1
  exact g_vret O hrt dX3_packTree_45
def X3_pack (a1 : Nat) (i2 : Int) (s : St) : Rs := cpA s 7 3 0 a1 (ln LC a1) i2 3 (fun s1 => cl (X3_packTree 38 a1 (i2 + 3) s1) (fun _ s3 => cl (X3_packTree 41 a1 ((i2 + 3) + 13) s3) (fun _ s5 => some (0, s5))))
theorem hd_X3_pack : yX3_pack.cls ≠ "java/lang/invoke/MethodHandle" ∧ yX3_pack.cls ≠ "java/lang/invoke/VarHandle" ∧ (parseMethodDescriptor yX3_pack.desc).map (fun d => d.parameters.length) = some 2 := by decide +kernel
set_option maxRecDepth 20000 in
set_option maxHeartbeats 4000000 in
theorem ct_X3_pack {a1 : Nat} (ha1 : Kd LC a1 0) (i2 : Int) (s : St) : Ctr LC yX3_pack cX3_pack 3 none 0 1 26 [vR 6, vR a1, vI i2] s (X3_pack a1 i2 s) := by
  obtain ⟨fs1, hf1⟩ := ha1.at
  refine Ctr.of (by decide +kernel) (fun ρ => Nat.le_of_ble_eq_true rfl) (lv := [(0, vR 6), (1, vR a1), (2, vI i2)]) (fun ρ => rfl) (fun K X O hrt hfr hlo => ?_)
  unfold X3_pack
  refine g_aload_n O dX3_pack_0 rfl 0 rfl ?_
  refine g_getR O fw_3_21 rfl dX3_pack_1 rfl ?_
  refine g_iconst O dX3_pack_4 ?_
  refine g_aload_n O dX3_pack_5 rfl 1 rfl ?_
  refine g_iload_n O dX3_pack_6 rfl 2 rfl ?_
  refine g_iconst O dX3_pack_7 ?_
  refine g_copy O mw_3_129 mw_2_69 mw_2_68 mw_1_11 rfl hf1 (by decide) (ln_leC _) (by rw [hfr]; decide) (by rw [hlo]; exact Nat.le_of_ble_eq_true rfl) dX3_pack_8 (fun s1 => ?_)
  refine g_aload_n O dX3_pack_11 rfl 0 rfl ?_
  refine g_getR O fw_3_14 rfl dX3_pack_12 rfl ?_
  refine g_aload_n O dX3_pack_15 rfl 1 rfl ?_
  refine g_iload_n O dX3_pack_16 rfl 2 rfl ?_
  refine g_iconst O dX3_pack_17 ?_
  refine g_iadd O dX3_pack_18 ?_
  refine g_callS0 (As := [vR 38, vR a1, vI (i2 + 3)]) (rest := []) O mw_3_130 mw_3_131 mw_3_132 mw_1_3 hd_X3_packTree rfl dX3_pack_19 (ct_X3_packTree ⟨_, _, rfl⟩ ha1 (i2 + 3) s1) (by rw [hfr]; decide) (by rw [hlo]; decide) (Nat.le_of_ble_eq_true rfl) (fun _ s3 => ?_)
  refine g_aload_n O dX3_pack_22 rfl 0 rfl ?_
  refine g_getR O fw_3_18 rfl dX3_pack_23 rfl ?_
  refine g_aload_n O dX3_pack_26 rfl 1 rfl ?_
  refine g_iload_n O dX3_pack_27 rfl 2 rfl ?_
  refine g_iconst O dX3_pack_28 ?_
  refine g_iadd O dX3_pack_29 ?_
  refine g_bipush O dX3_pack_30 (by decide +kernel) ?_
  refine g_iadd O dX3_pack_32 ?_
  refine g_callS0 (As := [vR 41, vR a1, vI ((i2 + 3) + 13)]) (rest := []) O mw_3_130 mw_3_131 mw_3_132 mw_1_3 hd_X3_packTree rfl dX3_pack_33 (ct_X3_packTree ⟨_, _, rfl⟩ ha1 ((i2 + 3) + 13) s3) (by rw [hfr]; decide) (by rw [hlo]; decide) (Nat.le_of_ble_eq_true rfl) (fun _ s5 => ?_)
  exact g_vret O hrt dX3_pack_36
def X0_hold (a0 : Nat) (s : St) : Rs := cLt (s a0 0) 0 (some (0, s)) (cLt 40 (s a0 0) (some (0, s)) (cl (X3_pack (a0 + 1) ((s a0 0) * 29) s) (fun _ s2 => some (0, s2))))
theorem hd_X0_hold : yX0_hold.cls ≠ "java/lang/invoke/MethodHandle" ∧ yX0_hold.cls ≠ "java/lang/invoke/VarHandle" ∧ (parseMethodDescriptor yX0_hold.desc).map (fun d => d.parameters.length) = some 1 := by decide +kernel
set_option maxRecDepth 20000 in
set_option maxHeartbeats 4000000 in
theorem ct_X0_hold {a0 : Nat} (ha0 : Kd LC a0 10)  (s : St) : Ctr LC yX0_hold cX0_hold 2 none 0 2 48 [vR a0, vR 6] s (X0_hold a0 s) := by
  refine Ctr.of (by decide +kernel) (fun ρ => Nat.le_of_ble_eq_true rfl) (lv := [(0, vR a0), (1, vR 6)]) (fun ρ => rfl) (fun K X O hrt hfr hlo => ?_)
  unfold X0_hold
  refine g_aload_n O dX0_hold_0 rfl 0 rfl ?_
  refine g_getI O fw_0_17 (log_c ha0) dX0_hold_1 rfl ?_
  refine g_if_lt (tgt := 31) O dX0_hold_4 (by decide) ?_ ?_
  · exact g_vret O hrt dX0_hold_31
  refine g_aload_n O dX0_hold_7 rfl 0 rfl ?_
  refine g_getI O fw_0_17 (log_c ha0) dX0_hold_8 rfl ?_
  refine g_bipush O dX0_hold_11 (by decide +kernel) ?_
  refine g_icmp_gt (tgt := 31) O dX0_hold_13 (by decide) ?_ ?_
  · exact g_vret O hrt dX0_hold_31
  refine g_aload_n O dX0_hold_16 rfl 1 rfl ?_
  refine g_aload_n O dX0_hold_17 rfl 0 rfl ?_
  refine g_getR O fw_0_11 (log_c ha0) dX0_hold_18 rfl ?_
  refine g_aload_n O dX0_hold_21 rfl 0 rfl ?_
  refine g_getI O fw_0_17 (log_c ha0) dX0_hold_22 rfl ?_
  refine g_bipush O dX0_hold_25 (by decide +kernel) ?_
  refine g_imul O dX0_hold_27 ?_
  refine g_callV0 (As := [vR (a0 + 1), vI ((s a0 0) * 29)]) (rest := []) (b := 6) (ci := 3) O mw_3_125 mw_3_126 mw_3_127 mw_3_128 mw_1_3 hd_X3_pack rfl ⟨_, _, rfl⟩ rfl dX0_hold_28 (ct_X3_pack ⟨_, _, log_1 ha0⟩ ((s a0 0) * 29) s) (by rw [hfr]; decide) (by rw [hlo]; decide) (Nat.le_of_ble_eq_true rfl) (fun _ s2 => ?_)
  exact g_vret O hrt dX0_hold_31
def X8_record  (s : St) : Rs := cl (X0_hold 30 s) (fun _ s2 => put s2 30 0 ((s2 30 0) + 1) (fun s3 => put s3 5 1 1 (fun s4 => some (0, s4))))
theorem hd_X8_record : yX8_record.cls ≠ "java/lang/invoke/MethodHandle" ∧ yX8_record.cls ≠ "java/lang/invoke/VarHandle" ∧ (parseMethodDescriptor yX8_record.desc).map (fun d => d.parameters.length) = some 0 := by decide +kernel
set_option maxRecDepth 20000 in
set_option maxHeartbeats 4000000 in
theorem ct_X8_record   (s : St) : Ctr LC yX8_record cX8_record 1 none 0 3 69 [vR 0] s (X8_record s) := by
  refine Ctr.of (by decide +kernel) (fun ρ => Nat.le_of_ble_eq_true rfl) (lv := [(0, vR 0)]) (fun ρ => rfl) (fun K X O hrt hfr hlo => ?_)
  unfold X8_record
  refine g_aload_n O dX8_record_0 rfl 0 rfl ?_
  refine g_getR O fw_8_38 rfl dX8_record_1 rfl ?_
  refine g_aload_n O dX8_record_4 rfl 0 rfl ?_
  refine g_getR O fw_8_32 rfl dX8_record_5 rfl ?_
  refine g_callV0 (As := [vR 6]) (rest := []) (b := 30) (ci := 0) O mw_3_121 mw_3_122 mw_3_123 mw_3_124 mw_1_6 hd_X0_hold rfl ⟨_, _, rfl⟩ rfl dX8_record_8 (ct_X0_hold ⟨_, _, rfl⟩  s) (by rw [hfr]; decide) (by rw [hlo]; decide) (Nat.le_of_ble_eq_true rfl) (fun _ s2 => ?_)
  refine g_aload_n O dX8_record_11 rfl 0 rfl ?_
  refine g_getR O fw_8_38 rfl dX8_record_12 rfl ?_
  refine g_dup O dX8_record_15 rfl ?_
  refine g_getI O fw_8_139 rfl dX8_record_16 rfl ?_
  refine g_iconst O dX8_record_19 ?_
  refine g_iadd O dX8_record_20 ?_
  refine g_putI O fw_8_139 rfl dX8_record_21 rfl rfl rfl (fun s3 => ?_)
  refine g_aload_n O dX8_record_24 rfl 0 rfl ?_
  refine g_getR O fw_8_24 rfl dX8_record_25 rfl ?_
  refine g_iconst O dX8_record_28 ?_
  refine g_putI O fw_8_135 rfl dX8_record_29 rfl (by decide +kernel) rfl (fun s4 => ?_)
  exact g_vret O hrt dX8_record_32
def X8_change (i1 : Int) (i2 : Int) (i3 : Int) (s : St) : Rs := cl (X8_noNode i1 i2 s) (fun v1 s2 => cEq v1 0 (cl (X8_kindOf i3 s2) (fun v3 s4 => cEq v3 (-1) (some ((-1), s4)) (cl (X3_tree i1 s4) (fun v5 s6 => gK LC v5.toNat 16 (rd s6 (v5.toNat + 1) 12 i2 (fun v7 => cEq v7 i3 (some ((-4), s6)) (cLt (s6 30 0) 40 (cl (X8_record s6) (fun _ s9 => wr s9 (v5.toNat + 1) 12 i2 i3 (fun s10 => some (v7, s10)))) (some ((-2), s6))))))))) (some ((-1), s2)))
theorem hd_X8_change : yX8_change.cls ≠ "java/lang/invoke/MethodHandle" ∧ yX8_change.cls ≠ "java/lang/invoke/VarHandle" ∧ (parseMethodDescriptor yX8_change.desc).map (fun d => d.parameters.length) = some 3 := by decide +kernel
set_option maxRecDepth 20000 in
set_option maxHeartbeats 4000000 in
theorem ct_X8_change  (i1 : Int) (i2 : Int) (i3 : Int) (s : St) : Ctr LC yX8_change cX8_change 6 (Option.some .int) 1 4 89 [vR 0, vI i1, vI i2, vI i3] s (X8_change i1 i2 i3 s) := by
  refine Ctr.of (by decide +kernel) (fun ρ => Nat.le_of_ble_eq_true rfl) (lv := [(0, vR 0), (1, vI i1), (2, vI i2), (3, vI i3)]) (fun ρ => rfl) (fun K X O hrt hfr hlo => ?_)
  unfold X8_change
  refine g_aload_n O dX8_change_0 rfl 0 rfl ?_
  refine g_iload_n O dX8_change_1 rfl 1 rfl ?_
  refine g_iload_n O dX8_change_2 rfl 2 rfl ?_
  refine g_callV1 (As := [vI i1, vI i2]) (rest := []) (b := 0) (ci := 8) O mw_2_164 mw_2_166 mp_1_8 mw_2_167 mw_1_1 hd_X8_noNode rfl ⟨_, _, rfl⟩ rfl dX8_change_3 (ct_X8_noNode i1 i2 s) (by rw [hfr]; decide) (by rw [hlo]; decide) (Nat.le_of_ble_eq_true rfl) (fun v1 s2 => ?_)
  refine g_if_ne (tgt := 17) O dX8_change_6 (by decide) ?_ ?_
  · refine g_iconst O dX8_change_17 ?_
    exact g_iret O hrt rfl dX8_change_18
  refine g_iload_n O dX8_change_9 rfl 3 rfl ?_
  refine g_callS1 (As := [vI i3]) (rest := []) O mw_2_176 mw_2_118 mw_2_119 mw_1_1 hd_X8_kindOf rfl dX8_change_10 (ct_X8_kindOf i3 s2) (by rw [hfr]; decide) (by rw [hlo]; decide) (Nat.le_of_ble_eq_true rfl) (fun v3 s4 => ?_)
  refine g_iconst O dX8_change_13 ?_
  refine g_icmp_ne (tgt := 19) O dX8_change_14 (by decide) ?_ ?_
  · refine g_aload_n O dX8_change_19 rfl 0 rfl ?_
    refine g_getR O fw_8_32 rfl dX8_change_20 rfl ?_
    refine g_iload_n O dX8_change_23 rfl 1 rfl ?_
    refine g_callV3 (As := [vI i1]) (rest := []) (b := 6) (ci := 3) O mw_2_131 mw_2_132 mw_2_133 mw_2_134 mw_1_3 hd_X3_tree rfl ⟨_, _, rfl⟩ rfl dX8_change_24 (ct_X3_tree i1 s4) (by rw [hfr]; decide) (by rw [hlo]; decide) (Nat.le_of_ble_eq_true rfl) (fun v5 s6 => ?_)
    refine g_gK (by decide) (fun hk1 => ?_)
    refine g_astore (lv2 := [(4, vR v5.toNat), (0, vR 0), (1, vI i1), (2, vI i2), (3, vI i3)]) O dX8_change_27 (by decide) rfl ?_
    refine g_aload O dX8_change_29 0 rfl ?_
    refine g_getR O fw_8_156 (tree_c hk1) dX8_change_31 rfl ?_
    refine g_iload_n O dX8_change_34 rfl 3 rfl ?_
    refine g_iald O (tree_1 hk1) (by decide) dX8_change_35 (fun v7 => ?_)
    refine g_istore (lv2 := [(5, vI v7), (4, vR v5.toNat), (0, vR 0), (1, vI i1), (2, vI i2), (3, vI i3)]) O dX8_change_36 (by decide) rfl ?_
    refine g_iload O dX8_change_38 0 rfl ?_
    refine g_iload_n O dX8_change_40 rfl 5 rfl ?_
    refine g_icmp_ne (tgt := 47) O dX8_change_41 (by decide) ?_ ?_
    · refine g_aload_n O dX8_change_47 rfl 2 rfl ?_
      refine g_getR O fw_8_38 rfl dX8_change_48 rfl ?_
      refine g_getI O fw_8_139 rfl dX8_change_51 rfl ?_
      refine g_bipush O dX8_change_54 (by decide +kernel) ?_
      refine g_icmp_lt (tgt := 62) O dX8_change_56 (by decide) ?_ ?_
      · refine g_aload_n O dX8_change_62 rfl 2 rfl ?_
        refine g_callV0 (As := []) (rest := []) (b := 0) (ci := 8) O mw_3_117 mw_3_119 mp_2_2 mw_3_120 mw_1_1 hd_X8_record rfl ⟨_, _, rfl⟩ rfl dX8_change_63 (ct_X8_record  s6) (by rw [hfr]; decide) (by rw [hlo]; decide) (Nat.le_of_ble_eq_true rfl) (fun _ s9 => ?_)
        refine g_aload O dX8_change_66 1 rfl ?_
        refine g_getR O fw_8_156 (tree_c hk1) dX8_change_68 rfl ?_
        refine g_iload_n O dX8_change_71 rfl 4 rfl ?_
        refine g_iload_n O dX8_change_72 rfl 5 rfl ?_
        refine g_iast O (tree_1 hk1) (by decide) dX8_change_73 (fun s10 => ?_)
        refine g_iload O dX8_change_74 0 rfl ?_
        exact g_iret O hrt rfl dX8_change_76
      refine g_bipush O dX8_change_59 (by decide +kernel) ?_
      exact g_iret O hrt rfl dX8_change_61
    refine g_bipush O dX8_change_44 (by decide +kernel) ?_
    exact g_iret O hrt rfl dX8_change_46
  refine g_iconst O dX8_change_17 ?_
  exact g_iret O hrt rfl dX8_change_18
def X6_canLose (a0 : Nat) (i1 : Int) (s : St) : Rs := cEq i1 ((s a0 0) - 1) (cl (X6_children a0 i1 s) (fun v1 s2 => cEq v1 1 (some (1, s2)) (some (0, s2)))) (some (1, s))
theorem hd_X6_canLose : yX6_canLose.cls ≠ "java/lang/invoke/MethodHandle" ∧ yX6_canLose.cls ≠ "java/lang/invoke/VarHandle" ∧ (parseMethodDescriptor yX6_canLose.desc).map (fun d => d.parameters.length) = some 1 := by decide +kernel
set_option maxRecDepth 20000 in
set_option maxHeartbeats 4000000 in
theorem ct_X6_canLose {a0 : Nat} (ha0 : Kd LC a0 16) (i1 : Int) (s : St) : Ctr LC yX6_canLose cX6_canLose 2 (Option.some .boolean) 1 3 66 [vR a0, vI i1] s (X6_canLose a0 i1 s) := by
  refine Ctr.of (by decide +kernel) (fun ρ => Nat.le_of_ble_eq_true rfl) (lv := [(0, vR a0), (1, vI i1)]) (fun ρ => rfl) (fun K X O hrt hfr hlo => ?_)
  unfold X6_canLose
  refine g_iload_n O dX6_canLose_0 rfl 1 rfl ?_
  refine g_aload_n O dX6_canLose_1 rfl 0 rfl ?_
  refine g_getI O fw_6_9 (tree_c ha0) dX6_canLose_2 rfl ?_
  refine g_iconst O dX6_canLose_5 ?_
  refine g_isub O dX6_canLose_6 ?_
  refine g_icmp_ne (tgt := 19) O dX6_canLose_7 (by decide) ?_ ?_
  · refine g_iconst O dX6_canLose_19 ?_
    refine g_goto (tgt := 24) O dX6_canLose_20 (by decide) ?_
    exact g_iret O hrt (by decide +kernel) dX6_canLose_24
  refine g_aload_n O dX6_canLose_10 rfl 0 rfl ?_
  refine g_iload_n O dX6_canLose_11 rfl 1 rfl ?_
  refine g_callV1 (As := [vI i1]) (rest := []) (b := a0) (ci := 6) O mw_3_141 mw_2_179 mw_2_180 mw_2_181 mw_1_4 hd_X6_children rfl ha0 rfl dX6_canLose_12 (ct_X6_children ha0 i1 s) (by rw [hfr]; decide) (by rw [hlo]; decide) (Nat.le_of_ble_eq_true rfl) (fun v1 s2 => ?_)
  refine g_iconst O dX6_canLose_15 ?_
  refine g_icmp_ne (tgt := 23) O dX6_canLose_16 (by decide) ?_ ?_
  · refine g_iconst O dX6_canLose_23 ?_
    exact g_iret O hrt (by decide +kernel) dX6_canLose_24
  refine g_iconst O dX6_canLose_19 ?_
  refine g_goto (tgt := 24) O dX6_canLose_20 (by decide) ?_
  exact g_iret O hrt (by decide +kernel) dX6_canLose_24
def X8_cut (i1 : Int) (i2 : Int) (s : St) : Rs := cl (X8_noNode i1 i2 s) (fun v1 s2 => cEq v1 0 (cl (X3_tree i1 s2) (fun v3 s4 => gK LC v3.toNat 16 (cl (X6_canLose v3.toNat i2 s4) (fun v5 s6 => cEq v5 0 (some ((-4), s6)) (cLt (s6 30 0) 40 (cl (X8_record s6) (fun _ s8 => cl (X6_remove v3.toNat i2 s8) (fun _ s10 => some (s10 v3.toNat 0, s10)))) (some ((-2), s6))))))) (some ((-1), s2)))
theorem hd_X8_cut : yX8_cut.cls ≠ "java/lang/invoke/MethodHandle" ∧ yX8_cut.cls ≠ "java/lang/invoke/VarHandle" ∧ (parseMethodDescriptor yX8_cut.desc).map (fun d => d.parameters.length) = some 2 := by decide +kernel
set_option maxRecDepth 20000 in
set_option maxHeartbeats 4000000 in
theorem ct_X8_cut  (i1 : Int) (i2 : Int) (s : St) : Ctr LC yX8_cut cX8_cut 4 (Option.some .int) 1 4 89 [vR 0, vI i1, vI i2] s (X8_cut i1 i2 s) := by
  refine Ctr.of (by decide +kernel) (fun ρ => Nat.le_of_ble_eq_true rfl) (lv := [(0, vR 0), (1, vI i1), (2, vI i2)]) (fun ρ => rfl) (fun K X O hrt hfr hlo => ?_)
  unfold X8_cut
  refine g_aload_n O dX8_cut_0 rfl 0 rfl ?_
  refine g_iload_n O dX8_cut_1 rfl 1 rfl ?_
  refine g_iload_n O dX8_cut_2 rfl 2 rfl ?_
  refine g_callV1 (As := [vI i1, vI i2]) (rest := []) (b := 0) (ci := 8) O mw_2_164 mw_2_166 mp_1_8 mw_2_167 mw_1_1 hd_X8_noNode rfl ⟨_, _, rfl⟩ rfl dX8_cut_3 (ct_X8_noNode i1 i2 s) (by rw [hfr]; decide) (by rw [hlo]; decide) (Nat.le_of_ble_eq_true rfl) (fun v1 s2 => ?_)
  refine g_if_eq (tgt := 11) O dX8_cut_6 (by decide) ?_ ?_
  · refine g_aload_n O dX8_cut_11 rfl 0 rfl ?_
    refine g_getR O fw_8_32 rfl dX8_cut_12 rfl ?_
    refine g_iload_n O dX8_cut_15 rfl 1 rfl ?_
    refine g_callV3 (As := [vI i1]) (rest := []) (b := 6) (ci := 3) O mw_2_131 mw_2_132 mw_2_133 mw_2_134 mw_1_3 hd_X3_tree rfl ⟨_, _, rfl⟩ rfl dX8_cut_16 (ct_X3_tree i1 s2) (by rw [hfr]; decide) (by rw [hlo]; decide) (Nat.le_of_ble_eq_true rfl) (fun v3 s4 => ?_)
    refine g_gK (by decide) (fun hk1 => ?_)
    refine g_astore_n (lv2 := [(3, vR v3.toNat), (0, vR 0), (1, vI i1), (2, vI i2)]) O dX8_cut_19 rfl (by decide) rfl ?_
    refine g_aload_n O dX8_cut_20 rfl 0 rfl ?_
    refine g_iload_n O dX8_cut_21 rfl 3 rfl ?_
    refine g_callV1 (As := [vI i2]) (rest := []) (b := v3.toNat) (ci := 6) O mw_3_137 mw_3_138 mw_3_139 mw_3_140 mw_1_4 hd_X6_canLose rfl hk1 rfl dX8_cut_22 (ct_X6_canLose hk1 i2 s4) (by rw [hfr]; decide) (by rw [hlo]; decide) (Nat.le_of_ble_eq_true rfl) (fun v5 s6 => ?_)
    refine g_if_ne (tgt := 31) O dX8_cut_25 (by decide) ?_ ?_
    · refine g_aload_n O dX8_cut_31 rfl 1 rfl ?_
      refine g_getR O fw_8_38 rfl dX8_cut_32 rfl ?_
      refine g_getI O fw_8_139 rfl dX8_cut_35 rfl ?_
      refine g_bipush O dX8_cut_38 (by decide +kernel) ?_
      refine g_icmp_lt (tgt := 46) O dX8_cut_40 (by decide) ?_ ?_
      · refine g_aload_n O dX8_cut_46 rfl 1 rfl ?_
        refine g_callV0 (As := []) (rest := []) (b := 0) (ci := 8) O mw_3_117 mw_3_119 mp_2_2 mw_3_120 mw_1_1 hd_X8_record rfl ⟨_, _, rfl⟩ rfl dX8_cut_47 (ct_X8_record  s6) (by rw [hfr]; decide) (by rw [hlo]; decide) (Nat.le_of_ble_eq_true rfl) (fun _ s8 => ?_)
        refine g_aload_n O dX8_cut_50 rfl 0 rfl ?_
        refine g_iload_n O dX8_cut_51 rfl 3 rfl ?_
        refine g_callV0 (As := [vI i2]) (rest := []) (b := v3.toNat) (ci := 6) O mw_3_142 mw_3_84 mw_3_85 mw_3_86 mw_1_4 hd_X6_remove rfl hk1 rfl dX8_cut_52 (ct_X6_remove hk1 i2 s8) (by rw [hfr]; decide) (by rw [hlo]; decide) (Nat.le_of_ble_eq_true rfl) (fun _ s10 => ?_)
        refine g_aload_n O dX8_cut_55 rfl 0 rfl ?_
        refine g_getI O fw_8_142 (tree_c hk1) dX8_cut_56 rfl ?_
        exact g_iret O hrt rfl dX8_cut_59
      refine g_bipush O dX8_cut_43 (by decide +kernel) ?_
      exact g_iret O hrt rfl dX8_cut_45
    refine g_bipush O dX8_cut_28 (by decide +kernel) ?_
    exact g_iret O hrt rfl dX8_cut_30
  refine g_iconst O dX8_cut_9 ?_
  exact g_iret O hrt rfl dX8_cut_10
def X6_endOfChildren_16 (a0 : Nat) (i1 : Int) (i2 : Int) (k : Int → St → Rs) : Nat → Int → Int → Int → St → Rs
  | 0, _, _, _, _ => none
  | n + 1, i3, i4, i5, s => cLt i5 i1 (cLt i4 i2 (cl (X6_parent a0 i5 s) (fun v1 s2 => cEq v1 i1 (X6_endOfChildren_16 a0 i1 i2 k n (i5 + 1) (i4 + 1) (i5 + 1) s2) (X6_endOfChildren_16 a0 i1 i2 k n i3 i4 (i5 + 1) s2))) (k i3 s)) (k i3 s)
def X6_endOfChildren (a0 : Nat) (i1 : Int) (i2 : Int) (s : St) : Rs := cl (X6_leftmost a0 i1 s) (fun v1 s2 => cl (X6_leftmost a0 i1 s2) (fun v3 s4 => X6_endOfChildren_16 a0 i1 i2 (fun x5 s6 => some (x5, s6)) FU v1 0 v3 s4))
set_option maxRecDepth 20000 in
set_option maxHeartbeats 4000000 in
theorem lt_X6_endOfChildren_16 {K : Cx} {X : Wx} (O : OKx LC K X yX6_endOfChildren.cls cX6_endOfChildren 6) (hrt : (kMe K).sig.returnType = (Option.some .int)) (hfr : (kR K).frames = 2) (hlo : (kR K).locals = 43) {a0 : Nat} {i1 : Int} {i2 : Int} {k : Int → St → Rs} (ha0 : Kd LC a0 16) (hk : ∀ (i3 : Int) (s : St), GX LC K X 6 1 52 [(3, vI i3)] [] s (k i3 s)) : ∀ (n : Nat) (i3 : Int) (i4 : Int) (i5 : Int) (s : St), GX LC K X 6 1 16 [(0, vR a0), (1, vI i1), (2, vI i2), (3, vI i3), (4, vI i4), (5, vI i5)] [] s (X6_endOfChildren_16 a0 i1 i2 k n i3 i4 i5 s) := by
  intro n
  induction n with
  | zero => intro i3 i4 i5 s; exact GX.none
  | succ n ih =>
    intro i3 i4 i5 s
    rw [X6_endOfChildren_16]
    refine g_iload O dX6_endOfChildren_16 5 rfl ?_
    refine g_iload_n O dX6_endOfChildren_18 rfl 1 rfl ?_
    refine g_icmp_ge (tgt := 52) O dX6_endOfChildren_19 (by decide) ?_ ?_
    · refine g_pick [3] rfl ?_
      exact hk i3 s
    refine g_iload O dX6_endOfChildren_22 4 rfl ?_
    refine g_iload_n O dX6_endOfChildren_24 rfl 2 rfl ?_
    refine g_icmp_ge (tgt := 52) O dX6_endOfChildren_25 (by decide) ?_ ?_
    · refine g_pick [3] rfl ?_
      exact hk i3 s
    refine g_aload_n O dX6_endOfChildren_28 rfl 0 rfl ?_
    refine g_iload O dX6_endOfChildren_29 5 rfl ?_
    refine g_callV1 (As := [vI i5]) (rest := []) (b := a0) (ci := 6) O mw_2_183 mw_2_184 mw_2_185 mw_2_186 mw_1_4 hd_X6_parent rfl ha0 rfl dX6_endOfChildren_31 (ct_X6_parent ha0 i5 s) (by rw [hfr]; decide) (by rw [hlo]; decide) (Nat.le_of_ble_eq_true rfl) (fun v1 s2 => ?_)
    refine g_iload_n O dX6_endOfChildren_34 rfl 1 rfl ?_
    refine g_icmp_ne (tgt := 46) O dX6_endOfChildren_35 (by decide) ?_ ?_
    · refine g_iinc (lv2 := [(5, vI (i5 + 1)), (0, vR a0), (1, vI i1), (2, vI i2), (3, vI i3), (4, vI i4)]) O dX6_endOfChildren_46 5 rfl (by decide) rfl ?_
      refine g_goto (tgt := 16) O dX6_endOfChildren_49 (by decide) ?_
      refine g_pick [1, 2, 3, 4, 5, 0] rfl ?_
      exact ih i3 i4 (i5 + 1) s2
    refine g_iload O dX6_endOfChildren_38 5 rfl ?_
    refine g_iconst O dX6_endOfChildren_40 ?_
    refine g_iadd O dX6_endOfChildren_41 ?_
    refine g_istore_n (lv2 := [(3, vI (i5 + 1)), (0, vR a0), (1, vI i1), (2, vI i2), (4, vI i4), (5, vI i5)]) O dX6_endOfChildren_42 rfl (by decide) rfl ?_
    refine g_iinc (lv2 := [(4, vI (i4 + 1)), (3, vI (i5 + 1)), (0, vR a0), (1, vI i1), (2, vI i2), (5, vI i5)]) O dX6_endOfChildren_43 4 rfl (by decide) rfl ?_
    refine g_iinc (lv2 := [(5, vI (i5 + 1)), (4, vI (i4 + 1)), (3, vI (i5 + 1)), (0, vR a0), (1, vI i1), (2, vI i2)]) O dX6_endOfChildren_46 5 rfl (by decide) rfl ?_
    refine g_goto (tgt := 16) O dX6_endOfChildren_49 (by decide) ?_
    refine g_pick [3, 4, 5, 2, 1, 0] rfl ?_
    exact ih (i5 + 1) (i4 + 1) (i5 + 1) s2
theorem hd_X6_endOfChildren : yX6_endOfChildren.cls ≠ "java/lang/invoke/MethodHandle" ∧ yX6_endOfChildren.cls ≠ "java/lang/invoke/VarHandle" ∧ (parseMethodDescriptor yX6_endOfChildren.desc).map (fun d => d.parameters.length) = some 2 := by decide +kernel
set_option maxRecDepth 20000 in
set_option maxHeartbeats 4000000 in
theorem ct_X6_endOfChildren {a0 : Nat} (ha0 : Kd LC a0 16) (i1 : Int) (i2 : Int) (s : St) : Ctr LC yX6_endOfChildren cX6_endOfChildren 6 (Option.some .int) 1 2 43 [vR a0, vI i1, vI i2] s (X6_endOfChildren a0 i1 i2 s) := by
  refine Ctr.of (by decide +kernel) (fun ρ => Nat.le_of_ble_eq_true rfl) (lv := [(0, vR a0), (1, vI i1), (2, vI i2)]) (fun ρ => rfl) (fun K X O hrt hfr hlo => ?_)
  unfold X6_endOfChildren
  refine g_aload_n O dX6_endOfChildren_0 rfl 0 rfl ?_
  refine g_iload_n O dX6_endOfChildren_1 rfl 1 rfl ?_
  refine g_callV1 (As := [vI i1]) (rest := []) (b := a0) (ci := 6) O mw_2_182 mw_2_157 mw_2_158 mw_2_159 mw_1_4 hd_X6_leftmost rfl ha0 rfl dX6_endOfChildren_2 (ct_X6_leftmost ha0 i1 s) (by rw [hfr]; decide) (by rw [hlo]; decide) (Nat.le_of_ble_eq_true rfl) (fun v1 s2 => ?_)
  refine g_istore_n (lv2 := [(3, vI v1), (0, vR a0), (1, vI i1), (2, vI i2)]) O dX6_endOfChildren_5 rfl (by decide) rfl ?_
  refine g_iconst O dX6_endOfChildren_6 ?_
  refine g_istore (lv2 := [(4, vI 0), (3, vI v1), (0, vR a0), (1, vI i1), (2, vI i2)]) O dX6_endOfChildren_7 (by decide) rfl ?_
  refine g_aload_n O dX6_endOfChildren_9 rfl 2 rfl ?_
  refine g_iload_n O dX6_endOfChildren_10 rfl 3 rfl ?_
  refine g_callV1 (As := [vI i1]) (rest := []) (b := a0) (ci := 6) O mw_2_182 mw_2_157 mw_2_158 mw_2_159 mw_1_4 hd_X6_leftmost rfl ha0 rfl dX6_endOfChildren_11 (ct_X6_leftmost ha0 i1 s2) (by rw [hfr]; decide) (by rw [hlo]; decide) (Nat.le_of_ble_eq_true rfl) (fun v3 s4 => ?_)
  refine g_istore (lv2 := [(5, vI v3), (4, vI 0), (3, vI v1), (0, vR a0), (1, vI i1), (2, vI i2)]) O dX6_endOfChildren_14 (by decide) rfl ?_
  refine g_pick [3, 4, 5, 2, 1, 0] rfl ?_
  refine lt_X6_endOfChildren_16 O hrt hfr hlo ha0 (fun x5 s6 => ?_) FU v1 0 v3 s4
  refine g_iload_n O dX6_endOfChildren_52 rfl 0 rfl ?_
  exact g_iret O hrt rfl dX6_endOfChildren_53
def X6_insert_21 (a0 : Nat) (i1 : Int) (i4 : Int) (i5 : Int) (i6 : Int) (k : St → Rs) : Nat → Int → St → Rs
  | 0, _, _ => none
  | n + 1, i7, s => cLt i7 (s a0 0) (cl (X6_leftmost a0 i7 s) (fun v1 s2 => cLt i1 v1 (X6_insert_21 a0 i1 i4 i5 i6 k n (i7 + 1) s2) (rd s2 (a0 + 2) 12 i7 (fun v3 => wr s2 (a0 + 2) 12 i7 (v3 + 1) (fun s4 => X6_insert_21 a0 i1 i4 i5 i6 k n (i7 + 1) s4))))) (k s)
def X6_insert_63 (a0 : Nat) (i4 : Int) (i5 : Int) (i6 : Int) (k : St → Rs) : Nat → Int → St → Rs
  | 0, _, _ => none
  | n + 1, i7, s => cLt i6 i7 (rd s (a0 + 1) 12 (i7 - 1) (fun v1 => wr s (a0 + 1) 12 i7 v1 (fun s2 => rd s2 (a0 + 2) 12 (i7 - 1) (fun v3 => wr s2 (a0 + 2) 12 i7 v3 (fun s4 => X6_insert_63 a0 i4 i5 i6 k n (i7 + (-1)) s4))))) (k s)
def X6_insert (a0 : Nat) (i1 : Int) (i2 : Int) (i3 : Int) (i4 : Int) (s : St) : Rs := cl (X6_endOfChildren a0 i1 i2 s) (fun v1 s2 => cl (X6_endOfChildren a0 i1 (i2 + i3) s2) (fun v3 s4 => X6_insert_21 a0 i1 i4 v1 v3 (fun s5 => X6_insert_63 a0 i4 v1 v3 (fun s6 => wr s6 (a0 + 1) 12 v3 i4 (fun s7 => wr s7 (a0 + 2) 12 v3 ((v3 - v1) + 1) (fun s8 => put s8 a0 0 ((s8 a0 0) + 1) (fun s9 => some (v3, s9))))) FU (s5 a0 0) s5) FU i1 s4))
set_option maxRecDepth 20000 in
set_option maxHeartbeats 4000000 in
theorem lt_X6_insert_21 {K : Cx} {X : Wx} (O : OKx LC K X yX6_insert.cls cX6_insert 8) (hrt : (kMe K).sig.returnType = (Option.some .int)) (hfr : (kR K).frames = 3) (hlo : (kR K).locals = 68) {a0 : Nat} {i1 : Int} {i4 : Int} {i5 : Int} {i6 : Int} {k : St → Rs} (ha0 : Kd LC a0 16) (hk : ∀  (s : St), GX LC K X 8 1 57 [(0, vR a0), (4, vI i4), (5, vI i5), (6, vI i6)] [] s (k s)) : ∀ (n : Nat) (i7 : Int) (s : St), GX LC K X 8 1 21 [(0, vR a0), (1, vI i1), (4, vI i4), (5, vI i5), (6, vI i6), (7, vI i7)] [] s (X6_insert_21 a0 i1 i4 i5 i6 k n i7 s) := by
  intro n
  induction n with
  | zero => intro i7 s; exact GX.none
  | succ n ih =>
    intro i7 s
    rw [X6_insert_21]
    refine g_iload O dX6_insert_21 5 rfl ?_
    refine g_aload_n O dX6_insert_23 rfl 0 rfl ?_
    refine g_getI O fw_6_9 (tree_c ha0) dX6_insert_24 rfl ?_
    refine g_icmp_ge (tgt := 57) O dX6_insert_27 (by decide) ?_ ?_
    · refine g_pick [0, 2, 3, 4] rfl ?_
      exact hk s
    refine g_aload_n O dX6_insert_30 rfl 0 rfl ?_
    refine g_iload O dX6_insert_31 5 rfl ?_
    refine g_callV1 (As := [vI i7]) (rest := []) (b := a0) (ci := 6) O mw_2_182 mw_2_157 mw_2_158 mw_2_159 mw_1_4 hd_X6_leftmost rfl ha0 rfl dX6_insert_33 (ct_X6_leftmost ha0 i7 s) (by rw [hfr]; decide) (by rw [hlo]; decide) (Nat.le_of_ble_eq_true rfl) (fun v1 s2 => ?_)
    refine g_iload_n O dX6_insert_36 rfl 1 rfl ?_
    refine g_icmp_gt (tgt := 51) O dX6_insert_37 (by decide) ?_ ?_
    · refine g_iinc (lv2 := [(7, vI (i7 + 1)), (0, vR a0), (1, vI i1), (4, vI i4), (5, vI i5), (6, vI i6)]) O dX6_insert_51 5 rfl (by decide) rfl ?_
      refine g_goto (tgt := 21) O dX6_insert_54 (by decide) ?_
      refine g_pick [1, 2, 3, 4, 5, 0] rfl ?_
      exact ih (i7 + 1) s2
    refine g_aload_n O dX6_insert_40 rfl 0 rfl ?_
    refine g_getR O fw_6_19 (tree_c ha0) dX6_insert_41 rfl ?_
    refine g_iload O dX6_insert_44 5 rfl ?_
    refine g_dup2 O dX6_insert_46 rfl rfl ?_
    refine g_iald O (tree_2 ha0) (by decide) dX6_insert_47 (fun v3 => ?_)
    refine g_iconst O dX6_insert_48 ?_
    refine g_iadd O dX6_insert_49 ?_
    refine g_iast O (tree_2 ha0) (by decide) dX6_insert_50 (fun s4 => ?_)
    refine g_iinc (lv2 := [(7, vI (i7 + 1)), (0, vR a0), (1, vI i1), (4, vI i4), (5, vI i5), (6, vI i6)]) O dX6_insert_51 5 rfl (by decide) rfl ?_
    refine g_goto (tgt := 21) O dX6_insert_54 (by decide) ?_
    refine g_pick [1, 2, 3, 4, 5, 0] rfl ?_
    exact ih (i7 + 1) s4
set_option maxRecDepth 20000 in
set_option maxHeartbeats 4000000 in
theorem lt_X6_insert_63 {K : Cx} {X : Wx} (O : OKx LC K X yX6_insert.cls cX6_insert 8) (hrt : (kMe K).sig.returnType = (Option.some .int)) (hfr : (kR K).frames = 3) (hlo : (kR K).locals = 68) {a0 : Nat} {i4 : Int} {i5 : Int} {i6 : Int} {k : St → Rs} (ha0 : Kd LC a0 16) (hk : ∀  (s : St), GX LC K X 8 1 108 [(0, vR a0), (4, vI i4), (5, vI i5), (6, vI i6)] [] s (k s)) : ∀ (n : Nat) (i7 : Int) (s : St), GX LC K X 8 1 63 [(0, vR a0), (4, vI i4), (5, vI i5), (6, vI i6), (7, vI i7)] [] s (X6_insert_63 a0 i4 i5 i6 k n i7 s) := by
  intro n
  induction n with
  | zero => intro i7 s; exact GX.none
  | succ n ih =>
    intro i7 s
    rw [X6_insert_63]
    refine g_iload O dX6_insert_63 4 rfl ?_
    refine g_iload O dX6_insert_65 3 rfl ?_
    refine g_icmp_le (tgt := 108) O dX6_insert_67 (by decide) ?_ ?_
    · refine g_pick [0, 1, 2, 3] rfl ?_
      exact hk s
    refine g_aload_n O dX6_insert_70 rfl 0 rfl ?_
    refine g_getR O fw_6_15 (tree_c ha0) dX6_insert_71 rfl ?_
    refine g_iload O dX6_insert_74 4 rfl ?_
    refine g_aload_n O dX6_insert_76 rfl 0 rfl ?_
    refine g_getR O fw_6_15 (tree_c ha0) dX6_insert_77 rfl ?_
    refine g_iload O dX6_insert_80 4 rfl ?_
    refine g_iconst O dX6_insert_82 ?_
    refine g_isub O dX6_insert_83 ?_
    refine g_iald O (tree_1 ha0) (by decide) dX6_insert_84 (fun v1 => ?_)
    refine g_iast O (tree_1 ha0) (by decide) dX6_insert_85 (fun s2 => ?_)
    refine g_aload_n O dX6_insert_86 rfl 0 rfl ?_
    refine g_getR O fw_6_19 (tree_c ha0) dX6_insert_87 rfl ?_
    refine g_iload O dX6_insert_90 4 rfl ?_
    refine g_aload_n O dX6_insert_92 rfl 0 rfl ?_
    refine g_getR O fw_6_19 (tree_c ha0) dX6_insert_93 rfl ?_
    refine g_iload O dX6_insert_96 4 rfl ?_
    refine g_iconst O dX6_insert_98 ?_
    refine g_isub O dX6_insert_99 ?_
    refine g_iald O (tree_2 ha0) (by decide) dX6_insert_100 (fun v3 => ?_)
    refine g_iast O (tree_2 ha0) (by decide) dX6_insert_101 (fun s4 => ?_)
    refine g_iinc (lv2 := [(7, vI (i7 + (-1))), (0, vR a0), (4, vI i4), (5, vI i5), (6, vI i6)]) O dX6_insert_102 4 rfl (by decide) rfl ?_
    refine g_goto (tgt := 63) O dX6_insert_105 (by decide) ?_
    refine g_pick [1, 2, 3, 4, 0] rfl ?_
    exact ih (i7 + (-1)) s4
theorem hd_X6_insert : yX6_insert.cls ≠ "java/lang/invoke/MethodHandle" ∧ yX6_insert.cls ≠ "java/lang/invoke/VarHandle" ∧ (parseMethodDescriptor yX6_insert.desc).map (fun d => d.parameters.length) = some 4 := by decide +kernel
set_option maxRecDepth 20000 in
set_option maxHeartbeats 4000000 in
theorem ct_X6_insert {a0 : Nat} (ha0 : Kd LC a0 16) (i1 : Int) (i2 : Int) (i3 : Int) (i4 : Int) (s : St) : Ctr LC yX6_insert cX6_insert 8 (Option.some .int) 1 3 68 [vR a0, vI i1, vI i2, vI i3, vI i4] s (X6_insert a0 i1 i2 i3 i4 s) := by
  refine Ctr.of (by decide +kernel) (fun ρ => Nat.le_of_ble_eq_true rfl) (lv := [(0, vR a0), (1, vI i1), (2, vI i2), (3, vI i3), (4, vI i4)]) (fun ρ => rfl) (fun K X O hrt hfr hlo => ?_)
  unfold X6_insert
  refine g_aload_n O dX6_insert_0 rfl 0 rfl ?_
  refine g_iload_n O dX6_insert_1 rfl 1 rfl ?_
  refine g_iload_n O dX6_insert_2 rfl 2 rfl ?_
  refine g_callV1 (As := [vI i1, vI i2]) (rest := []) (b := a0) (ci := 6) O mw_3_151 mw_3_153 mp_2_3 mw_3_154 mw_1_4 hd_X6_endOfChildren rfl ha0 rfl dX6_insert_3 (ct_X6_endOfChildren ha0 i1 i2 s) (by rw [hfr]; decide) (by rw [hlo]; decide) (Nat.le_of_ble_eq_true rfl) (fun v1 s2 => ?_)
  refine g_istore (lv2 := [(5, vI v1), (0, vR a0), (1, vI i1), (2, vI i2), (3, vI i3), (4, vI i4)]) O dX6_insert_6 (by decide) rfl ?_
  refine g_aload_n O dX6_insert_8 rfl 1 rfl ?_
  refine g_iload_n O dX6_insert_9 rfl 2 rfl ?_
  refine g_iload_n O dX6_insert_10 rfl 3 rfl ?_
  refine g_iload_n O dX6_insert_11 rfl 4 rfl ?_
  refine g_iadd O dX6_insert_12 ?_
  refine g_callV1 (As := [vI i1, vI (i2 + i3)]) (rest := []) (b := a0) (ci := 6) O mw_3_151 mw_3_153 mp_2_3 mw_3_154 mw_1_4 hd_X6_endOfChildren rfl ha0 rfl dX6_insert_13 (ct_X6_endOfChildren ha0 i1 (i2 + i3) s2) (by rw [hfr]; decide) (by rw [hlo]; decide) (Nat.le_of_ble_eq_true rfl) (fun v3 s4 => ?_)
  refine g_istore (lv2 := [(6, vI v3), (5, vI v1), (0, vR a0), (1, vI i1), (2, vI i2), (3, vI i3), (4, vI i4)]) O dX6_insert_16 (by decide) rfl ?_
  refine g_iload_n O dX6_insert_18 rfl 3 rfl ?_
  refine g_istore (lv2 := [(7, vI i1), (6, vI v3), (5, vI v1), (0, vR a0), (1, vI i1), (2, vI i2), (3, vI i3), (4, vI i4)]) O dX6_insert_19 (by decide) rfl ?_
  refine g_pick [3, 4, 7, 2, 1, 0] rfl ?_
  refine lt_X6_insert_21 O hrt hfr hlo ha0 (fun s5 => ?_) FU i1 s4
  refine g_aload_n O dX6_insert_57 rfl 0 rfl ?_
  refine g_getI O fw_6_9 (tree_c ha0) dX6_insert_58 rfl ?_
  refine g_istore (lv2 := [(7, vI (s5 a0 0)), (0, vR a0), (4, vI i4), (5, vI v1), (6, vI v3)]) O dX6_insert_61 (by decide) rfl ?_
  refine g_pick [1, 2, 3, 4, 0] rfl ?_
  refine lt_X6_insert_63 O hrt hfr hlo ha0 (fun s6 => ?_) FU (s5 a0 0) s5
  refine g_aload_n O dX6_insert_108 rfl 0 rfl ?_
  refine g_getR O fw_6_15 (tree_c ha0) dX6_insert_109 rfl ?_
  refine g_iload O dX6_insert_112 3 rfl ?_
  refine g_iload O dX6_insert_114 1 rfl ?_
  refine g_iast O (tree_1 ha0) (by decide) dX6_insert_116 (fun s7 => ?_)
  refine g_aload_n O dX6_insert_117 rfl 0 rfl ?_
  refine g_getR O fw_6_19 (tree_c ha0) dX6_insert_118 rfl ?_
  refine g_iload O dX6_insert_121 3 rfl ?_
  refine g_iload O dX6_insert_123 3 rfl ?_
  refine g_iload O dX6_insert_125 2 rfl ?_
  refine g_isub O dX6_insert_127 ?_
  refine g_iconst O dX6_insert_128 ?_
  refine g_iadd O dX6_insert_129 ?_
  refine g_iast O (tree_2 ha0) (by decide) dX6_insert_130 (fun s8 => ?_)
  refine g_aload_n O dX6_insert_131 rfl 0 rfl ?_
  refine g_dup O dX6_insert_132 rfl ?_
  refine g_getI O fw_6_9 (tree_c ha0) dX6_insert_133 rfl ?_
  refine g_iconst O dX6_insert_136 ?_
  refine g_iadd O dX6_insert_137 ?_
  refine g_putI O fw_6_9 (tree_c ha0) dX6_insert_138 rfl rfl rfl (fun s9 => ?_)
  refine g_iload O dX6_insert_141 3 rfl ?_
  exact g_iret O hrt rfl dX6_insert_143
def X8_add (i1 : Int) (i2 : Int) (i3 : Int) (i4 : Int) (i5 : Int) (s : St) : Rs := cl (X8_noNode i1 i2 s) (fun v1 s2 => cEq v1 0 (cLt i3 0 (some ((-1), s2)) (cLt i4 0 (some ((-1), s2)) (cl (X3_tree i1 s2) (fun v3 s4 => gK LC v3.toNat 16 (cl (X6_children v3.toNat i2 s4) (fun v5 s6 => cLt v5 i3 (some ((-1), s6)) (cLt (v5 - i3) i4 (some ((-1), s6)) (cl (X8_kindOf i5 s6) (fun v7 s8 => cEq v7 (-1) (some ((-1), s8)) (cLt (s8 v3.toNat 0) 12 (cLt (s8 30 0) 40 (cl (X8_record s8) (fun _ s10 => cl (X6_insert v3.toNat i2 i3 i4 i5 s10) (fun v11 s12 => some (v11, s12)))) (some ((-2), s8))) (some ((-4), s8)))))))))))) (some ((-1), s2)))
theorem hd_X8_add : yX8_add.cls ≠ "java/lang/invoke/MethodHandle" ∧ yX8_add.cls ≠ "java/lang/invoke/VarHandle" ∧ (parseMethodDescriptor yX8_add.desc).map (fun d => d.parameters.length) = some 5 := by decide +kernel
set_option maxRecDepth 20000 in
set_option maxHeartbeats 4000000 in
theorem ct_X8_add  (i1 : Int) (i2 : Int) (i3 : Int) (i4 : Int) (i5 : Int) (s : St) : Ctr LC yX8_add cX8_add 8 (Option.some .int) 1 4 95 [vR 0, vI i1, vI i2, vI i3, vI i4, vI i5] s (X8_add i1 i2 i3 i4 i5 s) := by
  refine Ctr.of (by decide +kernel) (fun ρ => Nat.le_of_ble_eq_true rfl) (lv := [(0, vR 0), (1, vI i1), (2, vI i2), (3, vI i3), (4, vI i4), (5, vI i5)]) (fun ρ => rfl) (fun K X O hrt hfr hlo => ?_)
  unfold X8_add
  refine g_aload_n O dX8_add_0 rfl 0 rfl ?_
  refine g_iload_n O dX8_add_1 rfl 1 rfl ?_
  refine g_iload_n O dX8_add_2 rfl 2 rfl ?_
  refine g_callV1 (As := [vI i1, vI i2]) (rest := []) (b := 0) (ci := 8) O mw_2_164 mw_2_166 mp_1_8 mw_2_167 mw_1_1 hd_X8_noNode rfl ⟨_, _, rfl⟩ rfl dX8_add_3 (ct_X8_noNode i1 i2 s) (by rw [hfr]; decide) (by rw [hlo]; decide) (Nat.le_of_ble_eq_true rfl) (fun v1 s2 => ?_)
  refine g_if_ne (tgt := 18) O dX8_add_6 (by decide) ?_ ?_
  · refine g_iconst O dX8_add_18 ?_
    exact g_iret O hrt rfl dX8_add_19
  refine g_iload_n O dX8_add_9 rfl 3 rfl ?_
  refine g_if_lt (tgt := 18) O dX8_add_10 (by decide) ?_ ?_
  · refine g_iconst O dX8_add_18 ?_
    exact g_iret O hrt rfl dX8_add_19
  refine g_iload O dX8_add_13 4 rfl ?_
  refine g_if_ge (tgt := 20) O dX8_add_15 (by decide) ?_ ?_
  · refine g_aload_n O dX8_add_20 rfl 0 rfl ?_
    refine g_getR O fw_8_32 rfl dX8_add_21 rfl ?_
    refine g_iload_n O dX8_add_24 rfl 1 rfl ?_
    refine g_callV3 (As := [vI i1]) (rest := []) (b := 6) (ci := 3) O mw_2_131 mw_2_132 mw_2_133 mw_2_134 mw_1_3 hd_X3_tree rfl ⟨_, _, rfl⟩ rfl dX8_add_25 (ct_X3_tree i1 s2) (by rw [hfr]; decide) (by rw [hlo]; decide) (Nat.le_of_ble_eq_true rfl) (fun v3 s4 => ?_)
    refine g_gK (by decide) (fun hk1 => ?_)
    refine g_astore (lv2 := [(6, vR v3.toNat), (0, vR 0), (1, vI i1), (2, vI i2), (3, vI i3), (4, vI i4), (5, vI i5)]) O dX8_add_28 (by decide) rfl ?_
    refine g_aload O dX8_add_30 0 rfl ?_
    refine g_iload_n O dX8_add_32 rfl 3 rfl ?_
    refine g_callV1 (As := [vI i2]) (rest := []) (b := v3.toNat) (ci := 6) O mw_2_178 mw_2_179 mw_2_180 mw_2_181 mw_1_4 hd_X6_children rfl hk1 rfl dX8_add_33 (ct_X6_children hk1 i2 s4) (by rw [hfr]; decide) (by rw [hlo]; decide) (Nat.le_of_ble_eq_true rfl) (fun v5 s6 => ?_)
    refine g_istore (lv2 := [(7, vI v5), (6, vR v3.toNat), (0, vR 0), (1, vI i1), (2, vI i2), (3, vI i3), (4, vI i4), (5, vI i5)]) O dX8_add_36 (by decide) rfl ?_
    refine g_iload_n O dX8_add_38 rfl 5 rfl ?_
    refine g_iload O dX8_add_39 0 rfl ?_
    refine g_icmp_gt (tgt := 62) O dX8_add_41 (by decide) ?_ ?_
    · refine g_iconst O dX8_add_62 ?_
      exact g_iret O hrt rfl dX8_add_63
    refine g_iload O dX8_add_44 6 rfl ?_
    refine g_iload O dX8_add_46 0 rfl ?_
    refine g_iload_n O dX8_add_48 rfl 5 rfl ?_
    refine g_isub O dX8_add_49 ?_
    refine g_icmp_gt (tgt := 62) O dX8_add_50 (by decide) ?_ ?_
    · refine g_iconst O dX8_add_62 ?_
      exact g_iret O hrt rfl dX8_add_63
    refine g_iload O dX8_add_53 7 rfl ?_
    refine g_callS1 (As := [vI i5]) (rest := []) O mw_2_176 mw_2_118 mw_2_119 mw_1_1 hd_X8_kindOf rfl dX8_add_55 (ct_X8_kindOf i5 s6) (by rw [hfr]; decide) (by rw [hlo]; decide) (Nat.le_of_ble_eq_true rfl) (fun v7 s8 => ?_)
    refine g_iconst O dX8_add_58 ?_
    refine g_icmp_ne (tgt := 64) O dX8_add_59 (by decide) ?_ ?_
    · refine g_aload O dX8_add_64 1 rfl ?_
      refine g_getI O fw_8_142 (tree_c hk1) dX8_add_66 rfl ?_
      refine g_bipush O dX8_add_69 (by decide +kernel) ?_
      refine g_icmp_lt (tgt := 77) O dX8_add_71 (by decide) ?_ ?_
      · refine g_aload_n O dX8_add_77 rfl 2 rfl ?_
        refine g_getR O fw_8_38 rfl dX8_add_78 rfl ?_
        refine g_getI O fw_8_139 rfl dX8_add_81 rfl ?_
        refine g_bipush O dX8_add_84 (by decide +kernel) ?_
        refine g_icmp_lt (tgt := 92) O dX8_add_86 (by decide) ?_ ?_
        · refine g_aload_n O dX8_add_92 rfl 2 rfl ?_
          refine g_callV0 (As := []) (rest := []) (b := 0) (ci := 8) O mw_3_117 mw_3_119 mp_2_2 mw_3_120 mw_1_1 hd_X8_record rfl ⟨_, _, rfl⟩ rfl dX8_add_93 (ct_X8_record  s8) (by rw [hfr]; decide) (by rw [hlo]; decide) (Nat.le_of_ble_eq_true rfl) (fun _ s10 => ?_)
          refine g_aload O dX8_add_96 1 rfl ?_
          refine g_iload_n O dX8_add_98 rfl 4 rfl ?_
          refine g_iload_n O dX8_add_99 rfl 5 rfl ?_
          refine g_iload O dX8_add_100 6 rfl ?_
          refine g_iload O dX8_add_102 7 rfl ?_
          refine g_callV1 (As := [vI i2, vI i3, vI i4, vI i5]) (rest := []) (b := v3.toNat) (ci := 6) O mw_3_147 mw_3_148 mw_3_149 mw_3_150 mw_1_4 hd_X6_insert rfl hk1 rfl dX8_add_104 (ct_X6_insert hk1 i2 i3 i4 i5 s10) (by rw [hfr]; decide) (by rw [hlo]; decide) (Nat.le_of_ble_eq_true rfl) (fun v11 s12 => ?_)
          exact g_iret O hrt rfl dX8_add_107
        refine g_bipush O dX8_add_89 (by decide +kernel) ?_
        exact g_iret O hrt rfl dX8_add_91
      refine g_bipush O dX8_add_74 (by decide +kernel) ?_
      exact g_iret O hrt rfl dX8_add_76
    refine g_iconst O dX8_add_62 ?_
    exact g_iret O hrt rfl dX8_add_63
  refine g_iconst O dX8_add_18 ?_
  exact g_iret O hrt rfl dX8_add_19
def X8_price (i1 : Int) (i2 : Int) (s : St) : Rs := cLt i1 0 (some ((-1), s)) (cLt i1 3 (cLt i2 1 (some ((-1), s)) (cLt 9 i2 (some ((-1), s)) (rd s 7 3 i1 (fun v1 => cEq v1 i2 (some ((-4), s)) (cLt (s 30 0) 40 (cl (X8_record s) (fun _ s3 => wr s3 7 3 i1 i2 (fun s4 => some (v1, s4)))) (some ((-2), s))))))) (some ((-1), s)))
theorem hd_X8_price : yX8_price.cls ≠ "java/lang/invoke/MethodHandle" ∧ yX8_price.cls ≠ "java/lang/invoke/VarHandle" ∧ (parseMethodDescriptor yX8_price.desc).map (fun d => d.parameters.length) = some 2 := by decide +kernel
set_option maxRecDepth 20000 in
set_option maxHeartbeats 4000000 in
theorem ct_X8_price  (i1 : Int) (i2 : Int) (s : St) : Ctr LC yX8_price cX8_price 4 (Option.some .int) 1 4 89 [vR 0, vI i1, vI i2] s (X8_price i1 i2 s) := by
  refine Ctr.of (by decide +kernel) (fun ρ => Nat.le_of_ble_eq_true rfl) (lv := [(0, vR 0), (1, vI i1), (2, vI i2)]) (fun ρ => rfl) (fun K X O hrt hfr hlo => ?_)
  unfold X8_price
  refine g_iload_n O dX8_price_0 rfl 1 rfl ?_
  refine g_if_lt (tgt := 20) O dX8_price_1 (by decide) ?_ ?_
  · refine g_iconst O dX8_price_20 ?_
    exact g_iret O hrt rfl dX8_price_21
  refine g_iload_n O dX8_price_4 rfl 1 rfl ?_
  refine g_iconst O dX8_price_5 ?_
  refine g_icmp_ge (tgt := 20) O dX8_price_6 (by decide) ?_ ?_
  · refine g_iconst O dX8_price_20 ?_
    exact g_iret O hrt rfl dX8_price_21
  refine g_iload_n O dX8_price_9 rfl 2 rfl ?_
  refine g_iconst O dX8_price_10 ?_
  refine g_icmp_lt (tgt := 20) O dX8_price_11 (by decide) ?_ ?_
  · refine g_iconst O dX8_price_20 ?_
    exact g_iret O hrt rfl dX8_price_21
  refine g_iload_n O dX8_price_14 rfl 2 rfl ?_
  refine g_bipush O dX8_price_15 (by decide +kernel) ?_
  refine g_icmp_le (tgt := 22) O dX8_price_17 (by decide) ?_ ?_
  · refine g_aload_n O dX8_price_22 rfl 0 rfl ?_
    refine g_getR O fw_8_32 rfl dX8_price_23 rfl ?_
    refine g_getR O fw_8_251 rfl dX8_price_26 rfl ?_
    refine g_iload_n O dX8_price_29 rfl 1 rfl ?_
    refine g_iald O rfl (by decide) dX8_price_30 (fun v1 => ?_)
    refine g_istore_n (lv2 := [(3, vI v1), (0, vR 0), (1, vI i1), (2, vI i2)]) O dX8_price_31 rfl (by decide) rfl ?_
    refine g_iload_n O dX8_price_32 rfl 0 rfl ?_
    refine g_iload_n O dX8_price_33 rfl 3 rfl ?_
    refine g_icmp_ne (tgt := 40) O dX8_price_34 (by decide) ?_ ?_
    · refine g_aload_n O dX8_price_40 rfl 1 rfl ?_
      refine g_getR O fw_8_38 rfl dX8_price_41 rfl ?_
      refine g_getI O fw_8_139 rfl dX8_price_44 rfl ?_
      refine g_bipush O dX8_price_47 (by decide +kernel) ?_
      refine g_icmp_lt (tgt := 55) O dX8_price_49 (by decide) ?_ ?_
      · refine g_aload_n O dX8_price_55 rfl 1 rfl ?_
        refine g_callV0 (As := []) (rest := []) (b := 0) (ci := 8) O mw_3_117 mw_3_119 mp_2_2 mw_3_120 mw_1_1 hd_X8_record rfl ⟨_, _, rfl⟩ rfl dX8_price_56 (ct_X8_record  s) (by rw [hfr]; decide) (by rw [hlo]; decide) (Nat.le_of_ble_eq_true rfl) (fun _ s3 => ?_)
        refine g_aload_n O dX8_price_59 rfl 1 rfl ?_
        refine g_getR O fw_8_32 rfl dX8_price_60 rfl ?_
        refine g_getR O fw_8_251 rfl dX8_price_63 rfl ?_
        refine g_iload_n O dX8_price_66 rfl 2 rfl ?_
        refine g_iload_n O dX8_price_67 rfl 3 rfl ?_
        refine g_iast O rfl (by decide) dX8_price_68 (fun s4 => ?_)
        refine g_iload_n O dX8_price_69 rfl 0 rfl ?_
        exact g_iret O hrt rfl dX8_price_70
      refine g_bipush O dX8_price_52 (by decide +kernel) ?_
      exact g_iret O hrt rfl dX8_price_54
    refine g_bipush O dX8_price_37 (by decide +kernel) ?_
    exact g_iret O hrt rfl dX8_price_39
  refine g_iconst O dX8_price_20 ?_
  exact g_iret O hrt rfl dX8_price_21
def X8_exchange  (s : St) : Rs := cl (X6_take 44 38 s) (fun _ s2 => cl (X6_take 38 41 s2) (fun _ s4 => cl (X6_take 41 44 s4) (fun _ s6 => some (0, s6))))
theorem hd_X8_exchange : yX8_exchange.cls ≠ "java/lang/invoke/MethodHandle" ∧ yX8_exchange.cls ≠ "java/lang/invoke/VarHandle" ∧ (parseMethodDescriptor yX8_exchange.desc).map (fun d => d.parameters.length) = some 0 := by decide +kernel
set_option maxRecDepth 20000 in
set_option maxHeartbeats 4000000 in
theorem ct_X8_exchange   (s : St) : Ctr LC yX8_exchange cX8_exchange 1 none 0 2 47 [vR 0] s (X8_exchange s) := by
  refine Ctr.of (by decide +kernel) (fun ρ => Nat.le_of_ble_eq_true rfl) (lv := [(0, vR 0)]) (fun ρ => rfl) (fun K X O hrt hfr hlo => ?_)
  unfold X8_exchange
  refine g_aload_n O dX8_exchange_0 rfl 0 rfl ?_
  refine g_getR O fw_8_56 rfl dX8_exchange_1 rfl ?_
  refine g_aload_n O dX8_exchange_4 rfl 0 rfl ?_
  refine g_getR O fw_8_32 rfl dX8_exchange_5 rfl ?_
  refine g_getR O fw_8_216 rfl dX8_exchange_8 rfl ?_
  refine g_callV0 (As := [vR 38]) (rest := []) (b := 44) (ci := 6) O mw_2_135 mw_2_136 mw_2_137 mw_2_138 mw_1_4 hd_X6_take rfl ⟨_, _, rfl⟩ rfl dX8_exchange_11 (ct_X6_take ⟨_, _, rfl⟩ ⟨_, _, rfl⟩  s) (by rw [hfr]; decide) (by rw [hlo]; decide) (Nat.le_of_ble_eq_true rfl) (fun _ s2 => ?_)
  refine g_aload_n O dX8_exchange_14 rfl 0 rfl ?_
  refine g_getR O fw_8_32 rfl dX8_exchange_15 rfl ?_
  refine g_getR O fw_8_216 rfl dX8_exchange_18 rfl ?_
  refine g_aload_n O dX8_exchange_21 rfl 0 rfl ?_
  refine g_getR O fw_8_32 rfl dX8_exchange_22 rfl ?_
  refine g_getR O fw_8_222 rfl dX8_exchange_25 rfl ?_
  refine g_callV0 (As := [vR 41]) (rest := []) (b := 38) (ci := 6) O mw_2_135 mw_2_136 mw_2_137 mw_2_138 mw_1_4 hd_X6_take rfl ⟨_, _, rfl⟩ rfl dX8_exchange_28 (ct_X6_take ⟨_, _, rfl⟩ ⟨_, _, rfl⟩  s2) (by rw [hfr]; decide) (by rw [hlo]; decide) (Nat.le_of_ble_eq_true rfl) (fun _ s4 => ?_)
  refine g_aload_n O dX8_exchange_31 rfl 0 rfl ?_
  refine g_getR O fw_8_32 rfl dX8_exchange_32 rfl ?_
  refine g_getR O fw_8_222 rfl dX8_exchange_35 rfl ?_
  refine g_aload_n O dX8_exchange_38 rfl 0 rfl ?_
  refine g_getR O fw_8_56 rfl dX8_exchange_39 rfl ?_
  refine g_callV0 (As := [vR 44]) (rest := []) (b := 41) (ci := 6) O mw_2_135 mw_2_136 mw_2_137 mw_2_138 mw_1_4 hd_X6_take rfl ⟨_, _, rfl⟩ rfl dX8_exchange_42 (ct_X6_take ⟨_, _, rfl⟩ ⟨_, _, rfl⟩  s4) (by rw [hfr]; decide) (by rw [hlo]; decide) (Nat.le_of_ble_eq_true rfl) (fun _ s6 => ?_)
  exact g_vret O hrt dX8_exchange_45
