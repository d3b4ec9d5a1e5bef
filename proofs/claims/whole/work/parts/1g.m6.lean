def X9_steps (i1 : Int) (i2 : Int) (i3 : Int) (s : St) : Rs := wr s 24 108 (3 * (s 0 30)) i1 (fun s1 => wr s1 24 108 ((3 * (s1 0 30)) + 1) i2 (fun s2 => wr s2 24 108 ((3 * (s2 0 30)) + 2) i3 (fun s3 => put s3 0 30 ((s3 0 30) + 1) (fun s4 => some (0, s4)))))
theorem hd_X9_steps : yX9_steps.cls ≠ "java/lang/invoke/MethodHandle" ∧ yX9_steps.cls ≠ "java/lang/invoke/VarHandle" ∧ (parseMethodDescriptor yX9_steps.desc).map (fun d => d.parameters.length) = some 3 := by decide +kernel
set_option maxRecDepth 20000 in
set_option maxHeartbeats 4000000 in
theorem ct_X9_steps  (i1 : Int) (i2 : Int) (i3 : Int) (s : St) : Ctr LM yX9_steps cX9_steps 4 none 0 0 0 [vR 0, vI i1, vI i2, vI i3] s (X9_steps i1 i2 i3 s) := by
  refine Ctr.of (by decide +kernel) (fun ρ => Nat.le_of_ble_eq_true rfl) (lv := [(0, vR 0), (1, vI i1), (2, vI i2), (3, vI i3)]) (fun ρ => rfl) (fun K X O hrt hfr hlo => ?_)
  unfold X9_steps
  refine g_aload_n O dX9_steps_0 rfl 0 rfl ?_
  refine g_getR O fw_9_80 rfl dX9_steps_1 rfl ?_
  refine g_iconst O dX9_steps_4 ?_
  refine g_aload_n O dX9_steps_5 rfl 0 rfl ?_
  refine g_getI O fw_9_241 rfl dX9_steps_6 rfl ?_
  refine g_imul O dX9_steps_9 ?_
  refine g_iload_n O dX9_steps_10 rfl 1 rfl ?_
  refine g_iast O rfl (by decide) dX9_steps_11 (fun s1 => ?_)
  refine g_aload_n O dX9_steps_12 rfl 0 rfl ?_
  refine g_getR O fw_9_80 rfl dX9_steps_13 rfl ?_
  refine g_iconst O dX9_steps_16 ?_
  refine g_aload_n O dX9_steps_17 rfl 0 rfl ?_
  refine g_getI O fw_9_241 rfl dX9_steps_18 rfl ?_
  refine g_imul O dX9_steps_21 ?_
  refine g_iconst O dX9_steps_22 ?_
  refine g_iadd O dX9_steps_23 ?_
  refine g_iload_n O dX9_steps_24 rfl 2 rfl ?_
  refine g_iast O rfl (by decide) dX9_steps_25 (fun s2 => ?_)
  refine g_aload_n O dX9_steps_26 rfl 0 rfl ?_
  refine g_getR O fw_9_80 rfl dX9_steps_27 rfl ?_
  refine g_iconst O dX9_steps_30 ?_
  refine g_aload_n O dX9_steps_31 rfl 0 rfl ?_
  refine g_getI O fw_9_241 rfl dX9_steps_32 rfl ?_
  refine g_imul O dX9_steps_35 ?_
  refine g_iconst O dX9_steps_36 ?_
  refine g_iadd O dX9_steps_37 ?_
  refine g_iload_n O dX9_steps_38 rfl 3 rfl ?_
  refine g_iast O rfl (by decide) dX9_steps_39 (fun s3 => ?_)
  refine g_aload_n O dX9_steps_40 rfl 0 rfl ?_
  refine g_dup O dX9_steps_41 rfl ?_
  refine g_getI O fw_9_241 rfl dX9_steps_42 rfl ?_
  refine g_iconst O dX9_steps_45 ?_
  refine g_iadd O dX9_steps_46 ?_
  refine g_putI O fw_9_241 rfl dX9_steps_47 rfl rfl rfl (fun s4 => ?_)
  exact g_vret O hrt dX9_steps_50
def X9_laysSteps_11  (k : St → Rs) : Nat → Int → St → Rs
  | 0, _, _ => none
  | n + 1, i1, s => cl (X9_many 0 s) (fun v1 s2 => cLt i1 v1 (rd s2 22 12 i1 (fun v3 => cEq v3 (-9) (rd s2 17 12 i1 (fun v4 => cl (X9_steps 0 i1 v4 s2) (fun _ s6 => X9_laysSteps_11 k n (i1 + 1) s6))) (X9_laysSteps_11 k n (i1 + 1) s2))) (k s2))
def X9_laysSteps_51  (k : St → Rs) : Nat → Int → St → Rs
  | 0, _, _ => none
  | n + 1, i1, s => cl (X9_many 0 s) (fun v1 s2 => cLt i1 v1 (rd s2 22 12 i1 (fun v3 => cEq v3 (-9) (X9_laysSteps_51 k n (i1 + 1) s2) (cl (X9_codeOf 0 i1 s2) (fun v4 s5 => rd s5 22 12 i1 (fun v6 => cl (X9_codeOf 1 v6 s5) (fun v7 s8 => cEq v4 v7 (X9_laysSteps_51 k n (i1 + 1) s8) (rd s8 22 12 i1 (fun v9 => rd s8 19 144 ((12 * i1) + v9) (fun v10 => cl (X9_steps 1 i1 v10 s8) (fun _ s12 => X9_laysSteps_51 k n (i1 + 1) s12)))))))))) (k s2))
def X9_laysSteps_127  (k : St → Rs) : Nat → Int → St → Rs
  | 0, _, _ => none
  | n + 1, i1, s => cLt i1 0 (k s) (rd s 23 12 i1 (fun v1 => cEq v1 (-9) (rd s 18 12 i1 (fun v2 => cl (X9_steps 2 i1 v2 s) (fun _ s4 => X9_laysSteps_127 k n (i1 + (-1)) s4))) (X9_laysSteps_127 k n (i1 + (-1)) s)))
def X9_laysSteps  (s : St) : Rs := cl (X9_laysWay s) (fun _ s2 => put s2 0 30 0 (fun s3 => X9_laysSteps_11  (fun s4 => X9_laysSteps_51  (fun s5 => cl (X9_many 1 s5) (fun v6 s7 => X9_laysSteps_127  (fun s8 => some (0, s8)) FU (v6 - 1) s7)) FU 0 s4) FU 0 s3))
set_option maxRecDepth 20000 in
set_option maxHeartbeats 4000000 in
theorem lt_X9_laysSteps_11 {K : Cx} {X : Wx} (O : OKx LM K X yX9_laysSteps.cls cX9_laysSteps 2) (hrt : (kMe K).sig.returnType = none) (hfr : (kR K).frames = 6) (hlo : (kR K).locals = 134)  {k : St → Rs}  (hk : ∀  (s : St), GX LM K X 2 0 49 [(0, vR 0)] [] s (k s)) : ∀ (n : Nat) (i1 : Int) (s : St), GX LM K X 2 0 11 [(0, vR 0), (1, vI i1)] [] s (X9_laysSteps_11 k n i1 s) := by
  intro n
  induction n with
  | zero => intro i1 s; exact GX.none
  | succ n ih =>
    intro i1 s
    rw [X9_laysSteps_11]
    refine g_iload_n O dX9_laysSteps_11 rfl 1 rfl ?_
    refine g_aload_n O dX9_laysSteps_12 rfl 0 rfl ?_
    refine g_iconst O dX9_laysSteps_13 ?_
    refine g_callV1 (As := [vI 0]) (rest := [vI i1]) (b := 0) (ci := 9) O mw_4_216 mw_4_218 mp_3_3 mw_4_219 mw_1_10 hd_X9_many rfl ⟨_, _, rfl⟩ rfl dX9_laysSteps_14 (ct_X9_many 0 s) (by rw [hfr]; decide) (by rw [hlo]; decide) (Nat.le_of_ble_eq_true rfl) (fun v1 s2 => ?_)
    refine g_icmp_ge (tgt := 49) O dX9_laysSteps_17 (by decide) ?_ ?_
    · refine g_pick [0] rfl ?_
      exact hk s2
    refine g_aload_n O dX9_laysSteps_20 rfl 0 rfl ?_
    refine g_getR O fw_9_74 rfl dX9_laysSteps_21 rfl ?_
    refine g_iload_n O dX9_laysSteps_24 rfl 1 rfl ?_
    refine g_iald O rfl (by decide) dX9_laysSteps_25 (fun v3 => ?_)
    refine g_bipush O dX9_laysSteps_26 (by decide +kernel) ?_
    refine g_icmp_ne (tgt := 43) O dX9_laysSteps_28 (by decide) ?_ ?_
    · refine g_iinc (lv2 := [(1, vI (i1 + 1)), (0, vR 0)]) O dX9_laysSteps_43 1 rfl (by decide) rfl ?_
      refine g_goto (tgt := 11) O dX9_laysSteps_46 (by decide) ?_
      refine g_pick [1, 0] rfl ?_
      exact ih (i1 + 1) s2
    refine g_aload_n O dX9_laysSteps_31 rfl 0 rfl ?_
    refine g_iconst O dX9_laysSteps_32 ?_
    refine g_iload_n O dX9_laysSteps_33 rfl 1 rfl ?_
    refine g_aload_n O dX9_laysSteps_34 rfl 0 rfl ?_
    refine g_getR O fw_9_59 rfl dX9_laysSteps_35 rfl ?_
    refine g_iload_n O dX9_laysSteps_38 rfl 1 rfl ?_
    refine g_iald O rfl (by decide) dX9_laysSteps_39 (fun v4 => ?_)
    refine g_callV0 (As := [vI 0, vI i1, vI v4]) (rest := []) (b := 0) (ci := 9) O mw_5_116 mw_5_118 mp_4_12 mw_5_119 mw_1_10 hd_X9_steps rfl ⟨_, _, rfl⟩ rfl dX9_laysSteps_40 (ct_X9_steps 0 i1 v4 s2) (by rw [hfr]; decide) (by rw [hlo]; decide) (Nat.le_of_ble_eq_true rfl) (fun _ s6 => ?_)
    refine g_iinc (lv2 := [(1, vI (i1 + 1)), (0, vR 0)]) O dX9_laysSteps_43 1 rfl (by decide) rfl ?_
    refine g_goto (tgt := 11) O dX9_laysSteps_46 (by decide) ?_
    refine g_pick [1, 0] rfl ?_
    exact ih (i1 + 1) s6
set_option maxRecDepth 20000 in
set_option maxHeartbeats 4000000 in
theorem lt_X9_laysSteps_51 {K : Cx} {X : Wx} (O : OKx LM K X yX9_laysSteps.cls cX9_laysSteps 2) (hrt : (kMe K).sig.returnType = none) (hfr : (kR K).frames = 6) (hlo : (kR K).locals = 134)  {k : St → Rs}  (hk : ∀  (s : St), GX LM K X 2 0 119 [(0, vR 0)] [] s (k s)) : ∀ (n : Nat) (i1 : Int) (s : St), GX LM K X 2 0 51 [(0, vR 0), (1, vI i1)] [] s (X9_laysSteps_51 k n i1 s) := by
  intro n
  induction n with
  | zero => intro i1 s; exact GX.none
  | succ n ih =>
    intro i1 s
    rw [X9_laysSteps_51]
    refine g_iload_n O dX9_laysSteps_51 rfl 1 rfl ?_
    refine g_aload_n O dX9_laysSteps_52 rfl 0 rfl ?_
    refine g_iconst O dX9_laysSteps_53 ?_
    refine g_callV1 (As := [vI 0]) (rest := [vI i1]) (b := 0) (ci := 9) O mw_4_216 mw_4_218 mp_3_3 mw_4_219 mw_1_10 hd_X9_many rfl ⟨_, _, rfl⟩ rfl dX9_laysSteps_54 (ct_X9_many 0 s) (by rw [hfr]; decide) (by rw [hlo]; decide) (Nat.le_of_ble_eq_true rfl) (fun v1 s2 => ?_)
    refine g_icmp_ge (tgt := 119) O dX9_laysSteps_57 (by decide) ?_ ?_
    · refine g_pick [0] rfl ?_
      exact hk s2
    refine g_aload_n O dX9_laysSteps_60 rfl 0 rfl ?_
    refine g_getR O fw_9_74 rfl dX9_laysSteps_61 rfl ?_
    refine g_iload_n O dX9_laysSteps_64 rfl 1 rfl ?_
    refine g_iald O rfl (by decide) dX9_laysSteps_65 (fun v3 => ?_)
    refine g_bipush O dX9_laysSteps_66 (by decide +kernel) ?_
    refine g_icmp_eq (tgt := 113) O dX9_laysSteps_68 (by decide) ?_ ?_
    · refine g_iinc (lv2 := [(1, vI (i1 + 1)), (0, vR 0)]) O dX9_laysSteps_113 1 rfl (by decide) rfl ?_
      refine g_goto (tgt := 51) O dX9_laysSteps_116 (by decide) ?_
      refine g_pick [1, 0] rfl ?_
      exact ih (i1 + 1) s2
    refine g_aload_n O dX9_laysSteps_71 rfl 0 rfl ?_
    refine g_iconst O dX9_laysSteps_72 ?_
    refine g_iload_n O dX9_laysSteps_73 rfl 1 rfl ?_
    refine g_callV1 (As := [vI 0, vI i1]) (rest := []) (b := 0) (ci := 9) O mw_4_220 mw_4_222 mp_3_4 mw_4_223 mw_1_10 hd_X9_codeOf rfl ⟨_, _, rfl⟩ rfl dX9_laysSteps_74 (ct_X9_codeOf 0 i1 s2) (by rw [hfr]; decide) (by rw [hlo]; decide) (Nat.le_of_ble_eq_true rfl) (fun v4 s5 => ?_)
    refine g_aload_n O dX9_laysSteps_77 rfl 0 rfl ?_
    refine g_iconst O dX9_laysSteps_78 ?_
    refine g_aload_n O dX9_laysSteps_79 rfl 0 rfl ?_
    refine g_getR O fw_9_74 rfl dX9_laysSteps_80 rfl ?_
    refine g_iload_n O dX9_laysSteps_83 rfl 1 rfl ?_
    refine g_iald O rfl (by decide) dX9_laysSteps_84 (fun v6 => ?_)
    refine g_callV1 (As := [vI 1, vI v6]) (rest := [vI v4]) (b := 0) (ci := 9) O mw_4_220 mw_4_222 mp_3_4 mw_4_223 mw_1_10 hd_X9_codeOf rfl ⟨_, _, rfl⟩ rfl dX9_laysSteps_85 (ct_X9_codeOf 1 v6 s5) (by rw [hfr]; decide) (by rw [hlo]; decide) (Nat.le_of_ble_eq_true rfl) (fun v7 s8 => ?_)
    refine g_icmp_eq (tgt := 113) O dX9_laysSteps_88 (by decide) ?_ ?_
    · refine g_iinc (lv2 := [(1, vI (i1 + 1)), (0, vR 0)]) O dX9_laysSteps_113 1 rfl (by decide) rfl ?_
      refine g_goto (tgt := 51) O dX9_laysSteps_116 (by decide) ?_
      refine g_pick [1, 0] rfl ?_
      exact ih (i1 + 1) s8
    refine g_aload_n O dX9_laysSteps_91 rfl 0 rfl ?_
    refine g_iconst O dX9_laysSteps_92 ?_
    refine g_iload_n O dX9_laysSteps_93 rfl 1 rfl ?_
    refine g_aload_n O dX9_laysSteps_94 rfl 0 rfl ?_
    refine g_getR O fw_9_65 rfl dX9_laysSteps_95 rfl ?_
    refine g_bipush O dX9_laysSteps_98 (by decide +kernel) ?_
    refine g_iload_n O dX9_laysSteps_100 rfl 1 rfl ?_
    refine g_imul O dX9_laysSteps_101 ?_
    refine g_aload_n O dX9_laysSteps_102 rfl 0 rfl ?_
    refine g_getR O fw_9_74 rfl dX9_laysSteps_103 rfl ?_
    refine g_iload_n O dX9_laysSteps_106 rfl 1 rfl ?_
    refine g_iald O rfl (by decide) dX9_laysSteps_107 (fun v9 => ?_)
    refine g_iadd O dX9_laysSteps_108 ?_
    refine g_iald O rfl (by decide) dX9_laysSteps_109 (fun v10 => ?_)
    refine g_callV0 (As := [vI 1, vI i1, vI v10]) (rest := []) (b := 0) (ci := 9) O mw_5_116 mw_5_118 mp_4_12 mw_5_119 mw_1_10 hd_X9_steps rfl ⟨_, _, rfl⟩ rfl dX9_laysSteps_110 (ct_X9_steps 1 i1 v10 s8) (by rw [hfr]; decide) (by rw [hlo]; decide) (Nat.le_of_ble_eq_true rfl) (fun _ s12 => ?_)
    refine g_iinc (lv2 := [(1, vI (i1 + 1)), (0, vR 0)]) O dX9_laysSteps_113 1 rfl (by decide) rfl ?_
    refine g_goto (tgt := 51) O dX9_laysSteps_116 (by decide) ?_
    refine g_pick [1, 0] rfl ?_
    exact ih (i1 + 1) s12
set_option maxRecDepth 20000 in
set_option maxHeartbeats 4000000 in
theorem lt_X9_laysSteps_127 {K : Cx} {X : Wx} (O : OKx LM K X yX9_laysSteps.cls cX9_laysSteps 2) (hrt : (kMe K).sig.returnType = none) (hfr : (kR K).frames = 6) (hlo : (kR K).locals = 134)  {k : St → Rs}  (hk : ∀  (s : St), GX LM K X 2 0 160 [] [] s (k s)) : ∀ (n : Nat) (i1 : Int) (s : St), GX LM K X 2 0 127 [(0, vR 0), (1, vI i1)] [] s (X9_laysSteps_127 k n i1 s) := by
  intro n
  induction n with
  | zero => intro i1 s; exact GX.none
  | succ n ih =>
    intro i1 s
    rw [X9_laysSteps_127]
    refine g_iload_n O dX9_laysSteps_127 rfl 1 rfl ?_
    refine g_if_lt (tgt := 160) O dX9_laysSteps_128 (by decide) ?_ ?_
    · refine g_pick [] rfl ?_
      exact hk s
    refine g_aload_n O dX9_laysSteps_131 rfl 0 rfl ?_
    refine g_getR O fw_9_77 rfl dX9_laysSteps_132 rfl ?_
    refine g_iload_n O dX9_laysSteps_135 rfl 1 rfl ?_
    refine g_iald O rfl (by decide) dX9_laysSteps_136 (fun v1 => ?_)
    refine g_bipush O dX9_laysSteps_137 (by decide +kernel) ?_
    refine g_icmp_ne (tgt := 154) O dX9_laysSteps_139 (by decide) ?_ ?_
    · refine g_iinc (lv2 := [(1, vI (i1 + (-1))), (0, vR 0)]) O dX9_laysSteps_154 1 rfl (by decide) rfl ?_
      refine g_goto (tgt := 127) O dX9_laysSteps_157 (by decide) ?_
      refine g_pick [1, 0] rfl ?_
      exact ih (i1 + (-1)) s
    refine g_aload_n O dX9_laysSteps_142 rfl 0 rfl ?_
    refine g_iconst O dX9_laysSteps_143 ?_
    refine g_iload_n O dX9_laysSteps_144 rfl 1 rfl ?_
    refine g_aload_n O dX9_laysSteps_145 rfl 0 rfl ?_
    refine g_getR O fw_9_62 rfl dX9_laysSteps_146 rfl ?_
    refine g_iload_n O dX9_laysSteps_149 rfl 1 rfl ?_
    refine g_iald O rfl (by decide) dX9_laysSteps_150 (fun v2 => ?_)
    refine g_callV0 (As := [vI 2, vI i1, vI v2]) (rest := []) (b := 0) (ci := 9) O mw_5_116 mw_5_118 mp_4_12 mw_5_119 mw_1_10 hd_X9_steps rfl ⟨_, _, rfl⟩ rfl dX9_laysSteps_151 (ct_X9_steps 2 i1 v2 s) (by rw [hfr]; decide) (by rw [hlo]; decide) (Nat.le_of_ble_eq_true rfl) (fun _ s4 => ?_)
    refine g_iinc (lv2 := [(1, vI (i1 + (-1))), (0, vR 0)]) O dX9_laysSteps_154 1 rfl (by decide) rfl ?_
    refine g_goto (tgt := 127) O dX9_laysSteps_157 (by decide) ?_
    refine g_pick [1, 0] rfl ?_
    exact ih (i1 + (-1)) s4
theorem hd_X9_laysSteps : yX9_laysSteps.cls ≠ "java/lang/invoke/MethodHandle" ∧ yX9_laysSteps.cls ≠ "java/lang/invoke/VarHandle" ∧ (parseMethodDescriptor yX9_laysSteps.desc).map (fun d => d.parameters.length) = some 0 := by decide +kernel
set_option maxRecDepth 20000 in
set_option maxHeartbeats 4000000 in
theorem ct_X9_laysSteps   (s : St) : Ctr LM yX9_laysSteps cX9_laysSteps 2 none 0 6 134 [vR 0] s (X9_laysSteps s) := by
  refine Ctr.of (by decide +kernel) (fun ρ => Nat.le_of_ble_eq_true rfl) (lv := [(0, vR 0)]) (fun ρ => rfl) (fun K X O hrt hfr hlo => ?_)
  unfold X9_laysSteps
  refine g_aload_n O dX9_laysSteps_0 rfl 0 rfl ?_
  refine g_callV0 (As := []) (rest := []) (b := 0) (ci := 9) O mw_5_95 mw_5_97 mp_4_8 mw_5_98 mw_1_10 hd_X9_laysWay rfl ⟨_, _, rfl⟩ rfl dX9_laysSteps_1 (ct_X9_laysWay  s) (by rw [hfr]; decide) (by rw [hlo]; decide) (Nat.le_of_ble_eq_true rfl) (fun _ s2 => ?_)
  refine g_aload_n O dX9_laysSteps_4 rfl 0 rfl ?_
  refine g_iconst O dX9_laysSteps_5 ?_
  refine g_putI O fw_9_241 rfl dX9_laysSteps_6 rfl rfl rfl (fun s3 => ?_)
  refine g_iconst O dX9_laysSteps_9 ?_
  refine g_istore_n (lv2 := [(1, vI 0), (0, vR 0)]) O dX9_laysSteps_10 rfl (by decide) rfl ?_
  refine g_pick [1, 0] rfl ?_
  refine lt_X9_laysSteps_11 O hrt hfr hlo  (fun s4 => ?_) FU 0 s3
  refine g_iconst O dX9_laysSteps_49 ?_
  refine g_istore_n (lv2 := [(1, vI 0), (0, vR 0)]) O dX9_laysSteps_50 rfl (by decide) rfl ?_
  refine g_pick [1, 0] rfl ?_
  refine lt_X9_laysSteps_51 O hrt hfr hlo  (fun s5 => ?_) FU 0 s4
  refine g_aload_n O dX9_laysSteps_119 rfl 0 rfl ?_
  refine g_iconst O dX9_laysSteps_120 ?_
  refine g_callV1 (As := [vI 1]) (rest := []) (b := 0) (ci := 9) O mw_4_216 mw_4_218 mp_3_3 mw_4_219 mw_1_10 hd_X9_many rfl ⟨_, _, rfl⟩ rfl dX9_laysSteps_121 (ct_X9_many 1 s5) (by rw [hfr]; decide) (by rw [hlo]; decide) (Nat.le_of_ble_eq_true rfl) (fun v6 s7 => ?_)
  refine g_iconst O dX9_laysSteps_124 ?_
  refine g_isub O dX9_laysSteps_125 ?_
  refine g_istore_n (lv2 := [(1, vI (v6 - 1)), (0, vR 0)]) O dX9_laysSteps_126 rfl (by decide) rfl ?_
  refine g_pick [1, 0] rfl ?_
  refine lt_X9_laysSteps_127 O hrt hfr hlo  (fun s8 => ?_) FU (v6 - 1) s7
  exact g_vret O hrt dX9_laysSteps_160
def X9_step (i1 : Int) (i2 : Int) (s : St) : Rs := cLt i1 0 (some ((-1), s)) (cl (X9_in i2 0 2 s) (fun v1 s2 => cEq v1 0 (some ((-1), s2)) (cl (X9_areBoth s2) (fun v3 s4 => cEq v3 0 (some ((-4), s4)) (cl (X9_laysSteps s4) (fun _ s6 => cLt i1 (s6 0 30) (rd s6 24 108 ((3 * i1) + i2) (fun v7 => cl (X9_tells v7 1 s6) (fun v8 s9 => some (v8, s9)))) (some ((-9), s6))))))))
theorem hd_X9_step : yX9_step.cls ≠ "java/lang/invoke/MethodHandle" ∧ yX9_step.cls ≠ "java/lang/invoke/VarHandle" ∧ (parseMethodDescriptor yX9_step.desc).map (fun d => d.parameters.length) = some 2 := by decide +kernel
set_option maxRecDepth 20000 in
set_option maxHeartbeats 4000000 in
theorem ct_X9_step  (i1 : Int) (i2 : Int) (s : St) : Ctr LM yX9_step cX9_step 3 (Option.some .int) 1 7 155 [vR 0, vI i1, vI i2] s (X9_step i1 i2 s) := by
  refine Ctr.of (by decide +kernel) (fun ρ => Nat.le_of_ble_eq_true rfl) (lv := [(0, vR 0), (1, vI i1), (2, vI i2)]) (fun ρ => rfl) (fun K X O hrt hfr hlo => ?_)
  unfold X9_step
  refine g_iload_n O dX9_step_0 rfl 1 rfl ?_
  refine g_if_lt (tgt := 13) O dX9_step_1 (by decide) ?_ ?_
  · refine g_iconst O dX9_step_13 ?_
    exact g_iret O hrt rfl dX9_step_14
  refine g_iload_n O dX9_step_4 rfl 2 rfl ?_
  refine g_iconst O dX9_step_5 ?_
  refine g_iconst O dX9_step_6 ?_
  refine g_callS1 (As := [vI i2, vI 0, vI 2]) (rest := []) O mw_4_133 mw_4_134 mw_4_135 mw_1_10 hd_X9_in rfl dX9_step_7 (ct_X9_in i2 0 2 s) (by rw [hfr]; decide) (by rw [hlo]; decide) (Nat.le_of_ble_eq_true rfl) (fun v1 s2 => ?_)
  refine g_if_ne (tgt := 15) O dX9_step_10 (by decide) ?_ ?_
  · refine g_aload_n O dX9_step_15 rfl 0 rfl ?_
    refine g_callV1 (As := []) (rest := []) (b := 0) (ci := 9) O mw_5_60 mw_5_62 mp_4_2 mw_5_63 mw_1_10 hd_X9_areBoth rfl ⟨_, _, rfl⟩ rfl dX9_step_16 (ct_X9_areBoth  s2) (by rw [hfr]; decide) (by rw [hlo]; decide) (Nat.le_of_ble_eq_true rfl) (fun v3 s4 => ?_)
    refine g_if_ne (tgt := 25) O dX9_step_19 (by decide) ?_ ?_
    · refine g_aload_n O dX9_step_25 rfl 0 rfl ?_
      refine g_callV0 (As := []) (rest := []) (b := 0) (ci := 9) O mw_5_112 mw_5_114 mp_4_11 mw_5_115 mw_1_10 hd_X9_laysSteps rfl ⟨_, _, rfl⟩ rfl dX9_step_26 (ct_X9_laysSteps  s4) (by rw [hfr]; decide) (by rw [hlo]; decide) (Nat.le_of_ble_eq_true rfl) (fun _ s6 => ?_)
      refine g_iload_n O dX9_step_29 rfl 1 rfl ?_
      refine g_aload_n O dX9_step_30 rfl 0 rfl ?_
      refine g_getI O fw_9_241 rfl dX9_step_31 rfl ?_
      refine g_icmp_ge (tgt := 55) O dX9_step_34 (by decide) ?_ ?_
      · refine g_bipush O dX9_step_55 (by decide +kernel) ?_
        exact g_iret O hrt rfl dX9_step_57
      refine g_aload_n O dX9_step_37 rfl 0 rfl ?_
      refine g_aload_n O dX9_step_38 rfl 0 rfl ?_
      refine g_getR O fw_9_80 rfl dX9_step_39 rfl ?_
      refine g_iconst O dX9_step_42 ?_
      refine g_iload_n O dX9_step_43 rfl 1 rfl ?_
      refine g_imul O dX9_step_44 ?_
      refine g_iload_n O dX9_step_45 rfl 2 rfl ?_
      refine g_iadd O dX9_step_46 ?_
      refine g_iald O rfl (by decide) dX9_step_47 (fun v7 => ?_)
      refine g_iconst O dX9_step_48 ?_
      refine g_callV1 (As := [vI v7, vI 1]) (rest := []) (b := 0) (ci := 9) O mw_4_152 mw_4_154 mp_2_15 mw_4_155 mw_1_10 hd_X9_tells rfl ⟨_, _, rfl⟩ rfl dX9_step_49 (ct_X9_tells v7 1 s6) (by rw [hfr]; decide) (by rw [hlo]; decide) (Nat.le_of_ble_eq_true rfl) (fun v8 s9 => ?_)
      refine g_goto (tgt := 57) O dX9_step_52 (by decide) ?_
      exact g_iret O hrt rfl dX9_step_57
    refine g_bipush O dX9_step_22 (by decide +kernel) ?_
    exact g_iret O hrt rfl dX9_step_24
  refine g_iconst O dX9_step_13 ?_
  exact g_iret O hrt rfl dX9_step_14
def X9_behind_128 (i1 : Int) (i2 : Int) (i3 : Int) (i4 : Int) (k : St → Rs) : Nat → Int → St → Rs
  | 0, _, _ => none
  | n + 1, i5, s => cl (X9_many i3 s) (fun v1 s2 => cLt i5 v1 (cl (X9_codeOf i3 i5 s2) (fun v3 s4 => wr s4 15 12 i5 v3 (fun s5 => X9_behind_128 i1 i2 i3 i4 k n (i5 + 1) s5))) (k s2))
def X9_behind_161 (i1 : Int) (i2 : Int) (i3 : Int) (k : Int → St → Rs) : Nat → Int → Int → St → Rs
  | 0, _, _, _ => none
  | n + 1, i4, i5, s => cLt i5 i1 (rd s 24 108 (3 * i5) (fun v1 => rd s 24 108 ((3 * i5) + 1) (fun v2 => jn (fun  (s3 : St) => jn (fun  (s5 : St) => cEq i3 1 (cEq v1 2 (X9_behind_161 i1 i2 i3 k n (oOr i4 (oShl 1 v2)) (i5 + 1) s5) (X9_behind_161 i1 i2 i3 k n i4 (i5 + 1) s5)) (X9_behind_161 i1 i2 i3 k n i4 (i5 + 1) s5)) (fun k6 => cEq i3 0 (cEq v1 1 (rd s3 22 12 v2 (fun v7 => cl (X9_codeOf 1 v7 s3) (fun v8 s9 => wr s9 15 12 v2 v8 (fun s10 => X9_behind_161 i1 i2 i3 k n i4 (i5 + 1) s10)))) (k6 s3)) (k6 s3))) (fun k4 => cEq i3 0 (cEq v1 0 (X9_behind_161 i1 i2 i3 k n (oAnd i4 (oXor (oShl 1 v2) (-1))) (i5 + 1) s) (k4 s)) (k4 s))))) (k i4 s)
def X9_behind_84 (i1 : Int) (i2 : Int) (i3 : Int) (k : Int → St → Rs) : Nat → Int → Int → St → Rs
  | 0, _, _, _ => none
  | n + 1, i4, i5, s => cl (X9_many 1 s) (fun v1 s2 => cLt i5 v1 (rd s2 23 12 i5 (fun v3 => cEq v3 (-9) (X9_behind_84 i1 i2 i3 k n (oOr i4 0) (i5 + 1) s2) (X9_behind_84 i1 i2 i3 k n (oOr i4 (oShl 1 i5)) (i5 + 1) s2))) (k i4 s2))
def X9_behind (i1 : Int) (i2 : Int) (s : St) : Rs := cLt i1 0 (some ((-1), s)) (cl (X9_isText i2 s) (fun v1 s2 => cEq v1 0 (some ((-1), s2)) (cl (X9_areBoth s2) (fun v3 s4 => cEq v3 0 (some ((-4), s4)) (cl (X9_laysSteps s4) (fun _ s6 => cLt (s6 0 30) i1 (some ((-6), s6)) (jn (fun (x7 : Int) (s8 : St) => cl (X9_many 0 s8) (fun v10 s11 => jn (fun (x12 : Int) (s13 : St) => X9_behind_128 i1 i2 x7 x12 (fun s15 => X9_behind_161 i1 i2 x7 (fun x16 s17 => cl (X9_writesAll x7 x16 s17) (fun _ s19 => cl (X9_toText i2 s19) (fun v20 s21 => some (v20, s21)))) FU x12 0 s15) FU 0 s13) (fun k14 => cEq x7 1 (X9_behind_84 i1 i2 x7 (fun x22 s23 => k14 x22 s23) FU 0 0 s11) (k14 ((oShl 1 v10) - 1) s11)))) (fun k9 => jn (fun  (s24 : St) => k9 0 s24) (fun k25 => cLt 0 i1 (rd s6 24 108 ((3 * i1) - 3) (fun v26 => cEq v26 2 (k9 1 s6) (k25 s6))) (k25 s6))))))))))
set_option maxRecDepth 20000 in
set_option maxHeartbeats 4000000 in
theorem lt_X9_behind_128 {K : Cx} {X : Wx} (O : OKx LM K X yX9_behind.cls cX9_behind 8) (hrt : (kMe K).sig.returnType = (Option.some .int)) (hfr : (kR K).frames = 7) (hlo : (kR K).locals = 155) {i1 : Int} {i2 : Int} {i3 : Int} {i4 : Int} {k : St → Rs}  (hk : ∀  (s : St), GX LM K X 8 1 158 [(0, vR 0), (1, vI i1), (2, vI i2), (3, vI i3), (4, vI i4)] [] s (k s)) : ∀ (n : Nat) (i5 : Int) (s : St), GX LM K X 8 1 128 [(0, vR 0), (1, vI i1), (2, vI i2), (3, vI i3), (4, vI i4), (5, vI i5)] [] s (X9_behind_128 i1 i2 i3 i4 k n i5 s) := by
  intro n
  induction n with
  | zero => intro i5 s; exact GX.none
  | succ n ih =>
    intro i5 s
    rw [X9_behind_128]
    refine g_iload O dX9_behind_128 5 rfl ?_
    refine g_aload_n O dX9_behind_130 rfl 0 rfl ?_
    refine g_iload_n O dX9_behind_131 rfl 3 rfl ?_
    refine g_callV1 (As := [vI i3]) (rest := [vI i5]) (b := 0) (ci := 9) O mw_4_216 mw_4_218 mp_3_3 mw_4_219 mw_1_10 hd_X9_many rfl ⟨_, _, rfl⟩ rfl dX9_behind_132 (ct_X9_many i3 s) (by rw [hfr]; decide) (by rw [hlo]; decide) (Nat.le_of_ble_eq_true rfl) (fun v1 s2 => ?_)
    refine g_icmp_ge (tgt := 158) O dX9_behind_135 (by decide) ?_ ?_
    · refine g_pick [0, 1, 2, 3, 4] rfl ?_
      exact hk s2
    refine g_aload_n O dX9_behind_138 rfl 0 rfl ?_
    refine g_getR O fw_9_53 rfl dX9_behind_139 rfl ?_
    refine g_iload O dX9_behind_142 5 rfl ?_
    refine g_aload_n O dX9_behind_144 rfl 0 rfl ?_
    refine g_iload_n O dX9_behind_145 rfl 3 rfl ?_
    refine g_iload O dX9_behind_146 5 rfl ?_
    refine g_callV1 (As := [vI i3, vI i5]) (rest := [vI i5, vR 15]) (b := 0) (ci := 9) O mw_4_220 mw_4_222 mp_3_4 mw_4_223 mw_1_10 hd_X9_codeOf rfl ⟨_, _, rfl⟩ rfl dX9_behind_148 (ct_X9_codeOf i3 i5 s2) (by rw [hfr]; decide) (by rw [hlo]; decide) (Nat.le_of_ble_eq_true rfl) (fun v3 s4 => ?_)
    refine g_iast O rfl (by decide) dX9_behind_151 (fun s5 => ?_)
    refine g_iinc (lv2 := [(5, vI (i5 + 1)), (0, vR 0), (1, vI i1), (2, vI i2), (3, vI i3), (4, vI i4)]) O dX9_behind_152 5 rfl (by decide) rfl ?_
    refine g_goto (tgt := 128) O dX9_behind_155 (by decide) ?_
    refine g_pick [1, 2, 3, 4, 5, 0] rfl ?_
    exact ih (i5 + 1) s5
set_option maxRecDepth 20000 in
set_option maxHeartbeats 4000000 in
theorem lt_X9_behind_161 {K : Cx} {X : Wx} (O : OKx LM K X yX9_behind.cls cX9_behind 8) (hrt : (kMe K).sig.returnType = (Option.some .int)) (hfr : (kR K).frames = 7) (hlo : (kR K).locals = 155) {i1 : Int} {i2 : Int} {i3 : Int} {k : Int → St → Rs}  (hk : ∀ (i4 : Int) (s : St), GX LM K X 8 1 272 [(0, vR 0), (2, vI i2), (3, vI i3), (4, vI i4)] [] s (k i4 s)) : ∀ (n : Nat) (i4 : Int) (i5 : Int) (s : St), GX LM K X 8 1 161 [(0, vR 0), (1, vI i1), (2, vI i2), (3, vI i3), (4, vI i4), (5, vI i5)] [] s (X9_behind_161 i1 i2 i3 k n i4 i5 s) := by
  intro n
  induction n with
  | zero => intro i4 i5 s; exact GX.none
  | succ n ih =>
    intro i4 i5 s
    rw [X9_behind_161]
    refine g_iload O dX9_behind_161 5 rfl ?_
    refine g_iload_n O dX9_behind_163 rfl 1 rfl ?_
    refine g_icmp_ge (tgt := 272) O dX9_behind_164 (by decide) ?_ ?_
    · refine g_pick [0, 2, 3, 4] rfl ?_
      exact hk i4 s
    refine g_aload_n O dX9_behind_167 rfl 0 rfl ?_
    refine g_getR O fw_9_80 rfl dX9_behind_168 rfl ?_
    refine g_iconst O dX9_behind_171 ?_
    refine g_iload O dX9_behind_172 5 rfl ?_
    refine g_imul O dX9_behind_174 ?_
    refine g_iald O rfl (by decide) dX9_behind_175 (fun v1 => ?_)
    refine g_istore (lv2 := [(6, vI v1), (0, vR 0), (1, vI i1), (2, vI i2), (3, vI i3), (4, vI i4), (5, vI i5)]) O dX9_behind_176 (by decide) rfl ?_
    refine g_aload_n O dX9_behind_178 rfl 1 rfl ?_
    refine g_getR O fw_9_80 rfl dX9_behind_179 rfl ?_
    refine g_iconst O dX9_behind_182 ?_
    refine g_iload O dX9_behind_183 6 rfl ?_
    refine g_imul O dX9_behind_185 ?_
    refine g_iconst O dX9_behind_186 ?_
    refine g_iadd O dX9_behind_187 ?_
    refine g_iald O rfl (by decide) dX9_behind_188 (fun v2 => ?_)
    refine g_istore (lv2 := [(7, vI v2), (6, vI v1), (0, vR 0), (1, vI i1), (2, vI i2), (3, vI i3), (4, vI i4), (5, vI i5)]) O dX9_behind_189 (by decide) rfl ?_
    refine g_iload_n O dX9_behind_191 rfl 5 rfl ?_
    refine g_jn (fun (j : St → Rs) => ∀  (s3 : St), GX LM K X 8 1 214 [(0, vR 0), (1, vI i1), (2, vI i2), (3, vI i3), (4, vI i4), (5, vI i5), (6, vI v1), (7, vI v2)] [] s3 (j  s3)) ?_ ?_
    · intro  s3
      refine g_iload_n O dX9_behind_214 rfl 3 rfl ?_
      refine g_jn (fun (j : St → Rs) => ∀  (s5 : St), GX LM K X 8 1 246 [(0, vR 0), (1, vI i1), (2, vI i2), (3, vI i3), (4, vI i4), (5, vI i5), (6, vI v1), (7, vI v2)] [] s5 (j  s5)) ?_ ?_
      · intro  s5
        refine g_iload_n O dX9_behind_246 rfl 3 rfl ?_
        refine g_iconst O dX9_behind_247 ?_
        refine g_icmp_ne (tgt := 266) O dX9_behind_248 (by decide) ?_ ?_
        · refine g_iinc (lv2 := [(5, vI (i5 + 1)), (0, vR 0), (1, vI i1), (2, vI i2), (3, vI i3), (4, vI i4), (6, vI v1), (7, vI v2)]) O dX9_behind_266 5 rfl (by decide) rfl ?_
          refine g_goto (tgt := 161) O dX9_behind_269 (by decide) ?_
          refine g_pick [1, 2, 3, 4, 5, 0] rfl ?_
          exact ih i4 (i5 + 1) s5
        refine g_iload O dX9_behind_251 6 rfl ?_
        refine g_iconst O dX9_behind_253 ?_
        refine g_icmp_ne (tgt := 266) O dX9_behind_254 (by decide) ?_ ?_
        · refine g_iinc (lv2 := [(5, vI (i5 + 1)), (0, vR 0), (1, vI i1), (2, vI i2), (3, vI i3), (4, vI i4), (6, vI v1), (7, vI v2)]) O dX9_behind_266 5 rfl (by decide) rfl ?_
          refine g_goto (tgt := 161) O dX9_behind_269 (by decide) ?_
          refine g_pick [1, 2, 3, 4, 5, 0] rfl ?_
          exact ih i4 (i5 + 1) s5
        refine g_iload O dX9_behind_257 4 rfl ?_
        refine g_iconst O dX9_behind_259 ?_
        refine g_iload O dX9_behind_260 7 rfl ?_
        refine g_ishl O dX9_behind_262 ?_
        refine g_ior O dX9_behind_263 ?_
        refine g_istore (lv2 := [(4, vI (oOr i4 (oShl 1 v2))), (0, vR 0), (1, vI i1), (2, vI i2), (3, vI i3), (5, vI i5), (6, vI v1), (7, vI v2)]) O dX9_behind_264 (by decide) rfl ?_
        refine g_iinc (lv2 := [(5, vI (i5 + 1)), (4, vI (oOr i4 (oShl 1 v2))), (0, vR 0), (1, vI i1), (2, vI i2), (3, vI i3), (6, vI v1), (7, vI v2)]) O dX9_behind_266 5 rfl (by decide) rfl ?_
        refine g_goto (tgt := 161) O dX9_behind_269 (by decide) ?_
        refine g_pick [2, 3, 4, 5, 1, 0] rfl ?_
        exact ih (oOr i4 (oShl 1 v2)) (i5 + 1) s5
      intro k6 hk6
      refine g_if_ne (tgt := 246) O dX9_behind_215 (by decide) ?_ ?_
      · exact hk6 s3
      refine g_iload O dX9_behind_218 6 rfl ?_
      refine g_iconst O dX9_behind_220 ?_
      refine g_icmp_ne (tgt := 246) O dX9_behind_221 (by decide) ?_ ?_
      · exact hk6 s3
      refine g_aload_n O dX9_behind_224 rfl 0 rfl ?_
      refine g_getR O fw_9_53 rfl dX9_behind_225 rfl ?_
      refine g_iload O dX9_behind_228 7 rfl ?_
      refine g_aload_n O dX9_behind_230 rfl 0 rfl ?_
      refine g_iconst O dX9_behind_231 ?_
      refine g_aload_n O dX9_behind_232 rfl 0 rfl ?_
      refine g_getR O fw_9_74 rfl dX9_behind_233 rfl ?_
      refine g_iload O dX9_behind_236 7 rfl ?_
      refine g_iald O rfl (by decide) dX9_behind_238 (fun v7 => ?_)
      refine g_callV1 (As := [vI 1, vI v7]) (rest := [vI v2, vR 15]) (b := 0) (ci := 9) O mw_4_220 mw_4_222 mp_3_4 mw_4_223 mw_1_10 hd_X9_codeOf rfl ⟨_, _, rfl⟩ rfl dX9_behind_239 (ct_X9_codeOf 1 v7 s3) (by rw [hfr]; decide) (by rw [hlo]; decide) (Nat.le_of_ble_eq_true rfl) (fun v8 s9 => ?_)
      refine g_iast O rfl (by decide) dX9_behind_242 (fun s10 => ?_)
      refine g_goto (tgt := 266) O dX9_behind_243 (by decide) ?_
      refine g_iinc (lv2 := [(5, vI (i5 + 1)), (0, vR 0), (1, vI i1), (2, vI i2), (3, vI i3), (4, vI i4), (6, vI v1), (7, vI v2)]) O dX9_behind_266 5 rfl (by decide) rfl ?_
      refine g_goto (tgt := 161) O dX9_behind_269 (by decide) ?_
      refine g_pick [1, 2, 3, 4, 5, 0] rfl ?_
      exact ih i4 (i5 + 1) s10
    intro k4 hk4
    refine g_if_ne (tgt := 214) O dX9_behind_192 (by decide) ?_ ?_
    · refine g_pick [2, 3, 4, 5, 6, 7, 1, 0] rfl ?_
      exact hk4 s
    refine g_iload O dX9_behind_195 1 rfl ?_
    refine g_if_ne (tgt := 214) O dX9_behind_197 (by decide) ?_ ?_
    · refine g_pick [2, 3, 4, 5, 6, 7, 1, 0] rfl ?_
      exact hk4 s
    refine g_iload O dX9_behind_200 6 rfl ?_
    refine g_iconst O dX9_behind_202 ?_
    refine g_iload O dX9_behind_203 0 rfl ?_
    refine g_ishl O dX9_behind_205 ?_
    refine g_iconst O dX9_behind_206 ?_
    refine g_ixor O dX9_behind_207 ?_
    refine g_iand O dX9_behind_208 ?_
    refine g_istore (lv2 := [(4, vI (oAnd i4 (oXor (oShl 1 v2) (-1)))), (7, vI v2), (6, vI v1), (0, vR 0), (1, vI i1), (2, vI i2), (3, vI i3), (5, vI i5)]) O dX9_behind_209 (by decide) rfl ?_
    refine g_goto (tgt := 266) O dX9_behind_211 (by decide) ?_
    refine g_iinc (lv2 := [(5, vI (i5 + 1)), (4, vI (oAnd i4 (oXor (oShl 1 v2) (-1)))), (7, vI v2), (6, vI v1), (0, vR 0), (1, vI i1), (2, vI i2), (3, vI i3)]) O dX9_behind_266 7 rfl (by decide) rfl ?_
    refine g_goto (tgt := 161) O dX9_behind_269 (by decide) ?_
    refine g_pick [4, 5, 6, 7, 1, 0] rfl ?_
    exact ih (oAnd i4 (oXor (oShl 1 v2) (-1))) (i5 + 1) s
set_option maxRecDepth 20000 in
set_option maxHeartbeats 4000000 in
theorem lt_X9_behind_84 {K : Cx} {X : Wx} (O : OKx LM K X yX9_behind.cls cX9_behind 8) (hrt : (kMe K).sig.returnType = (Option.some .int)) (hfr : (kR K).frames = 7) (hlo : (kR K).locals = 155) {i1 : Int} {i2 : Int} {i3 : Int} {k : Int → St → Rs}  (hk : ∀ (i4 : Int) (s : St), GX LM K X 8 1 125 [(0, vR 0), (1, vI i1), (2, vI i2), (3, vI i3), (4, vI i4)] [] s (k i4 s)) : ∀ (n : Nat) (i4 : Int) (i5 : Int) (s : St), GX LM K X 8 1 84 [(0, vR 0), (1, vI i1), (2, vI i2), (3, vI i3), (4, vI i4), (5, vI i5)] [] s (X9_behind_84 i1 i2 i3 k n i4 i5 s) := by
  intro n
  induction n with
  | zero => intro i4 i5 s; exact GX.none
  | succ n ih =>
    intro i4 i5 s
    rw [X9_behind_84]
    refine g_iload O dX9_behind_84 5 rfl ?_
    refine g_aload_n O dX9_behind_86 rfl 0 rfl ?_
    refine g_iconst O dX9_behind_87 ?_
    refine g_callV1 (As := [vI 1]) (rest := [vI i5]) (b := 0) (ci := 9) O mw_4_216 mw_4_218 mp_3_3 mw_4_219 mw_1_10 hd_X9_many rfl ⟨_, _, rfl⟩ rfl dX9_behind_88 (ct_X9_many 1 s) (by rw [hfr]; decide) (by rw [hlo]; decide) (Nat.le_of_ble_eq_true rfl) (fun v1 s2 => ?_)
    refine g_icmp_ge (tgt := 125) O dX9_behind_91 (by decide) ?_ ?_
    · refine g_pick [0, 1, 2, 3, 4] rfl ?_
      exact hk i4 s2
    refine g_iload O dX9_behind_94 4 rfl ?_
    refine g_aload_n O dX9_behind_96 rfl 0 rfl ?_
    refine g_getR O fw_9_77 rfl dX9_behind_97 rfl ?_
    refine g_iload O dX9_behind_100 5 rfl ?_
    refine g_iald O rfl (by decide) dX9_behind_102 (fun v3 => ?_)
    refine g_bipush O dX9_behind_103 (by decide +kernel) ?_
    refine g_icmp_ne (tgt := 112) O dX9_behind_105 (by decide) ?_ ?_
    · refine g_iconst O dX9_behind_112 ?_
      refine g_iload O dX9_behind_113 5 rfl ?_
      refine g_ishl O dX9_behind_115 ?_
      refine g_ior O dX9_behind_116 ?_
      refine g_istore (lv2 := [(4, vI (oOr i4 (oShl 1 i5))), (0, vR 0), (1, vI i1), (2, vI i2), (3, vI i3), (5, vI i5)]) O dX9_behind_117 (by decide) rfl ?_
      refine g_iinc (lv2 := [(5, vI (i5 + 1)), (4, vI (oOr i4 (oShl 1 i5))), (0, vR 0), (1, vI i1), (2, vI i2), (3, vI i3)]) O dX9_behind_119 5 rfl (by decide) rfl ?_
      refine g_goto (tgt := 84) O dX9_behind_122 (by decide) ?_
      refine g_pick [2, 3, 4, 5, 1, 0] rfl ?_
      exact ih (oOr i4 (oShl 1 i5)) (i5 + 1) s2
    refine g_iconst O dX9_behind_108 ?_
    refine g_goto (tgt := 116) O dX9_behind_109 (by decide) ?_
    refine g_ior O dX9_behind_116 ?_
    refine g_istore (lv2 := [(4, vI (oOr i4 0)), (0, vR 0), (1, vI i1), (2, vI i2), (3, vI i3), (5, vI i5)]) O dX9_behind_117 (by decide) rfl ?_
    refine g_iinc (lv2 := [(5, vI (i5 + 1)), (4, vI (oOr i4 0)), (0, vR 0), (1, vI i1), (2, vI i2), (3, vI i3)]) O dX9_behind_119 5 rfl (by decide) rfl ?_
    refine g_goto (tgt := 84) O dX9_behind_122 (by decide) ?_
    refine g_pick [2, 3, 4, 5, 1, 0] rfl ?_
    exact ih (oOr i4 0) (i5 + 1) s2
theorem hd_X9_behind : yX9_behind.cls ≠ "java/lang/invoke/MethodHandle" ∧ yX9_behind.cls ≠ "java/lang/invoke/VarHandle" ∧ (parseMethodDescriptor yX9_behind.desc).map (fun d => d.parameters.length) = some 2 := by decide +kernel
set_option maxRecDepth 20000 in
set_option maxHeartbeats 4000000 in
theorem ct_X9_behind  (i1 : Int) (i2 : Int) (s : St) : Ctr LM yX9_behind cX9_behind 8 (Option.some .int) 1 7 155 [vR 0, vI i1, vI i2] s (X9_behind i1 i2 s) := by
  refine Ctr.of (by decide +kernel) (fun ρ => Nat.le_of_ble_eq_true rfl) (lv := [(0, vR 0), (1, vI i1), (2, vI i2)]) (fun ρ => rfl) (fun K X O hrt hfr hlo => ?_)
  unfold X9_behind
  refine g_iload_n O dX9_behind_0 rfl 1 rfl ?_
  refine g_if_lt (tgt := 11) O dX9_behind_1 (by decide) ?_ ?_
  · refine g_iconst O dX9_behind_11 ?_
    exact g_iret O hrt rfl dX9_behind_12
  refine g_iload_n O dX9_behind_4 rfl 2 rfl ?_
  refine g_callS1 (As := [vI i2]) (rest := []) O mw_4_176 mw_4_177 mw_4_178 mw_1_10 hd_X9_isText rfl dX9_behind_5 (ct_X9_isText i2 s) (by rw [hfr]; decide) (by rw [hlo]; decide) (Nat.le_of_ble_eq_true rfl) (fun v1 s2 => ?_)
  refine g_if_ne (tgt := 13) O dX9_behind_8 (by decide) ?_ ?_
  · refine g_aload_n O dX9_behind_13 rfl 0 rfl ?_
    refine g_callV1 (As := []) (rest := []) (b := 0) (ci := 9) O mw_5_60 mw_5_62 mp_4_2 mw_5_63 mw_1_10 hd_X9_areBoth rfl ⟨_, _, rfl⟩ rfl dX9_behind_14 (ct_X9_areBoth  s2) (by rw [hfr]; decide) (by rw [hlo]; decide) (Nat.le_of_ble_eq_true rfl) (fun v3 s4 => ?_)
    refine g_if_ne (tgt := 23) O dX9_behind_17 (by decide) ?_ ?_
    · refine g_aload_n O dX9_behind_23 rfl 0 rfl ?_
      refine g_callV0 (As := []) (rest := []) (b := 0) (ci := 9) O mw_5_112 mw_5_114 mp_4_11 mw_5_115 mw_1_10 hd_X9_laysSteps rfl ⟨_, _, rfl⟩ rfl dX9_behind_24 (ct_X9_laysSteps  s4) (by rw [hfr]; decide) (by rw [hlo]; decide) (Nat.le_of_ble_eq_true rfl) (fun _ s6 => ?_)
      refine g_iload_n O dX9_behind_27 rfl 1 rfl ?_
      refine g_aload_n O dX9_behind_28 rfl 0 rfl ?_
      refine g_getI O fw_9_241 rfl dX9_behind_29 rfl ?_
      refine g_icmp_le (tgt := 38) O dX9_behind_32 (by decide) ?_ ?_
      · refine g_iload_n O dX9_behind_38 rfl 1 rfl ?_
        refine g_jn (fun (j : Int → St → Rs) => ∀ (x7 : Int) (s8 : St), GX LM K X 8 1 61 [(0, vR 0), (1, vI i1), (2, vI i2)] [vI x7] s8 (j x7 s8)) ?_ ?_
        · intro x7 s8
          refine g_istore_n (lv2 := [(3, vI x7), (0, vR 0), (1, vI i1), (2, vI i2)]) O dX9_behind_61 rfl (by decide) rfl ?_
          refine g_iconst O dX9_behind_62 ?_
          refine g_aload_n O dX9_behind_63 rfl 1 rfl ?_
          refine g_iconst O dX9_behind_64 ?_
          refine g_callV1 (As := [vI 0]) (rest := [vI 1]) (b := 0) (ci := 9) O mw_4_216 mw_4_218 mp_3_3 mw_4_219 mw_1_10 hd_X9_many rfl ⟨_, _, rfl⟩ rfl dX9_behind_65 (ct_X9_many 0 s8) (by rw [hfr]; decide) (by rw [hlo]; decide) (Nat.le_of_ble_eq_true rfl) (fun v10 s11 => ?_)
          refine g_ishl O dX9_behind_68 ?_
          refine g_iconst O dX9_behind_69 ?_
          refine g_isub O dX9_behind_70 ?_
          refine g_istore (lv2 := [(4, vI ((oShl 1 v10) - 1)), (3, vI x7), (0, vR 0), (1, vI i1), (2, vI i2)]) O dX9_behind_71 (by decide) rfl ?_
          refine g_iload_n O dX9_behind_73 rfl 1 rfl ?_
          refine g_iconst O dX9_behind_74 ?_
          refine g_jn (fun (j : Int → St → Rs) => ∀ (x12 : Int) (s13 : St), GX LM K X 8 1 125 [(0, vR 0), (1, vI i1), (2, vI i2), (3, vI x7), (4, vI x12)] [] s13 (j x12 s13)) ?_ ?_
          · intro x12 s13
            refine g_iconst O dX9_behind_125 ?_
            refine g_istore (lv2 := [(5, vI 0), (0, vR 0), (1, vI i1), (2, vI i2), (3, vI x7), (4, vI x12)]) O dX9_behind_126 (by decide) rfl ?_
            refine g_pick [1, 2, 3, 4, 5, 0] rfl ?_
            refine lt_X9_behind_128 O hrt hfr hlo  (fun s15 => ?_) FU 0 s13
            refine g_iconst O dX9_behind_158 ?_
            refine g_istore (lv2 := [(5, vI 0), (0, vR 0), (1, vI i1), (2, vI i2), (3, vI x7), (4, vI x12)]) O dX9_behind_159 (by decide) rfl ?_
            refine g_pick [1, 2, 3, 4, 5, 0] rfl ?_
            refine lt_X9_behind_161 O hrt hfr hlo  (fun x16 s17 => ?_) FU x12 0 s15
            refine g_aload_n O dX9_behind_272 rfl 0 rfl ?_
            refine g_iload_n O dX9_behind_273 rfl 2 rfl ?_
            refine g_iload O dX9_behind_274 3 rfl ?_
            refine g_callV0 (As := [vI x7, vI x16]) (rest := []) (b := 0) (ci := 9) O mw_4_224 mw_4_226 mp_3_5 mw_4_227 mw_1_10 hd_X9_writesAll rfl ⟨_, _, rfl⟩ rfl dX9_behind_276 (ct_X9_writesAll x7 x16 s17) (by rw [hfr]; decide) (by rw [hlo]; decide) (Nat.le_of_ble_eq_true rfl) (fun _ s19 => ?_)
            refine g_aload_n O dX9_behind_279 rfl 0 rfl ?_
            refine g_iload_n O dX9_behind_280 rfl 1 rfl ?_
            refine g_callV1 (As := [vI i2]) (rest := []) (b := 0) (ci := 9) O mw_5_7 mw_5_9 mp_3_10 mw_5_10 mw_1_10 hd_X9_toText rfl ⟨_, _, rfl⟩ rfl dX9_behind_281 (ct_X9_toText i2 s19) (by rw [hfr]; decide) (by rw [hlo]; decide) (Nat.le_of_ble_eq_true rfl) (fun v20 s21 => ?_)
            exact g_iret O hrt rfl dX9_behind_284
          intro k14 hk14
          refine g_icmp_ne (tgt := 125) O dX9_behind_75 (by decide) ?_ ?_
          · refine g_pick [2, 3, 4, 1, 0] rfl ?_
            exact hk14 ((oShl 1 v10) - 1) s11
          refine g_iconst O dX9_behind_78 ?_
          refine g_istore (lv2 := [(4, vI 0), (3, vI x7), (0, vR 0), (1, vI i1), (2, vI i2)]) O dX9_behind_79 (by decide) rfl ?_
          refine g_iconst O dX9_behind_81 ?_
          refine g_istore (lv2 := [(5, vI 0), (4, vI 0), (3, vI x7), (0, vR 0), (1, vI i1), (2, vI i2)]) O dX9_behind_82 (by decide) rfl ?_
          refine g_pick [3, 4, 5, 2, 1, 0] rfl ?_
          refine lt_X9_behind_84 O hrt hfr hlo  (fun x22 s23 => ?_) FU 0 0 s11
          exact hk14 x22 s23
        intro k9 hk9
        refine g_jn (fun (j : St → Rs) => ∀  (s24 : St), GX LM K X 8 1 60 [(0, vR 0), (1, vI i1), (2, vI i2)] [] s24 (j  s24)) ?_ ?_
        · intro  s24
          refine g_iconst O dX9_behind_60 ?_
          exact hk9 0 s24
        intro k25 hk25
        refine g_if_le (tgt := 60) O dX9_behind_39 (by decide) ?_ ?_
        · exact hk25 s6
        refine g_aload_n O dX9_behind_42 rfl 0 rfl ?_
        refine g_getR O fw_9_80 rfl dX9_behind_43 rfl ?_
        refine g_iconst O dX9_behind_46 ?_
        refine g_iload_n O dX9_behind_47 rfl 1 rfl ?_
        refine g_imul O dX9_behind_48 ?_
        refine g_iconst O dX9_behind_49 ?_
        refine g_isub O dX9_behind_50 ?_
        refine g_iald O rfl (by decide) dX9_behind_51 (fun v26 => ?_)
        refine g_iconst O dX9_behind_52 ?_
        refine g_icmp_ne (tgt := 60) O dX9_behind_53 (by decide) ?_ ?_
        · exact hk25 s6
        refine g_iconst O dX9_behind_56 ?_
        refine g_goto (tgt := 61) O dX9_behind_57 (by decide) ?_
        exact hk9 1 s6
      refine g_bipush O dX9_behind_35 (by decide +kernel) ?_
      exact g_iret O hrt rfl dX9_behind_37
    refine g_bipush O dX9_behind_20 (by decide +kernel) ?_
    exact g_iret O hrt rfl dX9_behind_22
  refine g_iconst O dX9_behind_11 ?_
  exact g_iret O hrt rfl dX9_behind_12
def X9_keys_5 (i1 : Int) (i2 : Int) (k : Int → St → Rs) : Nat → Int → Int → St → Rs
  | 0, _, _, _ => none
  | n + 1, i3, i4, s => cl (X9_many i1 s) (fun v1 s2 => cLt i4 v1 (cl (X9_isKey i1 i4 i2 s2) (fun v3 s4 => cEq v3 0 (X9_keys_5 i1 i2 k n (i3 + 0) (i4 + 1) s4) (X9_keys_5 i1 i2 k n (i3 + 1) (i4 + 1) s4))) (k i3 s2))
def X9_keys (i1 : Int) (i2 : Int) (s : St) : Rs := X9_keys_5 i1 i2 (fun x1 s2 => some (x1, s2)) FU 0 0 s
set_option maxRecDepth 20000 in
set_option maxHeartbeats 4000000 in
theorem lt_X9_keys_5 {K : Cx} {X : Wx} (O : OKx LM K X yX9_keys.cls cX9_keys 5) (hrt : (kMe K).sig.returnType = (Option.some .int)) (hfr : (kR K).frames = 3) (hlo : (kR K).locals = 69) {i1 : Int} {i2 : Int} {k : Int → St → Rs}  (hk : ∀ (i3 : Int) (s : St), GX LM K X 5 1 40 [(3, vI i3)] [] s (k i3 s)) : ∀ (n : Nat) (i3 : Int) (i4 : Int) (s : St), GX LM K X 5 1 5 [(0, vR 0), (1, vI i1), (2, vI i2), (3, vI i3), (4, vI i4)] [] s (X9_keys_5 i1 i2 k n i3 i4 s) := by
  intro n
  induction n with
  | zero => intro i3 i4 s; exact GX.none
  | succ n ih =>
    intro i3 i4 s
    rw [X9_keys_5]
    refine g_iload O dX9_keys_5 4 rfl ?_
    refine g_aload_n O dX9_keys_7 rfl 0 rfl ?_
    refine g_iload_n O dX9_keys_8 rfl 1 rfl ?_
    refine g_callV1 (As := [vI i1]) (rest := [vI i4]) (b := 0) (ci := 9) O mw_4_216 mw_4_218 mp_3_3 mw_4_219 mw_1_10 hd_X9_many rfl ⟨_, _, rfl⟩ rfl dX9_keys_9 (ct_X9_many i1 s) (by rw [hfr]; decide) (by rw [hlo]; decide) (Nat.le_of_ble_eq_true rfl) (fun v1 s2 => ?_)
    refine g_icmp_ge (tgt := 40) O dX9_keys_12 (by decide) ?_ ?_
    · refine g_pick [3] rfl ?_
      exact hk i3 s2
    refine g_iload_n O dX9_keys_15 rfl 3 rfl ?_
    refine g_aload_n O dX9_keys_16 rfl 0 rfl ?_
    refine g_iload_n O dX9_keys_17 rfl 1 rfl ?_
    refine g_iload O dX9_keys_18 4 rfl ?_
    refine g_iload_n O dX9_keys_20 rfl 2 rfl ?_
    refine g_callV1 (As := [vI i1, vI i4, vI i2]) (rest := [vI i3]) (b := 0) (ci := 9) O mw_5_30 mw_5_32 mp_3_14 mw_5_33 mw_1_10 hd_X9_isKey rfl ⟨_, _, rfl⟩ rfl dX9_keys_21 (ct_X9_isKey i1 i4 i2 s2) (by rw [hfr]; decide) (by rw [hlo]; decide) (Nat.le_of_ble_eq_true rfl) (fun v3 s4 => ?_)
    refine g_if_eq (tgt := 31) O dX9_keys_24 (by decide) ?_ ?_
    · refine g_iconst O dX9_keys_31 ?_
      refine g_iadd O dX9_keys_32 ?_
      refine g_istore_n (lv2 := [(3, vI (i3 + 0)), (0, vR 0), (1, vI i1), (2, vI i2), (4, vI i4)]) O dX9_keys_33 rfl (by decide) rfl ?_
      refine g_iinc (lv2 := [(4, vI (i4 + 1)), (3, vI (i3 + 0)), (0, vR 0), (1, vI i1), (2, vI i2)]) O dX9_keys_34 4 rfl (by decide) rfl ?_
      refine g_goto (tgt := 5) O dX9_keys_37 (by decide) ?_
      refine g_pick [2, 3, 4, 1, 0] rfl ?_
      exact ih (i3 + 0) (i4 + 1) s4
    refine g_iconst O dX9_keys_27 ?_
    refine g_goto (tgt := 32) O dX9_keys_28 (by decide) ?_
    refine g_iadd O dX9_keys_32 ?_
    refine g_istore_n (lv2 := [(3, vI (i3 + 1)), (0, vR 0), (1, vI i1), (2, vI i2), (4, vI i4)]) O dX9_keys_33 rfl (by decide) rfl ?_
    refine g_iinc (lv2 := [(4, vI (i4 + 1)), (3, vI (i3 + 1)), (0, vR 0), (1, vI i1), (2, vI i2)]) O dX9_keys_34 4 rfl (by decide) rfl ?_
    refine g_goto (tgt := 5) O dX9_keys_37 (by decide) ?_
    refine g_pick [2, 3, 4, 1, 0] rfl ?_
    exact ih (i3 + 1) (i4 + 1) s4
theorem hd_X9_keys : yX9_keys.cls ≠ "java/lang/invoke/MethodHandle" ∧ yX9_keys.cls ≠ "java/lang/invoke/VarHandle" ∧ (parseMethodDescriptor yX9_keys.desc).map (fun d => d.parameters.length) = some 2 := by decide +kernel
set_option maxRecDepth 20000 in
set_option maxHeartbeats 4000000 in
theorem ct_X9_keys  (i1 : Int) (i2 : Int) (s : St) : Ctr LM yX9_keys cX9_keys 5 (Option.some .int) 1 3 69 [vR 0, vI i1, vI i2] s (X9_keys i1 i2 s) := by
  refine Ctr.of (by decide +kernel) (fun ρ => Nat.le_of_ble_eq_true rfl) (lv := [(0, vR 0), (1, vI i1), (2, vI i2)]) (fun ρ => rfl) (fun K X O hrt hfr hlo => ?_)
  unfold X9_keys
  refine g_iconst O dX9_keys_0 ?_
  refine g_istore_n (lv2 := [(3, vI 0), (0, vR 0), (1, vI i1), (2, vI i2)]) O dX9_keys_1 rfl (by decide) rfl ?_
  refine g_iconst O dX9_keys_2 ?_
  refine g_istore (lv2 := [(4, vI 0), (3, vI 0), (0, vR 0), (1, vI i1), (2, vI i2)]) O dX9_keys_3 (by decide) rfl ?_
  refine g_pick [2, 3, 4, 1, 0] rfl ?_
  refine lt_X9_keys_5 O hrt hfr hlo  (fun x1 s2 => ?_) FU 0 0 s
  refine g_iload_n O dX9_keys_40 rfl 0 rfl ?_
  exact g_iret O hrt rfl dX9_keys_41
def X9_keySizes_5 (i1 : Int) (i2 : Int) (k : Int → St → Rs) : Nat → Int → Int → St → Rs
  | 0, _, _, _ => none
  | n + 1, i3, i4, s => cl (X9_many i1 s) (fun v1 s2 => cLt i4 v1 (cl (X9_isKey i1 i4 i2 s2) (fun v3 s4 => cEq v3 0 (X9_keySizes_5 i1 i2 k n (i3 + 0) (i4 + 1) s4) (cl (X9_leftOf i1 i4 s4) (fun v5 s6 => X9_keySizes_5 i1 i2 k n (i3 + ((i4 - v5) + 1)) (i4 + 1) s6)))) (k i3 s2))
def X9_keySizes (i1 : Int) (i2 : Int) (s : St) : Rs := X9_keySizes_5 i1 i2 (fun x1 s2 => some (x1, s2)) FU 0 0 s
set_option maxRecDepth 20000 in
set_option maxHeartbeats 4000000 in
theorem lt_X9_keySizes_5 {K : Cx} {X : Wx} (O : OKx LM K X yX9_keySizes.cls cX9_keySizes 5) (hrt : (kMe K).sig.returnType = (Option.some .int)) (hfr : (kR K).frames = 3) (hlo : (kR K).locals = 69) {i1 : Int} {i2 : Int} {k : Int → St → Rs}  (hk : ∀ (i3 : Int) (s : St), GX LM K X 5 1 51 [(3, vI i3)] [] s (k i3 s)) : ∀ (n : Nat) (i3 : Int) (i4 : Int) (s : St), GX LM K X 5 1 5 [(0, vR 0), (1, vI i1), (2, vI i2), (3, vI i3), (4, vI i4)] [] s (X9_keySizes_5 i1 i2 k n i3 i4 s) := by
  intro n
  induction n with
  | zero => intro i3 i4 s; exact GX.none
  | succ n ih =>
    intro i3 i4 s
    rw [X9_keySizes_5]
    refine g_iload O dX9_keySizes_5 4 rfl ?_
    refine g_aload_n O dX9_keySizes_7 rfl 0 rfl ?_
    refine g_iload_n O dX9_keySizes_8 rfl 1 rfl ?_
    refine g_callV1 (As := [vI i1]) (rest := [vI i4]) (b := 0) (ci := 9) O mw_4_216 mw_4_218 mp_3_3 mw_4_219 mw_1_10 hd_X9_many rfl ⟨_, _, rfl⟩ rfl dX9_keySizes_9 (ct_X9_many i1 s) (by rw [hfr]; decide) (by rw [hlo]; decide) (Nat.le_of_ble_eq_true rfl) (fun v1 s2 => ?_)
    refine g_icmp_ge (tgt := 51) O dX9_keySizes_12 (by decide) ?_ ?_
    · refine g_pick [3] rfl ?_
      exact hk i3 s2
    refine g_iload_n O dX9_keySizes_15 rfl 3 rfl ?_
    refine g_aload_n O dX9_keySizes_16 rfl 0 rfl ?_
    refine g_iload_n O dX9_keySizes_17 rfl 1 rfl ?_
    refine g_iload O dX9_keySizes_18 4 rfl ?_
    refine g_iload_n O dX9_keySizes_20 rfl 2 rfl ?_
    refine g_callV1 (As := [vI i1, vI i4, vI i2]) (rest := [vI i3]) (b := 0) (ci := 9) O mw_5_30 mw_5_32 mp_3_14 mw_5_33 mw_1_10 hd_X9_isKey rfl ⟨_, _, rfl⟩ rfl dX9_keySizes_21 (ct_X9_isKey i1 i4 i2 s2) (by rw [hfr]; decide) (by rw [hlo]; decide) (Nat.le_of_ble_eq_true rfl) (fun v3 s4 => ?_)
    refine g_if_eq (tgt := 42) O dX9_keySizes_24 (by decide) ?_ ?_
    · refine g_iconst O dX9_keySizes_42 ?_
      refine g_iadd O dX9_keySizes_43 ?_
      refine g_istore_n (lv2 := [(3, vI (i3 + 0)), (0, vR 0), (1, vI i1), (2, vI i2), (4, vI i4)]) O dX9_keySizes_44 rfl (by decide) rfl ?_
      refine g_iinc (lv2 := [(4, vI (i4 + 1)), (3, vI (i3 + 0)), (0, vR 0), (1, vI i1), (2, vI i2)]) O dX9_keySizes_45 4 rfl (by decide) rfl ?_
      refine g_goto (tgt := 5) O dX9_keySizes_48 (by decide) ?_
      refine g_pick [2, 3, 4, 1, 0] rfl ?_
      exact ih (i3 + 0) (i4 + 1) s4
    refine g_iload O dX9_keySizes_27 4 rfl ?_
    refine g_aload_n O dX9_keySizes_29 rfl 0 rfl ?_
    refine g_iload_n O dX9_keySizes_30 rfl 1 rfl ?_
    refine g_iload O dX9_keySizes_31 4 rfl ?_
    refine g_callV1 (As := [vI i1, vI i4]) (rest := [vI i4, vI i3]) (b := 0) (ci := 9) O mw_4_235 mw_4_237 mp_3_7 mw_4_238 mw_1_10 hd_X9_leftOf rfl ⟨_, _, rfl⟩ rfl dX9_keySizes_33 (ct_X9_leftOf i1 i4 s4) (by rw [hfr]; decide) (by rw [hlo]; decide) (Nat.le_of_ble_eq_true rfl) (fun v5 s6 => ?_)
    refine g_isub O dX9_keySizes_36 ?_
    refine g_iconst O dX9_keySizes_37 ?_
    refine g_iadd O dX9_keySizes_38 ?_
    refine g_goto (tgt := 43) O dX9_keySizes_39 (by decide) ?_
    refine g_iadd O dX9_keySizes_43 ?_
    refine g_istore_n (lv2 := [(3, vI (i3 + ((i4 - v5) + 1))), (0, vR 0), (1, vI i1), (2, vI i2), (4, vI i4)]) O dX9_keySizes_44 rfl (by decide) rfl ?_
    refine g_iinc (lv2 := [(4, vI (i4 + 1)), (3, vI (i3 + ((i4 - v5) + 1))), (0, vR 0), (1, vI i1), (2, vI i2)]) O dX9_keySizes_45 4 rfl (by decide) rfl ?_
    refine g_goto (tgt := 5) O dX9_keySizes_48 (by decide) ?_
    refine g_pick [2, 3, 4, 1, 0] rfl ?_
    exact ih (i3 + ((i4 - v5) + 1)) (i4 + 1) s6
theorem hd_X9_keySizes : yX9_keySizes.cls ≠ "java/lang/invoke/MethodHandle" ∧ yX9_keySizes.cls ≠ "java/lang/invoke/VarHandle" ∧ (parseMethodDescriptor yX9_keySizes.desc).map (fun d => d.parameters.length) = some 2 := by decide +kernel
set_option maxRecDepth 20000 in
set_option maxHeartbeats 4000000 in
theorem ct_X9_keySizes  (i1 : Int) (i2 : Int) (s : St) : Ctr LM yX9_keySizes cX9_keySizes 5 (Option.some .int) 1 3 69 [vR 0, vI i1, vI i2] s (X9_keySizes i1 i2 s) := by
  refine Ctr.of (by decide +kernel) (fun ρ => Nat.le_of_ble_eq_true rfl) (lv := [(0, vR 0), (1, vI i1), (2, vI i2)]) (fun ρ => rfl) (fun K X O hrt hfr hlo => ?_)
  unfold X9_keySizes
  refine g_iconst O dX9_keySizes_0 ?_
  refine g_istore_n (lv2 := [(3, vI 0), (0, vR 0), (1, vI i1), (2, vI i2)]) O dX9_keySizes_1 rfl (by decide) rfl ?_
  refine g_iconst O dX9_keySizes_2 ?_
  refine g_istore (lv2 := [(4, vI 0), (3, vI 0), (0, vR 0), (1, vI i1), (2, vI i2)]) O dX9_keySizes_3 (by decide) rfl ?_
  refine g_pick [2, 3, 4, 1, 0] rfl ?_
  refine lt_X9_keySizes_5 O hrt hfr hlo  (fun x1 s2 => ?_) FU 0 0 s
  refine g_iload_n O dX9_keySizes_51 rfl 0 rfl ?_
  exact g_iret O hrt rfl dX9_keySizes_52
def X9_work (i1 : Int) (s : St) : Rs := cl (X9_in i1 0 1 s) (fun v1 s2 => cEq v1 0 (some ((-1), s2)) (cl (X9_areBoth s2) (fun v3 s4 => cEq v3 0 (some ((-4), s4)) (cl (X9_keys 0 i1 s4) (fun v5 s6 => cl (X9_keys 1 i1 s6) (fun v7 s8 => cl (X9_keySizes 0 i1 s8) (fun v9 s10 => cl (X9_keySizes 1 i1 s10) (fun v11 s12 => cl (X9_tells (v5 * v7) (v9 * v11) s12) (fun v13 s14 => some (v13, s14))))))))))
theorem hd_X9_work : yX9_work.cls ≠ "java/lang/invoke/MethodHandle" ∧ yX9_work.cls ≠ "java/lang/invoke/VarHandle" ∧ (parseMethodDescriptor yX9_work.desc).map (fun d => d.parameters.length) = some 1 := by decide +kernel
set_option maxRecDepth 20000 in
set_option maxHeartbeats 4000000 in
theorem ct_X9_work  (i1 : Int) (s : St) : Ctr LM yX9_work cX9_work 2 (Option.some .int) 1 4 93 [vR 0, vI i1] s (X9_work i1 s) := by
  refine Ctr.of (by decide +kernel) (fun ρ => Nat.le_of_ble_eq_true rfl) (lv := [(0, vR 0), (1, vI i1)]) (fun ρ => rfl) (fun K X O hrt hfr hlo => ?_)
  unfold X9_work
  refine g_iload_n O dX9_work_0 rfl 1 rfl ?_
  refine g_iconst O dX9_work_1 ?_
  refine g_iconst O dX9_work_2 ?_
  refine g_callS1 (As := [vI i1, vI 0, vI 1]) (rest := []) O mw_4_133 mw_4_134 mw_4_135 mw_1_10 hd_X9_in rfl dX9_work_3 (ct_X9_in i1 0 1 s) (by rw [hfr]; decide) (by rw [hlo]; decide) (Nat.le_of_ble_eq_true rfl) (fun v1 s2 => ?_)
  refine g_if_ne (tgt := 11) O dX9_work_6 (by decide) ?_ ?_
  · refine g_aload_n O dX9_work_11 rfl 0 rfl ?_
    refine g_callV1 (As := []) (rest := []) (b := 0) (ci := 9) O mw_5_60 mw_5_62 mp_4_2 mw_5_63 mw_1_10 hd_X9_areBoth rfl ⟨_, _, rfl⟩ rfl dX9_work_12 (ct_X9_areBoth  s2) (by rw [hfr]; decide) (by rw [hlo]; decide) (Nat.le_of_ble_eq_true rfl) (fun v3 s4 => ?_)
    refine g_if_ne (tgt := 21) O dX9_work_15 (by decide) ?_ ?_
    · refine g_aload_n O dX9_work_21 rfl 0 rfl ?_
      refine g_aload_n O dX9_work_22 rfl 0 rfl ?_
      refine g_iconst O dX9_work_23 ?_
      refine g_iload_n O dX9_work_24 rfl 1 rfl ?_
      refine g_callV1 (As := [vI 0, vI i1]) (rest := [vR 0]) (b := 0) (ci := 9) O mw_5_128 mw_5_130 mp_4_13 mw_5_131 mw_1_10 hd_X9_keys rfl ⟨_, _, rfl⟩ rfl dX9_work_25 (ct_X9_keys 0 i1 s4) (by rw [hfr]; decide) (by rw [hlo]; decide) (Nat.le_of_ble_eq_true rfl) (fun v5 s6 => ?_)
      refine g_aload_n O dX9_work_28 rfl 0 rfl ?_
      refine g_iconst O dX9_work_29 ?_
      refine g_iload_n O dX9_work_30 rfl 1 rfl ?_
      refine g_callV1 (As := [vI 1, vI i1]) (rest := [vI v5, vR 0]) (b := 0) (ci := 9) O mw_5_128 mw_5_130 mp_4_13 mw_5_131 mw_1_10 hd_X9_keys rfl ⟨_, _, rfl⟩ rfl dX9_work_31 (ct_X9_keys 1 i1 s6) (by rw [hfr]; decide) (by rw [hlo]; decide) (Nat.le_of_ble_eq_true rfl) (fun v7 s8 => ?_)
      refine g_imul O dX9_work_34 ?_
      refine g_aload_n O dX9_work_35 rfl 0 rfl ?_
      refine g_iconst O dX9_work_36 ?_
      refine g_iload_n O dX9_work_37 rfl 1 rfl ?_
      refine g_callV1 (As := [vI 0, vI i1]) (rest := [vI (v5 * v7), vR 0]) (b := 0) (ci := 9) O mw_5_132 mw_5_134 mp_4_14 mw_5_135 mw_1_10 hd_X9_keySizes rfl ⟨_, _, rfl⟩ rfl dX9_work_38 (ct_X9_keySizes 0 i1 s8) (by rw [hfr]; decide) (by rw [hlo]; decide) (Nat.le_of_ble_eq_true rfl) (fun v9 s10 => ?_)
      refine g_aload_n O dX9_work_41 rfl 0 rfl ?_
      refine g_iconst O dX9_work_42 ?_
      refine g_iload_n O dX9_work_43 rfl 1 rfl ?_
      refine g_callV1 (As := [vI 1, vI i1]) (rest := [vI v9, vI (v5 * v7), vR 0]) (b := 0) (ci := 9) O mw_5_132 mw_5_134 mp_4_14 mw_5_135 mw_1_10 hd_X9_keySizes rfl ⟨_, _, rfl⟩ rfl dX9_work_44 (ct_X9_keySizes 1 i1 s10) (by rw [hfr]; decide) (by rw [hlo]; decide) (Nat.le_of_ble_eq_true rfl) (fun v11 s12 => ?_)
      refine g_imul O dX9_work_47 ?_
      refine g_callV1 (As := [vI (v5 * v7), vI (v9 * v11)]) (rest := []) (b := 0) (ci := 9) O mw_4_152 mw_4_154 mp_2_15 mw_4_155 mw_1_10 hd_X9_tells rfl ⟨_, _, rfl⟩ rfl dX9_work_48 (ct_X9_tells (v5 * v7) (v9 * v11) s12) (by rw [hfr]; decide) (by rw [hlo]; decide) (Nat.le_of_ble_eq_true rfl) (fun v13 s14 => ?_)
      exact g_iret O hrt rfl dX9_work_51
    refine g_bipush O dX9_work_18 (by decide +kernel) ?_
    exact g_iret O hrt rfl dX9_work_20
  refine g_iconst O dX9_work_9 ?_
  exact g_iret O hrt rfl dX9_work_10
def X9_nearest_36 (i1 : Int) (i2 : Int) (k : Int → Int → St → Rs) : Nat → Int → Int → Int → St → Rs
  | 0, _, _, _, _ => none
  | n + 1, i3, i4, i5, s => cl (X9_many (1 - i1) s) (fun v1 s2 => cLt i5 v1 (jn (fun (x3 : Int) (s4 : St) => jn (fun (x6 : Int) (s7 : St) => cl (X9_lesser x3 i4 s7) (fun v9 s10 => X9_nearest_36 i1 i2 k n x6 v9 (i5 + 1) s10)) (fun k8 => cLt x3 i4 (k8 i5 s4) (k8 i3 s4))) (fun k5 => cEq i1 0 (rd s2 20 144 ((12 * i2) + i5) (fun v12 => k5 v12 s2)) (rd s2 20 144 ((12 * i5) + i2) (fun v11 => k5 v11 s2)))) (k i3 i4 s2))
def X9_nearest (i1 : Int) (i2 : Int) (s : St) : Rs := cl (X9_isNode i1 i2 s) (fun v1 s2 => cEq v1 0 (some ((-1), s2)) (cl (X9_areBoth s2) (fun v3 s4 => cEq v3 0 (some ((-4), s4)) (cl (X9_leastOf s4) (fun v5 s6 => X9_nearest_36 i1 i2 (fun x7 x8 s9 => cl (X9_tells x8 x7 s9) (fun v10 s11 => some (v10, s11))) FU (-9) 100000 0 s6)))))
set_option maxRecDepth 20000 in
set_option maxHeartbeats 4000000 in
theorem lt_X9_nearest_36 {K : Cx} {X : Wx} (O : OKx LM K X yX9_nearest.cls cX9_nearest 7) (hrt : (kMe K).sig.returnType = (Option.some .int)) (hfr : (kR K).frames = 5) (hlo : (kR K).locals = 111) {i1 : Int} {i2 : Int} {k : Int → Int → St → Rs}  (hk : ∀ (i3 : Int) (i4 : Int) (s : St), GX LM K X 7 1 110 [(0, vR 0), (3, vI i3), (4, vI i4)] [] s (k i3 i4 s)) : ∀ (n : Nat) (i3 : Int) (i4 : Int) (i5 : Int) (s : St), GX LM K X 7 1 36 [(0, vR 0), (1, vI i1), (2, vI i2), (3, vI i3), (4, vI i4), (5, vI i5)] [] s (X9_nearest_36 i1 i2 k n i3 i4 i5 s) := by
  intro n
  induction n with
  | zero => intro i3 i4 i5 s; exact GX.none
  | succ n ih =>
    intro i3 i4 i5 s
    rw [X9_nearest_36]
    refine g_iload O dX9_nearest_36 5 rfl ?_
    refine g_aload_n O dX9_nearest_38 rfl 0 rfl ?_
    refine g_iconst O dX9_nearest_39 ?_
    refine g_iload_n O dX9_nearest_40 rfl 1 rfl ?_
    refine g_isub O dX9_nearest_41 ?_
    refine g_callV1 (As := [vI (1 - i1)]) (rest := [vI i5]) (b := 0) (ci := 9) O mw_4_216 mw_4_218 mp_3_3 mw_4_219 mw_1_10 hd_X9_many rfl ⟨_, _, rfl⟩ rfl dX9_nearest_42 (ct_X9_many (1 - i1) s) (by rw [hfr]; decide) (by rw [hlo]; decide) (Nat.le_of_ble_eq_true rfl) (fun v1 s2 => ?_)
    refine g_icmp_ge (tgt := 110) O dX9_nearest_45 (by decide) ?_ ?_
    · refine g_pick [0, 3, 4] rfl ?_
      exact hk i3 i4 s2
    refine g_iload_n O dX9_nearest_48 rfl 1 rfl ?_
    refine g_jn (fun (j : Int → St → Rs) => ∀ (x3 : Int) (s4 : St), GX LM K X 7 1 79 [(0, vR 0), (1, vI i1), (2, vI i2), (3, vI i3), (4, vI i4), (5, vI i5)] [vI x3] s4 (j x3 s4)) ?_ ?_
    · intro x3 s4
      refine g_istore (lv2 := [(6, vI x3), (0, vR 0), (1, vI i1), (2, vI i2), (3, vI i3), (4, vI i4), (5, vI i5)]) O dX9_nearest_79 (by decide) rfl ?_
      refine g_iload O dX9_nearest_81 0 rfl ?_
      refine g_iload O dX9_nearest_83 5 rfl ?_
      refine g_jn (fun (j : Int → St → Rs) => ∀ (x6 : Int) (s7 : St), GX LM K X 7 1 94 [(0, vR 0), (1, vI i1), (2, vI i2), (4, vI i4), (5, vI i5), (6, vI x3)] [vI x6] s7 (j x6 s7)) ?_ ?_
      · intro x6 s7
        refine g_istore_n (lv2 := [(3, vI x6), (0, vR 0), (1, vI i1), (2, vI i2), (4, vI i4), (5, vI i5), (6, vI x3)]) O dX9_nearest_94 rfl (by decide) rfl ?_
        refine g_iload O dX9_nearest_95 6 rfl ?_
        refine g_iload O dX9_nearest_97 4 rfl ?_
        refine g_callS1 (As := [vI x3, vI i4]) (rest := []) O mw_5_84 mw_5_85 mw_5_86 mw_1_10 hd_X9_lesser rfl dX9_nearest_99 (ct_X9_lesser x3 i4 s7) (by rw [hfr]; decide) (by rw [hlo]; decide) (Nat.le_of_ble_eq_true rfl) (fun v9 s10 => ?_)
        refine g_istore (lv2 := [(4, vI v9), (3, vI x6), (0, vR 0), (1, vI i1), (2, vI i2), (5, vI i5), (6, vI x3)]) O dX9_nearest_102 (by decide) rfl ?_
        refine g_iinc (lv2 := [(5, vI (i5 + 1)), (4, vI v9), (3, vI x6), (0, vR 0), (1, vI i1), (2, vI i2), (6, vI x3)]) O dX9_nearest_104 5 rfl (by decide) rfl ?_
        refine g_goto (tgt := 36) O dX9_nearest_107 (by decide) ?_
        refine g_pick [3, 4, 5, 2, 1, 0] rfl ?_
        exact ih x6 v9 (i5 + 1) s10
      intro k8 hk8
      refine g_icmp_ge (tgt := 93) O dX9_nearest_85 (by decide) ?_ ?_
      · refine g_iload_n O dX9_nearest_93 rfl 4 rfl ?_
        refine g_pick [1, 2, 3, 5, 6, 0] rfl ?_
        exact hk8 i3 s4
      refine g_iload O dX9_nearest_88 6 rfl ?_
      refine g_goto (tgt := 94) O dX9_nearest_90 (by decide) ?_
      refine g_pick [1, 2, 3, 5, 6, 0] rfl ?_
      exact hk8 i5 s4
    intro k5 hk5
    refine g_if_ne (tgt := 67) O dX9_nearest_49 (by decide) ?_ ?_
    · refine g_aload_n O dX9_nearest_67 rfl 0 rfl ?_
      refine g_getR O fw_9_68 rfl dX9_nearest_68 rfl ?_
      refine g_bipush O dX9_nearest_71 (by decide +kernel) ?_
      refine g_iload O dX9_nearest_73 5 rfl ?_
      refine g_imul O dX9_nearest_75 ?_
      refine g_iload_n O dX9_nearest_76 rfl 2 rfl ?_
      refine g_iadd O dX9_nearest_77 ?_
      refine g_iald O rfl (by decide) dX9_nearest_78 (fun v11 => ?_)
      exact hk5 v11 s2
    refine g_aload_n O dX9_nearest_52 rfl 0 rfl ?_
    refine g_getR O fw_9_68 rfl dX9_nearest_53 rfl ?_
    refine g_bipush O dX9_nearest_56 (by decide +kernel) ?_
    refine g_iload_n O dX9_nearest_58 rfl 2 rfl ?_
    refine g_imul O dX9_nearest_59 ?_
    refine g_iload O dX9_nearest_60 5 rfl ?_
    refine g_iadd O dX9_nearest_62 ?_
    refine g_iald O rfl (by decide) dX9_nearest_63 (fun v12 => ?_)
    refine g_goto (tgt := 79) O dX9_nearest_64 (by decide) ?_
    exact hk5 v12 s2
theorem hd_X9_nearest : yX9_nearest.cls ≠ "java/lang/invoke/MethodHandle" ∧ yX9_nearest.cls ≠ "java/lang/invoke/VarHandle" ∧ (parseMethodDescriptor yX9_nearest.desc).map (fun d => d.parameters.length) = some 2 := by decide +kernel
set_option maxRecDepth 20000 in
set_option maxHeartbeats 4000000 in
theorem ct_X9_nearest  (i1 : Int) (i2 : Int) (s : St) : Ctr LM yX9_nearest cX9_nearest 7 (Option.some .int) 1 5 111 [vR 0, vI i1, vI i2] s (X9_nearest i1 i2 s) := by
  refine Ctr.of (by decide +kernel) (fun ρ => Nat.le_of_ble_eq_true rfl) (lv := [(0, vR 0), (1, vI i1), (2, vI i2)]) (fun ρ => rfl) (fun K X O hrt hfr hlo => ?_)
  unfold X9_nearest
  refine g_aload_n O dX9_nearest_0 rfl 0 rfl ?_
  refine g_iload_n O dX9_nearest_1 rfl 1 rfl ?_
  refine g_iload_n O dX9_nearest_2 rfl 2 rfl ?_
  refine g_callV1 (As := [vI i1, vI i2]) (rest := []) (b := 0) (ci := 9) O mw_5_15 mw_5_17 mp_3_11 mw_5_18 mw_1_10 hd_X9_isNode rfl ⟨_, _, rfl⟩ rfl dX9_nearest_3 (ct_X9_isNode i1 i2 s) (by rw [hfr]; decide) (by rw [hlo]; decide) (Nat.le_of_ble_eq_true rfl) (fun v1 s2 => ?_)
  refine g_if_ne (tgt := 11) O dX9_nearest_6 (by decide) ?_ ?_
  · refine g_aload_n O dX9_nearest_11 rfl 0 rfl ?_
    refine g_callV1 (As := []) (rest := []) (b := 0) (ci := 9) O mw_5_60 mw_5_62 mp_4_2 mw_5_63 mw_1_10 hd_X9_areBoth rfl ⟨_, _, rfl⟩ rfl dX9_nearest_12 (ct_X9_areBoth  s2) (by rw [hfr]; decide) (by rw [hlo]; decide) (Nat.le_of_ble_eq_true rfl) (fun v3 s4 => ?_)
    refine g_if_ne (tgt := 21) O dX9_nearest_15 (by decide) ?_ ?_
    · refine g_aload_n O dX9_nearest_21 rfl 0 rfl ?_
      refine g_callV1 (As := []) (rest := []) (b := 0) (ci := 9) O mw_5_64 mw_5_66 mp_4_3 mw_5_67 mw_1_10 hd_X9_leastOf rfl ⟨_, _, rfl⟩ rfl dX9_nearest_22 (ct_X9_leastOf  s4) (by rw [hfr]; decide) (by rw [hlo]; decide) (Nat.le_of_ble_eq_true rfl) (fun v5 s6 => ?_)
      refine g_pop O dX9_nearest_25 rfl ?_
      refine g_bipush O dX9_nearest_26 (by decide +kernel) ?_
      refine g_istore_n (lv2 := [(3, vI (-9)), (0, vR 0), (1, vI i1), (2, vI i2)]) O dX9_nearest_28 rfl (by decide) rfl ?_
      refine g_ldc (x := 100000) O dX9_nearest_29 mw_5_107 (by decide +kernel) ?_
      refine g_istore (lv2 := [(4, vI 100000), (3, vI (-9)), (0, vR 0), (1, vI i1), (2, vI i2)]) O dX9_nearest_31 (by decide) rfl ?_
      refine g_iconst O dX9_nearest_33 ?_
      refine g_istore (lv2 := [(5, vI 0), (4, vI 100000), (3, vI (-9)), (0, vR 0), (1, vI i1), (2, vI i2)]) O dX9_nearest_34 (by decide) rfl ?_
      refine g_pick [3, 4, 5, 2, 1, 0] rfl ?_
      refine lt_X9_nearest_36 O hrt hfr hlo  (fun x7 x8 s9 => ?_) FU (-9) 100000 0 s6
      refine g_aload_n O dX9_nearest_110 rfl 0 rfl ?_
      refine g_iload O dX9_nearest_111 2 rfl ?_
      refine g_iload_n O dX9_nearest_113 rfl 1 rfl ?_
      refine g_callV1 (As := [vI x8, vI x7]) (rest := []) (b := 0) (ci := 9) O mw_4_152 mw_4_154 mp_2_15 mw_4_155 mw_1_10 hd_X9_tells rfl ⟨_, _, rfl⟩ rfl dX9_nearest_114 (ct_X9_tells x8 x7 s9) (by rw [hfr]; decide) (by rw [hlo]; decide) (Nat.le_of_ble_eq_true rfl) (fun v10 s11 => ?_)
      exact g_iret O hrt rfl dX9_nearest_117
    refine g_bipush O dX9_nearest_18 (by decide +kernel) ?_
    exact g_iret O hrt rfl dX9_nearest_20
  refine g_iconst O dX9_nearest_9 ?_
  exact g_iret O hrt rfl dX9_nearest_10
def X9_would (i1 : Int) (i2 : Int) (i3 : Int) (s : St) : Rs := cl (X9_isNode i1 i2 s) (fun v1 s2 => cEq v1 0 (some ((-1), s2)) (cl (X9_isMark i3 s2) (fun v3 s4 => cEq v3 0 (some ((-1), s4)) (cl (X9_areBoth s4) (fun v5 s6 => cEq v5 0 (some ((-4), s6)) (rd s6 5 53 (((25 * i1) + 1) + i2) (fun v7 => wr s6 5 53 (((25 * i1) + 1) + i2) i3 (fun s8 => cl (X9_leastOf s8) (fun v9 s10 => wr s10 5 53 (((25 * i1) + 1) + i2) v7 (fun s11 => cl (X9_tells v9 1 s11) (fun v12 s13 => some (v12, s13))))))))))))
theorem hd_X9_would : yX9_would.cls ≠ "java/lang/invoke/MethodHandle" ∧ yX9_would.cls ≠ "java/lang/invoke/VarHandle" ∧ (parseMethodDescriptor yX9_would.desc).map (fun d => d.parameters.length) = some 3 := by decide +kernel
set_option maxRecDepth 20000 in
set_option maxHeartbeats 4000000 in
theorem ct_X9_would  (i1 : Int) (i2 : Int) (i3 : Int) (s : St) : Ctr LM yX9_would cX9_would 7 (Option.some .int) 1 5 111 [vR 0, vI i1, vI i2, vI i3] s (X9_would i1 i2 i3 s) := by
  refine Ctr.of (by decide +kernel) (fun ρ => Nat.le_of_ble_eq_true rfl) (lv := [(0, vR 0), (1, vI i1), (2, vI i2), (3, vI i3)]) (fun ρ => rfl) (fun K X O hrt hfr hlo => ?_)
  unfold X9_would
  refine g_aload_n O dX9_would_0 rfl 0 rfl ?_
  refine g_iload_n O dX9_would_1 rfl 1 rfl ?_
  refine g_iload_n O dX9_would_2 rfl 2 rfl ?_
  refine g_callV1 (As := [vI i1, vI i2]) (rest := []) (b := 0) (ci := 9) O mw_5_15 mw_5_17 mp_3_11 mw_5_18 mw_1_10 hd_X9_isNode rfl ⟨_, _, rfl⟩ rfl dX9_would_3 (ct_X9_isNode i1 i2 s) (by rw [hfr]; decide) (by rw [hlo]; decide) (Nat.le_of_ble_eq_true rfl) (fun v1 s2 => ?_)
  refine g_if_eq (tgt := 16) O dX9_would_6 (by decide) ?_ ?_
  · refine g_iconst O dX9_would_16 ?_
    exact g_iret O hrt rfl dX9_would_17
  refine g_iload_n O dX9_would_9 rfl 3 rfl ?_
  refine g_callS1 (As := [vI i3]) (rest := []) O mw_4_195 mw_4_196 mw_4_197 mw_1_10 hd_X9_isMark rfl dX9_would_10 (ct_X9_isMark i3 s2) (by rw [hfr]; decide) (by rw [hlo]; decide) (Nat.le_of_ble_eq_true rfl) (fun v3 s4 => ?_)
  refine g_if_ne (tgt := 18) O dX9_would_13 (by decide) ?_ ?_
  · refine g_aload_n O dX9_would_18 rfl 0 rfl ?_
    refine g_callV1 (As := []) (rest := []) (b := 0) (ci := 9) O mw_5_60 mw_5_62 mp_4_2 mw_5_63 mw_1_10 hd_X9_areBoth rfl ⟨_, _, rfl⟩ rfl dX9_would_19 (ct_X9_areBoth  s4) (by rw [hfr]; decide) (by rw [hlo]; decide) (Nat.le_of_ble_eq_true rfl) (fun v5 s6 => ?_)
    refine g_if_ne (tgt := 28) O dX9_would_22 (by decide) ?_ ?_
    · refine g_bipush O dX9_would_28 (by decide +kernel) ?_
      refine g_iload_n O dX9_would_30 rfl 1 rfl ?_
      refine g_imul O dX9_would_31 ?_
      refine g_iconst O dX9_would_32 ?_
      refine g_iadd O dX9_would_33 ?_
      refine g_iload_n O dX9_would_34 rfl 2 rfl ?_
      refine g_iadd O dX9_would_35 ?_
      refine g_istore (lv2 := [(4, vI (((25 * i1) + 1) + i2)), (0, vR 0), (1, vI i1), (2, vI i2), (3, vI i3)]) O dX9_would_36 (by decide) rfl ?_
      refine g_aload_n O dX9_would_38 rfl 1 rfl ?_
      refine g_getR O fw_9_22 rfl dX9_would_39 rfl ?_
      refine g_iload O dX9_would_42 0 rfl ?_
      refine g_iald O rfl (by decide) dX9_would_44 (fun v7 => ?_)
      refine g_istore (lv2 := [(5, vI v7), (4, vI (((25 * i1) + 1) + i2)), (0, vR 0), (1, vI i1), (2, vI i2), (3, vI i3)]) O dX9_would_45 (by decide) rfl ?_
      refine g_aload_n O dX9_would_47 rfl 2 rfl ?_
      refine g_getR O fw_9_22 rfl dX9_would_48 rfl ?_
      refine g_iload O dX9_would_51 1 rfl ?_
      refine g_iload_n O dX9_would_53 rfl 5 rfl ?_
      refine g_iast O rfl (by decide) dX9_would_54 (fun s8 => ?_)
      refine g_aload_n O dX9_would_55 rfl 2 rfl ?_
      refine g_callV1 (As := []) (rest := []) (b := 0) (ci := 9) O mw_5_64 mw_5_66 mp_4_3 mw_5_67 mw_1_10 hd_X9_leastOf rfl ⟨_, _, rfl⟩ rfl dX9_would_56 (ct_X9_leastOf  s8) (by rw [hfr]; decide) (by rw [hlo]; decide) (Nat.le_of_ble_eq_true rfl) (fun v9 s10 => ?_)
      refine g_istore (lv2 := [(6, vI v9), (5, vI v7), (4, vI (((25 * i1) + 1) + i2)), (0, vR 0), (1, vI i1), (2, vI i2), (3, vI i3)]) O dX9_would_59 (by decide) rfl ?_
      refine g_aload_n O dX9_would_61 rfl 3 rfl ?_
      refine g_getR O fw_9_22 rfl dX9_would_62 rfl ?_
      refine g_iload O dX9_would_65 2 rfl ?_
      refine g_iload O dX9_would_67 1 rfl ?_
      refine g_iast O rfl (by decide) dX9_would_69 (fun s11 => ?_)
      refine g_aload_n O dX9_would_70 rfl 3 rfl ?_
      refine g_iload O dX9_would_71 0 rfl ?_
      refine g_iconst O dX9_would_73 ?_
      refine g_callV1 (As := [vI v9, vI 1]) (rest := []) (b := 0) (ci := 9) O mw_4_152 mw_4_154 mp_2_15 mw_4_155 mw_1_10 hd_X9_tells rfl ⟨_, _, rfl⟩ rfl dX9_would_74 (ct_X9_tells v9 1 s11) (by rw [hfr]; decide) (by rw [hlo]; decide) (Nat.le_of_ble_eq_true rfl) (fun v12 s13 => ?_)
      exact g_iret O hrt rfl dX9_would_77
    refine g_bipush O dX9_would_25 (by decide +kernel) ?_
    exact g_iret O hrt rfl dX9_would_27
  refine g_iconst O dX9_would_16 ?_
  exact g_iret O hrt rfl dX9_would_17
def X9_notes  (s : St) : Rs := cl (X9_bring 5 0 6 (53 * (s 0 6)) 53 s) (fun _ s2 => put s2 0 6 ((s2 0 6) + 1) (fun s3 => some (0, s3)))
theorem hd_X9_notes : yX9_notes.cls ≠ "java/lang/invoke/MethodHandle" ∧ yX9_notes.cls ≠ "java/lang/invoke/VarHandle" ∧ (parseMethodDescriptor yX9_notes.desc).map (fun d => d.parameters.length) = some 0 := by decide +kernel
set_option maxRecDepth 20000 in
set_option maxHeartbeats 4000000 in
theorem ct_X9_notes   (s : St) : Ctr LM yX9_notes cX9_notes 1 none 0 1 25 [vR 0] s (X9_notes s) := by
  refine Ctr.of (by decide +kernel) (fun ρ => Nat.le_of_ble_eq_true rfl) (lv := [(0, vR 0)]) (fun ρ => rfl) (fun K X O hrt hfr hlo => ?_)
  unfold X9_notes
  refine g_aload_n O dX9_notes_0 rfl 0 rfl ?_
  refine g_getR O fw_9_22 rfl dX9_notes_1 rfl ?_
  refine g_iconst O dX9_notes_4 ?_
  refine g_aload_n O dX9_notes_5 rfl 0 rfl ?_
  refine g_getR O fw_9_25 rfl dX9_notes_6 rfl ?_
  refine g_bipush O dX9_notes_9 (by decide +kernel) ?_
  refine g_aload_n O dX9_notes_11 rfl 0 rfl ?_
  refine g_getI O fw_9_144 rfl dX9_notes_12 rfl ?_
  refine g_imul O dX9_notes_15 ?_
  refine g_bipush O dX9_notes_16 (by decide +kernel) ?_
  refine g_callS0 (As := [vR 5, vI 0, vR 6, vI (53 * (s 0 6)), vI 53]) (rest := []) O mw_4_209 mw_4_210 mw_4_211 mw_1_10 hd_X9_bring rfl dX9_notes_18 (ct_X9_bring ⟨_, _, rfl⟩ ⟨_, _, rfl⟩ 0 (53 * (s 0 6)) 53 s) (by rw [hfr]; decide) (by rw [hlo]; decide) (Nat.le_of_ble_eq_true rfl) (fun _ s2 => ?_)
  refine g_aload_n O dX9_notes_21 rfl 0 rfl ?_
  refine g_dup O dX9_notes_22 rfl ?_
  refine g_getI O fw_9_144 rfl dX9_notes_23 rfl ?_
  refine g_iconst O dX9_notes_26 ?_
  refine g_iadd O dX9_notes_27 ?_
  refine g_putI O fw_9_144 rfl dX9_notes_28 rfl rfl rfl (fun s3 => ?_)
  exact g_vret O hrt dX9_notes_31
def X9_change (i1 : Int) (i2 : Int) (i3 : Int) (s : St) : Rs := cl (X9_isNode i1 i2 s) (fun v1 s2 => cEq v1 0 (some ((-1), s2)) (cl (X9_isMark i3 s2) (fun v3 s4 => cEq v3 0 (some ((-1), s4)) (cl (X9_codeOf i1 i2 s4) (fun v5 s6 => cEq v5 i3 (some ((-4), s6)) (cEq (s6 0 6) 40 (some ((-2), s6)) (cl (X9_notes s6) (fun _ s8 => wr s8 5 53 (((25 * i1) + 1) + i2) i3 (fun s9 => some (v5, s9))))))))))
theorem hd_X9_change : yX9_change.cls ≠ "java/lang/invoke/MethodHandle" ∧ yX9_change.cls ≠ "java/lang/invoke/VarHandle" ∧ (parseMethodDescriptor yX9_change.desc).map (fun d => d.parameters.length) = some 3 := by decide +kernel
set_option maxRecDepth 20000 in
set_option maxHeartbeats 4000000 in
theorem ct_X9_change  (i1 : Int) (i2 : Int) (i3 : Int) (s : St) : Ctr LM yX9_change cX9_change 5 (Option.some .int) 1 3 64 [vR 0, vI i1, vI i2, vI i3] s (X9_change i1 i2 i3 s) := by
  refine Ctr.of (by decide +kernel) (fun ρ => Nat.le_of_ble_eq_true rfl) (lv := [(0, vR 0), (1, vI i1), (2, vI i2), (3, vI i3)]) (fun ρ => rfl) (fun K X O hrt hfr hlo => ?_)
  unfold X9_change
  refine g_aload_n O dX9_change_0 rfl 0 rfl ?_
  refine g_iload_n O dX9_change_1 rfl 1 rfl ?_
  refine g_iload_n O dX9_change_2 rfl 2 rfl ?_
  refine g_callV1 (As := [vI i1, vI i2]) (rest := []) (b := 0) (ci := 9) O mw_5_15 mw_5_17 mp_3_11 mw_5_18 mw_1_10 hd_X9_isNode rfl ⟨_, _, rfl⟩ rfl dX9_change_3 (ct_X9_isNode i1 i2 s) (by rw [hfr]; decide) (by rw [hlo]; decide) (Nat.le_of_ble_eq_true rfl) (fun v1 s2 => ?_)
  refine g_if_eq (tgt := 16) O dX9_change_6 (by decide) ?_ ?_
  · refine g_iconst O dX9_change_16 ?_
    exact g_iret O hrt rfl dX9_change_17
  refine g_iload_n O dX9_change_9 rfl 3 rfl ?_
  refine g_callS1 (As := [vI i3]) (rest := []) O mw_4_195 mw_4_196 mw_4_197 mw_1_10 hd_X9_isMark rfl dX9_change_10 (ct_X9_isMark i3 s2) (by rw [hfr]; decide) (by rw [hlo]; decide) (Nat.le_of_ble_eq_true rfl) (fun v3 s4 => ?_)
  refine g_if_ne (tgt := 18) O dX9_change_13 (by decide) ?_ ?_
  · refine g_aload_n O dX9_change_18 rfl 0 rfl ?_
    refine g_iload_n O dX9_change_19 rfl 1 rfl ?_
    refine g_iload_n O dX9_change_20 rfl 2 rfl ?_
    refine g_callV1 (As := [vI i1, vI i2]) (rest := []) (b := 0) (ci := 9) O mw_4_220 mw_4_222 mp_3_4 mw_4_223 mw_1_10 hd_X9_codeOf rfl ⟨_, _, rfl⟩ rfl dX9_change_21 (ct_X9_codeOf i1 i2 s4) (by rw [hfr]; decide) (by rw [hlo]; decide) (Nat.le_of_ble_eq_true rfl) (fun v5 s6 => ?_)
    refine g_istore (lv2 := [(4, vI v5), (0, vR 0), (1, vI i1), (2, vI i2), (3, vI i3)]) O dX9_change_24 (by decide) rfl ?_
    refine g_iload O dX9_change_26 0 rfl ?_
    refine g_iload_n O dX9_change_28 rfl 4 rfl ?_
    refine g_icmp_ne (tgt := 35) O dX9_change_29 (by decide) ?_ ?_
    · refine g_aload_n O dX9_change_35 rfl 1 rfl ?_
      refine g_getI O fw_9_144 rfl dX9_change_36 rfl ?_
      refine g_bipush O dX9_change_39 (by decide +kernel) ?_
      refine g_icmp_ne (tgt := 47) O dX9_change_41 (by decide) ?_ ?_
      · refine g_aload_n O dX9_change_47 rfl 1 rfl ?_
        refine g_callV0 (As := []) (rest := []) (b := 0) (ci := 9) O mw_5_148 mw_5_150 mp_4_15 mw_5_151 mw_1_10 hd_X9_notes rfl ⟨_, _, rfl⟩ rfl dX9_change_48 (ct_X9_notes  s6) (by rw [hfr]; decide) (by rw [hlo]; decide) (Nat.le_of_ble_eq_true rfl) (fun _ s8 => ?_)
        refine g_aload_n O dX9_change_51 rfl 1 rfl ?_
        refine g_getR O fw_9_22 rfl dX9_change_52 rfl ?_
        refine g_bipush O dX9_change_55 (by decide +kernel) ?_
        refine g_iload_n O dX9_change_57 rfl 2 rfl ?_
        refine g_imul O dX9_change_58 ?_
        refine g_iconst O dX9_change_59 ?_
        refine g_iadd O dX9_change_60 ?_
        refine g_iload_n O dX9_change_61 rfl 3 rfl ?_
        refine g_iadd O dX9_change_62 ?_
        refine g_iload_n O dX9_change_63 rfl 4 rfl ?_
        refine g_iast O rfl (by decide) dX9_change_64 (fun s9 => ?_)
        refine g_iload O dX9_change_65 0 rfl ?_
        exact g_iret O hrt rfl dX9_change_67
      refine g_bipush O dX9_change_44 (by decide +kernel) ?_
      exact g_iret O hrt rfl dX9_change_46
    refine g_bipush O dX9_change_32 (by decide +kernel) ?_
    exact g_iret O hrt rfl dX9_change_34
  refine g_iconst O dX9_change_16 ?_
  exact g_iret O hrt rfl dX9_change_17
def X9_mayCut (i1 : Int) (i2 : Int) (s : St) : Rs := cl (X9_many i1 s) (fun v1 s2 => cLt i2 (v1 - 1) (some (1, s2)) (cl (X9_rightBeneath i1 i2 s2) (fun v3 s4 => cEq v3 1 (some (1, s4)) (some (0, s4)))))
theorem hd_X9_mayCut : yX9_mayCut.cls ≠ "java/lang/invoke/MethodHandle" ∧ yX9_mayCut.cls ≠ "java/lang/invoke/VarHandle" ∧ (parseMethodDescriptor yX9_mayCut.desc).map (fun d => d.parameters.length) = some 2 := by decide +kernel
set_option maxRecDepth 20000 in
set_option maxHeartbeats 4000000 in
theorem ct_X9_mayCut  (i1 : Int) (i2 : Int) (s : St) : Ctr LM yX9_mayCut cX9_mayCut 3 (Option.some .boolean) 1 3 69 [vR 0, vI i1, vI i2] s (X9_mayCut i1 i2 s) := by
  refine Ctr.of (by decide +kernel) (fun ρ => Nat.le_of_ble_eq_true rfl) (lv := [(0, vR 0), (1, vI i1), (2, vI i2)]) (fun ρ => rfl) (fun K X O hrt hfr hlo => ?_)
  unfold X9_mayCut
  refine g_iload_n O dX9_mayCut_0 rfl 2 rfl ?_
  refine g_aload_n O dX9_mayCut_1 rfl 0 rfl ?_
  refine g_iload_n O dX9_mayCut_2 rfl 1 rfl ?_
  refine g_callV1 (As := [vI i1]) (rest := [vI i2]) (b := 0) (ci := 9) O mw_4_216 mw_4_218 mp_3_3 mw_4_219 mw_1_10 hd_X9_many rfl ⟨_, _, rfl⟩ rfl dX9_mayCut_3 (ct_X9_many i1 s) (by rw [hfr]; decide) (by rw [hlo]; decide) (Nat.le_of_ble_eq_true rfl) (fun v1 s2 => ?_)
  refine g_iconst O dX9_mayCut_6 ?_
  refine g_isub O dX9_mayCut_7 ?_
  refine g_icmp_lt (tgt := 21) O dX9_mayCut_8 (by decide) ?_ ?_
  · refine g_iconst O dX9_mayCut_21 ?_
    refine g_goto (tgt := 26) O dX9_mayCut_22 (by decide) ?_
    exact g_iret O hrt (by decide +kernel) dX9_mayCut_26
  refine g_aload_n O dX9_mayCut_11 rfl 0 rfl ?_
  refine g_iload_n O dX9_mayCut_12 rfl 1 rfl ?_
  refine g_iload_n O dX9_mayCut_13 rfl 2 rfl ?_
  refine g_callV1 (As := [vI i1, vI i2]) (rest := []) (b := 0) (ci := 9) O mw_5_22 mw_5_24 mp_3_12 mw_5_25 mw_1_10 hd_X9_rightBeneath rfl ⟨_, _, rfl⟩ rfl dX9_mayCut_14 (ct_X9_rightBeneath i1 i2 s2) (by rw [hfr]; decide) (by rw [hlo]; decide) (Nat.le_of_ble_eq_true rfl) (fun v3 s4 => ?_)
  refine g_iconst O dX9_mayCut_17 ?_
  refine g_icmp_ne (tgt := 25) O dX9_mayCut_18 (by decide) ?_ ?_
  · refine g_iconst O dX9_mayCut_25 ?_
    exact g_iret O hrt (by decide +kernel) dX9_mayCut_26
  refine g_iconst O dX9_mayCut_21 ?_
  refine g_goto (tgt := 26) O dX9_mayCut_22 (by decide) ?_
  exact g_iret O hrt (by decide +kernel) dX9_mayCut_26
def X9_cuts_18 (i2 : Int) (i3 : Int) (k : St → Rs) : Nat → Int → St → Rs
  | 0, _, _ => none
  | n + 1, i4, s => rd s 5 53 i3 (fun v1 => cLt i4 v1 (jn (fun (x2 : Int) (s3 : St) => rd s3 5 53 ((i3 + 13) + x2) (fun v5 => rd s3 5 53 ((i3 + 1) + x2) (fun v6 => wr s3 5 53 ((i3 + 1) + i4) v6 (fun s7 => cLt i2 v5 (wr s7 5 53 ((i3 + 13) + i4) (v5 - 1) (fun s9 => X9_cuts_18 i2 i3 k n (i4 + 1) s9)) (wr s7 5 53 ((i3 + 13) + i4) v5 (fun s8 => X9_cuts_18 i2 i3 k n (i4 + 1) s8)))))) (fun k4 => cLt i4 i2 (k4 i4 s) (k4 (i4 + 1) s))) (k s))
def X9_cuts (i1 : Int) (i2 : Int) (s : St) : Rs := rd s 5 53 (25 * i1) (fun v1 => wr s 5 53 (25 * i1) (v1 - 1) (fun s2 => X9_cuts_18 i2 (25 * i1) (fun s3 => some (0, s3)) FU 0 s2))
set_option maxRecDepth 20000 in
set_option maxHeartbeats 4000000 in
theorem lt_X9_cuts_18 {K : Cx} {X : Wx} (O : OKx LM K X yX9_cuts.cls cX9_cuts 7) (hrt : (kMe K).sig.returnType = none) (hfr : (kR K).frames = 0) (hlo : (kR K).locals = 0) {i2 : Int} {i3 : Int} {k : St → Rs}  (hk : ∀  (s : St), GX LM K X 7 0 115 [] [] s (k s)) : ∀ (n : Nat) (i4 : Int) (s : St), GX LM K X 7 0 18 [(0, vR 0), (2, vI i2), (3, vI i3), (4, vI i4)] [] s (X9_cuts_18 i2 i3 k n i4 s) := by
  intro n
  induction n with
  | zero => intro i4 s; exact GX.none
  | succ n ih =>
    intro i4 s
    rw [X9_cuts_18]
    refine g_iload O dX9_cuts_18 3 rfl ?_
    refine g_aload_n O dX9_cuts_20 rfl 0 rfl ?_
    refine g_getR O fw_9_22 rfl dX9_cuts_21 rfl ?_
    refine g_iload_n O dX9_cuts_24 rfl 2 rfl ?_
    refine g_iald O rfl (by decide) dX9_cuts_25 (fun v1 => ?_)
    refine g_icmp_ge (tgt := 115) O dX9_cuts_26 (by decide) ?_ ?_
    · refine g_pick [] rfl ?_
      exact hk s
    refine g_iload O dX9_cuts_29 3 rfl ?_
    refine g_iload_n O dX9_cuts_31 rfl 1 rfl ?_
    refine g_jn (fun (j : Int → St → Rs) => ∀ (x2 : Int) (s3 : St), GX LM K X 7 0 44 [(0, vR 0), (2, vI i2), (3, vI i3), (4, vI i4)] [vI x2] s3 (j x2 s3)) ?_ ?_
    · intro x2 s3
      refine g_istore (lv2 := [(5, vI x2), (0, vR 0), (2, vI i2), (3, vI i3), (4, vI i4)]) O dX9_cuts_44 (by decide) rfl ?_
      refine g_aload_n O dX9_cuts_46 rfl 1 rfl ?_
      refine g_getR O fw_9_22 rfl dX9_cuts_47 rfl ?_
      refine g_iload_n O dX9_cuts_50 rfl 3 rfl ?_
      refine g_bipush O dX9_cuts_51 (by decide +kernel) ?_
      refine g_iadd O dX9_cuts_53 ?_
      refine g_iload O dX9_cuts_54 0 rfl ?_
      refine g_iadd O dX9_cuts_56 ?_
      refine g_iald O rfl (by decide) dX9_cuts_57 (fun v5 => ?_)
      refine g_istore (lv2 := [(6, vI v5), (5, vI x2), (0, vR 0), (2, vI i2), (3, vI i3), (4, vI i4)]) O dX9_cuts_58 (by decide) rfl ?_
      refine g_aload_n O dX9_cuts_60 rfl 2 rfl ?_
      refine g_getR O fw_9_22 rfl dX9_cuts_61 rfl ?_
      refine g_iload_n O dX9_cuts_64 rfl 4 rfl ?_
      refine g_iconst O dX9_cuts_65 ?_
      refine g_iadd O dX9_cuts_66 ?_
      refine g_iload O dX9_cuts_67 5 rfl ?_
      refine g_iadd O dX9_cuts_69 ?_
      refine g_aload_n O dX9_cuts_70 rfl 2 rfl ?_
      refine g_getR O fw_9_22 rfl dX9_cuts_71 rfl ?_
      refine g_iload_n O dX9_cuts_74 rfl 4 rfl ?_
      refine g_iconst O dX9_cuts_75 ?_
      refine g_iadd O dX9_cuts_76 ?_
      refine g_iload O dX9_cuts_77 1 rfl ?_
      refine g_iadd O dX9_cuts_79 ?_
      refine g_iald O rfl (by decide) dX9_cuts_80 (fun v6 => ?_)
      refine g_iast O rfl (by decide) dX9_cuts_81 (fun s7 => ?_)
      refine g_aload_n O dX9_cuts_82 rfl 2 rfl ?_
      refine g_getR O fw_9_22 rfl dX9_cuts_83 rfl ?_
      refine g_iload_n O dX9_cuts_86 rfl 4 rfl ?_
      refine g_bipush O dX9_cuts_87 (by decide +kernel) ?_
      refine g_iadd O dX9_cuts_89 ?_
      refine g_iload O dX9_cuts_90 5 rfl ?_
      refine g_iadd O dX9_cuts_92 ?_
      refine g_iload O dX9_cuts_93 0 rfl ?_
      refine g_iload_n O dX9_cuts_95 rfl 3 rfl ?_
      refine g_icmp_le (tgt := 106) O dX9_cuts_96 (by decide) ?_ ?_
      · refine g_iload O dX9_cuts_106 0 rfl ?_
        refine g_iast O rfl (by decide) dX9_cuts_108 (fun s8 => ?_)
        refine g_iinc (lv2 := [(4, vI (i4 + 1)), (6, vI v5), (5, vI x2), (0, vR 0), (2, vI i2), (3, vI i3)]) O dX9_cuts_109 5 rfl (by decide) rfl ?_
        refine g_goto (tgt := 18) O dX9_cuts_112 (by decide) ?_
        refine g_pick [3, 4, 5, 0] rfl ?_
        exact ih (i4 + 1) s8
      refine g_iload O dX9_cuts_99 0 rfl ?_
      refine g_iconst O dX9_cuts_101 ?_
      refine g_isub O dX9_cuts_102 ?_
      refine g_goto (tgt := 108) O dX9_cuts_103 (by decide) ?_
      refine g_iast O rfl (by decide) dX9_cuts_108 (fun s9 => ?_)
      refine g_iinc (lv2 := [(4, vI (i4 + 1)), (6, vI v5), (5, vI x2), (0, vR 0), (2, vI i2), (3, vI i3)]) O dX9_cuts_109 5 rfl (by decide) rfl ?_
      refine g_goto (tgt := 18) O dX9_cuts_112 (by decide) ?_
      refine g_pick [3, 4, 5, 0] rfl ?_
      exact ih (i4 + 1) s9
    intro k4 hk4
    refine g_icmp_ge (tgt := 40) O dX9_cuts_32 (by decide) ?_ ?_
    · refine g_iload O dX9_cuts_40 3 rfl ?_
      refine g_iconst O dX9_cuts_42 ?_
      refine g_iadd O dX9_cuts_43 ?_
      exact hk4 (i4 + 1) s
    refine g_iload O dX9_cuts_35 3 rfl ?_
    refine g_goto (tgt := 44) O dX9_cuts_37 (by decide) ?_
    exact hk4 i4 s
theorem hd_X9_cuts : yX9_cuts.cls ≠ "java/lang/invoke/MethodHandle" ∧ yX9_cuts.cls ≠ "java/lang/invoke/VarHandle" ∧ (parseMethodDescriptor yX9_cuts.desc).map (fun d => d.parameters.length) = some 2 := by decide +kernel
set_option maxRecDepth 20000 in
set_option maxHeartbeats 4000000 in
theorem ct_X9_cuts  (i1 : Int) (i2 : Int) (s : St) : Ctr LM yX9_cuts cX9_cuts 7 none 0 0 0 [vR 0, vI i1, vI i2] s (X9_cuts i1 i2 s) := by
  refine Ctr.of (by decide +kernel) (fun ρ => Nat.le_of_ble_eq_true rfl) (lv := [(0, vR 0), (1, vI i1), (2, vI i2)]) (fun ρ => rfl) (fun K X O hrt hfr hlo => ?_)
  unfold X9_cuts
  refine g_bipush O dX9_cuts_0 (by decide +kernel) ?_
  refine g_iload_n O dX9_cuts_2 rfl 1 rfl ?_
  refine g_imul O dX9_cuts_3 ?_
  refine g_istore_n (lv2 := [(3, vI (25 * i1)), (0, vR 0), (1, vI i1), (2, vI i2)]) O dX9_cuts_4 rfl (by decide) rfl ?_
  refine g_aload_n O dX9_cuts_5 rfl 1 rfl ?_
  refine g_getR O fw_9_22 rfl dX9_cuts_6 rfl ?_
  refine g_iload_n O dX9_cuts_9 rfl 0 rfl ?_
  refine g_dup2 O dX9_cuts_10 rfl rfl ?_
  refine g_iald O rfl (by decide) dX9_cuts_11 (fun v1 => ?_)
  refine g_iconst O dX9_cuts_12 ?_
  refine g_isub O dX9_cuts_13 ?_
  refine g_iast O rfl (by decide) dX9_cuts_14 (fun s2 => ?_)
  refine g_iconst O dX9_cuts_15 ?_
  refine g_istore (lv2 := [(4, vI 0), (3, vI (25 * i1)), (0, vR 0), (1, vI i1), (2, vI i2)]) O dX9_cuts_16 (by decide) rfl ?_
  refine g_pick [2, 4, 1, 0] rfl ?_
  refine lt_X9_cuts_18 O hrt hfr hlo  (fun s3 => ?_) FU 0 s2
  exact g_vret O hrt dX9_cuts_115
def X9_cut (i1 : Int) (i2 : Int) (s : St) : Rs := cl (X9_isNode i1 i2 s) (fun v1 s2 => cEq v1 0 (some ((-1), s2)) (cl (X9_mayCut i1 i2 s2) (fun v3 s4 => cEq v3 0 (some ((-4), s4)) (cEq (s4 0 6) 40 (some ((-2), s4)) (cl (X9_notes s4) (fun _ s6 => cl (X9_cuts i1 i2 s6) (fun _ s8 => cl (X9_many i1 s8) (fun v9 s10 => some (v9, s10)))))))))
theorem hd_X9_cut : yX9_cut.cls ≠ "java/lang/invoke/MethodHandle" ∧ yX9_cut.cls ≠ "java/lang/invoke/VarHandle" ∧ (parseMethodDescriptor yX9_cut.desc).map (fun d => d.parameters.length) = some 2 := by decide +kernel
set_option maxRecDepth 20000 in
set_option maxHeartbeats 4000000 in
theorem ct_X9_cut  (i1 : Int) (i2 : Int) (s : St) : Ctr LM yX9_cut cX9_cut 3 (Option.some .int) 1 4 91 [vR 0, vI i1, vI i2] s (X9_cut i1 i2 s) := by
  refine Ctr.of (by decide +kernel) (fun ρ => Nat.le_of_ble_eq_true rfl) (lv := [(0, vR 0), (1, vI i1), (2, vI i2)]) (fun ρ => rfl) (fun K X O hrt hfr hlo => ?_)
  unfold X9_cut
  refine g_aload_n O dX9_cut_0 rfl 0 rfl ?_
  refine g_iload_n O dX9_cut_1 rfl 1 rfl ?_
  refine g_iload_n O dX9_cut_2 rfl 2 rfl ?_
  refine g_callV1 (As := [vI i1, vI i2]) (rest := []) (b := 0) (ci := 9) O mw_5_15 mw_5_17 mp_3_11 mw_5_18 mw_1_10 hd_X9_isNode rfl ⟨_, _, rfl⟩ rfl dX9_cut_3 (ct_X9_isNode i1 i2 s) (by rw [hfr]; decide) (by rw [hlo]; decide) (Nat.le_of_ble_eq_true rfl) (fun v1 s2 => ?_)
  refine g_if_ne (tgt := 11) O dX9_cut_6 (by decide) ?_ ?_
  · refine g_aload_n O dX9_cut_11 rfl 0 rfl ?_
    refine g_iload_n O dX9_cut_12 rfl 1 rfl ?_
    refine g_iload_n O dX9_cut_13 rfl 2 rfl ?_
    refine g_callV1 (As := [vI i1, vI i2]) (rest := []) (b := 0) (ci := 9) O mw_5_156 mw_5_158 mp_5_0 mw_5_159 mw_1_10 hd_X9_mayCut rfl ⟨_, _, rfl⟩ rfl dX9_cut_14 (ct_X9_mayCut i1 i2 s2) (by rw [hfr]; decide) (by rw [hlo]; decide) (Nat.le_of_ble_eq_true rfl) (fun v3 s4 => ?_)
    refine g_if_ne (tgt := 23) O dX9_cut_17 (by decide) ?_ ?_
    · refine g_aload_n O dX9_cut_23 rfl 0 rfl ?_
      refine g_getI O fw_9_144 rfl dX9_cut_24 rfl ?_
      refine g_bipush O dX9_cut_27 (by decide +kernel) ?_
      refine g_icmp_ne (tgt := 35) O dX9_cut_29 (by decide) ?_ ?_
      · refine g_aload_n O dX9_cut_35 rfl 0 rfl ?_
        refine g_callV0 (As := []) (rest := []) (b := 0) (ci := 9) O mw_5_148 mw_5_150 mp_4_15 mw_5_151 mw_1_10 hd_X9_notes rfl ⟨_, _, rfl⟩ rfl dX9_cut_36 (ct_X9_notes  s4) (by rw [hfr]; decide) (by rw [hlo]; decide) (Nat.le_of_ble_eq_true rfl) (fun _ s6 => ?_)
        refine g_aload_n O dX9_cut_39 rfl 0 rfl ?_
        refine g_iload_n O dX9_cut_40 rfl 1 rfl ?_
        refine g_iload_n O dX9_cut_41 rfl 2 rfl ?_
        refine g_callV0 (As := [vI i1, vI i2]) (rest := []) (b := 0) (ci := 9) O mw_5_160 mw_5_162 mp_5_1 mw_5_163 mw_1_10 hd_X9_cuts rfl ⟨_, _, rfl⟩ rfl dX9_cut_42 (ct_X9_cuts i1 i2 s6) (by rw [hfr]; decide) (by rw [hlo]; decide) (Nat.le_of_ble_eq_true rfl) (fun _ s8 => ?_)
        refine g_aload_n O dX9_cut_45 rfl 0 rfl ?_
        refine g_iload_n O dX9_cut_46 rfl 1 rfl ?_
        refine g_callV1 (As := [vI i1]) (rest := []) (b := 0) (ci := 9) O mw_4_216 mw_4_218 mp_3_3 mw_4_219 mw_1_10 hd_X9_many rfl ⟨_, _, rfl⟩ rfl dX9_cut_47 (ct_X9_many i1 s8) (by rw [hfr]; decide) (by rw [hlo]; decide) (Nat.le_of_ble_eq_true rfl) (fun v9 s10 => ?_)
        exact g_iret O hrt rfl dX9_cut_50
      refine g_bipush O dX9_cut_32 (by decide +kernel) ?_
      exact g_iret O hrt rfl dX9_cut_34
    refine g_bipush O dX9_cut_20 (by decide +kernel) ?_
    exact g_iret O hrt rfl dX9_cut_22
  refine g_iconst O dX9_cut_9 ?_
  exact g_iret O hrt rfl dX9_cut_10
def X9_childOf_13 (i1 : Int) (i2 : Int) (i3 : Int) (k : Int → St → Rs) : Nat → Int → Int → St → Rs
  | 0, _, _, _ => none
  | n + 1, i4, i5, s => cLt i4 i3 (cl (X9_above i1 (i5 + 1) s) (fun v1 s2 => cEq v1 i2 (X9_childOf_13 i1 i2 i3 k n (i4 + 1) (i5 + 1) s2) (X9_childOf_13 i1 i2 i3 k n (i4 + 0) (i5 + 1) s2))) (k i5 s)
def X9_childOf (i1 : Int) (i2 : Int) (i3 : Int) (s : St) : Rs := cl (X9_leftOf i1 i2 s) (fun v1 s2 => X9_childOf_13 i1 i2 i3 (fun x3 s4 => some (x3, s4)) FU (-1) (v1 - 1) s2)
set_option maxRecDepth 20000 in
set_option maxHeartbeats 4000000 in
theorem lt_X9_childOf_13 {K : Cx} {X : Wx} (O : OKx LM K X yX9_childOf.cls cX9_childOf 6) (hrt : (kMe K).sig.returnType = (Option.some .int)) (hfr : (kR K).frames = 2) (hlo : (kR K).locals = 45) {i1 : Int} {i2 : Int} {i3 : Int} {k : Int → St → Rs}  (hk : ∀ (i5 : Int) (s : St), GX LM K X 6 1 46 [(5, vI i5)] [] s (k i5 s)) : ∀ (n : Nat) (i4 : Int) (i5 : Int) (s : St), GX LM K X 6 1 13 [(0, vR 0), (1, vI i1), (2, vI i2), (3, vI i3), (4, vI i4), (5, vI i5)] [] s (X9_childOf_13 i1 i2 i3 k n i4 i5 s) := by
  intro n
  induction n with
  | zero => intro i4 i5 s; exact GX.none
  | succ n ih =>
    intro i4 i5 s
    rw [X9_childOf_13]
    refine g_iload O dX9_childOf_13 4 rfl ?_
    refine g_iload_n O dX9_childOf_15 rfl 3 rfl ?_
    refine g_icmp_ge (tgt := 46) O dX9_childOf_16 (by decide) ?_ ?_
    · refine g_pick [5] rfl ?_
      exact hk i5 s
    refine g_iinc (lv2 := [(5, vI (i5 + 1)), (0, vR 0), (1, vI i1), (2, vI i2), (3, vI i3), (4, vI i4)]) O dX9_childOf_19 5 rfl (by decide) rfl ?_
    refine g_iload O dX9_childOf_22 5 rfl ?_
    refine g_aload_n O dX9_childOf_24 rfl 1 rfl ?_
    refine g_iload_n O dX9_childOf_25 rfl 2 rfl ?_
    refine g_iload O dX9_childOf_26 0 rfl ?_
    refine g_callV1 (As := [vI i1, vI (i5 + 1)]) (rest := [vI i4]) (b := 0) (ci := 9) O mw_5_26 mw_5_28 mp_3_13 mw_5_29 mw_1_10 hd_X9_above rfl ⟨_, _, rfl⟩ rfl dX9_childOf_28 (ct_X9_above i1 (i5 + 1) s) (by rw [hfr]; decide) (by rw [hlo]; decide) (Nat.le_of_ble_eq_true rfl) (fun v1 s2 => ?_)
    refine g_iload_n O dX9_childOf_31 rfl 3 rfl ?_
    refine g_icmp_ne (tgt := 39) O dX9_childOf_32 (by decide) ?_ ?_
    · refine g_iconst O dX9_childOf_39 ?_
      refine g_iadd O dX9_childOf_40 ?_
      refine g_istore (lv2 := [(4, vI (i4 + 0)), (5, vI (i5 + 1)), (0, vR 0), (1, vI i1), (2, vI i2), (3, vI i3)]) O dX9_childOf_41 (by decide) rfl ?_
      refine g_goto (tgt := 13) O dX9_childOf_43 (by decide) ?_
      refine g_pick [2, 3, 4, 5, 0, 1] rfl ?_
      exact ih (i4 + 0) (i5 + 1) s2
    refine g_iconst O dX9_childOf_35 ?_
    refine g_goto (tgt := 40) O dX9_childOf_36 (by decide) ?_
    refine g_iadd O dX9_childOf_40 ?_
    refine g_istore (lv2 := [(4, vI (i4 + 1)), (5, vI (i5 + 1)), (0, vR 0), (1, vI i1), (2, vI i2), (3, vI i3)]) O dX9_childOf_41 (by decide) rfl ?_
    refine g_goto (tgt := 13) O dX9_childOf_43 (by decide) ?_
    refine g_pick [2, 3, 4, 5, 0, 1] rfl ?_
    exact ih (i4 + 1) (i5 + 1) s2
theorem hd_X9_childOf : yX9_childOf.cls ≠ "java/lang/invoke/MethodHandle" ∧ yX9_childOf.cls ≠ "java/lang/invoke/VarHandle" ∧ (parseMethodDescriptor yX9_childOf.desc).map (fun d => d.parameters.length) = some 3 := by decide +kernel
set_option maxRecDepth 20000 in
set_option maxHeartbeats 4000000 in
theorem ct_X9_childOf  (i1 : Int) (i2 : Int) (i3 : Int) (s : St) : Ctr LM yX9_childOf cX9_childOf 6 (Option.some .int) 1 2 45 [vR 0, vI i1, vI i2, vI i3] s (X9_childOf i1 i2 i3 s) := by
  refine Ctr.of (by decide +kernel) (fun ρ => Nat.le_of_ble_eq_true rfl) (lv := [(0, vR 0), (1, vI i1), (2, vI i2), (3, vI i3)]) (fun ρ => rfl) (fun K X O hrt hfr hlo => ?_)
  unfold X9_childOf
  refine g_iconst O dX9_childOf_0 ?_
  refine g_istore (lv2 := [(4, vI (-1)), (0, vR 0), (1, vI i1), (2, vI i2), (3, vI i3)]) O dX9_childOf_1 (by decide) rfl ?_
  refine g_aload_n O dX9_childOf_3 rfl 1 rfl ?_
  refine g_iload_n O dX9_childOf_4 rfl 2 rfl ?_
  refine g_iload_n O dX9_childOf_5 rfl 3 rfl ?_
  refine g_callV1 (As := [vI i1, vI i2]) (rest := []) (b := 0) (ci := 9) O mw_4_235 mw_4_237 mp_3_7 mw_4_238 mw_1_10 hd_X9_leftOf rfl ⟨_, _, rfl⟩ rfl dX9_childOf_6 (ct_X9_leftOf i1 i2 s) (by rw [hfr]; decide) (by rw [hlo]; decide) (Nat.le_of_ble_eq_true rfl) (fun v1 s2 => ?_)
  refine g_iconst O dX9_childOf_9 ?_
  refine g_isub O dX9_childOf_10 ?_
  refine g_istore (lv2 := [(5, vI (v1 - 1)), (4, vI (-1)), (0, vR 0), (1, vI i1), (2, vI i2), (3, vI i3)]) O dX9_childOf_11 (by decide) rfl ?_
  refine g_pick [2, 3, 4, 5, 1, 0] rfl ?_
  refine lt_X9_childOf_13 O hrt hfr hlo  (fun x3 s4 => ?_) FU (-1) (v1 - 1) s2
  refine g_iload O dX9_childOf_46 0 rfl ?_
  exact g_iret O hrt rfl dX9_childOf_48
def X9_isBeneath (i1 : Int) (i2 : Int) (i3 : Int) (s : St) : Rs := cl (X9_leftOf i1 i3 s) (fun v1 s2 => cLt i2 v1 (some (0, s2)) (cLt i3 i2 (some (0, s2)) (some (1, s2))))
theorem hd_X9_isBeneath : yX9_isBeneath.cls ≠ "java/lang/invoke/MethodHandle" ∧ yX9_isBeneath.cls ≠ "java/lang/invoke/VarHandle" ∧ (parseMethodDescriptor yX9_isBeneath.desc).map (fun d => d.parameters.length) = some 3 := by decide +kernel
set_option maxRecDepth 20000 in
set_option maxHeartbeats 4000000 in
theorem ct_X9_isBeneath  (i1 : Int) (i2 : Int) (i3 : Int) (s : St) : Ctr LM yX9_isBeneath cX9_isBeneath 4 (Option.some .boolean) 1 1 22 [vR 0, vI i1, vI i2, vI i3] s (X9_isBeneath i1 i2 i3 s) := by
  refine Ctr.of (by decide +kernel) (fun ρ => Nat.le_of_ble_eq_true rfl) (lv := [(0, vR 0), (1, vI i1), (2, vI i2), (3, vI i3)]) (fun ρ => rfl) (fun K X O hrt hfr hlo => ?_)
  unfold X9_isBeneath
  refine g_iload_n O dX9_isBeneath_0 rfl 2 rfl ?_
  refine g_aload_n O dX9_isBeneath_1 rfl 0 rfl ?_
  refine g_iload_n O dX9_isBeneath_2 rfl 1 rfl ?_
  refine g_iload_n O dX9_isBeneath_3 rfl 3 rfl ?_
  refine g_callV1 (As := [vI i1, vI i3]) (rest := [vI i2]) (b := 0) (ci := 9) O mw_4_235 mw_4_237 mp_3_7 mw_4_238 mw_1_10 hd_X9_leftOf rfl ⟨_, _, rfl⟩ rfl dX9_isBeneath_4 (ct_X9_leftOf i1 i3 s) (by rw [hfr]; decide) (by rw [hlo]; decide) (Nat.le_of_ble_eq_true rfl) (fun v1 s2 => ?_)
  refine g_icmp_lt (tgt := 19) O dX9_isBeneath_7 (by decide) ?_ ?_
  · refine g_iconst O dX9_isBeneath_19 ?_
    exact g_iret O hrt (by decide +kernel) dX9_isBeneath_20
  refine g_iload_n O dX9_isBeneath_10 rfl 2 rfl ?_
  refine g_iload_n O dX9_isBeneath_11 rfl 3 rfl ?_
  refine g_icmp_gt (tgt := 19) O dX9_isBeneath_12 (by decide) ?_ ?_
  · refine g_iconst O dX9_isBeneath_19 ?_
    exact g_iret O hrt (by decide +kernel) dX9_isBeneath_20
  refine g_iconst O dX9_isBeneath_15 ?_
  refine g_goto (tgt := 20) O dX9_isBeneath_16 (by decide) ?_
  exact g_iret O hrt (by decide +kernel) dX9_isBeneath_20
def X9_adds_83 (i1 : Int) (i2 : Int) (i4 : Int) (i5 : Int) (i6 : Int) (i8 : Int) (i9 : Int) (k : St → Rs) : Nat → Int → St → Rs
  | 0, _, _ => none
  | n + 1, i10, s => cLt i10 0 (k s) (rd s 5 53 ((i6 + 13) + i10) (fun v1 => cl (X9_isBeneath i1 i2 i10 s) (fun v2 s3 => jn (fun (x4 : Int) (s5 : St) => jn (fun (x7 : Int) (s8 : St) => rd s8 5 53 ((i6 + 1) + i10) (fun v10 => wr s8 5 53 ((i6 + 1) + x4) v10 (fun s11 => cEq x7 0 (wr s11 5 53 ((i6 + 13) + x4) (v1 + 1) (fun s12 => X9_adds_83 i1 i2 i4 i5 i6 i8 i9 k n (i10 + (-1)) s12)) (wr s11 5 53 ((i6 + 13) + x4) v1 (fun s13 => X9_adds_83 i1 i2 i4 i5 i6 i8 i9 k n (i10 + (-1)) s13))))) (fun k9 => jn (fun  (s14 : St) => k9 1 s14) (fun k15 => cLt v1 i9 (k15 s5) (cEq v2 0 (k9 0 s5) (cEq v1 i8 (k15 s5) (k9 0 s5)))))) (fun k6 => cLt i10 i9 (k6 i10 s3) (k6 (i10 + 1) s3)))))
def X9_adds (i1 : Int) (i2 : Int) (i3 : Int) (i4 : Int) (i5 : Int) (s : St) : Rs := cl (X9_rightBeneath i1 i2 s) (fun v1 s2 => jn (fun (x3 : Int) (s4 : St) => jn (fun (x6 : Int) (s7 : St) => jn (fun (x9 : Int) (s10 : St) => rd s10 5 53 (25 * i1) (fun v12 => X9_adds_83 i1 i2 i4 i5 (25 * i1) x6 x9 (fun s13 => rd s13 5 53 (25 * i1) (fun v14 => wr s13 5 53 (25 * i1) (v14 + 1) (fun s15 => wr s15 5 53 (((25 * i1) + 1) + x9) i5 (fun s16 => cEq i4 0 (wr s16 5 53 (((25 * i1) + 13) + x9) x9 (fun s18 => some (x9, s18))) (wr s16 5 53 (((25 * i1) + 13) + x9) x6 (fun s17 => some (x9, s17))))))) FU (v12 - 1) s10)) (fun k11 => cEq i4 0 (k11 x6 s7) (cl (X9_childOf i1 i2 ((i3 + i4) - 1) s7) (fun v19 s20 => k11 (v19 + 1) s20)))) (fun k8 => cEq x3 0 (cl (X9_childOf i1 i2 i3 s4) (fun v21 s22 => cl (X9_leftOf i1 v21 s22) (fun v23 s24 => k8 v23 s24))) (k8 i2 s4))) (fun k5 => cEq i3 v1 (k5 1 s2) (k5 0 s2)))
set_option maxRecDepth 20000 in
set_option maxHeartbeats 4000000 in
theorem lt_X9_adds_83 {K : Cx} {X : Wx} (O : OKx LM K X yX9_adds.cls cX9_adds 15) (hrt : (kMe K).sig.returnType = (Option.some .int)) (hfr : (kR K).frames = 3) (hlo : (kR K).locals = 70) {i1 : Int} {i2 : Int} {i4 : Int} {i5 : Int} {i6 : Int} {i8 : Int} {i9 : Int} {k : St → Rs}  (hk : ∀  (s : St), GX LM K X 15 1 214 [(0, vR 0), (4, vI i4), (5, vI i5), (6, vI i6), (8, vI i8), (9, vI i9)] [] s (k s)) : ∀ (n : Nat) (i10 : Int) (s : St), GX LM K X 15 1 83 [(0, vR 0), (1, vI i1), (2, vI i2), (4, vI i4), (5, vI i5), (6, vI i6), (8, vI i8), (9, vI i9), (10, vI i10)] [] s (X9_adds_83 i1 i2 i4 i5 i6 i8 i9 k n i10 s) := by
  intro n
  induction n with
  | zero => intro i10 s; exact GX.none
  | succ n ih =>
    intro i10 s
    rw [X9_adds_83]
    refine g_iload O dX9_adds_83 8 rfl ?_
    refine g_if_lt (tgt := 214) O dX9_adds_85 (by decide) ?_ ?_
    · refine g_pick [0, 3, 4, 5, 6, 7] rfl ?_
      exact hk s
    refine g_aload_n O dX9_adds_88 rfl 0 rfl ?_
    refine g_getR O fw_9_22 rfl dX9_adds_89 rfl ?_
    refine g_iload O dX9_adds_92 5 rfl ?_
    refine g_bipush O dX9_adds_94 (by decide +kernel) ?_
    refine g_iadd O dX9_adds_96 ?_
    refine g_iload O dX9_adds_97 8 rfl ?_
    refine g_iadd O dX9_adds_99 ?_
    refine g_iald O rfl (by decide) dX9_adds_100 (fun v1 => ?_)
    refine g_istore (lv2 := [(11, vI v1), (0, vR 0), (1, vI i1), (2, vI i2), (4, vI i4), (5, vI i5), (6, vI i6), (8, vI i8), (9, vI i9), (10, vI i10)]) O dX9_adds_101 (by decide) rfl ?_
    refine g_aload_n O dX9_adds_103 rfl 1 rfl ?_
    refine g_iload_n O dX9_adds_104 rfl 2 rfl ?_
    refine g_iload_n O dX9_adds_105 rfl 3 rfl ?_
    refine g_iload O dX9_adds_106 9 rfl ?_
    refine g_callV1 (As := [vI i1, vI i2, vI i10]) (rest := []) (b := 0) (ci := 9) O mw_5_176 mw_5_178 mp_5_4 mw_5_179 mw_1_10 hd_X9_isBeneath rfl ⟨_, _, rfl⟩ rfl dX9_adds_108 (ct_X9_isBeneath i1 i2 i10 s) (by rw [hfr]; decide) (by rw [hlo]; decide) (Nat.le_of_ble_eq_true rfl) (fun v2 s3 => ?_)
    refine g_istore (lv2 := [(12, vI v2), (11, vI v1), (0, vR 0), (1, vI i1), (2, vI i2), (4, vI i4), (5, vI i5), (6, vI i6), (8, vI i8), (9, vI i9), (10, vI i10)]) O dX9_adds_111 (by decide) rfl ?_
    refine g_iload O dX9_adds_113 10 rfl ?_
    refine g_iload O dX9_adds_115 9 rfl ?_
    refine g_jn (fun (j : Int → St → Rs) => ∀ (x4 : Int) (s5 : St), GX LM K X 15 1 129 [(0, vR 0), (1, vI i1), (2, vI i2), (4, vI i4), (5, vI i5), (6, vI i6), (8, vI i8), (9, vI i9), (10, vI i10), (11, vI v1), (12, vI v2)] [vI x4] s5 (j x4 s5)) ?_ ?_
    · intro x4 s5
      refine g_istore (lv2 := [(13, vI x4), (0, vR 0), (1, vI i1), (2, vI i2), (4, vI i4), (5, vI i5), (6, vI i6), (8, vI i8), (9, vI i9), (10, vI i10), (11, vI v1), (12, vI v2)]) O dX9_adds_129 (by decide) rfl ?_
      refine g_iload O dX9_adds_131 10 rfl ?_
      refine g_iload O dX9_adds_133 8 rfl ?_
      refine g_jn (fun (j : Int → St → Rs) => ∀ (x7 : Int) (s8 : St), GX LM K X 15 1 155 [(0, vR 0), (1, vI i1), (2, vI i2), (4, vI i4), (5, vI i5), (6, vI i6), (8, vI i8), (9, vI i9), (10, vI i10), (11, vI v1), (13, vI x4)] [vI x7] s8 (j x7 s8)) ?_ ?_
      · intro x7 s8
        refine g_istore (lv2 := [(14, vI x7), (0, vR 0), (1, vI i1), (2, vI i2), (4, vI i4), (5, vI i5), (6, vI i6), (8, vI i8), (9, vI i9), (10, vI i10), (11, vI v1), (13, vI x4)]) O dX9_adds_155 (by decide) rfl ?_
        refine g_aload_n O dX9_adds_157 rfl 1 rfl ?_
        refine g_getR O fw_9_22 rfl dX9_adds_158 rfl ?_
        refine g_iload O dX9_adds_161 6 rfl ?_
        refine g_iconst O dX9_adds_163 ?_
        refine g_iadd O dX9_adds_164 ?_
        refine g_iload O dX9_adds_165 11 rfl ?_
        refine g_iadd O dX9_adds_167 ?_
        refine g_aload_n O dX9_adds_168 rfl 1 rfl ?_
        refine g_getR O fw_9_22 rfl dX9_adds_169 rfl ?_
        refine g_iload O dX9_adds_172 6 rfl ?_
        refine g_iconst O dX9_adds_174 ?_
        refine g_iadd O dX9_adds_175 ?_
        refine g_iload O dX9_adds_176 9 rfl ?_
        refine g_iadd O dX9_adds_178 ?_
        refine g_iald O rfl (by decide) dX9_adds_179 (fun v10 => ?_)
        refine g_iast O rfl (by decide) dX9_adds_180 (fun s11 => ?_)
        refine g_aload_n O dX9_adds_181 rfl 1 rfl ?_
        refine g_getR O fw_9_22 rfl dX9_adds_182 rfl ?_
        refine g_iload O dX9_adds_185 6 rfl ?_
        refine g_bipush O dX9_adds_187 (by decide +kernel) ?_
        refine g_iadd O dX9_adds_189 ?_
        refine g_iload O dX9_adds_190 11 rfl ?_
        refine g_iadd O dX9_adds_192 ?_
        refine g_iload O dX9_adds_193 0 rfl ?_
        refine g_if_eq (tgt := 203) O dX9_adds_195 (by decide) ?_ ?_
        · refine g_iload O dX9_adds_203 10 rfl ?_
          refine g_iconst O dX9_adds_205 ?_
          refine g_iadd O dX9_adds_206 ?_
          refine g_iast O rfl (by decide) dX9_adds_207 (fun s12 => ?_)
          refine g_iinc (lv2 := [(10, vI (i10 + (-1))), (14, vI x7), (0, vR 0), (1, vI i1), (2, vI i2), (4, vI i4), (5, vI i5), (6, vI i6), (8, vI i8), (9, vI i9), (11, vI v1), (13, vI x4)]) O dX9_adds_208 9 rfl (by decide) rfl ?_
          refine g_goto (tgt := 83) O dX9_adds_211 (by decide) ?_
          refine g_pick [2, 3, 4, 5, 6, 7, 8, 9, 0] rfl ?_
          exact ih (i10 + (-1)) s12
        refine g_iload O dX9_adds_198 10 rfl ?_
        refine g_goto (tgt := 207) O dX9_adds_200 (by decide) ?_
        refine g_iast O rfl (by decide) dX9_adds_207 (fun s13 => ?_)
        refine g_iinc (lv2 := [(10, vI (i10 + (-1))), (14, vI x7), (0, vR 0), (1, vI i1), (2, vI i2), (4, vI i4), (5, vI i5), (6, vI i6), (8, vI i8), (9, vI i9), (11, vI v1), (13, vI x4)]) O dX9_adds_208 9 rfl (by decide) rfl ?_
        refine g_goto (tgt := 83) O dX9_adds_211 (by decide) ?_
        refine g_pick [2, 3, 4, 5, 6, 7, 8, 9, 0] rfl ?_
        exact ih (i10 + (-1)) s13
      intro k9 hk9
      refine g_jn (fun (j : St → Rs) => ∀  (s14 : St), GX LM K X 15 1 150 [(0, vR 0), (1, vI i1), (2, vI i2), (4, vI i4), (5, vI i5), (6, vI i6), (8, vI i8), (9, vI i9), (10, vI i10), (11, vI v1), (13, vI x4)] [] s14 (j  s14)) ?_ ?_
      · intro  s14
        refine g_iconst O dX9_adds_150 ?_
        refine g_goto (tgt := 155) O dX9_adds_151 (by decide) ?_
        exact hk9 1 s14
      intro k15 hk15
      refine g_icmp_lt (tgt := 150) O dX9_adds_135 (by decide) ?_ ?_
      · refine g_pick [1, 2, 3, 4, 5, 6, 7, 8, 9, 10, 0] rfl ?_
        exact hk15 s5
      refine g_iload O dX9_adds_138 11 rfl ?_
      refine g_if_eq (tgt := 154) O dX9_adds_140 (by decide) ?_ ?_
      · refine g_iconst O dX9_adds_154 ?_
        refine g_pick [1, 2, 3, 4, 5, 6, 7, 8, 9, 10, 0] rfl ?_
        exact hk9 0 s5
      refine g_iload O dX9_adds_143 10 rfl ?_
      refine g_iload O dX9_adds_145 7 rfl ?_
      refine g_icmp_ne (tgt := 154) O dX9_adds_147 (by decide) ?_ ?_
      · refine g_iconst O dX9_adds_154 ?_
        refine g_pick [1, 2, 3, 4, 5, 6, 7, 8, 9, 10, 0] rfl ?_
        exact hk9 0 s5
      refine g_pick [1, 2, 3, 4, 5, 6, 7, 8, 9, 10, 0] rfl ?_
      exact hk15 s5
    intro k6 hk6
    refine g_icmp_ge (tgt := 125) O dX9_adds_117 (by decide) ?_ ?_
    · refine g_iload O dX9_adds_125 10 rfl ?_
      refine g_iconst O dX9_adds_127 ?_
      refine g_iadd O dX9_adds_128 ?_
      refine g_pick [2, 3, 4, 5, 6, 7, 8, 9, 10, 1, 0] rfl ?_
      exact hk6 (i10 + 1) s3
    refine g_iload O dX9_adds_120 10 rfl ?_
    refine g_goto (tgt := 129) O dX9_adds_122 (by decide) ?_
    refine g_pick [2, 3, 4, 5, 6, 7, 8, 9, 10, 1, 0] rfl ?_
    exact hk6 i10 s3
theorem hd_X9_adds : yX9_adds.cls ≠ "java/lang/invoke/MethodHandle" ∧ yX9_adds.cls ≠ "java/lang/invoke/VarHandle" ∧ (parseMethodDescriptor yX9_adds.desc).map (fun d => d.parameters.length) = some 5 := by decide +kernel
set_option maxRecDepth 20000 in
set_option maxHeartbeats 4000000 in
theorem ct_X9_adds  (i1 : Int) (i2 : Int) (i3 : Int) (i4 : Int) (i5 : Int) (s : St) : Ctr LM yX9_adds cX9_adds 15 (Option.some .int) 1 3 70 [vR 0, vI i1, vI i2, vI i3, vI i4, vI i5] s (X9_adds i1 i2 i3 i4 i5 s) := by
  refine Ctr.of (by decide +kernel) (fun ρ => Nat.le_of_ble_eq_true rfl) (lv := [(0, vR 0), (1, vI i1), (2, vI i2), (3, vI i3), (4, vI i4), (5, vI i5)]) (fun ρ => rfl) (fun K X O hrt hfr hlo => ?_)
  unfold X9_adds
  refine g_bipush O dX9_adds_0 (by decide +kernel) ?_
  refine g_iload_n O dX9_adds_2 rfl 1 rfl ?_
  refine g_imul O dX9_adds_3 ?_
  refine g_istore (lv2 := [(6, vI (25 * i1)), (0, vR 0), (1, vI i1), (2, vI i2), (3, vI i3), (4, vI i4), (5, vI i5)]) O dX9_adds_4 (by decide) rfl ?_
  refine g_iload_n O dX9_adds_6 rfl 4 rfl ?_
  refine g_aload_n O dX9_adds_7 rfl 1 rfl ?_
  refine g_iload_n O dX9_adds_8 rfl 2 rfl ?_
  refine g_iload_n O dX9_adds_9 rfl 3 rfl ?_
  refine g_callV1 (As := [vI i1, vI i2]) (rest := [vI i3]) (b := 0) (ci := 9) O mw_5_22 mw_5_24 mp_3_12 mw_5_25 mw_1_10 hd_X9_rightBeneath rfl ⟨_, _, rfl⟩ rfl dX9_adds_10 (ct_X9_rightBeneath i1 i2 s) (by rw [hfr]; decide) (by rw [hlo]; decide) (Nat.le_of_ble_eq_true rfl) (fun v1 s2 => ?_)
  refine g_jn (fun (j : Int → St → Rs) => ∀ (x3 : Int) (s4 : St), GX LM K X 15 1 21 [(0, vR 0), (1, vI i1), (2, vI i2), (3, vI i3), (4, vI i4), (5, vI i5), (6, vI (25 * i1))] [vI x3] s4 (j x3 s4)) ?_ ?_
  · intro x3 s4
    refine g_istore (lv2 := [(7, vI x3), (0, vR 0), (1, vI i1), (2, vI i2), (3, vI i3), (4, vI i4), (5, vI i5), (6, vI (25 * i1))]) O dX9_adds_21 (by decide) rfl ?_
    refine g_iload O dX9_adds_23 0 rfl ?_
    refine g_jn (fun (j : Int → St → Rs) => ∀ (x6 : Int) (s7 : St), GX LM K X 15 1 44 [(0, vR 0), (1, vI i1), (2, vI i2), (3, vI i3), (4, vI i4), (5, vI i5), (6, vI (25 * i1))] [vI x6] s7 (j x6 s7)) ?_ ?_
    · intro x6 s7
      refine g_istore (lv2 := [(8, vI x6), (0, vR 0), (1, vI i1), (2, vI i2), (3, vI i3), (4, vI i4), (5, vI i5), (6, vI (25 * i1))]) O dX9_adds_44 (by decide) rfl ?_
      refine g_iload O dX9_adds_46 5 rfl ?_
      refine g_jn (fun (j : Int → St → Rs) => ∀ (x9 : Int) (s10 : St), GX LM K X 15 1 70 [(0, vR 0), (1, vI i1), (2, vI i2), (4, vI i4), (5, vI i5), (6, vI (25 * i1)), (8, vI x6)] [vI x9] s10 (j x9 s10)) ?_ ?_
      · intro x9 s10
        refine g_istore (lv2 := [(9, vI x9), (0, vR 0), (1, vI i1), (2, vI i2), (4, vI i4), (5, vI i5), (6, vI (25 * i1)), (8, vI x6)]) O dX9_adds_70 (by decide) rfl ?_
        refine g_aload_n O dX9_adds_72 rfl 1 rfl ?_
        refine g_getR O fw_9_22 rfl dX9_adds_73 rfl ?_
        refine g_iload O dX9_adds_76 6 rfl ?_
        refine g_iald O rfl (by decide) dX9_adds_78 (fun v12 => ?_)
        refine g_iconst O dX9_adds_79 ?_
        refine g_isub O dX9_adds_80 ?_
        refine g_istore (lv2 := [(10, vI (v12 - 1)), (9, vI x9), (0, vR 0), (1, vI i1), (2, vI i2), (4, vI i4), (5, vI i5), (6, vI (25 * i1)), (8, vI x6)]) O dX9_adds_81 (by decide) rfl ?_
        refine g_pick [2, 3, 4, 5, 6, 7, 8, 1, 0] rfl ?_
        refine lt_X9_adds_83 O hrt hfr hlo  (fun s13 => ?_) FU (v12 - 1) s10
        refine g_aload_n O dX9_adds_214 rfl 0 rfl ?_
        refine g_getR O fw_9_22 rfl dX9_adds_215 rfl ?_
        refine g_iload O dX9_adds_218 3 rfl ?_
        refine g_dup2 O dX9_adds_220 rfl rfl ?_
        refine g_iald O rfl (by decide) dX9_adds_221 (fun v14 => ?_)
        refine g_iconst O dX9_adds_222 ?_
        refine g_iadd O dX9_adds_223 ?_
        refine g_iast O rfl (by decide) dX9_adds_224 (fun s15 => ?_)
        refine g_aload_n O dX9_adds_225 rfl 0 rfl ?_
        refine g_getR O fw_9_22 rfl dX9_adds_226 rfl ?_
        refine g_iload O dX9_adds_229 3 rfl ?_
        refine g_iconst O dX9_adds_231 ?_
        refine g_iadd O dX9_adds_232 ?_
        refine g_iload O dX9_adds_233 5 rfl ?_
        refine g_iadd O dX9_adds_235 ?_
        refine g_iload O dX9_adds_236 2 rfl ?_
        refine g_iast O rfl (by decide) dX9_adds_238 (fun s16 => ?_)
        refine g_aload_n O dX9_adds_239 rfl 0 rfl ?_
        refine g_getR O fw_9_22 rfl dX9_adds_240 rfl ?_
        refine g_iload O dX9_adds_243 3 rfl ?_
        refine g_bipush O dX9_adds_245 (by decide +kernel) ?_
        refine g_iadd O dX9_adds_247 ?_
        refine g_iload O dX9_adds_248 5 rfl ?_
        refine g_iadd O dX9_adds_250 ?_
        refine g_iload O dX9_adds_251 1 rfl ?_
        refine g_if_ne (tgt := 261) O dX9_adds_253 (by decide) ?_ ?_
        · refine g_iload O dX9_adds_261 4 rfl ?_
          refine g_iast O rfl (by decide) dX9_adds_263 (fun s17 => ?_)
          refine g_iload O dX9_adds_264 5 rfl ?_
          exact g_iret O hrt rfl dX9_adds_266
        refine g_iload O dX9_adds_256 5 rfl ?_
        refine g_goto (tgt := 263) O dX9_adds_258 (by decide) ?_
        refine g_iast O rfl (by decide) dX9_adds_263 (fun s18 => ?_)
        refine g_iload O dX9_adds_264 5 rfl ?_
        exact g_iret O hrt rfl dX9_adds_266
      intro k11 hk11
      refine g_if_ne (tgt := 56) O dX9_adds_48 (by decide) ?_ ?_
      · refine g_aload_n O dX9_adds_56 rfl 1 rfl ?_
        refine g_iload_n O dX9_adds_57 rfl 2 rfl ?_
        refine g_iload_n O dX9_adds_58 rfl 3 rfl ?_
        refine g_iload_n O dX9_adds_59 rfl 4 rfl ?_
        refine g_iload O dX9_adds_60 5 rfl ?_
        refine g_iadd O dX9_adds_62 ?_
        refine g_iconst O dX9_adds_63 ?_
        refine g_isub O dX9_adds_64 ?_
        refine g_callV1 (As := [vI i1, vI i2, vI ((i3 + i4) - 1)]) (rest := []) (b := 0) (ci := 9) O mw_5_172 mw_5_174 mp_5_3 mw_5_175 mw_1_10 hd_X9_childOf rfl ⟨_, _, rfl⟩ rfl dX9_adds_65 (ct_X9_childOf i1 i2 ((i3 + i4) - 1) s7) (by rw [hfr]; decide) (by rw [hlo]; decide) (Nat.le_of_ble_eq_true rfl) (fun v19 s20 => ?_)
        refine g_iconst O dX9_adds_68 ?_
        refine g_iadd O dX9_adds_69 ?_
        refine g_pick [1, 2, 3, 5, 6, 7, 0] rfl ?_
        exact hk11 (v19 + 1) s20
      refine g_iload O dX9_adds_51 0 rfl ?_
      refine g_goto (tgt := 70) O dX9_adds_53 (by decide) ?_
      refine g_pick [1, 2, 3, 5, 6, 7, 0] rfl ?_
      exact hk11 x6 s7
    intro k8 hk8
    refine g_if_eq (tgt := 32) O dX9_adds_25 (by decide) ?_ ?_
    · refine g_aload_n O dX9_adds_32 rfl 1 rfl ?_
      refine g_iload_n O dX9_adds_33 rfl 2 rfl ?_
      refine g_aload_n O dX9_adds_34 rfl 1 rfl ?_
      refine g_iload_n O dX9_adds_35 rfl 2 rfl ?_
      refine g_iload_n O dX9_adds_36 rfl 3 rfl ?_
      refine g_iload_n O dX9_adds_37 rfl 4 rfl ?_
      refine g_callV1 (As := [vI i1, vI i2, vI i3]) (rest := [vI i1, vR 0]) (b := 0) (ci := 9) O mw_5_172 mw_5_174 mp_5_3 mw_5_175 mw_1_10 hd_X9_childOf rfl ⟨_, _, rfl⟩ rfl dX9_adds_38 (ct_X9_childOf i1 i2 i3 s4) (by rw [hfr]; decide) (by rw [hlo]; decide) (Nat.le_of_ble_eq_true rfl) (fun v21 s22 => ?_)
      refine g_callV1 (As := [vI i1, vI v21]) (rest := []) (b := 0) (ci := 9) O mw_4_235 mw_4_237 mp_3_7 mw_4_238 mw_1_10 hd_X9_leftOf rfl ⟨_, _, rfl⟩ rfl dX9_adds_41 (ct_X9_leftOf i1 v21 s22) (by rw [hfr]; decide) (by rw [hlo]; decide) (Nat.le_of_ble_eq_true rfl) (fun v23 s24 => ?_)
      refine g_pick [1, 2, 3, 4, 5, 6, 7] rfl ?_
      exact hk8 v23 s24
    refine g_iload_n O dX9_adds_28 rfl 3 rfl ?_
    refine g_goto (tgt := 44) O dX9_adds_29 (by decide) ?_
    refine g_pick [1, 2, 3, 4, 5, 6, 7] rfl ?_
    exact hk8 i2 s4
  intro k5 hk5
  refine g_icmp_ne (tgt := 20) O dX9_adds_13 (by decide) ?_ ?_
  · refine g_iconst O dX9_adds_20 ?_
    refine g_pick [1, 2, 3, 4, 5, 6, 0] rfl ?_
    exact hk5 0 s2
  refine g_iconst O dX9_adds_16 ?_
  refine g_goto (tgt := 21) O dX9_adds_17 (by decide) ?_
  refine g_pick [1, 2, 3, 4, 5, 6, 0] rfl ?_
  exact hk5 1 s2
def X9_add (i1 : Int) (i2 : Int) (i3 : Int) (i4 : Int) (i5 : Int) (s : St) : Rs := cl (X9_isNode i1 i2 s) (fun v1 s2 => cEq v1 0 (some ((-1), s2)) (cl (X9_isMark i5 s2) (fun v3 s4 => cEq v3 0 (some ((-1), s4)) (cLt i3 0 (some ((-1), s4)) (cLt i4 0 (some ((-1), s4)) (cl (X9_rightBeneath i1 i2 s4) (fun v5 s6 => cLt v5 i3 (some ((-1), s6)) (cLt (v5 - i3) i4 (some ((-1), s6)) (cl (X9_many i1 s6) (fun v7 s8 => cEq v7 12 (some ((-4), s8)) (cEq (s8 0 6) 40 (some ((-2), s8)) (cl (X9_notes s8) (fun _ s10 => cl (X9_adds i1 i2 i3 i4 i5 s10) (fun v11 s12 => some (v11, s12)))))))))))))))
theorem hd_X9_add : yX9_add.cls ≠ "java/lang/invoke/MethodHandle" ∧ yX9_add.cls ≠ "java/lang/invoke/VarHandle" ∧ (parseMethodDescriptor yX9_add.desc).map (fun d => d.parameters.length) = some 5 := by decide +kernel
set_option maxRecDepth 20000 in
set_option maxHeartbeats 4000000 in
theorem ct_X9_add  (i1 : Int) (i2 : Int) (i3 : Int) (i4 : Int) (i5 : Int) (s : St) : Ctr LM yX9_add cX9_add 7 (Option.some .int) 1 4 104 [vR 0, vI i1, vI i2, vI i3, vI i4, vI i5] s (X9_add i1 i2 i3 i4 i5 s) := by
  refine Ctr.of (by decide +kernel) (fun ρ => Nat.le_of_ble_eq_true rfl) (lv := [(0, vR 0), (1, vI i1), (2, vI i2), (3, vI i3), (4, vI i4), (5, vI i5)]) (fun ρ => rfl) (fun K X O hrt hfr hlo => ?_)
  unfold X9_add
  refine g_aload_n O dX9_add_0 rfl 0 rfl ?_
  refine g_iload_n O dX9_add_1 rfl 1 rfl ?_
  refine g_iload_n O dX9_add_2 rfl 2 rfl ?_
  refine g_callV1 (As := [vI i1, vI i2]) (rest := []) (b := 0) (ci := 9) O mw_5_15 mw_5_17 mp_3_11 mw_5_18 mw_1_10 hd_X9_isNode rfl ⟨_, _, rfl⟩ rfl dX9_add_3 (ct_X9_isNode i1 i2 s) (by rw [hfr]; decide) (by rw [hlo]; decide) (Nat.le_of_ble_eq_true rfl) (fun v1 s2 => ?_)
  refine g_if_eq (tgt := 26) O dX9_add_6 (by decide) ?_ ?_
  · refine g_iconst O dX9_add_26 ?_
    exact g_iret O hrt rfl dX9_add_27
  refine g_iload O dX9_add_9 5 rfl ?_
  refine g_callS1 (As := [vI i5]) (rest := []) O mw_4_195 mw_4_196 mw_4_197 mw_1_10 hd_X9_isMark rfl dX9_add_11 (ct_X9_isMark i5 s2) (by rw [hfr]; decide) (by rw [hlo]; decide) (Nat.le_of_ble_eq_true rfl) (fun v3 s4 => ?_)
  refine g_if_eq (tgt := 26) O dX9_add_14 (by decide) ?_ ?_
  · refine g_iconst O dX9_add_26 ?_
    exact g_iret O hrt rfl dX9_add_27
  refine g_iload_n O dX9_add_17 rfl 3 rfl ?_
  refine g_if_lt (tgt := 26) O dX9_add_18 (by decide) ?_ ?_
  · refine g_iconst O dX9_add_26 ?_
    exact g_iret O hrt rfl dX9_add_27
  refine g_iload O dX9_add_21 4 rfl ?_
  refine g_if_ge (tgt := 28) O dX9_add_23 (by decide) ?_ ?_
  · refine g_aload_n O dX9_add_28 rfl 0 rfl ?_
    refine g_iload_n O dX9_add_29 rfl 1 rfl ?_
    refine g_iload_n O dX9_add_30 rfl 2 rfl ?_
    refine g_callV1 (As := [vI i1, vI i2]) (rest := []) (b := 0) (ci := 9) O mw_5_22 mw_5_24 mp_3_12 mw_5_25 mw_1_10 hd_X9_rightBeneath rfl ⟨_, _, rfl⟩ rfl dX9_add_31 (ct_X9_rightBeneath i1 i2 s4) (by rw [hfr]; decide) (by rw [hlo]; decide) (Nat.le_of_ble_eq_true rfl) (fun v5 s6 => ?_)
    refine g_istore (lv2 := [(6, vI v5), (0, vR 0), (1, vI i1), (2, vI i2), (3, vI i3), (4, vI i4), (5, vI i5)]) O dX9_add_34 (by decide) rfl ?_
    refine g_iload_n O dX9_add_36 rfl 4 rfl ?_
    refine g_iload O dX9_add_37 0 rfl ?_
    refine g_icmp_gt (tgt := 51) O dX9_add_39 (by decide) ?_ ?_
    · refine g_iconst O dX9_add_51 ?_
      exact g_iret O hrt rfl dX9_add_52
    refine g_iload O dX9_add_42 5 rfl ?_
    refine g_iload O dX9_add_44 0 rfl ?_
    refine g_iload_n O dX9_add_46 rfl 4 rfl ?_
    refine g_isub O dX9_add_47 ?_
    refine g_icmp_le (tgt := 53) O dX9_add_48 (by decide) ?_ ?_
    · refine g_aload_n O dX9_add_53 rfl 1 rfl ?_
      refine g_iload_n O dX9_add_54 rfl 2 rfl ?_
      refine g_callV1 (As := [vI i1]) (rest := []) (b := 0) (ci := 9) O mw_4_216 mw_4_218 mp_3_3 mw_4_219 mw_1_10 hd_X9_many rfl ⟨_, _, rfl⟩ rfl dX9_add_55 (ct_X9_many i1 s6) (by rw [hfr]; decide) (by rw [hlo]; decide) (Nat.le_of_ble_eq_true rfl) (fun v7 s8 => ?_)
      refine g_bipush O dX9_add_58 (by decide +kernel) ?_
      refine g_icmp_ne (tgt := 66) O dX9_add_60 (by decide) ?_ ?_
      · refine g_aload_n O dX9_add_66 rfl 1 rfl ?_
        refine g_getI O fw_9_144 rfl dX9_add_67 rfl ?_
        refine g_bipush O dX9_add_70 (by decide +kernel) ?_
        refine g_icmp_ne (tgt := 78) O dX9_add_72 (by decide) ?_ ?_
        · refine g_aload_n O dX9_add_78 rfl 1 rfl ?_
          refine g_callV0 (As := []) (rest := []) (b := 0) (ci := 9) O mw_5_148 mw_5_150 mp_4_15 mw_5_151 mw_1_10 hd_X9_notes rfl ⟨_, _, rfl⟩ rfl dX9_add_79 (ct_X9_notes  s8) (by rw [hfr]; decide) (by rw [hlo]; decide) (Nat.le_of_ble_eq_true rfl) (fun _ s10 => ?_)
          refine g_aload_n O dX9_add_82 rfl 1 rfl ?_
          refine g_iload_n O dX9_add_83 rfl 2 rfl ?_
          refine g_iload_n O dX9_add_84 rfl 3 rfl ?_
          refine g_iload_n O dX9_add_85 rfl 4 rfl ?_
          refine g_iload O dX9_add_86 5 rfl ?_
          refine g_iload O dX9_add_88 6 rfl ?_
          refine g_callV1 (As := [vI i1, vI i2, vI i3, vI i4, vI i5]) (rest := []) (b := 0) (ci := 9) O mw_5_168 mw_5_170 mp_5_2 mw_5_171 mw_1_10 hd_X9_adds rfl ⟨_, _, rfl⟩ rfl dX9_add_90 (ct_X9_adds i1 i2 i3 i4 i5 s10) (by rw [hfr]; decide) (by rw [hlo]; decide) (Nat.le_of_ble_eq_true rfl) (fun v11 s12 => ?_)
          exact g_iret O hrt rfl dX9_add_93
        refine g_bipush O dX9_add_75 (by decide +kernel) ?_
        exact g_iret O hrt rfl dX9_add_77
      refine g_bipush O dX9_add_63 (by decide +kernel) ?_
      exact g_iret O hrt rfl dX9_add_65
    refine g_iconst O dX9_add_51 ?_
    exact g_iret O hrt rfl dX9_add_52
  refine g_iconst O dX9_add_26 ?_
  exact g_iret O hrt rfl dX9_add_27
def X9_price (i1 : Int) (i2 : Int) (s : St) : Rs := cl (X9_in i1 0 2 s) (fun v1 s2 => cEq v1 0 (some ((-1), s2)) (cl (X9_in i2 1 9 s2) (fun v3 s4 => cEq v3 0 (some ((-1), s4)) (rd s4 5 53 (50 + i1) (fun v5 => cEq v5 i2 (some ((-4), s4)) (cEq (s4 0 6) 40 (some ((-2), s4)) (cl (X9_notes s4) (fun _ s7 => wr s7 5 53 (50 + i1) i2 (fun s8 => some (v5, s8))))))))))
theorem hd_X9_price : yX9_price.cls ≠ "java/lang/invoke/MethodHandle" ∧ yX9_price.cls ≠ "java/lang/invoke/VarHandle" ∧ (parseMethodDescriptor yX9_price.desc).map (fun d => d.parameters.length) = some 2 := by decide +kernel
set_option maxRecDepth 20000 in
set_option maxHeartbeats 4000000 in
theorem ct_X9_price  (i1 : Int) (i2 : Int) (s : St) : Ctr LM yX9_price cX9_price 4 (Option.some .int) 1 2 45 [vR 0, vI i1, vI i2] s (X9_price i1 i2 s) := by
  refine Ctr.of (by decide +kernel) (fun ρ => Nat.le_of_ble_eq_true rfl) (lv := [(0, vR 0), (1, vI i1), (2, vI i2)]) (fun ρ => rfl) (fun K X O hrt hfr hlo => ?_)
  unfold X9_price
  refine g_iload_n O dX9_price_0 rfl 1 rfl ?_
  refine g_iconst O dX9_price_1 ?_
  refine g_iconst O dX9_price_2 ?_
  refine g_callS1 (As := [vI i1, vI 0, vI 2]) (rest := []) O mw_4_133 mw_4_134 mw_4_135 mw_1_10 hd_X9_in rfl dX9_price_3 (ct_X9_in i1 0 2 s) (by rw [hfr]; decide) (by rw [hlo]; decide) (Nat.le_of_ble_eq_true rfl) (fun v1 s2 => ?_)
  refine g_if_eq (tgt := 19) O dX9_price_6 (by decide) ?_ ?_
  · refine g_iconst O dX9_price_19 ?_
    exact g_iret O hrt rfl dX9_price_20
  refine g_iload_n O dX9_price_9 rfl 2 rfl ?_
  refine g_iconst O dX9_price_10 ?_
  refine g_bipush O dX9_price_11 (by decide +kernel) ?_
  refine g_callS1 (As := [vI i2, vI 1, vI 9]) (rest := []) O mw_4_133 mw_4_134 mw_4_135 mw_1_10 hd_X9_in rfl dX9_price_13 (ct_X9_in i2 1 9 s2) (by rw [hfr]; decide) (by rw [hlo]; decide) (Nat.le_of_ble_eq_true rfl) (fun v3 s4 => ?_)
  refine g_if_ne (tgt := 21) O dX9_price_16 (by decide) ?_ ?_
  · refine g_aload_n O dX9_price_21 rfl 0 rfl ?_
    refine g_getR O fw_9_22 rfl dX9_price_22 rfl ?_
    refine g_bipush O dX9_price_25 (by decide +kernel) ?_
    refine g_iload_n O dX9_price_27 rfl 1 rfl ?_
    refine g_iadd O dX9_price_28 ?_
    refine g_iald O rfl (by decide) dX9_price_29 (fun v5 => ?_)
    refine g_istore_n (lv2 := [(3, vI v5), (0, vR 0), (1, vI i1), (2, vI i2)]) O dX9_price_30 rfl (by decide) rfl ?_
    refine g_iload_n O dX9_price_31 rfl 0 rfl ?_
    refine g_iload_n O dX9_price_32 rfl 3 rfl ?_
    refine g_icmp_ne (tgt := 39) O dX9_price_33 (by decide) ?_ ?_
    · refine g_aload_n O dX9_price_39 rfl 1 rfl ?_
      refine g_getI O fw_9_144 rfl dX9_price_40 rfl ?_
      refine g_bipush O dX9_price_43 (by decide +kernel) ?_
      refine g_icmp_ne (tgt := 51) O dX9_price_45 (by decide) ?_ ?_
      · refine g_aload_n O dX9_price_51 rfl 1 rfl ?_
        refine g_callV0 (As := []) (rest := []) (b := 0) (ci := 9) O mw_5_148 mw_5_150 mp_4_15 mw_5_151 mw_1_10 hd_X9_notes rfl ⟨_, _, rfl⟩ rfl dX9_price_52 (ct_X9_notes  s4) (by rw [hfr]; decide) (by rw [hlo]; decide) (Nat.le_of_ble_eq_true rfl) (fun _ s7 => ?_)
        refine g_aload_n O dX9_price_55 rfl 1 rfl ?_
        refine g_getR O fw_9_22 rfl dX9_price_56 rfl ?_
        refine g_bipush O dX9_price_59 (by decide +kernel) ?_
        refine g_iload_n O dX9_price_61 rfl 2 rfl ?_
        refine g_iadd O dX9_price_62 ?_
        refine g_iload_n O dX9_price_63 rfl 3 rfl ?_
        refine g_iast O rfl (by decide) dX9_price_64 (fun s8 => ?_)
        refine g_iload_n O dX9_price_65 rfl 0 rfl ?_
        exact g_iret O hrt rfl dX9_price_66
      refine g_bipush O dX9_price_48 (by decide +kernel) ?_
      exact g_iret O hrt rfl dX9_price_50
    refine g_bipush O dX9_price_36 (by decide +kernel) ?_
    exact g_iret O hrt rfl dX9_price_38
  refine g_iconst O dX9_price_19 ?_
  exact g_iret O hrt rfl dX9_price_20
