def X9_copy_116 (i1 : Int) (i2 : Int) (i3 : Int) (i4 : Int) (i5 : Int) (i6 : Int) (k : St → Rs) : Nat → Int → St → Rs
  | 0, _, _ => none
  | n + 1, i7, s => cLt i7 i5 (jn (fun (x1 : Int) (s2 : St) => rd s2 2 240 (((40 * i1) + i2) + x1) (fun v4 => wr s2 2 240 (((40 * i3) + i4) + x1) v4 (fun s5 => X9_copy_116 i1 i2 i3 i4 i5 i6 k n (i7 + 1) s5))) (fun k3 => cEq i6 0 (k3 i7 s) (k3 ((i5 - 1) - i7) s))) (k s)
def X9_copy (i1 : Int) (i2 : Int) (i3 : Int) (i4 : Int) (i5 : Int) (s : St) : Rs := cl (X9_isRow i1 s) (fun v1 s2 => cEq v1 0 (some ((-1), s2)) (cl (X9_isRow i3 s2) (fun v3 s4 => cEq v3 0 (some ((-1), s4)) (cLt i5 0 (cl (X9_found 5 s4) (fun v27 s28 => some (v27, s28))) (rd s4 1 6 i1 (fun v5 => cLt v5 0 (cl (X9_found 1 s4) (fun v6 s7 => some (v6, s7))) (rd s4 1 6 i3 (fun v8 => cLt v8 0 (cl (X9_found 1 s4) (fun v25 s26 => some (v25, s26))) (cLt i2 0 (cl (X9_found 2 s4) (fun v9 s10 => some (v9, s10))) (cLt i4 0 (cl (X9_found 2 s4) (fun v11 s12 => some (v11, s12))) (cLt 40 i5 (cl (X9_found 2 s4) (fun v13 s14 => some (v13, s14))) (rd s4 1 6 i1 (fun v15 => cLt (v15 - i5) i2 (cl (X9_found 2 s4) (fun v16 s17 => some (v16, s17))) (rd s4 1 6 i3 (fun v18 => cLt (v18 - i5) i4 (cl (X9_found 2 s4) (fun v23 s24 => some (v23, s24))) (jn (fun (x19 : Int) (s20 : St) => X9_copy_116 i1 i2 i3 i4 i5 x19 (fun s22 => some (1, s22)) FU 0 s20) (fun k21 => cLt i2 i4 (k21 1 s4) (k21 0 s4))))))))))))))))))
set_option maxRecDepth 20000 in
set_option maxHeartbeats 4000000 in
theorem lt_X9_copy_116 {K : Cx} {X : Wx} (O : OKx LM K X yX9_copy.cls cX9_copy 9) (hrt : (kMe K).sig.returnType = (Option.some .int)) (hfr : (kR K).frames = 2) (hlo : (kR K).locals = 42) {i1 : Int} {i2 : Int} {i3 : Int} {i4 : Int} {i5 : Int} {i6 : Int} {k : St → Rs}  (hk : ∀  (s : St), GX LM K X 9 1 177 [] [] s (k s)) : ∀ (n : Nat) (i7 : Int) (s : St), GX LM K X 9 1 116 [(0, vR 0), (1, vI i1), (2, vI i2), (3, vI i3), (4, vI i4), (5, vI i5), (6, vI i6), (7, vI i7)] [] s (X9_copy_116 i1 i2 i3 i4 i5 i6 k n i7 s) := by
  intro n
  induction n with
  | zero => intro i7 s; exact GX.none
  | succ n ih =>
    intro i7 s
    rw [X9_copy_116]
    refine g_iload O dX9_copy_116 7 rfl ?_
    refine g_iload O dX9_copy_118 5 rfl ?_
    refine g_icmp_ge (tgt := 177) O dX9_copy_120 (by decide) ?_ ?_
    · refine g_pick [] rfl ?_
      exact hk s
    refine g_iload O dX9_copy_123 6 rfl ?_
    refine g_jn (fun (j : Int → St → Rs) => ∀ (x1 : Int) (s2 : St), GX LM K X 9 1 140 [(0, vR 0), (1, vI i1), (2, vI i2), (3, vI i3), (4, vI i4), (5, vI i5), (6, vI i6), (7, vI i7)] [vI x1] s2 (j x1 s2)) ?_ ?_
    · intro x1 s2
      refine g_istore (lv2 := [(8, vI x1), (0, vR 0), (1, vI i1), (2, vI i2), (3, vI i3), (4, vI i4), (5, vI i5), (6, vI i6), (7, vI i7)]) O dX9_copy_140 (by decide) rfl ?_
      refine g_aload_n O dX9_copy_142 rfl 1 rfl ?_
      refine g_getR O fw_9_13 rfl dX9_copy_143 rfl ?_
      refine g_bipush O dX9_copy_146 (by decide +kernel) ?_
      refine g_iload_n O dX9_copy_148 rfl 4 rfl ?_
      refine g_imul O dX9_copy_149 ?_
      refine g_iload O dX9_copy_150 5 rfl ?_
      refine g_iadd O dX9_copy_152 ?_
      refine g_iload O dX9_copy_153 0 rfl ?_
      refine g_iadd O dX9_copy_155 ?_
      refine g_aload_n O dX9_copy_156 rfl 1 rfl ?_
      refine g_getR O fw_9_13 rfl dX9_copy_157 rfl ?_
      refine g_bipush O dX9_copy_160 (by decide +kernel) ?_
      refine g_iload_n O dX9_copy_162 rfl 2 rfl ?_
      refine g_imul O dX9_copy_163 ?_
      refine g_iload_n O dX9_copy_164 rfl 3 rfl ?_
      refine g_iadd O dX9_copy_165 ?_
      refine g_iload O dX9_copy_166 0 rfl ?_
      refine g_iadd O dX9_copy_168 ?_
      refine g_iald O rfl (by decide) dX9_copy_169 (fun v4 => ?_)
      refine g_iast O rfl (by decide) dX9_copy_170 (fun s5 => ?_)
      refine g_iinc (lv2 := [(7, vI (i7 + 1)), (8, vI x1), (0, vR 0), (1, vI i1), (2, vI i2), (3, vI i3), (4, vI i4), (5, vI i5), (6, vI i6)]) O dX9_copy_171 8 rfl (by decide) rfl ?_
      refine g_goto (tgt := 116) O dX9_copy_174 (by decide) ?_
      refine g_pick [2, 3, 4, 5, 6, 7, 8, 0] rfl ?_
      exact ih (i7 + 1) s5
    intro k3 hk3
    refine g_if_eq (tgt := 138) O dX9_copy_125 (by decide) ?_ ?_
    · refine g_iload O dX9_copy_138 7 rfl ?_
      exact hk3 i7 s
    refine g_iload O dX9_copy_128 5 rfl ?_
    refine g_iconst O dX9_copy_130 ?_
    refine g_isub O dX9_copy_131 ?_
    refine g_iload O dX9_copy_132 7 rfl ?_
    refine g_isub O dX9_copy_134 ?_
    refine g_goto (tgt := 140) O dX9_copy_135 (by decide) ?_
    exact hk3 ((i5 - 1) - i7) s
theorem hd_X9_copy : yX9_copy.cls ≠ "java/lang/invoke/MethodHandle" ∧ yX9_copy.cls ≠ "java/lang/invoke/VarHandle" ∧ (parseMethodDescriptor yX9_copy.desc).map (fun d => d.parameters.length) = some 5 := by decide +kernel
set_option maxRecDepth 20000 in
set_option maxHeartbeats 4000000 in
theorem ct_X9_copy  (i1 : Int) (i2 : Int) (i3 : Int) (i4 : Int) (i5 : Int) (s : St) : Ctr LM yX9_copy cX9_copy 9 (Option.some .int) 1 2 42 [vR 0, vI i1, vI i2, vI i3, vI i4, vI i5] s (X9_copy i1 i2 i3 i4 i5 s) := by
  refine Ctr.of (by decide +kernel) (fun ρ => Nat.le_of_ble_eq_true rfl) (lv := [(0, vR 0), (1, vI i1), (2, vI i2), (3, vI i3), (4, vI i4), (5, vI i5)]) (fun ρ => rfl) (fun K X O hrt hfr hlo => ?_)
  unfold X9_copy
  refine g_iload_n O dX9_copy_0 rfl 1 rfl ?_
  refine g_callS1 (As := [vI i1]) (rest := []) O mw_4_130 mw_4_131 mw_4_132 mw_1_10 hd_X9_isRow rfl dX9_copy_1 (ct_X9_isRow i1 s) (by rw [hfr]; decide) (by rw [hlo]; decide) (Nat.le_of_ble_eq_true rfl) (fun v1 s2 => ?_)
  refine g_if_eq (tgt := 14) O dX9_copy_4 (by decide) ?_ ?_
  · refine g_iconst O dX9_copy_14 ?_
    exact g_iret O hrt rfl dX9_copy_15
  refine g_iload_n O dX9_copy_7 rfl 3 rfl ?_
  refine g_callS1 (As := [vI i3]) (rest := []) O mw_4_130 mw_4_131 mw_4_132 mw_1_10 hd_X9_isRow rfl dX9_copy_8 (ct_X9_isRow i3 s2) (by rw [hfr]; decide) (by rw [hlo]; decide) (Nat.le_of_ble_eq_true rfl) (fun v3 s4 => ?_)
  refine g_if_ne (tgt := 16) O dX9_copy_11 (by decide) ?_ ?_
  · refine g_iload O dX9_copy_16 5 rfl ?_
    refine g_if_ge (tgt := 27) O dX9_copy_18 (by decide) ?_ ?_
    · refine g_aload_n O dX9_copy_27 rfl 0 rfl ?_
      refine g_getR O fw_9_7 rfl dX9_copy_28 rfl ?_
      refine g_iload_n O dX9_copy_31 rfl 1 rfl ?_
      refine g_iald O rfl (by decide) dX9_copy_32 (fun v5 => ?_)
      refine g_if_lt (tgt := 45) O dX9_copy_33 (by decide) ?_ ?_
      · refine g_aload_n O dX9_copy_45 rfl 0 rfl ?_
        refine g_iconst O dX9_copy_46 ?_
        refine g_callV1 (As := [vI 1]) (rest := []) (b := 0) (ci := 9) O mw_4_136 mw_4_138 mp_2_12 mw_4_139 mw_1_10 hd_X9_found rfl ⟨_, _, rfl⟩ rfl dX9_copy_47 (ct_X9_found 1 s4) (by rw [hfr]; decide) (by rw [hlo]; decide) (Nat.le_of_ble_eq_true rfl) (fun v6 s7 => ?_)
        exact g_iret O hrt rfl dX9_copy_50
      refine g_aload_n O dX9_copy_36 rfl 0 rfl ?_
      refine g_getR O fw_9_7 rfl dX9_copy_37 rfl ?_
      refine g_iload_n O dX9_copy_40 rfl 3 rfl ?_
      refine g_iald O rfl (by decide) dX9_copy_41 (fun v8 => ?_)
      refine g_if_ge (tgt := 51) O dX9_copy_42 (by decide) ?_ ?_
      · refine g_iload_n O dX9_copy_51 rfl 2 rfl ?_
        refine g_if_lt (tgt := 94) O dX9_copy_52 (by decide) ?_ ?_
        · refine g_aload_n O dX9_copy_94 rfl 0 rfl ?_
          refine g_iconst O dX9_copy_95 ?_
          refine g_callV1 (As := [vI 2]) (rest := []) (b := 0) (ci := 9) O mw_4_136 mw_4_138 mp_2_12 mw_4_139 mw_1_10 hd_X9_found rfl ⟨_, _, rfl⟩ rfl dX9_copy_96 (ct_X9_found 2 s4) (by rw [hfr]; decide) (by rw [hlo]; decide) (Nat.le_of_ble_eq_true rfl) (fun v9 s10 => ?_)
          exact g_iret O hrt rfl dX9_copy_99
        refine g_iload O dX9_copy_55 4 rfl ?_
        refine g_if_lt (tgt := 94) O dX9_copy_57 (by decide) ?_ ?_
        · refine g_aload_n O dX9_copy_94 rfl 0 rfl ?_
          refine g_iconst O dX9_copy_95 ?_
          refine g_callV1 (As := [vI 2]) (rest := []) (b := 0) (ci := 9) O mw_4_136 mw_4_138 mp_2_12 mw_4_139 mw_1_10 hd_X9_found rfl ⟨_, _, rfl⟩ rfl dX9_copy_96 (ct_X9_found 2 s4) (by rw [hfr]; decide) (by rw [hlo]; decide) (Nat.le_of_ble_eq_true rfl) (fun v11 s12 => ?_)
          exact g_iret O hrt rfl dX9_copy_99
        refine g_iload O dX9_copy_60 5 rfl ?_
        refine g_bipush O dX9_copy_62 (by decide +kernel) ?_
        refine g_icmp_gt (tgt := 94) O dX9_copy_64 (by decide) ?_ ?_
        · refine g_aload_n O dX9_copy_94 rfl 0 rfl ?_
          refine g_iconst O dX9_copy_95 ?_
          refine g_callV1 (As := [vI 2]) (rest := []) (b := 0) (ci := 9) O mw_4_136 mw_4_138 mp_2_12 mw_4_139 mw_1_10 hd_X9_found rfl ⟨_, _, rfl⟩ rfl dX9_copy_96 (ct_X9_found 2 s4) (by rw [hfr]; decide) (by rw [hlo]; decide) (Nat.le_of_ble_eq_true rfl) (fun v13 s14 => ?_)
          exact g_iret O hrt rfl dX9_copy_99
        refine g_iload_n O dX9_copy_67 rfl 2 rfl ?_
        refine g_aload_n O dX9_copy_68 rfl 0 rfl ?_
        refine g_getR O fw_9_7 rfl dX9_copy_69 rfl ?_
        refine g_iload_n O dX9_copy_72 rfl 1 rfl ?_
        refine g_iald O rfl (by decide) dX9_copy_73 (fun v15 => ?_)
        refine g_iload O dX9_copy_74 5 rfl ?_
        refine g_isub O dX9_copy_76 ?_
        refine g_icmp_gt (tgt := 94) O dX9_copy_77 (by decide) ?_ ?_
        · refine g_aload_n O dX9_copy_94 rfl 0 rfl ?_
          refine g_iconst O dX9_copy_95 ?_
          refine g_callV1 (As := [vI 2]) (rest := []) (b := 0) (ci := 9) O mw_4_136 mw_4_138 mp_2_12 mw_4_139 mw_1_10 hd_X9_found rfl ⟨_, _, rfl⟩ rfl dX9_copy_96 (ct_X9_found 2 s4) (by rw [hfr]; decide) (by rw [hlo]; decide) (Nat.le_of_ble_eq_true rfl) (fun v16 s17 => ?_)
          exact g_iret O hrt rfl dX9_copy_99
        refine g_iload O dX9_copy_80 4 rfl ?_
        refine g_aload_n O dX9_copy_82 rfl 0 rfl ?_
        refine g_getR O fw_9_7 rfl dX9_copy_83 rfl ?_
        refine g_iload_n O dX9_copy_86 rfl 3 rfl ?_
        refine g_iald O rfl (by decide) dX9_copy_87 (fun v18 => ?_)
        refine g_iload O dX9_copy_88 5 rfl ?_
        refine g_isub O dX9_copy_90 ?_
        refine g_icmp_le (tgt := 100) O dX9_copy_91 (by decide) ?_ ?_
        · refine g_iload O dX9_copy_100 4 rfl ?_
          refine g_iload_n O dX9_copy_102 rfl 2 rfl ?_
          refine g_jn (fun (j : Int → St → Rs) => ∀ (x19 : Int) (s20 : St), GX LM K X 9 1 111 [(0, vR 0), (1, vI i1), (2, vI i2), (3, vI i3), (4, vI i4), (5, vI i5)] [vI x19] s20 (j x19 s20)) ?_ ?_
          · intro x19 s20
            refine g_istore (lv2 := [(6, vI x19), (0, vR 0), (1, vI i1), (2, vI i2), (3, vI i3), (4, vI i4), (5, vI i5)]) O dX9_copy_111 (by decide) rfl ?_
            refine g_iconst O dX9_copy_113 ?_
            refine g_istore (lv2 := [(7, vI 0), (6, vI x19), (0, vR 0), (1, vI i1), (2, vI i2), (3, vI i3), (4, vI i4), (5, vI i5)]) O dX9_copy_114 (by decide) rfl ?_
            refine g_pick [2, 3, 4, 5, 6, 7, 1, 0] rfl ?_
            refine lt_X9_copy_116 O hrt hfr hlo  (fun s22 => ?_) FU 0 s20
            refine g_iconst O dX9_copy_177 ?_
            exact g_iret O hrt rfl dX9_copy_178
          intro k21 hk21
          refine g_icmp_le (tgt := 110) O dX9_copy_103 (by decide) ?_ ?_
          · refine g_iconst O dX9_copy_110 ?_
            exact hk21 0 s4
          refine g_iconst O dX9_copy_106 ?_
          refine g_goto (tgt := 111) O dX9_copy_107 (by decide) ?_
          exact hk21 1 s4
        refine g_aload_n O dX9_copy_94 rfl 0 rfl ?_
        refine g_iconst O dX9_copy_95 ?_
        refine g_callV1 (As := [vI 2]) (rest := []) (b := 0) (ci := 9) O mw_4_136 mw_4_138 mp_2_12 mw_4_139 mw_1_10 hd_X9_found rfl ⟨_, _, rfl⟩ rfl dX9_copy_96 (ct_X9_found 2 s4) (by rw [hfr]; decide) (by rw [hlo]; decide) (Nat.le_of_ble_eq_true rfl) (fun v23 s24 => ?_)
        exact g_iret O hrt rfl dX9_copy_99
      refine g_aload_n O dX9_copy_45 rfl 0 rfl ?_
      refine g_iconst O dX9_copy_46 ?_
      refine g_callV1 (As := [vI 1]) (rest := []) (b := 0) (ci := 9) O mw_4_136 mw_4_138 mp_2_12 mw_4_139 mw_1_10 hd_X9_found rfl ⟨_, _, rfl⟩ rfl dX9_copy_47 (ct_X9_found 1 s4) (by rw [hfr]; decide) (by rw [hlo]; decide) (Nat.le_of_ble_eq_true rfl) (fun v25 s26 => ?_)
      exact g_iret O hrt rfl dX9_copy_50
    refine g_aload_n O dX9_copy_21 rfl 0 rfl ?_
    refine g_iconst O dX9_copy_22 ?_
    refine g_callV1 (As := [vI 5]) (rest := []) (b := 0) (ci := 9) O mw_4_136 mw_4_138 mp_2_12 mw_4_139 mw_1_10 hd_X9_found rfl ⟨_, _, rfl⟩ rfl dX9_copy_23 (ct_X9_found 5 s4) (by rw [hfr]; decide) (by rw [hlo]; decide) (Nat.le_of_ble_eq_true rfl) (fun v27 s28 => ?_)
    exact g_iret O hrt rfl dX9_copy_26
  refine g_iconst O dX9_copy_14 ?_
  exact g_iret O hrt rfl dX9_copy_15
def X9_mean_44 (i1 : Int) (k : Int → St → Rs) : Nat → Int → Int → St → Rs
  | 0, _, _, _ => none
  | n + 1, l2, i4, s => rd s 1 6 i1 (fun v1 => cLt i4 v1 (rd s 2 240 ((40 * i1) + i4) (fun v2 => X9_mean_44 i1 k n (l2 + (w32 v2)) (i4 + 1) s)) (k l2 s))
def X9_mean (i1 : Int) (s : St) : Rs := cl (X9_isRow i1 s) (fun v1 s2 => cEq v1 0 (some ((-1), s2)) (rd s2 1 6 i1 (fun v3 => cLt v3 0 (cl (X9_found 1 s2) (fun v13 s14 => some (v13, s14))) (rd s2 1 6 i1 (fun v4 => cEq v4 0 (cl (X9_found 4 s2) (fun v11 s12 => some (v11, s12))) (X9_mean_44 i1 (fun x5 s6 => rd s6 1 6 i1 (fun v7 => dvL x5 (w32 v7) (fun v8 => cl (X9_tells v8 1 s6) (fun v9 s10 => some (v9, s10))))) FU 0 0 s2))))))
set_option maxRecDepth 20000 in
set_option maxHeartbeats 4000000 in
theorem lt_X9_mean_44 {K : Cx} {X : Wx} (O : OKx LM K X yX9_mean.cls cX9_mean 5) (hrt : (kMe K).sig.returnType = (Option.some .int)) (hfr : (kR K).frames = 2) (hlo : (kR K).locals = 42) {i1 : Int} {k : Int → St → Rs}  (hk : ∀ (l2 : Int) (s : St), GX LM K X 5 1 77 [(0, vR 0), (1, vI i1), (2, vL l2)] [] s (k l2 s)) : ∀ (n : Nat) (l2 : Int) (i4 : Int) (s : St), GX LM K X 5 1 44 [(0, vR 0), (1, vI i1), (2, vL l2), (4, vI i4)] [] s (X9_mean_44 i1 k n l2 i4 s) := by
  intro n
  induction n with
  | zero => intro l2 i4 s; exact GX.none
  | succ n ih =>
    intro l2 i4 s
    rw [X9_mean_44]
    refine g_iload O dX9_mean_44 3 rfl ?_
    refine g_aload_n O dX9_mean_46 rfl 0 rfl ?_
    refine g_getR O fw_9_7 rfl dX9_mean_47 rfl ?_
    refine g_iload_n O dX9_mean_50 rfl 1 rfl ?_
    refine g_iald O rfl (by decide) dX9_mean_51 (fun v1 => ?_)
    refine g_icmp_ge (tgt := 77) O dX9_mean_52 (by decide) ?_ ?_
    · refine g_pick [0, 1, 2] rfl ?_
      exact hk l2 s
    refine g_lload_n O dX9_mean_55 rfl 2 rfl ?_
    refine g_aload_n O dX9_mean_56 rfl 0 rfl ?_
    refine g_getR O fw_9_13 rfl dX9_mean_57 rfl ?_
    refine g_bipush O dX9_mean_60 (by decide +kernel) ?_
    refine g_iload_n O dX9_mean_62 rfl 1 rfl ?_
    refine g_imul O dX9_mean_63 ?_
    refine g_iload O dX9_mean_64 3 rfl ?_
    refine g_iadd O dX9_mean_66 ?_
    refine g_iald O rfl (by decide) dX9_mean_67 (fun v2 => ?_)
    refine g_i2l O dX9_mean_68 ?_
    refine g_ladd O dX9_mean_69 ?_
    refine g_lstore_n (lv2 := [(2, vL (l2 + (w32 v2))), (0, vR 0), (1, vI i1), (4, vI i4)]) O dX9_mean_70 rfl (by decide) rfl ?_
    refine g_iinc (lv2 := [(4, vI (i4 + 1)), (2, vL (l2 + (w32 v2))), (0, vR 0), (1, vI i1)]) O dX9_mean_71 3 rfl (by decide) rfl ?_
    refine g_goto (tgt := 44) O dX9_mean_74 (by decide) ?_
    refine g_pick [2, 3, 1, 0] rfl ?_
    exact ih (l2 + (w32 v2)) (i4 + 1) s
theorem hd_X9_mean : yX9_mean.cls ≠ "java/lang/invoke/MethodHandle" ∧ yX9_mean.cls ≠ "java/lang/invoke/VarHandle" ∧ (parseMethodDescriptor yX9_mean.desc).map (fun d => d.parameters.length) = some 1 := by decide +kernel
set_option maxRecDepth 20000 in
set_option maxHeartbeats 4000000 in
theorem ct_X9_mean  (i1 : Int) (s : St) : Ctr LM yX9_mean cX9_mean 5 (Option.some .int) 1 2 42 [vR 0, vI i1] s (X9_mean i1 s) := by
  refine Ctr.of (by decide +kernel) (fun ρ => Nat.le_of_ble_eq_true rfl) (lv := [(0, vR 0), (1, vI i1)]) (fun ρ => rfl) (fun K X O hrt hfr hlo => ?_)
  unfold X9_mean
  refine g_iload_n O dX9_mean_0 rfl 1 rfl ?_
  refine g_callS1 (As := [vI i1]) (rest := []) O mw_4_130 mw_4_131 mw_4_132 mw_1_10 hd_X9_isRow rfl dX9_mean_1 (ct_X9_isRow i1 s) (by rw [hfr]; decide) (by rw [hlo]; decide) (Nat.le_of_ble_eq_true rfl) (fun v1 s2 => ?_)
  refine g_if_ne (tgt := 9) O dX9_mean_4 (by decide) ?_ ?_
  · refine g_aload_n O dX9_mean_9 rfl 0 rfl ?_
    refine g_getR O fw_9_7 rfl dX9_mean_10 rfl ?_
    refine g_iload_n O dX9_mean_13 rfl 1 rfl ?_
    refine g_iald O rfl (by decide) dX9_mean_14 (fun v3 => ?_)
    refine g_if_ge (tgt := 24) O dX9_mean_15 (by decide) ?_ ?_
    · refine g_aload_n O dX9_mean_24 rfl 0 rfl ?_
      refine g_getR O fw_9_7 rfl dX9_mean_25 rfl ?_
      refine g_iload_n O dX9_mean_28 rfl 1 rfl ?_
      refine g_iald O rfl (by decide) dX9_mean_29 (fun v4 => ?_)
      refine g_if_ne (tgt := 39) O dX9_mean_30 (by decide) ?_ ?_
      · refine g_lconst (x := 0) O dX9_mean_39 (by decide +kernel) ?_
        refine g_lstore_n (lv2 := [(2, vL 0), (0, vR 0), (1, vI i1)]) O dX9_mean_40 rfl (by decide) rfl ?_
        refine g_iconst O dX9_mean_41 ?_
        refine g_istore (lv2 := [(4, vI 0), (2, vL 0), (0, vR 0), (1, vI i1)]) O dX9_mean_42 (by decide) rfl ?_
        refine g_pick [2, 3, 1, 0] rfl ?_
        refine lt_X9_mean_44 O hrt hfr hlo  (fun x5 s6 => ?_) FU 0 0 s2
        refine g_aload_n O dX9_mean_77 rfl 0 rfl ?_
        refine g_lload_n O dX9_mean_78 rfl 2 rfl ?_
        refine g_aload_n O dX9_mean_79 rfl 0 rfl ?_
        refine g_getR O fw_9_7 rfl dX9_mean_80 rfl ?_
        refine g_iload_n O dX9_mean_83 rfl 1 rfl ?_
        refine g_iald O rfl (by decide) dX9_mean_84 (fun v7 => ?_)
        refine g_i2l O dX9_mean_85 ?_
        refine g_ldiv O dX9_mean_86 (fun v8 => ?_)
        refine g_l2i O dX9_mean_87 ?_
        refine g_iconst O dX9_mean_88 ?_
        refine g_callV1 (As := [vI v8, vI 1]) (rest := []) (b := 0) (ci := 9) O mw_4_152 mw_4_154 mp_2_15 mw_4_155 mw_1_10 hd_X9_tells rfl ⟨_, _, rfl⟩ rfl dX9_mean_89 (ct_X9_tells v8 1 s6) (by rw [hfr]; decide) (by rw [hlo]; decide) (Nat.le_of_ble_eq_true rfl) (fun v9 s10 => ?_)
        exact g_iret O hrt rfl dX9_mean_92
      refine g_aload_n O dX9_mean_33 rfl 0 rfl ?_
      refine g_iconst O dX9_mean_34 ?_
      refine g_callV1 (As := [vI 4]) (rest := []) (b := 0) (ci := 9) O mw_4_136 mw_4_138 mp_2_12 mw_4_139 mw_1_10 hd_X9_found rfl ⟨_, _, rfl⟩ rfl dX9_mean_35 (ct_X9_found 4 s2) (by rw [hfr]; decide) (by rw [hlo]; decide) (Nat.le_of_ble_eq_true rfl) (fun v11 s12 => ?_)
      exact g_iret O hrt rfl dX9_mean_38
    refine g_aload_n O dX9_mean_18 rfl 0 rfl ?_
    refine g_iconst O dX9_mean_19 ?_
    refine g_callV1 (As := [vI 1]) (rest := []) (b := 0) (ci := 9) O mw_4_136 mw_4_138 mp_2_12 mw_4_139 mw_1_10 hd_X9_found rfl ⟨_, _, rfl⟩ rfl dX9_mean_20 (ct_X9_found 1 s2) (by rw [hfr]; decide) (by rw [hlo]; decide) (Nat.le_of_ble_eq_true rfl) (fun v13 s14 => ?_)
    exact g_iret O hrt rfl dX9_mean_23
  refine g_iconst O dX9_mean_7 ?_
  exact g_iret O hrt rfl dX9_mean_8
def X9_text_34 (i1 : Int) (i2 : Int) (k : St → Rs) : Nat → Int → St → Rs
  | 0, _, _ => none
  | n + 1, i3, s => cLt i3 i2 (wr s 4 240 ((60 * i1) + i3) 32 (fun s1 => X9_text_34 i1 i2 k n (i3 + 1) s1)) (k s)
def X9_text (i1 : Int) (i2 : Int) (s : St) : Rs := cl (X9_isText i1 s) (fun v1 s2 => cEq v1 0 (some ((-1), s2)) (cLt 60 i2 (some ((-1), s2)) (cLt i2 0 (cl (X9_found 5 s2) (fun v5 s6 => some (v5, s6))) (wr s2 3 4 i1 i2 (fun s3 => X9_text_34 i1 i2 (fun s4 => some (i2, s4)) FU 0 s3)))))
set_option maxRecDepth 20000 in
set_option maxHeartbeats 4000000 in
theorem lt_X9_text_34 {K : Cx} {X : Wx} (O : OKx LM K X yX9_text.cls cX9_text 4) (hrt : (kMe K).sig.returnType = (Option.some .int)) (hfr : (kR K).frames = 2) (hlo : (kR K).locals = 42) {i1 : Int} {i2 : Int} {k : St → Rs}  (hk : ∀  (s : St), GX LM K X 4 1 58 [(2, vI i2)] [] s (k s)) : ∀ (n : Nat) (i3 : Int) (s : St), GX LM K X 4 1 34 [(0, vR 0), (1, vI i1), (2, vI i2), (3, vI i3)] [] s (X9_text_34 i1 i2 k n i3 s) := by
  intro n
  induction n with
  | zero => intro i3 s; exact GX.none
  | succ n ih =>
    intro i3 s
    rw [X9_text_34]
    refine g_iload_n O dX9_text_34 rfl 3 rfl ?_
    refine g_iload_n O dX9_text_35 rfl 2 rfl ?_
    refine g_icmp_ge (tgt := 58) O dX9_text_36 (by decide) ?_ ?_
    · refine g_pick [2] rfl ?_
      exact hk s
    refine g_aload_n O dX9_text_39 rfl 0 rfl ?_
    refine g_getR O fw_9_19 rfl dX9_text_40 rfl ?_
    refine g_bipush O dX9_text_43 (by decide +kernel) ?_
    refine g_iload_n O dX9_text_45 rfl 1 rfl ?_
    refine g_imul O dX9_text_46 ?_
    refine g_iload_n O dX9_text_47 rfl 3 rfl ?_
    refine g_iadd O dX9_text_48 ?_
    refine g_bipush O dX9_text_49 (by decide +kernel) ?_
    refine g_iast O rfl (by decide) dX9_text_51 (fun s1 => ?_)
    refine g_iinc (lv2 := [(3, vI (i3 + 1)), (0, vR 0), (1, vI i1), (2, vI i2)]) O dX9_text_52 3 rfl (by decide) rfl ?_
    refine g_goto (tgt := 34) O dX9_text_55 (by decide) ?_
    refine g_pick [1, 2, 3, 0] rfl ?_
    exact ih (i3 + 1) s1
theorem hd_X9_text : yX9_text.cls ≠ "java/lang/invoke/MethodHandle" ∧ yX9_text.cls ≠ "java/lang/invoke/VarHandle" ∧ (parseMethodDescriptor yX9_text.desc).map (fun d => d.parameters.length) = some 2 := by decide +kernel
set_option maxRecDepth 20000 in
set_option maxHeartbeats 4000000 in
theorem ct_X9_text  (i1 : Int) (i2 : Int) (s : St) : Ctr LM yX9_text cX9_text 4 (Option.some .int) 1 2 42 [vR 0, vI i1, vI i2] s (X9_text i1 i2 s) := by
  refine Ctr.of (by decide +kernel) (fun ρ => Nat.le_of_ble_eq_true rfl) (lv := [(0, vR 0), (1, vI i1), (2, vI i2)]) (fun ρ => rfl) (fun K X O hrt hfr hlo => ?_)
  unfold X9_text
  refine g_iload_n O dX9_text_0 rfl 1 rfl ?_
  refine g_callS1 (As := [vI i1]) (rest := []) O mw_4_176 mw_4_177 mw_4_178 mw_1_10 hd_X9_isText rfl dX9_text_1 (ct_X9_isText i1 s) (by rw [hfr]; decide) (by rw [hlo]; decide) (Nat.le_of_ble_eq_true rfl) (fun v1 s2 => ?_)
  refine g_if_eq (tgt := 13) O dX9_text_4 (by decide) ?_ ?_
  · refine g_iconst O dX9_text_13 ?_
    exact g_iret O hrt rfl dX9_text_14
  refine g_iload_n O dX9_text_7 rfl 2 rfl ?_
  refine g_bipush O dX9_text_8 (by decide +kernel) ?_
  refine g_icmp_le (tgt := 15) O dX9_text_10 (by decide) ?_ ?_
  · refine g_iload_n O dX9_text_15 rfl 2 rfl ?_
    refine g_if_ge (tgt := 25) O dX9_text_16 (by decide) ?_ ?_
    · refine g_aload_n O dX9_text_25 rfl 0 rfl ?_
      refine g_getR O fw_9_16 rfl dX9_text_26 rfl ?_
      refine g_iload_n O dX9_text_29 rfl 1 rfl ?_
      refine g_iload_n O dX9_text_30 rfl 2 rfl ?_
      refine g_iast O rfl (by decide) dX9_text_31 (fun s3 => ?_)
      refine g_iconst O dX9_text_32 ?_
      refine g_istore_n (lv2 := [(3, vI 0), (0, vR 0), (1, vI i1), (2, vI i2)]) O dX9_text_33 rfl (by decide) rfl ?_
      refine g_pick [1, 2, 3, 0] rfl ?_
      refine lt_X9_text_34 O hrt hfr hlo  (fun s4 => ?_) FU 0 s3
      refine g_iload_n O dX9_text_58 rfl 0 rfl ?_
      exact g_iret O hrt rfl dX9_text_59
    refine g_aload_n O dX9_text_19 rfl 0 rfl ?_
    refine g_iconst O dX9_text_20 ?_
    refine g_callV1 (As := [vI 5]) (rest := []) (b := 0) (ci := 9) O mw_4_136 mw_4_138 mp_2_12 mw_4_139 mw_1_10 hd_X9_found rfl ⟨_, _, rfl⟩ rfl dX9_text_21 (ct_X9_found 5 s2) (by rw [hfr]; decide) (by rw [hlo]; decide) (Nat.le_of_ble_eq_true rfl) (fun v5 s6 => ?_)
    exact g_iret O hrt rfl dX9_text_24
  refine g_iconst O dX9_text_13 ?_
  exact g_iret O hrt rfl dX9_text_14
def X9_put (i1 : Int) (i2 : Int) (i3 : Int) (s : St) : Rs := cl (X9_isText i1 s) (fun v1 s2 => cEq v1 0 (some ((-1), s2)) (rd s2 3 4 i1 (fun v3 => cLt v3 0 (cl (X9_found 1 s2) (fun v11 s12 => some (v11, s12))) (rd s2 3 4 i1 (fun v4 => cl (X9_in i2 0 (v4 - 1) s2) (fun v5 s6 => cEq v5 0 (cl (X9_found 2 s6) (fun v9 s10 => some (v9, s10))) (rd s6 4 240 ((60 * i1) + i2) (fun v7 => wr s6 4 240 ((60 * i1) + i2) (oShr (oShl i3 24) 24) (fun s8 => some (v7 + 1000, s8))))))))))
theorem hd_X9_put : yX9_put.cls ≠ "java/lang/invoke/MethodHandle" ∧ yX9_put.cls ≠ "java/lang/invoke/VarHandle" ∧ (parseMethodDescriptor yX9_put.desc).map (fun d => d.parameters.length) = some 3 := by decide +kernel
set_option maxRecDepth 20000 in
set_option maxHeartbeats 4000000 in
theorem ct_X9_put  (i1 : Int) (i2 : Int) (i3 : Int) (s : St) : Ctr LM yX9_put cX9_put 5 (Option.some .int) 1 2 42 [vR 0, vI i1, vI i2, vI i3] s (X9_put i1 i2 i3 s) := by
  refine Ctr.of (by decide +kernel) (fun ρ => Nat.le_of_ble_eq_true rfl) (lv := [(0, vR 0), (1, vI i1), (2, vI i2), (3, vI i3)]) (fun ρ => rfl) (fun K X O hrt hfr hlo => ?_)
  unfold X9_put
  refine g_iload_n O dX9_put_0 rfl 1 rfl ?_
  refine g_callS1 (As := [vI i1]) (rest := []) O mw_4_176 mw_4_177 mw_4_178 mw_1_10 hd_X9_isText rfl dX9_put_1 (ct_X9_isText i1 s) (by rw [hfr]; decide) (by rw [hlo]; decide) (Nat.le_of_ble_eq_true rfl) (fun v1 s2 => ?_)
  refine g_if_ne (tgt := 9) O dX9_put_4 (by decide) ?_ ?_
  · refine g_aload_n O dX9_put_9 rfl 0 rfl ?_
    refine g_getR O fw_9_16 rfl dX9_put_10 rfl ?_
    refine g_iload_n O dX9_put_13 rfl 1 rfl ?_
    refine g_iald O rfl (by decide) dX9_put_14 (fun v3 => ?_)
    refine g_if_ge (tgt := 24) O dX9_put_15 (by decide) ?_ ?_
    · refine g_iload_n O dX9_put_24 rfl 2 rfl ?_
      refine g_iconst O dX9_put_25 ?_
      refine g_aload_n O dX9_put_26 rfl 0 rfl ?_
      refine g_getR O fw_9_16 rfl dX9_put_27 rfl ?_
      refine g_iload_n O dX9_put_30 rfl 1 rfl ?_
      refine g_iald O rfl (by decide) dX9_put_31 (fun v4 => ?_)
      refine g_iconst O dX9_put_32 ?_
      refine g_isub O dX9_put_33 ?_
      refine g_callS1 (As := [vI i2, vI 0, vI (v4 - 1)]) (rest := []) O mw_4_133 mw_4_134 mw_4_135 mw_1_10 hd_X9_in rfl dX9_put_34 (ct_X9_in i2 0 (v4 - 1) s2) (by rw [hfr]; decide) (by rw [hlo]; decide) (Nat.le_of_ble_eq_true rfl) (fun v5 s6 => ?_)
      refine g_if_ne (tgt := 46) O dX9_put_37 (by decide) ?_ ?_
      · refine g_aload_n O dX9_put_46 rfl 0 rfl ?_
        refine g_getR O fw_9_19 rfl dX9_put_47 rfl ?_
        refine g_bipush O dX9_put_50 (by decide +kernel) ?_
        refine g_iload_n O dX9_put_52 rfl 1 rfl ?_
        refine g_imul O dX9_put_53 ?_
        refine g_iload_n O dX9_put_54 rfl 2 rfl ?_
        refine g_iadd O dX9_put_55 ?_
        refine g_iald O rfl (by decide) dX9_put_56 (fun v7 => ?_)
        refine g_istore (lv2 := [(4, vI v7), (0, vR 0), (1, vI i1), (2, vI i2), (3, vI i3)]) O dX9_put_57 (by decide) rfl ?_
        refine g_aload_n O dX9_put_59 rfl 1 rfl ?_
        refine g_getR O fw_9_19 rfl dX9_put_60 rfl ?_
        refine g_bipush O dX9_put_63 (by decide +kernel) ?_
        refine g_iload_n O dX9_put_65 rfl 2 rfl ?_
        refine g_imul O dX9_put_66 ?_
        refine g_iload_n O dX9_put_67 rfl 3 rfl ?_
        refine g_iadd O dX9_put_68 ?_
        refine g_iload_n O dX9_put_69 rfl 4 rfl ?_
        refine g_bipush O dX9_put_70 (by decide +kernel) ?_
        refine g_ishl O dX9_put_72 ?_
        refine g_bipush O dX9_put_73 (by decide +kernel) ?_
        refine g_ishr O dX9_put_75 ?_
        refine g_iast O rfl (by decide) dX9_put_76 (fun s8 => ?_)
        refine g_iload O dX9_put_77 0 rfl ?_
        refine g_sipush O dX9_put_79 (by decide +kernel) ?_
        refine g_iadd O dX9_put_82 ?_
        exact g_iret O hrt rfl dX9_put_83
      refine g_aload_n O dX9_put_40 rfl 0 rfl ?_
      refine g_iconst O dX9_put_41 ?_
      refine g_callV1 (As := [vI 2]) (rest := []) (b := 0) (ci := 9) O mw_4_136 mw_4_138 mp_2_12 mw_4_139 mw_1_10 hd_X9_found rfl ⟨_, _, rfl⟩ rfl dX9_put_42 (ct_X9_found 2 s6) (by rw [hfr]; decide) (by rw [hlo]; decide) (Nat.le_of_ble_eq_true rfl) (fun v9 s10 => ?_)
      exact g_iret O hrt rfl dX9_put_45
    refine g_aload_n O dX9_put_18 rfl 0 rfl ?_
    refine g_iconst O dX9_put_19 ?_
    refine g_callV1 (As := [vI 1]) (rest := []) (b := 0) (ci := 9) O mw_4_136 mw_4_138 mp_2_12 mw_4_139 mw_1_10 hd_X9_found rfl ⟨_, _, rfl⟩ rfl dX9_put_20 (ct_X9_found 1 s2) (by rw [hfr]; decide) (by rw [hlo]; decide) (Nat.le_of_ble_eq_true rfl) (fun v11 s12 => ?_)
    exact g_iret O hrt rfl dX9_put_23
  refine g_iconst O dX9_put_7 ?_
  exact g_iret O hrt rfl dX9_put_8
def X9_isDocument (i0 : Int) (s : St) : Rs := cl (X9_in i0 0 1 s) (fun v1 s2 => gB v1 (some (v1, s2)))
theorem hd_X9_isDocument : yX9_isDocument.cls ≠ "java/lang/invoke/MethodHandle" ∧ yX9_isDocument.cls ≠ "java/lang/invoke/VarHandle" ∧ (parseMethodDescriptor yX9_isDocument.desc).map (fun d => d.parameters.length) = some 1 := by decide +kernel
set_option maxRecDepth 20000 in
set_option maxHeartbeats 4000000 in
theorem ct_X9_isDocument  (i0 : Int) (s : St) : Ctr LM yX9_isDocument cX9_isDocument 1 (Option.some .boolean) 1 1 22 [vI i0] s (X9_isDocument i0 s) := by
  refine Ctr.of (by decide +kernel) (fun ρ => Nat.le_of_ble_eq_true rfl) (lv := [(0, vI i0)]) (fun ρ => rfl) (fun K X O hrt hfr hlo => ?_)
  unfold X9_isDocument
  refine g_iload_n O dX9_isDocument_0 rfl 0 rfl ?_
  refine g_iconst O dX9_isDocument_1 ?_
  refine g_iconst O dX9_isDocument_2 ?_
  refine g_callS1 (As := [vI i0, vI 0, vI 1]) (rest := []) O mw_4_133 mw_4_134 mw_4_135 mw_1_10 hd_X9_in rfl dX9_isDocument_3 (ct_X9_in i0 0 1 s) (by rw [hfr]; decide) (by rw [hlo]; decide) (Nat.le_of_ble_eq_true rfl) (fun v1 s2 => ?_)
  refine g_gB (fun hb => ?_)
  exact g_iret O hrt (nar_b hb) dX9_isDocument_6
def X9_many (i1 : Int) (s : St) : Rs := rd s 5 53 (25 * i1) (fun v1 => some (v1, s))
theorem hd_X9_many : yX9_many.cls ≠ "java/lang/invoke/MethodHandle" ∧ yX9_many.cls ≠ "java/lang/invoke/VarHandle" ∧ (parseMethodDescriptor yX9_many.desc).map (fun d => d.parameters.length) = some 1 := by decide +kernel
set_option maxRecDepth 20000 in
set_option maxHeartbeats 4000000 in
theorem ct_X9_many  (i1 : Int) (s : St) : Ctr LM yX9_many cX9_many 2 (Option.some .int) 1 0 0 [vR 0, vI i1] s (X9_many i1 s) := by
  refine Ctr.of (by decide +kernel) (fun ρ => Nat.le_of_ble_eq_true rfl) (lv := [(0, vR 0), (1, vI i1)]) (fun ρ => rfl) (fun K X O hrt hfr hlo => ?_)
  unfold X9_many
  refine g_aload_n O dX9_many_0 rfl 0 rfl ?_
  refine g_getR O fw_9_22 rfl dX9_many_1 rfl ?_
  refine g_bipush O dX9_many_4 (by decide +kernel) ?_
  refine g_iload_n O dX9_many_6 rfl 1 rfl ?_
  refine g_imul O dX9_many_7 ?_
  refine g_iald O rfl (by decide) dX9_many_8 (fun v1 => ?_)
  exact g_iret O hrt rfl dX9_many_9
def X9_isNode (i1 : Int) (i2 : Int) (s : St) : Rs := cl (X9_isDocument i1 s) (fun v1 s2 => cEq v1 0 (some (0, s2)) (cl (X9_many i1 s2) (fun v3 s4 => cl (X9_in i2 0 (v3 - 1) s4) (fun v5 s6 => cEq v5 0 (some (0, s6)) (some (1, s6))))))
theorem hd_X9_isNode : yX9_isNode.cls ≠ "java/lang/invoke/MethodHandle" ∧ yX9_isNode.cls ≠ "java/lang/invoke/VarHandle" ∧ (parseMethodDescriptor yX9_isNode.desc).map (fun d => d.parameters.length) = some 2 := by decide +kernel
set_option maxRecDepth 20000 in
set_option maxHeartbeats 4000000 in
theorem ct_X9_isNode  (i1 : Int) (i2 : Int) (s : St) : Ctr LM yX9_isNode cX9_isNode 3 (Option.some .boolean) 1 2 42 [vR 0, vI i1, vI i2] s (X9_isNode i1 i2 s) := by
  refine Ctr.of (by decide +kernel) (fun ρ => Nat.le_of_ble_eq_true rfl) (lv := [(0, vR 0), (1, vI i1), (2, vI i2)]) (fun ρ => rfl) (fun K X O hrt hfr hlo => ?_)
  unfold X9_isNode
  refine g_iload_n O dX9_isNode_0 rfl 1 rfl ?_
  refine g_callS1 (As := [vI i1]) (rest := []) O mw_4_206 mw_4_207 mw_4_208 mw_1_10 hd_X9_isDocument rfl dX9_isNode_1 (ct_X9_isDocument i1 s) (by rw [hfr]; decide) (by rw [hlo]; decide) (Nat.le_of_ble_eq_true rfl) (fun v1 s2 => ?_)
  refine g_if_eq (tgt := 26) O dX9_isNode_4 (by decide) ?_ ?_
  · refine g_iconst O dX9_isNode_26 ?_
    exact g_iret O hrt (by decide +kernel) dX9_isNode_27
  refine g_iload_n O dX9_isNode_7 rfl 2 rfl ?_
  refine g_iconst O dX9_isNode_8 ?_
  refine g_aload_n O dX9_isNode_9 rfl 0 rfl ?_
  refine g_iload_n O dX9_isNode_10 rfl 1 rfl ?_
  refine g_callV1 (As := [vI i1]) (rest := [vI 0, vI i2]) (b := 0) (ci := 9) O mw_4_216 mw_4_218 mp_3_3 mw_4_219 mw_1_10 hd_X9_many rfl ⟨_, _, rfl⟩ rfl dX9_isNode_11 (ct_X9_many i1 s2) (by rw [hfr]; decide) (by rw [hlo]; decide) (Nat.le_of_ble_eq_true rfl) (fun v3 s4 => ?_)
  refine g_iconst O dX9_isNode_14 ?_
  refine g_isub O dX9_isNode_15 ?_
  refine g_callS1 (As := [vI i2, vI 0, vI (v3 - 1)]) (rest := []) O mw_4_133 mw_4_134 mw_4_135 mw_1_10 hd_X9_in rfl dX9_isNode_16 (ct_X9_in i2 0 (v3 - 1) s4) (by rw [hfr]; decide) (by rw [hlo]; decide) (Nat.le_of_ble_eq_true rfl) (fun v5 s6 => ?_)
  refine g_if_eq (tgt := 26) O dX9_isNode_19 (by decide) ?_ ?_
  · refine g_iconst O dX9_isNode_26 ?_
    exact g_iret O hrt (by decide +kernel) dX9_isNode_27
  refine g_iconst O dX9_isNode_22 ?_
  refine g_goto (tgt := 27) O dX9_isNode_23 (by decide) ?_
  exact g_iret O hrt (by decide +kernel) dX9_isNode_27
def X9_codeOf (i1 : Int) (i2 : Int) (s : St) : Rs := rd s 5 53 (((25 * i1) + 1) + i2) (fun v1 => some (v1, s))
theorem hd_X9_codeOf : yX9_codeOf.cls ≠ "java/lang/invoke/MethodHandle" ∧ yX9_codeOf.cls ≠ "java/lang/invoke/VarHandle" ∧ (parseMethodDescriptor yX9_codeOf.desc).map (fun d => d.parameters.length) = some 2 := by decide +kernel
set_option maxRecDepth 20000 in
set_option maxHeartbeats 4000000 in
theorem ct_X9_codeOf  (i1 : Int) (i2 : Int) (s : St) : Ctr LM yX9_codeOf cX9_codeOf 3 (Option.some .int) 1 0 0 [vR 0, vI i1, vI i2] s (X9_codeOf i1 i2 s) := by
  refine Ctr.of (by decide +kernel) (fun ρ => Nat.le_of_ble_eq_true rfl) (lv := [(0, vR 0), (1, vI i1), (2, vI i2)]) (fun ρ => rfl) (fun K X O hrt hfr hlo => ?_)
  unfold X9_codeOf
  refine g_aload_n O dX9_codeOf_0 rfl 0 rfl ?_
  refine g_getR O fw_9_22 rfl dX9_codeOf_1 rfl ?_
  refine g_bipush O dX9_codeOf_4 (by decide +kernel) ?_
  refine g_iload_n O dX9_codeOf_6 rfl 1 rfl ?_
  refine g_imul O dX9_codeOf_7 ?_
  refine g_iconst O dX9_codeOf_8 ?_
  refine g_iadd O dX9_codeOf_9 ?_
  refine g_iload_n O dX9_codeOf_10 rfl 2 rfl ?_
  refine g_iadd O dX9_codeOf_11 ?_
  refine g_iald O rfl (by decide) dX9_codeOf_12 (fun v1 => ?_)
  exact g_iret O hrt rfl dX9_codeOf_13
def X9_leftOf (i1 : Int) (i2 : Int) (s : St) : Rs := rd s 5 53 (((25 * i1) + 13) + i2) (fun v1 => some (v1, s))
theorem hd_X9_leftOf : yX9_leftOf.cls ≠ "java/lang/invoke/MethodHandle" ∧ yX9_leftOf.cls ≠ "java/lang/invoke/VarHandle" ∧ (parseMethodDescriptor yX9_leftOf.desc).map (fun d => d.parameters.length) = some 2 := by decide +kernel
set_option maxRecDepth 20000 in
set_option maxHeartbeats 4000000 in
theorem ct_X9_leftOf  (i1 : Int) (i2 : Int) (s : St) : Ctr LM yX9_leftOf cX9_leftOf 3 (Option.some .int) 1 0 0 [vR 0, vI i1, vI i2] s (X9_leftOf i1 i2 s) := by
  refine Ctr.of (by decide +kernel) (fun ρ => Nat.le_of_ble_eq_true rfl) (lv := [(0, vR 0), (1, vI i1), (2, vI i2)]) (fun ρ => rfl) (fun K X O hrt hfr hlo => ?_)
  unfold X9_leftOf
  refine g_aload_n O dX9_leftOf_0 rfl 0 rfl ?_
  refine g_getR O fw_9_22 rfl dX9_leftOf_1 rfl ?_
  refine g_bipush O dX9_leftOf_4 (by decide +kernel) ?_
  refine g_iload_n O dX9_leftOf_6 rfl 1 rfl ?_
  refine g_imul O dX9_leftOf_7 ?_
  refine g_bipush O dX9_leftOf_8 (by decide +kernel) ?_
  refine g_iadd O dX9_leftOf_10 ?_
  refine g_iload_n O dX9_leftOf_11 rfl 2 rfl ?_
  refine g_iadd O dX9_leftOf_12 ?_
  refine g_iald O rfl (by decide) dX9_leftOf_13 (fun v1 => ?_)
  exact g_iret O hrt rfl dX9_leftOf_14
def X9_isMark (i0 : Int) (s : St) : Rs := cl (X9_in i0 97 114 s) (fun v1 s2 => cEq v1 0 (cl (X9_in i0 65 82 s2) (fun v3 s4 => cEq v3 0 (cl (X9_in i0 48 57 s4) (fun v5 s6 => cEq v5 0 (some (0, s6)) (some (1, s6)))) (some (1, s4)))) (some (1, s2)))
theorem hd_X9_isMark : yX9_isMark.cls ≠ "java/lang/invoke/MethodHandle" ∧ yX9_isMark.cls ≠ "java/lang/invoke/VarHandle" ∧ (parseMethodDescriptor yX9_isMark.desc).map (fun d => d.parameters.length) = some 1 := by decide +kernel
set_option maxRecDepth 20000 in
set_option maxHeartbeats 4000000 in
theorem ct_X9_isMark  (i0 : Int) (s : St) : Ctr LM yX9_isMark cX9_isMark 1 (Option.some .boolean) 1 1 22 [vI i0] s (X9_isMark i0 s) := by
  refine Ctr.of (by decide +kernel) (fun ρ => Nat.le_of_ble_eq_true rfl) (lv := [(0, vI i0)]) (fun ρ => rfl) (fun K X O hrt hfr hlo => ?_)
  unfold X9_isMark
  refine g_iload_n O dX9_isMark_0 rfl 0 rfl ?_
  refine g_bipush O dX9_isMark_1 (by decide +kernel) ?_
  refine g_bipush O dX9_isMark_3 (by decide +kernel) ?_
  refine g_callS1 (As := [vI i0, vI 97, vI 114]) (rest := []) O mw_4_133 mw_4_134 mw_4_135 mw_1_10 hd_X9_in rfl dX9_isMark_5 (ct_X9_in i0 97 114 s) (by rw [hfr]; decide) (by rw [hlo]; decide) (Nat.le_of_ble_eq_true rfl) (fun v1 s2 => ?_)
  refine g_if_ne (tgt := 33) O dX9_isMark_8 (by decide) ?_ ?_
  · refine g_iconst O dX9_isMark_33 ?_
    refine g_goto (tgt := 38) O dX9_isMark_34 (by decide) ?_
    exact g_iret O hrt (by decide +kernel) dX9_isMark_38
  refine g_iload_n O dX9_isMark_11 rfl 0 rfl ?_
  refine g_bipush O dX9_isMark_12 (by decide +kernel) ?_
  refine g_bipush O dX9_isMark_14 (by decide +kernel) ?_
  refine g_callS1 (As := [vI i0, vI 65, vI 82]) (rest := []) O mw_4_133 mw_4_134 mw_4_135 mw_1_10 hd_X9_in rfl dX9_isMark_16 (ct_X9_in i0 65 82 s2) (by rw [hfr]; decide) (by rw [hlo]; decide) (Nat.le_of_ble_eq_true rfl) (fun v3 s4 => ?_)
  refine g_if_ne (tgt := 33) O dX9_isMark_19 (by decide) ?_ ?_
  · refine g_iconst O dX9_isMark_33 ?_
    refine g_goto (tgt := 38) O dX9_isMark_34 (by decide) ?_
    exact g_iret O hrt (by decide +kernel) dX9_isMark_38
  refine g_iload_n O dX9_isMark_22 rfl 0 rfl ?_
  refine g_bipush O dX9_isMark_23 (by decide +kernel) ?_
  refine g_bipush O dX9_isMark_25 (by decide +kernel) ?_
  refine g_callS1 (As := [vI i0, vI 48, vI 57]) (rest := []) O mw_4_133 mw_4_134 mw_4_135 mw_1_10 hd_X9_in rfl dX9_isMark_27 (ct_X9_in i0 48 57 s4) (by rw [hfr]; decide) (by rw [hlo]; decide) (Nat.le_of_ble_eq_true rfl) (fun v5 s6 => ?_)
  refine g_if_eq (tgt := 37) O dX9_isMark_30 (by decide) ?_ ?_
  · refine g_iconst O dX9_isMark_37 ?_
    exact g_iret O hrt (by decide +kernel) dX9_isMark_38
  refine g_iconst O dX9_isMark_33 ?_
  refine g_goto (tgt := 38) O dX9_isMark_34 (by decide) ?_
  exact g_iret O hrt (by decide +kernel) dX9_isMark_38
def X9_kindOf (i0 : Int) (s : St) : Rs := cLt 57 i0 (cLt 82 i0 (cLt 105 i0 (some (4, s)) (some (0, s))) (cLt 73 i0 (some (3, s)) (some (1, s)))) (some (2, s))
theorem hd_X9_kindOf : yX9_kindOf.cls ≠ "java/lang/invoke/MethodHandle" ∧ yX9_kindOf.cls ≠ "java/lang/invoke/VarHandle" ∧ (parseMethodDescriptor yX9_kindOf.desc).map (fun d => d.parameters.length) = some 1 := by decide +kernel
set_option maxRecDepth 20000 in
set_option maxHeartbeats 4000000 in
theorem ct_X9_kindOf  (i0 : Int) (s : St) : Ctr LM yX9_kindOf cX9_kindOf 1 (Option.some .int) 1 0 0 [vI i0] s (X9_kindOf i0 s) := by
  refine Ctr.of (by decide +kernel) (fun ρ => Nat.le_of_ble_eq_true rfl) (lv := [(0, vI i0)]) (fun ρ => rfl) (fun K X O hrt hfr hlo => ?_)
  unfold X9_kindOf
  refine g_iload_n O dX9_kindOf_0 rfl 0 rfl ?_
  refine g_bipush O dX9_kindOf_1 (by decide +kernel) ?_
  refine g_icmp_gt (tgt := 8) O dX9_kindOf_3 (by decide) ?_ ?_
  · refine g_iload_n O dX9_kindOf_8 rfl 0 rfl ?_
    refine g_bipush O dX9_kindOf_9 (by decide +kernel) ?_
    refine g_icmp_gt (tgt := 26) O dX9_kindOf_11 (by decide) ?_ ?_
    · refine g_iload_n O dX9_kindOf_26 rfl 0 rfl ?_
      refine g_bipush O dX9_kindOf_27 (by decide +kernel) ?_
      refine g_icmp_gt (tgt := 36) O dX9_kindOf_29 (by decide) ?_ ?_
      · refine g_iconst O dX9_kindOf_36 ?_
        exact g_iret O hrt rfl dX9_kindOf_37
      refine g_iconst O dX9_kindOf_32 ?_
      refine g_goto (tgt := 37) O dX9_kindOf_33 (by decide) ?_
      exact g_iret O hrt rfl dX9_kindOf_37
    refine g_iload_n O dX9_kindOf_14 rfl 0 rfl ?_
    refine g_bipush O dX9_kindOf_15 (by decide +kernel) ?_
    refine g_icmp_gt (tgt := 24) O dX9_kindOf_17 (by decide) ?_ ?_
    · refine g_iconst O dX9_kindOf_24 ?_
      exact g_iret O hrt rfl dX9_kindOf_25
    refine g_iconst O dX9_kindOf_20 ?_
    refine g_goto (tgt := 25) O dX9_kindOf_21 (by decide) ?_
    exact g_iret O hrt rfl dX9_kindOf_25
  refine g_iconst O dX9_kindOf_6 ?_
  exact g_iret O hrt rfl dX9_kindOf_7
def X9_isA (i0 : Int) (i1 : Int) (s : St) : Rs := cEq i0 i1 (some (1, s)) (jn (fun  (s1 : St) => cEq i1 2 (cEq i0 4 (some (1, s1)) (some (0, s1))) (some (0, s1))) (fun k2 => cEq i1 1 (cEq i0 3 (some (1, s)) (k2 s)) (k2 s)))
theorem hd_X9_isA : yX9_isA.cls ≠ "java/lang/invoke/MethodHandle" ∧ yX9_isA.cls ≠ "java/lang/invoke/VarHandle" ∧ (parseMethodDescriptor yX9_isA.desc).map (fun d => d.parameters.length) = some 2 := by decide +kernel
set_option maxRecDepth 20000 in
set_option maxHeartbeats 4000000 in
theorem ct_X9_isA  (i0 : Int) (i1 : Int) (s : St) : Ctr LM yX9_isA cX9_isA 2 (Option.some .boolean) 1 0 0 [vI i0, vI i1] s (X9_isA i0 i1 s) := by
  refine Ctr.of (by decide +kernel) (fun ρ => Nat.le_of_ble_eq_true rfl) (lv := [(0, vI i0), (1, vI i1)]) (fun ρ => rfl) (fun K X O hrt hfr hlo => ?_)
  unfold X9_isA
  refine g_iload_n O dX9_isA_0 rfl 0 rfl ?_
  refine g_iload_n O dX9_isA_1 rfl 1 rfl ?_
  refine g_icmp_eq (tgt := 25) O dX9_isA_2 (by decide) ?_ ?_
  · refine g_iconst O dX9_isA_25 ?_
    refine g_goto (tgt := 30) O dX9_isA_26 (by decide) ?_
    exact g_iret O hrt (by decide +kernel) dX9_isA_30
  refine g_iload_n O dX9_isA_5 rfl 1 rfl ?_
  refine g_iconst O dX9_isA_6 ?_
  refine g_jn (fun (j : St → Rs) => ∀  (s1 : St), GX LM K X 2 1 15 [(0, vI i0), (1, vI i1)] [] s1 (j  s1)) ?_ ?_
  · intro  s1
    refine g_iload_n O dX9_isA_15 rfl 1 rfl ?_
    refine g_iconst O dX9_isA_16 ?_
    refine g_icmp_ne (tgt := 29) O dX9_isA_17 (by decide) ?_ ?_
    · refine g_iconst O dX9_isA_29 ?_
      exact g_iret O hrt (by decide +kernel) dX9_isA_30
    refine g_iload_n O dX9_isA_20 rfl 0 rfl ?_
    refine g_iconst O dX9_isA_21 ?_
    refine g_icmp_ne (tgt := 29) O dX9_isA_22 (by decide) ?_ ?_
    · refine g_iconst O dX9_isA_29 ?_
      exact g_iret O hrt (by decide +kernel) dX9_isA_30
    refine g_iconst O dX9_isA_25 ?_
    refine g_goto (tgt := 30) O dX9_isA_26 (by decide) ?_
    exact g_iret O hrt (by decide +kernel) dX9_isA_30
  intro k2 hk2
  refine g_icmp_ne (tgt := 15) O dX9_isA_7 (by decide) ?_ ?_
  · exact hk2 s
  refine g_iload_n O dX9_isA_10 rfl 0 rfl ?_
  refine g_iconst O dX9_isA_11 ?_
  refine g_icmp_eq (tgt := 25) O dX9_isA_12 (by decide) ?_ ?_
  · refine g_iconst O dX9_isA_25 ?_
    refine g_goto (tgt := 30) O dX9_isA_26 (by decide) ?_
    exact g_iret O hrt (by decide +kernel) dX9_isA_30
  exact hk2 s
def X9_here_0 (i1 : Int) (k : St → Rs) : Nat → St → Rs
  | 0, _ => none
  | n + 1, s => rd s 3 4 i1 (fun v1 => cLt (s 0 12) v1 (rd s 4 240 ((60 * i1) + (s 0 12)) (fun v2 => cEq v2 32 (put s 0 12 ((s 0 12) + 1) (fun s3 => X9_here_0 i1 k n s3)) (k s))) (k s))
def X9_here (i1 : Int) (s : St) : Rs := X9_here_0 i1 (fun s1 => rd s1 3 4 i1 (fun v2 => cLt (s1 0 12) v2 (rd s1 4 240 ((60 * i1) + (s1 0 12)) (fun v3 => some (v3, s1))) (some ((-1000), s1)))) FU  s
set_option maxRecDepth 20000 in
set_option maxHeartbeats 4000000 in
theorem lt_X9_here_0 {K : Cx} {X : Wx} (O : OKx LM K X yX9_here.cls cX9_here 2) (hrt : (kMe K).sig.returnType = (Option.some .int)) (hfr : (kR K).frames = 0) (hlo : (kR K).locals = 0) {i1 : Int} {k : St → Rs}  (hk : ∀  (s : St), GX LM K X 2 1 45 [(0, vR 0), (1, vI i1)] [] s (k s)) : ∀ (n : Nat)  (s : St), GX LM K X 2 1 0 [(0, vR 0), (1, vI i1)] [] s (X9_here_0 i1 k n  s) := by
  intro n
  induction n with
  | zero => intro  s; exact GX.none
  | succ n ih =>
    intro  s
    rw [X9_here_0]
    refine g_aload_n O dX9_here_0 rfl 0 rfl ?_
    refine g_getI O fw_9_122 rfl dX9_here_1 rfl ?_
    refine g_aload_n O dX9_here_4 rfl 0 rfl ?_
    refine g_getR O fw_9_16 rfl dX9_here_5 rfl ?_
    refine g_iload_n O dX9_here_8 rfl 1 rfl ?_
    refine g_iald O rfl (by decide) dX9_here_9 (fun v1 => ?_)
    refine g_icmp_ge (tgt := 45) O dX9_here_10 (by decide) ?_ ?_
    · refine g_pick [0, 1] rfl ?_
      exact hk s
    refine g_aload_n O dX9_here_13 rfl 0 rfl ?_
    refine g_getR O fw_9_19 rfl dX9_here_14 rfl ?_
    refine g_bipush O dX9_here_17 (by decide +kernel) ?_
    refine g_iload_n O dX9_here_19 rfl 1 rfl ?_
    refine g_imul O dX9_here_20 ?_
    refine g_aload_n O dX9_here_21 rfl 0 rfl ?_
    refine g_getI O fw_9_122 rfl dX9_here_22 rfl ?_
    refine g_iadd O dX9_here_25 ?_
    refine g_iald O rfl (by decide) dX9_here_26 (fun v2 => ?_)
    refine g_bipush O dX9_here_27 (by decide +kernel) ?_
    refine g_icmp_ne (tgt := 45) O dX9_here_29 (by decide) ?_ ?_
    · refine g_pick [0, 1] rfl ?_
      exact hk s
    refine g_aload_n O dX9_here_32 rfl 0 rfl ?_
    refine g_dup O dX9_here_33 rfl ?_
    refine g_getI O fw_9_122 rfl dX9_here_34 rfl ?_
    refine g_iconst O dX9_here_37 ?_
    refine g_iadd O dX9_here_38 ?_
    refine g_putI O fw_9_122 rfl dX9_here_39 rfl rfl rfl (fun s3 => ?_)
    refine g_goto (tgt := 0) O dX9_here_42 (by decide) ?_
    refine g_pick [0, 1] rfl ?_
    exact ih s3
theorem hd_X9_here : yX9_here.cls ≠ "java/lang/invoke/MethodHandle" ∧ yX9_here.cls ≠ "java/lang/invoke/VarHandle" ∧ (parseMethodDescriptor yX9_here.desc).map (fun d => d.parameters.length) = some 1 := by decide +kernel
set_option maxRecDepth 20000 in
set_option maxHeartbeats 4000000 in
theorem ct_X9_here  (i1 : Int) (s : St) : Ctr LM yX9_here cX9_here 2 (Option.some .int) 1 0 0 [vR 0, vI i1] s (X9_here i1 s) := by
  refine Ctr.of (by decide +kernel) (fun ρ => Nat.le_of_ble_eq_true rfl) (lv := [(0, vR 0), (1, vI i1)]) (fun ρ => rfl) (fun K X O hrt hfr hlo => ?_)
  unfold X9_here
  refine g_pick [0, 1] rfl ?_
  refine lt_X9_here_0 O hrt hfr hlo  (fun s1 => ?_) FU  s
  refine g_aload_n O dX9_here_45 rfl 0 rfl ?_
  refine g_getI O fw_9_122 rfl dX9_here_46 rfl ?_
  refine g_aload_n O dX9_here_49 rfl 0 rfl ?_
  refine g_getR O fw_9_16 rfl dX9_here_50 rfl ?_
  refine g_iload_n O dX9_here_53 rfl 1 rfl ?_
  refine g_iald O rfl (by decide) dX9_here_54 (fun v2 => ?_)
  refine g_icmp_ge (tgt := 75) O dX9_here_55 (by decide) ?_ ?_
  · refine g_sipush O dX9_here_75 (by decide +kernel) ?_
    exact g_iret O hrt rfl dX9_here_78
  refine g_aload_n O dX9_here_58 rfl 0 rfl ?_
  refine g_getR O fw_9_19 rfl dX9_here_59 rfl ?_
  refine g_bipush O dX9_here_62 (by decide +kernel) ?_
  refine g_iload_n O dX9_here_64 rfl 1 rfl ?_
  refine g_imul O dX9_here_65 ?_
  refine g_aload_n O dX9_here_66 rfl 0 rfl ?_
  refine g_getI O fw_9_122 rfl dX9_here_67 rfl ?_
  refine g_iadd O dX9_here_70 ?_
  refine g_iald O rfl (by decide) dX9_here_71 (fun v3 => ?_)
  refine g_goto (tgt := 78) O dX9_here_72 (by decide) ?_
  exact g_iret O hrt rfl dX9_here_78
def X9_closes (i1 : Int) (i2 : Int) (s : St) : Rs := wr s 10 12 (s 0 13) i1 (fun s1 => wr s1 11 12 (s1 0 13) i2 (fun s2 => put s2 0 13 ((s2 0 13) + 1) (fun s3 => some (0, s3))))
theorem hd_X9_closes : yX9_closes.cls ≠ "java/lang/invoke/MethodHandle" ∧ yX9_closes.cls ≠ "java/lang/invoke/VarHandle" ∧ (parseMethodDescriptor yX9_closes.desc).map (fun d => d.parameters.length) = some 2 := by decide +kernel
set_option maxRecDepth 20000 in
set_option maxHeartbeats 4000000 in
theorem ct_X9_closes  (i1 : Int) (i2 : Int) (s : St) : Ctr LM yX9_closes cX9_closes 3 none 0 0 0 [vR 0, vI i1, vI i2] s (X9_closes i1 i2 s) := by
  refine Ctr.of (by decide +kernel) (fun ρ => Nat.le_of_ble_eq_true rfl) (lv := [(0, vR 0), (1, vI i1), (2, vI i2)]) (fun ρ => rfl) (fun K X O hrt hfr hlo => ?_)
  unfold X9_closes
  refine g_aload_n O dX9_closes_0 rfl 0 rfl ?_
  refine g_getR O fw_9_38 rfl dX9_closes_1 rfl ?_
  refine g_aload_n O dX9_closes_4 rfl 0 rfl ?_
  refine g_getI O fw_9_125 rfl dX9_closes_5 rfl ?_
  refine g_iload_n O dX9_closes_8 rfl 1 rfl ?_
  refine g_iast O rfl (by decide) dX9_closes_9 (fun s1 => ?_)
  refine g_aload_n O dX9_closes_10 rfl 0 rfl ?_
  refine g_getR O fw_9_41 rfl dX9_closes_11 rfl ?_
  refine g_aload_n O dX9_closes_14 rfl 0 rfl ?_
  refine g_getI O fw_9_125 rfl dX9_closes_15 rfl ?_
  refine g_iload_n O dX9_closes_18 rfl 2 rfl ?_
  refine g_iast O rfl (by decide) dX9_closes_19 (fun s2 => ?_)
  refine g_aload_n O dX9_closes_20 rfl 0 rfl ?_
  refine g_dup O dX9_closes_21 rfl ?_
  refine g_getI O fw_9_125 rfl dX9_closes_22 rfl ?_
  refine g_iconst O dX9_closes_25 ?_
  refine g_iadd O dX9_closes_26 ?_
  refine g_putI O fw_9_125 rfl dX9_closes_27 rfl rfl rfl (fun s3 => ?_)
  exact g_vret O hrt dX9_closes_30
def X9_reading_20 (i1 : Int) (k : Int → Int → Int → St → Rs) : Nat → Int → Int → Int → Int → St → Rs
  | 0, _, _, _, _, _ => none
  | n + 1, i2, i3, i4, i5, s => cl (X9_here i1 s) (fun v1 s2 => cEq v1 (-1000) (k i2 i4 i5 s2) (cl (X9_here i1 s2) (fun v3 s4 => cl (X9_isMark v3 s4) (fun v5 s6 => jn (fun (x7 : Int) (s8 : St) => cEq x7 0 (some (s8 0 12, s8)) (jn (fun  (s10 : St) => cl (X9_isMark v3 s10) (fun v12 s13 => jn (fun (x14 : Int) (x15 : Int) (x16 : Int) (x17 : Int) (s18 : St) => put s18 0 12 ((s18 0 12) + 1) (fun s20 => X9_reading_20 i1 k n x14 x15 x16 x17 s20)) (fun k19 => cEq v12 0 (cEq v3 40 (wr s13 12 12 i2 i5 (fun s25 => wr s25 13 12 i2 (s25 0 13) (fun s26 => k19 (i2 + 1) i3 2 i5 s26))) (rd s13 12 12 (i2 + (-1)) (fun v21 => rd s13 13 12 (i2 + (-1)) (fun v22 => cl (X9_closes v21 v22 s13) (fun _ s24 => k19 (i2 + (-1)) i3 3 i5 s24))))) (k19 i2 (i3 + 1) 1 v3 s13)))) (fun k11 => cEq i4 1 (cEq v3 40 (k11 s8) (cl (X9_closes i5 (s8 0 13) s8) (fun _ s28 => k11 s28))) (k11 s8)))) (fun k9 => cEq v5 0 (cEq v3 40 (cEq i4 1 (k9 1 s6) (k9 0 s6)) (cEq v3 41 (cLt 0 i2 (cEq i4 2 (k9 0 s6) (k9 1 s6)) (k9 0 s6)) (k9 0 s6))) (cLt i3 12 (cLt 0 i2 (k9 1 s6) (cEq i4 0 (k9 1 s6) (k9 0 s6))) (k9 0 s6)))))))
def X9_reading (i1 : Int) (s : St) : Rs := put s 0 12 0 (fun s1 => put s1 0 13 0 (fun s2 => X9_reading_20 i1 (fun x3 x4 x5 s6 => jn (fun  (s7 : St) => jn (fun  (s9 : St) => rd s9 3 4 i1 (fun v11 => some (v11, s9))) (fun k10 => cLt 0 x3 (k10 s7) (cEq x4 0 (k10 s7) (some ((-9), s7))))) (fun k8 => cEq x4 1 (cl (X9_closes x5 (s6 0 13) s6) (fun _ s13 => k8 s13)) (k8 s6))) FU 0 0 0 0 s2))
set_option maxRecDepth 20000 in
set_option maxHeartbeats 4000000 in
theorem lt_X9_reading_20 {K : Cx} {X : Wx} (O : OKx LM K X yX9_reading.cls cX9_reading 8) (hrt : (kMe K).sig.returnType = (Option.some .int)) (hfr : (kR K).frames = 2) (hlo : (kR K).locals = 42) {i1 : Int} {k : Int → Int → Int → St → Rs}  (hk : ∀ (i2 : Int) (i4 : Int) (i5 : Int) (s : St), GX LM K X 8 1 237 [(0, vR 0), (1, vI i1), (2, vI i2), (4, vI i4), (5, vI i5)] [] s (k i2 i4 i5 s)) : ∀ (n : Nat) (i2 : Int) (i3 : Int) (i4 : Int) (i5 : Int) (s : St), GX LM K X 8 1 20 [(0, vR 0), (1, vI i1), (2, vI i2), (3, vI i3), (4, vI i4), (5, vI i5)] [] s (X9_reading_20 i1 k n i2 i3 i4 i5 s) := by
  intro n
  induction n with
  | zero => intro i2 i3 i4 i5 s; exact GX.none
  | succ n ih =>
    intro i2 i3 i4 i5 s
    rw [X9_reading_20]
    refine g_aload_n O dX9_reading_20 rfl 0 rfl ?_
    refine g_iload_n O dX9_reading_21 rfl 1 rfl ?_
    refine g_callV1 (As := [vI i1]) (rest := []) (b := 0) (ci := 9) O mw_4_191 mw_4_193 mp_3_1 mw_4_194 mw_1_10 hd_X9_here rfl ⟨_, _, rfl⟩ rfl dX9_reading_22 (ct_X9_here i1 s) (by rw [hfr]; decide) (by rw [hlo]; decide) (Nat.le_of_ble_eq_true rfl) (fun v1 s2 => ?_)
    refine g_sipush O dX9_reading_25 (by decide +kernel) ?_
    refine g_icmp_eq (tgt := 237) O dX9_reading_28 (by decide) ?_ ?_
    · refine g_pick [0, 1, 2, 4, 5] rfl ?_
      exact hk i2 i4 i5 s2
    refine g_aload_n O dX9_reading_31 rfl 0 rfl ?_
    refine g_iload_n O dX9_reading_32 rfl 1 rfl ?_
    refine g_callV1 (As := [vI i1]) (rest := []) (b := 0) (ci := 9) O mw_4_191 mw_4_193 mp_3_1 mw_4_194 mw_1_10 hd_X9_here rfl ⟨_, _, rfl⟩ rfl dX9_reading_33 (ct_X9_here i1 s2) (by rw [hfr]; decide) (by rw [hlo]; decide) (Nat.le_of_ble_eq_true rfl) (fun v3 s4 => ?_)
    refine g_istore (lv2 := [(6, vI v3), (0, vR 0), (1, vI i1), (2, vI i2), (3, vI i3), (4, vI i4), (5, vI i5)]) O dX9_reading_36 (by decide) rfl ?_
    refine g_iload O dX9_reading_38 0 rfl ?_
    refine g_callS1 (As := [vI v3]) (rest := []) O mw_4_195 mw_4_196 mw_4_197 mw_1_10 hd_X9_isMark rfl dX9_reading_40 (ct_X9_isMark v3 s4) (by rw [hfr]; decide) (by rw [hlo]; decide) (Nat.le_of_ble_eq_true rfl) (fun v5 s6 => ?_)
    refine g_jn (fun (j : Int → St → Rs) => ∀ (x7 : Int) (s8 : St), GX LM K X 8 1 112 [(0, vR 0), (1, vI i1), (2, vI i2), (3, vI i3), (4, vI i4), (5, vI i5), (6, vI v3)] [vI x7] s8 (j x7 s8)) ?_ ?_
    · intro x7 s8
      refine g_istore (lv2 := [(7, vI x7), (0, vR 0), (1, vI i1), (2, vI i2), (3, vI i3), (4, vI i4), (5, vI i5), (6, vI v3)]) O dX9_reading_112 (by decide) rfl ?_
      refine g_iload O dX9_reading_114 0 rfl ?_
      refine g_if_ne (tgt := 124) O dX9_reading_116 (by decide) ?_ ?_
      · refine g_iload O dX9_reading_124 5 rfl ?_
        refine g_iconst O dX9_reading_126 ?_
        refine g_jn (fun (j : St → Rs) => ∀  (s10 : St), GX LM K X 8 1 147 [(0, vR 0), (1, vI i1), (2, vI i2), (3, vI i3), (5, vI i5), (6, vI v3)] [] s10 (j  s10)) ?_ ?_
        · intro  s10
          refine g_iload O dX9_reading_147 5 rfl ?_
          refine g_callS1 (As := [vI v3]) (rest := []) O mw_4_195 mw_4_196 mw_4_197 mw_1_10 hd_X9_isMark rfl dX9_reading_149 (ct_X9_isMark v3 s10) (by rw [hfr]; decide) (by rw [hlo]; decide) (Nat.le_of_ble_eq_true rfl) (fun v12 s13 => ?_)
          refine g_jn (fun (j : Int → Int → Int → Int → St → Rs) => ∀ (x14 : Int) (x15 : Int) (x16 : Int) (x17 : Int) (s18 : St), GX LM K X 8 1 224 [(0, vR 0), (1, vI i1), (2, vI x14), (3, vI x15), (4, vI x16), (5, vI x17)] [] s18 (j x14 x15 x16 x17 s18)) ?_ ?_
          · intro x14 x15 x16 x17 s18
            refine g_aload_n O dX9_reading_224 rfl 0 rfl ?_
            refine g_dup O dX9_reading_225 rfl ?_
            refine g_getI O fw_9_122 rfl dX9_reading_226 rfl ?_
            refine g_iconst O dX9_reading_229 ?_
            refine g_iadd O dX9_reading_230 ?_
            refine g_putI O fw_9_122 rfl dX9_reading_231 rfl rfl rfl (fun s20 => ?_)
            refine g_goto (tgt := 20) O dX9_reading_234 (by decide) ?_
            refine g_pick [0, 1, 2, 3, 4, 5] rfl ?_
            exact ih x14 x15 x16 x17 s20
          intro k19 hk19
          refine g_if_eq (tgt := 168) O dX9_reading_152 (by decide) ?_ ?_
          · refine g_iload O dX9_reading_168 5 rfl ?_
            refine g_bipush O dX9_reading_170 (by decide +kernel) ?_
            refine g_icmp_ne (tgt := 202) O dX9_reading_172 (by decide) ?_ ?_
            · refine g_iinc (lv2 := [(2, vI (i2 + (-1))), (0, vR 0), (1, vI i1), (3, vI i3), (5, vI i5), (6, vI v3)]) O dX9_reading_202 2 rfl (by decide) rfl ?_
              refine g_aload_n O dX9_reading_205 rfl 1 rfl ?_
              refine g_aload_n O dX9_reading_206 rfl 1 rfl ?_
              refine g_getR O fw_9_44 rfl dX9_reading_207 rfl ?_
              refine g_iload_n O dX9_reading_210 rfl 0 rfl ?_
              refine g_iald O rfl (by decide) dX9_reading_211 (fun v21 => ?_)
              refine g_aload_n O dX9_reading_212 rfl 1 rfl ?_
              refine g_getR O fw_9_47 rfl dX9_reading_213 rfl ?_
              refine g_iload_n O dX9_reading_216 rfl 0 rfl ?_
              refine g_iald O rfl (by decide) dX9_reading_217 (fun v22 => ?_)
              refine g_callV0 (As := [vI v21, vI v22]) (rest := []) (b := 0) (ci := 9) O mw_4_198 mw_4_200 mp_3_2 mw_4_201 mw_1_10 hd_X9_closes rfl ⟨_, _, rfl⟩ rfl dX9_reading_218 (ct_X9_closes v21 v22 s13) (by rw [hfr]; decide) (by rw [hlo]; decide) (Nat.le_of_ble_eq_true rfl) (fun _ s24 => ?_)
              refine g_iconst O dX9_reading_221 ?_
              refine g_istore (lv2 := [(4, vI 3), (2, vI (i2 + (-1))), (0, vR 0), (1, vI i1), (3, vI i3), (5, vI i5), (6, vI v3)]) O dX9_reading_222 (by decide) rfl ?_
              refine g_pick [2, 3, 1, 4, 0, 5] rfl ?_
              exact hk19 (i2 + (-1)) i3 3 i5 s24
            refine g_aload_n O dX9_reading_175 rfl 0 rfl ?_
            refine g_getR O fw_9_44 rfl dX9_reading_176 rfl ?_
            refine g_iload_n O dX9_reading_179 rfl 2 rfl ?_
            refine g_iload O dX9_reading_180 4 rfl ?_
            refine g_iast O rfl (by decide) dX9_reading_182 (fun s25 => ?_)
            refine g_aload_n O dX9_reading_183 rfl 0 rfl ?_
            refine g_getR O fw_9_47 rfl dX9_reading_184 rfl ?_
            refine g_iload_n O dX9_reading_187 rfl 2 rfl ?_
            refine g_aload_n O dX9_reading_188 rfl 0 rfl ?_
            refine g_getI O fw_9_125 rfl dX9_reading_189 rfl ?_
            refine g_iast O rfl (by decide) dX9_reading_192 (fun s26 => ?_)
            refine g_iinc (lv2 := [(2, vI (i2 + 1)), (0, vR 0), (1, vI i1), (3, vI i3), (5, vI i5), (6, vI v3)]) O dX9_reading_193 2 rfl (by decide) rfl ?_
            refine g_iconst O dX9_reading_196 ?_
            refine g_istore (lv2 := [(4, vI 2), (2, vI (i2 + 1)), (0, vR 0), (1, vI i1), (3, vI i3), (5, vI i5), (6, vI v3)]) O dX9_reading_197 (by decide) rfl ?_
            refine g_goto (tgt := 224) O dX9_reading_199 (by decide) ?_
            refine g_pick [2, 3, 1, 4, 0, 5] rfl ?_
            exact hk19 (i2 + 1) i3 2 i5 s26
          refine g_iload O dX9_reading_155 5 rfl ?_
          refine g_istore (lv2 := [(5, vI v3), (0, vR 0), (1, vI i1), (2, vI i2), (3, vI i3), (6, vI v3)]) O dX9_reading_157 (by decide) rfl ?_
          refine g_iinc (lv2 := [(3, vI (i3 + 1)), (5, vI v3), (0, vR 0), (1, vI i1), (2, vI i2), (6, vI v3)]) O dX9_reading_159 4 rfl (by decide) rfl ?_
          refine g_iconst O dX9_reading_162 ?_
          refine g_istore (lv2 := [(4, vI 1), (3, vI (i3 + 1)), (5, vI v3), (0, vR 0), (1, vI i1), (2, vI i2), (6, vI v3)]) O dX9_reading_163 (by decide) rfl ?_
          refine g_goto (tgt := 224) O dX9_reading_165 (by decide) ?_
          refine g_pick [3, 4, 5, 1, 0, 2] rfl ?_
          exact hk19 i2 (i3 + 1) 1 v3 s13
        intro k11 hk11
        refine g_icmp_ne (tgt := 147) O dX9_reading_127 (by decide) ?_ ?_
        · refine g_pick [1, 2, 3, 4, 6, 7] rfl ?_
          exact hk11 s8
        refine g_iload O dX9_reading_130 7 rfl ?_
        refine g_bipush O dX9_reading_132 (by decide +kernel) ?_
        refine g_icmp_eq (tgt := 147) O dX9_reading_134 (by decide) ?_ ?_
        · refine g_pick [1, 2, 3, 4, 6, 7] rfl ?_
          exact hk11 s8
        refine g_aload_n O dX9_reading_137 rfl 1 rfl ?_
        refine g_iload O dX9_reading_138 6 rfl ?_
        refine g_aload_n O dX9_reading_140 rfl 1 rfl ?_
        refine g_getI O fw_9_125 rfl dX9_reading_141 rfl ?_
        refine g_callV0 (As := [vI i5, vI (s8 0 13)]) (rest := []) (b := 0) (ci := 9) O mw_4_198 mw_4_200 mp_3_2 mw_4_201 mw_1_10 hd_X9_closes rfl ⟨_, _, rfl⟩ rfl dX9_reading_144 (ct_X9_closes i5 (s8 0 13) s8) (by rw [hfr]; decide) (by rw [hlo]; decide) (Nat.le_of_ble_eq_true rfl) (fun _ s28 => ?_)
        refine g_pick [1, 2, 3, 4, 6, 7] rfl ?_
        exact hk11 s28
      refine g_aload_n O dX9_reading_119 rfl 1 rfl ?_
      refine g_getI O fw_9_122 rfl dX9_reading_120 rfl ?_
      exact g_iret O hrt rfl dX9_reading_123
    intro k9 hk9
    refine g_if_eq (tgt := 69) O dX9_reading_43 (by decide) ?_ ?_
    · refine g_iload O dX9_reading_69 0 rfl ?_
      refine g_bipush O dX9_reading_71 (by decide +kernel) ?_
      refine g_icmp_ne (tgt := 90) O dX9_reading_73 (by decide) ?_ ?_
      · refine g_iload O dX9_reading_90 0 rfl ?_
        refine g_bipush O dX9_reading_92 (by decide +kernel) ?_
        refine g_icmp_ne (tgt := 111) O dX9_reading_94 (by decide) ?_ ?_
        · refine g_iconst O dX9_reading_111 ?_
          refine g_pick [1, 2, 3, 4, 5, 6, 0] rfl ?_
          exact hk9 0 s6
        refine g_iload_n O dX9_reading_97 rfl 3 rfl ?_
        refine g_if_le (tgt := 111) O dX9_reading_98 (by decide) ?_ ?_
        · refine g_iconst O dX9_reading_111 ?_
          refine g_pick [1, 2, 3, 4, 5, 6, 0] rfl ?_
          exact hk9 0 s6
        refine g_iload O dX9_reading_101 5 rfl ?_
        refine g_iconst O dX9_reading_103 ?_
        refine g_icmp_eq (tgt := 111) O dX9_reading_104 (by decide) ?_ ?_
        · refine g_iconst O dX9_reading_111 ?_
          refine g_pick [1, 2, 3, 4, 5, 6, 0] rfl ?_
          exact hk9 0 s6
        refine g_iconst O dX9_reading_107 ?_
        refine g_goto (tgt := 112) O dX9_reading_108 (by decide) ?_
        refine g_pick [1, 2, 3, 4, 5, 6, 0] rfl ?_
        exact hk9 1 s6
      refine g_iload O dX9_reading_76 5 rfl ?_
      refine g_iconst O dX9_reading_78 ?_
      refine g_icmp_ne (tgt := 86) O dX9_reading_79 (by decide) ?_ ?_
      · refine g_iconst O dX9_reading_86 ?_
        refine g_goto (tgt := 112) O dX9_reading_87 (by decide) ?_
        refine g_pick [1, 2, 3, 4, 5, 6, 0] rfl ?_
        exact hk9 0 s6
      refine g_iconst O dX9_reading_82 ?_
      refine g_goto (tgt := 112) O dX9_reading_83 (by decide) ?_
      refine g_pick [1, 2, 3, 4, 5, 6, 0] rfl ?_
      exact hk9 1 s6
    refine g_iload_n O dX9_reading_46 rfl 4 rfl ?_
    refine g_bipush O dX9_reading_47 (by decide +kernel) ?_
    refine g_icmp_ge (tgt := 65) O dX9_reading_49 (by decide) ?_ ?_
    · refine g_iconst O dX9_reading_65 ?_
      refine g_goto (tgt := 112) O dX9_reading_66 (by decide) ?_
      refine g_pick [1, 2, 3, 4, 5, 6, 0] rfl ?_
      exact hk9 0 s6
    refine g_iload_n O dX9_reading_52 rfl 3 rfl ?_
    refine g_if_gt (tgt := 61) O dX9_reading_53 (by decide) ?_ ?_
    · refine g_iconst O dX9_reading_61 ?_
      refine g_goto (tgt := 112) O dX9_reading_62 (by decide) ?_
      refine g_pick [1, 2, 3, 4, 5, 6, 0] rfl ?_
      exact hk9 1 s6
    refine g_iload O dX9_reading_56 5 rfl ?_
    refine g_if_ne (tgt := 65) O dX9_reading_58 (by decide) ?_ ?_
    · refine g_iconst O dX9_reading_65 ?_
      refine g_goto (tgt := 112) O dX9_reading_66 (by decide) ?_
      refine g_pick [1, 2, 3, 4, 5, 6, 0] rfl ?_
      exact hk9 0 s6
    refine g_iconst O dX9_reading_61 ?_
    refine g_goto (tgt := 112) O dX9_reading_62 (by decide) ?_
    refine g_pick [1, 2, 3, 4, 5, 6, 0] rfl ?_
    exact hk9 1 s6
theorem hd_X9_reading : yX9_reading.cls ≠ "java/lang/invoke/MethodHandle" ∧ yX9_reading.cls ≠ "java/lang/invoke/VarHandle" ∧ (parseMethodDescriptor yX9_reading.desc).map (fun d => d.parameters.length) = some 1 := by decide +kernel
set_option maxRecDepth 20000 in
set_option maxHeartbeats 4000000 in
theorem ct_X9_reading  (i1 : Int) (s : St) : Ctr LM yX9_reading cX9_reading 8 (Option.some .int) 1 2 42 [vR 0, vI i1] s (X9_reading i1 s) := by
  refine Ctr.of (by decide +kernel) (fun ρ => Nat.le_of_ble_eq_true rfl) (lv := [(0, vR 0), (1, vI i1)]) (fun ρ => rfl) (fun K X O hrt hfr hlo => ?_)
  unfold X9_reading
  refine g_iconst O dX9_reading_0 ?_
  refine g_istore_n (lv2 := [(2, vI 0), (0, vR 0), (1, vI i1)]) O dX9_reading_1 rfl (by decide) rfl ?_
  refine g_iconst O dX9_reading_2 ?_
  refine g_istore_n (lv2 := [(3, vI 0), (2, vI 0), (0, vR 0), (1, vI i1)]) O dX9_reading_3 rfl (by decide) rfl ?_
  refine g_iconst O dX9_reading_4 ?_
  refine g_istore (lv2 := [(4, vI 0), (3, vI 0), (2, vI 0), (0, vR 0), (1, vI i1)]) O dX9_reading_5 (by decide) rfl ?_
  refine g_aload_n O dX9_reading_7 rfl 3 rfl ?_
  refine g_iconst O dX9_reading_8 ?_
  refine g_putI O fw_9_122 rfl dX9_reading_9 rfl rfl rfl (fun s1 => ?_)
  refine g_aload_n O dX9_reading_12 rfl 3 rfl ?_
  refine g_iconst O dX9_reading_13 ?_
  refine g_putI O fw_9_125 rfl dX9_reading_14 rfl rfl rfl (fun s2 => ?_)
  refine g_iconst O dX9_reading_17 ?_
  refine g_istore (lv2 := [(5, vI 0), (4, vI 0), (3, vI 0), (2, vI 0), (0, vR 0), (1, vI i1)]) O dX9_reading_18 (by decide) rfl ?_
  refine g_pick [4, 5, 3, 2, 1, 0] rfl ?_
  refine lt_X9_reading_20 O hrt hfr hlo  (fun x3 x4 x5 s6 => ?_) FU 0 0 0 0 s2
  refine g_iload O dX9_reading_237 3 rfl ?_
  refine g_iconst O dX9_reading_239 ?_
  refine g_jn (fun (j : St → Rs) => ∀  (s7 : St), GX LM K X 8 1 253 [(0, vR 0), (1, vI i1), (2, vI x3), (4, vI x4)] [] s7 (j  s7)) ?_ ?_
  · intro  s7
    refine g_iload_n O dX9_reading_253 rfl 2 rfl ?_
    refine g_jn (fun (j : St → Rs) => ∀  (s9 : St), GX LM K X 8 1 262 [(0, vR 0), (1, vI i1)] [] s9 (j  s9)) ?_ ?_
    · intro  s9
      refine g_aload_n O dX9_reading_262 rfl 0 rfl ?_
      refine g_getR O fw_9_16 rfl dX9_reading_263 rfl ?_
      refine g_iload_n O dX9_reading_266 rfl 1 rfl ?_
      refine g_iald O rfl (by decide) dX9_reading_267 (fun v11 => ?_)
      refine g_goto (tgt := 273) O dX9_reading_268 (by decide) ?_
      exact g_iret O hrt rfl dX9_reading_273
    intro k10 hk10
    refine g_if_gt (tgt := 262) O dX9_reading_254 (by decide) ?_ ?_
    · refine g_pick [0, 1] rfl ?_
      exact hk10 s7
    refine g_iload O dX9_reading_257 3 rfl ?_
    refine g_if_ne (tgt := 271) O dX9_reading_259 (by decide) ?_ ?_
    · refine g_bipush O dX9_reading_271 (by decide +kernel) ?_
      exact g_iret O hrt rfl dX9_reading_273
    refine g_pick [0, 1] rfl ?_
    exact hk10 s7
  intro k8 hk8
  refine g_icmp_ne (tgt := 253) O dX9_reading_240 (by decide) ?_ ?_
  · refine g_pick [0, 1, 2, 3] rfl ?_
    exact hk8 s6
  refine g_aload_n O dX9_reading_243 rfl 0 rfl ?_
  refine g_iload O dX9_reading_244 4 rfl ?_
  refine g_aload_n O dX9_reading_246 rfl 0 rfl ?_
  refine g_getI O fw_9_125 rfl dX9_reading_247 rfl ?_
  refine g_callV0 (As := [vI x5, vI (s6 0 13)]) (rest := []) (b := 0) (ci := 9) O mw_4_198 mw_4_200 mp_3_2 mw_4_201 mw_1_10 hd_X9_closes rfl ⟨_, _, rfl⟩ rfl dX9_reading_250 (ct_X9_closes x5 (s6 0 13) s6) (by rw [hfr]; decide) (by rw [hlo]; decide) (Nat.le_of_ble_eq_true rfl) (fun _ s13 => ?_)
  refine g_pick [0, 1, 2, 3] rfl ?_
  exact hk8 s13
def X9_fault (i1 : Int) (s : St) : Rs := cl (X9_isText i1 s) (fun v1 s2 => cEq v1 0 (some ((-1), s2)) (rd s2 3 4 i1 (fun v3 => cLt v3 0 (cl (X9_found 1 s2) (fun v6 s7 => some (v6, s7))) (cl (X9_reading i1 s2) (fun v4 s5 => some (v4, s5))))))
theorem hd_X9_fault : yX9_fault.cls ≠ "java/lang/invoke/MethodHandle" ∧ yX9_fault.cls ≠ "java/lang/invoke/VarHandle" ∧ (parseMethodDescriptor yX9_fault.desc).map (fun d => d.parameters.length) = some 1 := by decide +kernel
set_option maxRecDepth 20000 in
set_option maxHeartbeats 4000000 in
theorem ct_X9_fault  (i1 : Int) (s : St) : Ctr LM yX9_fault cX9_fault 2 (Option.some .int) 1 3 69 [vR 0, vI i1] s (X9_fault i1 s) := by
  refine Ctr.of (by decide +kernel) (fun ρ => Nat.le_of_ble_eq_true rfl) (lv := [(0, vR 0), (1, vI i1)]) (fun ρ => rfl) (fun K X O hrt hfr hlo => ?_)
  unfold X9_fault
  refine g_iload_n O dX9_fault_0 rfl 1 rfl ?_
  refine g_callS1 (As := [vI i1]) (rest := []) O mw_4_176 mw_4_177 mw_4_178 mw_1_10 hd_X9_isText rfl dX9_fault_1 (ct_X9_isText i1 s) (by rw [hfr]; decide) (by rw [hlo]; decide) (Nat.le_of_ble_eq_true rfl) (fun v1 s2 => ?_)
  refine g_if_ne (tgt := 9) O dX9_fault_4 (by decide) ?_ ?_
  · refine g_aload_n O dX9_fault_9 rfl 0 rfl ?_
    refine g_getR O fw_9_16 rfl dX9_fault_10 rfl ?_
    refine g_iload_n O dX9_fault_13 rfl 1 rfl ?_
    refine g_iald O rfl (by decide) dX9_fault_14 (fun v3 => ?_)
    refine g_if_ge (tgt := 26) O dX9_fault_15 (by decide) ?_ ?_
    · refine g_aload_n O dX9_fault_26 rfl 0 rfl ?_
      refine g_iload_n O dX9_fault_27 rfl 1 rfl ?_
      refine g_callV1 (As := [vI i1]) (rest := []) (b := 0) (ci := 9) O mw_4_187 mw_4_189 mp_3_0 mw_4_190 mw_1_10 hd_X9_reading rfl ⟨_, _, rfl⟩ rfl dX9_fault_28 (ct_X9_reading i1 s2) (by rw [hfr]; decide) (by rw [hlo]; decide) (Nat.le_of_ble_eq_true rfl) (fun v4 s5 => ?_)
      exact g_iret O hrt rfl dX9_fault_31
    refine g_aload_n O dX9_fault_18 rfl 0 rfl ?_
    refine g_iconst O dX9_fault_19 ?_
    refine g_callV1 (As := [vI 1]) (rest := []) (b := 0) (ci := 9) O mw_4_136 mw_4_138 mp_2_12 mw_4_139 mw_1_10 hd_X9_found rfl ⟨_, _, rfl⟩ rfl dX9_fault_20 (ct_X9_found 1 s2) (by rw [hfr]; decide) (by rw [hlo]; decide) (Nat.le_of_ble_eq_true rfl) (fun v6 s7 => ?_)
    refine g_goto (tgt := 31) O dX9_fault_23 (by decide) ?_
    exact g_iret O hrt rfl dX9_fault_31
  refine g_iconst O dX9_fault_7 ?_
  exact g_iret O hrt rfl dX9_fault_8
def X9_document_109  (k : St → Rs) : Nat → Int → St → Rs
  | 0, _, _ => none
  | n + 1, i3, s => cLt i3 3 (wr s 8 3 i3 (nb1 0) (fun s1 => X9_document_109 k n (i3 + 1) s1)) (k s)
def X9_document (i1 : Int) (i2 : Int) (s : St) : Rs := cl (X9_isDocument i1 s) (fun v1 s2 => cEq v1 0 (some ((-1), s2)) (cl (X9_isText i2 s2) (fun v3 s4 => cEq v3 0 (some ((-1), s4)) (rd s4 3 4 i2 (fun v5 => cLt v5 0 (cl (X9_found 1 s4) (fun v15 s16 => some (v15, s16))) (cl (X9_reading i2 s4) (fun v6 s7 => cEq v6 (-9) (wr s7 5 53 (25 * i1) (s7 0 13) (fun s8 => cl (X9_bring 10 0 5 ((25 * i1) + 1) (s8 0 13) s8) (fun _ s10 => cl (X9_bring 11 0 5 ((25 * i1) + 13) (s10 0 13) s10) (fun _ s12 => put s12 0 6 0 (fun s13 => X9_document_109  (fun s14 => some (s14 0 13, s14)) FU 0 s13))))) (some ((-4), s7)))))))))
set_option maxRecDepth 20000 in
set_option maxHeartbeats 4000000 in
theorem lt_X9_document_109 {K : Cx} {X : Wx} (O : OKx LM K X yX9_document.cls cX9_document 4) (hrt : (kMe K).sig.returnType = (Option.some .int)) (hfr : (kR K).frames = 3) (hlo : (kR K).locals = 69)  {k : St → Rs}  (hk : ∀  (s : St), GX LM K X 4 1 127 [(0, vR 0)] [] s (k s)) : ∀ (n : Nat) (i3 : Int) (s : St), GX LM K X 4 1 109 [(0, vR 0), (3, vI i3)] [] s (X9_document_109 k n i3 s) := by
  intro n
  induction n with
  | zero => intro i3 s; exact GX.none
  | succ n ih =>
    intro i3 s
    rw [X9_document_109]
    refine g_iload_n O dX9_document_109 rfl 1 rfl ?_
    refine g_iconst O dX9_document_110 ?_
    refine g_icmp_ge (tgt := 127) O dX9_document_111 (by decide) ?_ ?_
    · refine g_pick [0] rfl ?_
      exact hk s
    refine g_aload_n O dX9_document_114 rfl 0 rfl ?_
    refine g_getR O fw_9_31 rfl dX9_document_115 rfl ?_
    refine g_iload_n O dX9_document_118 rfl 1 rfl ?_
    refine g_iconst O dX9_document_119 ?_
    refine g_zast O rfl (by decide) dX9_document_120 (fun s1 => ?_)
    refine g_iinc (lv2 := [(3, vI (i3 + 1)), (0, vR 0)]) O dX9_document_121 1 rfl (by decide) rfl ?_
    refine g_goto (tgt := 109) O dX9_document_124 (by decide) ?_
    refine g_pick [1, 0] rfl ?_
    exact ih (i3 + 1) s1
theorem hd_X9_document : yX9_document.cls ≠ "java/lang/invoke/MethodHandle" ∧ yX9_document.cls ≠ "java/lang/invoke/VarHandle" ∧ (parseMethodDescriptor yX9_document.desc).map (fun d => d.parameters.length) = some 2 := by decide +kernel
set_option maxRecDepth 20000 in
set_option maxHeartbeats 4000000 in
theorem ct_X9_document  (i1 : Int) (i2 : Int) (s : St) : Ctr LM yX9_document cX9_document 4 (Option.some .int) 1 3 69 [vR 0, vI i1, vI i2] s (X9_document i1 i2 s) := by
  refine Ctr.of (by decide +kernel) (fun ρ => Nat.le_of_ble_eq_true rfl) (lv := [(0, vR 0), (1, vI i1), (2, vI i2)]) (fun ρ => rfl) (fun K X O hrt hfr hlo => ?_)
  unfold X9_document
  refine g_iload_n O dX9_document_0 rfl 1 rfl ?_
  refine g_callS1 (As := [vI i1]) (rest := []) O mw_4_206 mw_4_207 mw_4_208 mw_1_10 hd_X9_isDocument rfl dX9_document_1 (ct_X9_isDocument i1 s) (by rw [hfr]; decide) (by rw [hlo]; decide) (Nat.le_of_ble_eq_true rfl) (fun v1 s2 => ?_)
  refine g_if_eq (tgt := 14) O dX9_document_4 (by decide) ?_ ?_
  · refine g_iconst O dX9_document_14 ?_
    exact g_iret O hrt rfl dX9_document_15
  refine g_iload_n O dX9_document_7 rfl 2 rfl ?_
  refine g_callS1 (As := [vI i2]) (rest := []) O mw_4_176 mw_4_177 mw_4_178 mw_1_10 hd_X9_isText rfl dX9_document_8 (ct_X9_isText i2 s2) (by rw [hfr]; decide) (by rw [hlo]; decide) (Nat.le_of_ble_eq_true rfl) (fun v3 s4 => ?_)
  refine g_if_ne (tgt := 16) O dX9_document_11 (by decide) ?_ ?_
  · refine g_aload_n O dX9_document_16 rfl 0 rfl ?_
    refine g_getR O fw_9_16 rfl dX9_document_17 rfl ?_
    refine g_iload_n O dX9_document_20 rfl 2 rfl ?_
    refine g_iald O rfl (by decide) dX9_document_21 (fun v5 => ?_)
    refine g_if_ge (tgt := 31) O dX9_document_22 (by decide) ?_ ?_
    · refine g_aload_n O dX9_document_31 rfl 0 rfl ?_
      refine g_iload_n O dX9_document_32 rfl 2 rfl ?_
      refine g_callV1 (As := [vI i2]) (rest := []) (b := 0) (ci := 9) O mw_4_187 mw_4_189 mp_3_0 mw_4_190 mw_1_10 hd_X9_reading rfl ⟨_, _, rfl⟩ rfl dX9_document_33 (ct_X9_reading i2 s4) (by rw [hfr]; decide) (by rw [hlo]; decide) (Nat.le_of_ble_eq_true rfl) (fun v6 s7 => ?_)
      refine g_bipush O dX9_document_36 (by decide +kernel) ?_
      refine g_icmp_eq (tgt := 44) O dX9_document_38 (by decide) ?_ ?_
      · refine g_aload_n O dX9_document_44 rfl 0 rfl ?_
        refine g_getR O fw_9_22 rfl dX9_document_45 rfl ?_
        refine g_bipush O dX9_document_48 (by decide +kernel) ?_
        refine g_iload_n O dX9_document_50 rfl 1 rfl ?_
        refine g_imul O dX9_document_51 ?_
        refine g_aload_n O dX9_document_52 rfl 0 rfl ?_
        refine g_getI O fw_9_125 rfl dX9_document_53 rfl ?_
        refine g_iast O rfl (by decide) dX9_document_56 (fun s8 => ?_)
        refine g_aload_n O dX9_document_57 rfl 0 rfl ?_
        refine g_getR O fw_9_38 rfl dX9_document_58 rfl ?_
        refine g_iconst O dX9_document_61 ?_
        refine g_aload_n O dX9_document_62 rfl 0 rfl ?_
        refine g_getR O fw_9_22 rfl dX9_document_63 rfl ?_
        refine g_bipush O dX9_document_66 (by decide +kernel) ?_
        refine g_iload_n O dX9_document_68 rfl 1 rfl ?_
        refine g_imul O dX9_document_69 ?_
        refine g_iconst O dX9_document_70 ?_
        refine g_iadd O dX9_document_71 ?_
        refine g_aload_n O dX9_document_72 rfl 0 rfl ?_
        refine g_getI O fw_9_125 rfl dX9_document_73 rfl ?_
        refine g_callS0 (As := [vR 10, vI 0, vR 5, vI ((25 * i1) + 1), vI (s8 0 13)]) (rest := []) O mw_4_209 mw_4_210 mw_4_211 mw_1_10 hd_X9_bring rfl dX9_document_76 (ct_X9_bring ⟨_, _, rfl⟩ ⟨_, _, rfl⟩ 0 ((25 * i1) + 1) (s8 0 13) s8) (by rw [hfr]; decide) (by rw [hlo]; decide) (Nat.le_of_ble_eq_true rfl) (fun _ s10 => ?_)
        refine g_aload_n O dX9_document_79 rfl 0 rfl ?_
        refine g_getR O fw_9_41 rfl dX9_document_80 rfl ?_
        refine g_iconst O dX9_document_83 ?_
        refine g_aload_n O dX9_document_84 rfl 0 rfl ?_
        refine g_getR O fw_9_22 rfl dX9_document_85 rfl ?_
        refine g_bipush O dX9_document_88 (by decide +kernel) ?_
        refine g_iload_n O dX9_document_90 rfl 1 rfl ?_
        refine g_imul O dX9_document_91 ?_
        refine g_bipush O dX9_document_92 (by decide +kernel) ?_
        refine g_iadd O dX9_document_94 ?_
        refine g_aload_n O dX9_document_95 rfl 0 rfl ?_
        refine g_getI O fw_9_125 rfl dX9_document_96 rfl ?_
        refine g_callS0 (As := [vR 11, vI 0, vR 5, vI ((25 * i1) + 13), vI (s10 0 13)]) (rest := []) O mw_4_209 mw_4_210 mw_4_211 mw_1_10 hd_X9_bring rfl dX9_document_99 (ct_X9_bring ⟨_, _, rfl⟩ ⟨_, _, rfl⟩ 0 ((25 * i1) + 13) (s10 0 13) s10) (by rw [hfr]; decide) (by rw [hlo]; decide) (Nat.le_of_ble_eq_true rfl) (fun _ s12 => ?_)
        refine g_aload_n O dX9_document_102 rfl 0 rfl ?_
        refine g_iconst O dX9_document_103 ?_
        refine g_putI O fw_9_144 rfl dX9_document_104 rfl rfl rfl (fun s13 => ?_)
        refine g_iconst O dX9_document_107 ?_
        refine g_istore_n (lv2 := [(3, vI 0), (0, vR 0), (1, vI i1), (2, vI i2)]) O dX9_document_108 rfl (by decide) rfl ?_
        refine g_pick [1, 0] rfl ?_
        refine lt_X9_document_109 O hrt hfr hlo  (fun s14 => ?_) FU 0 s13
        refine g_aload_n O dX9_document_127 rfl 0 rfl ?_
        refine g_getI O fw_9_125 rfl dX9_document_128 rfl ?_
        exact g_iret O hrt rfl dX9_document_131
      refine g_bipush O dX9_document_41 (by decide +kernel) ?_
      exact g_iret O hrt rfl dX9_document_43
    refine g_aload_n O dX9_document_25 rfl 0 rfl ?_
    refine g_iconst O dX9_document_26 ?_
    refine g_callV1 (As := [vI 1]) (rest := []) (b := 0) (ci := 9) O mw_4_136 mw_4_138 mp_2_12 mw_4_139 mw_1_10 hd_X9_found rfl ⟨_, _, rfl⟩ rfl dX9_document_27 (ct_X9_found 1 s4) (by rw [hfr]; decide) (by rw [hlo]; decide) (Nat.le_of_ble_eq_true rfl) (fun v15 s16 => ?_)
    exact g_iret O hrt rfl dX9_document_30
  refine g_iconst O dX9_document_14 ?_
  exact g_iret O hrt rfl dX9_document_15
def X9_writes (i1 : Int) (s : St) : Rs := wr s 14 60 (s 0 19) i1 (fun s1 => put s1 0 19 ((s1 0 19) + 1) (fun s2 => some (0, s2)))
theorem hd_X9_writes : yX9_writes.cls ≠ "java/lang/invoke/MethodHandle" ∧ yX9_writes.cls ≠ "java/lang/invoke/VarHandle" ∧ (parseMethodDescriptor yX9_writes.desc).map (fun d => d.parameters.length) = some 1 := by decide +kernel
set_option maxRecDepth 20000 in
set_option maxHeartbeats 4000000 in
theorem ct_X9_writes  (i1 : Int) (s : St) : Ctr LM yX9_writes cX9_writes 2 none 0 0 0 [vR 0, vI i1] s (X9_writes i1 s) := by
  refine Ctr.of (by decide +kernel) (fun ρ => Nat.le_of_ble_eq_true rfl) (lv := [(0, vR 0), (1, vI i1)]) (fun ρ => rfl) (fun K X O hrt hfr hlo => ?_)
  unfold X9_writes
  refine g_aload_n O dX9_writes_0 rfl 0 rfl ?_
  refine g_getR O fw_9_50 rfl dX9_writes_1 rfl ?_
  refine g_aload_n O dX9_writes_4 rfl 0 rfl ?_
  refine g_getI O fw_9_147 rfl dX9_writes_5 rfl ?_
  refine g_iload_n O dX9_writes_8 rfl 1 rfl ?_
  refine g_iast O rfl (by decide) dX9_writes_9 (fun s1 => ?_)
  refine g_aload_n O dX9_writes_10 rfl 0 rfl ?_
  refine g_dup O dX9_writes_11 rfl ?_
  refine g_getI O fw_9_147 rfl dX9_writes_12 rfl ?_
  refine g_iconst O dX9_writes_15 ?_
  refine g_iadd O dX9_writes_16 ?_
  refine g_putI O fw_9_147 rfl dX9_writes_17 rfl rfl rfl (fun s2 => ?_)
  exact g_vret O hrt dX9_writes_20
def X9_has (i0 : Int) (i1 : Int) (s : St) : Rs := cEq (oAnd (oShr i0 i1) 1) 1 (some (1, s)) (some (0, s))
theorem hd_X9_has : yX9_has.cls ≠ "java/lang/invoke/MethodHandle" ∧ yX9_has.cls ≠ "java/lang/invoke/VarHandle" ∧ (parseMethodDescriptor yX9_has.desc).map (fun d => d.parameters.length) = some 2 := by decide +kernel
set_option maxRecDepth 20000 in
set_option maxHeartbeats 4000000 in
theorem ct_X9_has  (i0 : Int) (i1 : Int) (s : St) : Ctr LM yX9_has cX9_has 2 (Option.some .boolean) 1 0 0 [vI i0, vI i1] s (X9_has i0 i1 s) := by
  refine Ctr.of (by decide +kernel) (fun ρ => Nat.le_of_ble_eq_true rfl) (lv := [(0, vI i0), (1, vI i1)]) (fun ρ => rfl) (fun K X O hrt hfr hlo => ?_)
  unfold X9_has
  refine g_iload_n O dX9_has_0 rfl 0 rfl ?_
  refine g_iload_n O dX9_has_1 rfl 1 rfl ?_
  refine g_ishr O dX9_has_2 ?_
  refine g_iconst O dX9_has_3 ?_
  refine g_iand O dX9_has_4 ?_
  refine g_iconst O dX9_has_5 ?_
  refine g_icmp_ne (tgt := 13) O dX9_has_6 (by decide) ?_ ?_
  · refine g_iconst O dX9_has_13 ?_
    exact g_iret O hrt (by decide +kernel) dX9_has_14
  refine g_iconst O dX9_has_9 ?_
  refine g_goto (tgt := 14) O dX9_has_10 (by decide) ?_
  exact g_iret O hrt (by decide +kernel) dX9_has_14
def X9_firstFrom_7 (i1 : Int) (i2 : Int) (i3 : Int) (i4 : Int) (k : Int → St → Rs) : Nat → Int → Int → St → Rs
  | 0, _, _, _ => none
  | n + 1, i5, i6, s => cLt i4 i6 (k i5 s) (cl (X9_has i2 i6 s) (fun v1 s2 => jn (fun (x3 : Int) (s4 : St) => jn (fun (x6 : Int) (s7 : St) => cEq x3 0 (X9_firstFrom_7 i1 i2 i3 i4 k n i5 (i6 + 1) s7) (cEq x6 0 (X9_firstFrom_7 i1 i2 i3 i4 k n i5 (i6 + 1) s7) (X9_firstFrom_7 i1 i2 i3 i4 k n i6 (i6 + 1) s7))) (fun k8 => jn (fun  (s9 : St) => k8 1 s9) (fun k10 => cEq i5 (-9) (k10 s4) (cl (X9_leftOf i1 i6 s4) (fun v11 s12 => cl (X9_leftOf i1 i5 s12) (fun v13 s14 => cLt v13 v11 (cl (X9_leftOf i1 i6 s14) (fun v15 s16 => cLt i5 v15 (k8 0 s16) (k10 s16))) (k10 s14))))))) (fun k5 => jn (fun  (s17 : St) => k5 0 s17) (fun k18 => cEq v1 0 (k18 s2) (cl (X9_leftOf i1 i6 s2) (fun v19 s20 => cLt v19 i3 (k18 s20) (k5 1 s20)))))))
def X9_firstFrom (i1 : Int) (i2 : Int) (i3 : Int) (i4 : Int) (s : St) : Rs := X9_firstFrom_7 i1 i2 i3 i4 (fun x1 s2 => some (x1, s2)) FU (-9) i3 s
set_option maxRecDepth 20000 in
set_option maxHeartbeats 4000000 in
theorem lt_X9_firstFrom_7 {K : Cx} {X : Wx} (O : OKx LM K X yX9_firstFrom.cls cX9_firstFrom 9) (hrt : (kMe K).sig.returnType = (Option.some .int)) (hfr : (kR K).frames = 1) (hlo : (kR K).locals = 22) {i1 : Int} {i2 : Int} {i3 : Int} {i4 : Int} {k : Int → St → Rs}  (hk : ∀ (i5 : Int) (s : St), GX LM K X 9 1 109 [(5, vI i5)] [] s (k i5 s)) : ∀ (n : Nat) (i5 : Int) (i6 : Int) (s : St), GX LM K X 9 1 7 [(0, vR 0), (1, vI i1), (2, vI i2), (3, vI i3), (4, vI i4), (5, vI i5), (6, vI i6)] [] s (X9_firstFrom_7 i1 i2 i3 i4 k n i5 i6 s) := by
  intro n
  induction n with
  | zero => intro i5 i6 s; exact GX.none
  | succ n ih =>
    intro i5 i6 s
    rw [X9_firstFrom_7]
    refine g_iload O dX9_firstFrom_7 6 rfl ?_
    refine g_iload O dX9_firstFrom_9 4 rfl ?_
    refine g_icmp_gt (tgt := 109) O dX9_firstFrom_11 (by decide) ?_ ?_
    · refine g_pick [5] rfl ?_
      exact hk i5 s
    refine g_iload_n O dX9_firstFrom_14 rfl 2 rfl ?_
    refine g_iload O dX9_firstFrom_15 6 rfl ?_
    refine g_callS1 (As := [vI i2, vI i6]) (rest := []) O mw_4_232 mw_4_233 mw_4_234 mw_1_10 hd_X9_has rfl dX9_firstFrom_17 (ct_X9_has i2 i6 s) (by rw [hfr]; decide) (by rw [hlo]; decide) (Nat.le_of_ble_eq_true rfl) (fun v1 s2 => ?_)
    refine g_jn (fun (j : Int → St → Rs) => ∀ (x3 : Int) (s4 : St), GX LM K X 9 1 39 [(0, vR 0), (1, vI i1), (2, vI i2), (3, vI i3), (4, vI i4), (5, vI i5), (6, vI i6)] [vI x3] s4 (j x3 s4)) ?_ ?_
    · intro x3 s4
      refine g_istore (lv2 := [(7, vI x3), (0, vR 0), (1, vI i1), (2, vI i2), (3, vI i3), (4, vI i4), (5, vI i5), (6, vI i6)]) O dX9_firstFrom_39 (by decide) rfl ?_
      refine g_iload O dX9_firstFrom_41 6 rfl ?_
      refine g_bipush O dX9_firstFrom_43 (by decide +kernel) ?_
      refine g_jn (fun (j : Int → St → Rs) => ∀ (x6 : Int) (s7 : St), GX LM K X 9 1 82 [(0, vR 0), (1, vI i1), (2, vI i2), (3, vI i3), (4, vI i4), (5, vI i5), (6, vI i6), (7, vI x3)] [vI x6] s7 (j x6 s7)) ?_ ?_
      · intro x6 s7
        refine g_istore (lv2 := [(8, vI x6), (0, vR 0), (1, vI i1), (2, vI i2), (3, vI i3), (4, vI i4), (5, vI i5), (6, vI i6), (7, vI x3)]) O dX9_firstFrom_82 (by decide) rfl ?_
        refine g_iload O dX9_firstFrom_84 8 rfl ?_
        refine g_if_eq (tgt := 99) O dX9_firstFrom_86 (by decide) ?_ ?_
        · refine g_iload O dX9_firstFrom_99 6 rfl ?_
          refine g_istore (lv2 := [(5, vI i5), (8, vI x6), (0, vR 0), (1, vI i1), (2, vI i2), (3, vI i3), (4, vI i4), (6, vI i6), (7, vI x3)]) O dX9_firstFrom_101 (by decide) rfl ?_
          refine g_iinc (lv2 := [(6, vI (i6 + 1)), (5, vI i5), (8, vI x6), (0, vR 0), (1, vI i1), (2, vI i2), (3, vI i3), (4, vI i4), (7, vI x3)]) O dX9_firstFrom_103 7 rfl (by decide) rfl ?_
          refine g_goto (tgt := 7) O dX9_firstFrom_106 (by decide) ?_
          refine g_pick [3, 4, 5, 6, 7, 1, 0] rfl ?_
          exact ih i5 (i6 + 1) s7
        refine g_iload O dX9_firstFrom_89 0 rfl ?_
        refine g_if_eq (tgt := 99) O dX9_firstFrom_91 (by decide) ?_ ?_
        · refine g_iload O dX9_firstFrom_99 6 rfl ?_
          refine g_istore (lv2 := [(5, vI i5), (8, vI x6), (0, vR 0), (1, vI i1), (2, vI i2), (3, vI i3), (4, vI i4), (6, vI i6), (7, vI x3)]) O dX9_firstFrom_101 (by decide) rfl ?_
          refine g_iinc (lv2 := [(6, vI (i6 + 1)), (5, vI i5), (8, vI x6), (0, vR 0), (1, vI i1), (2, vI i2), (3, vI i3), (4, vI i4), (7, vI x3)]) O dX9_firstFrom_103 7 rfl (by decide) rfl ?_
          refine g_goto (tgt := 7) O dX9_firstFrom_106 (by decide) ?_
          refine g_pick [3, 4, 5, 6, 7, 1, 0] rfl ?_
          exact ih i5 (i6 + 1) s7
        refine g_iload O dX9_firstFrom_94 7 rfl ?_
        refine g_goto (tgt := 101) O dX9_firstFrom_96 (by decide) ?_
        refine g_istore (lv2 := [(5, vI i6), (8, vI x6), (0, vR 0), (1, vI i1), (2, vI i2), (3, vI i3), (4, vI i4), (6, vI i6), (7, vI x3)]) O dX9_firstFrom_101 (by decide) rfl ?_
        refine g_iinc (lv2 := [(6, vI (i6 + 1)), (5, vI i6), (8, vI x6), (0, vR 0), (1, vI i1), (2, vI i2), (3, vI i3), (4, vI i4), (7, vI x3)]) O dX9_firstFrom_103 7 rfl (by decide) rfl ?_
        refine g_goto (tgt := 7) O dX9_firstFrom_106 (by decide) ?_
        refine g_pick [3, 4, 5, 6, 7, 1, 0] rfl ?_
        exact ih i6 (i6 + 1) s7
      intro k8 hk8
      refine g_jn (fun (j : St → Rs) => ∀  (s9 : St), GX LM K X 9 1 77 [(0, vR 0), (1, vI i1), (2, vI i2), (3, vI i3), (4, vI i4), (5, vI i5), (6, vI i6), (7, vI x3)] [] s9 (j  s9)) ?_ ?_
      · intro  s9
        refine g_iconst O dX9_firstFrom_77 ?_
        refine g_goto (tgt := 82) O dX9_firstFrom_78 (by decide) ?_
        exact hk8 1 s9
      intro k10 hk10
      refine g_icmp_eq (tgt := 77) O dX9_firstFrom_45 (by decide) ?_ ?_
      · refine g_pick [1, 2, 3, 4, 5, 6, 7, 0] rfl ?_
        exact hk10 s4
      refine g_aload_n O dX9_firstFrom_48 rfl 1 rfl ?_
      refine g_iload_n O dX9_firstFrom_49 rfl 2 rfl ?_
      refine g_iload O dX9_firstFrom_50 7 rfl ?_
      refine g_callV1 (As := [vI i1, vI i6]) (rest := []) (b := 0) (ci := 9) O mw_4_235 mw_4_237 mp_3_7 mw_4_238 mw_1_10 hd_X9_leftOf rfl ⟨_, _, rfl⟩ rfl dX9_firstFrom_52 (ct_X9_leftOf i1 i6 s4) (by rw [hfr]; decide) (by rw [hlo]; decide) (Nat.le_of_ble_eq_true rfl) (fun v11 s12 => ?_)
      refine g_aload_n O dX9_firstFrom_55 rfl 1 rfl ?_
      refine g_iload_n O dX9_firstFrom_56 rfl 2 rfl ?_
      refine g_iload O dX9_firstFrom_57 6 rfl ?_
      refine g_callV1 (As := [vI i1, vI i5]) (rest := [vI v11]) (b := 0) (ci := 9) O mw_4_235 mw_4_237 mp_3_7 mw_4_238 mw_1_10 hd_X9_leftOf rfl ⟨_, _, rfl⟩ rfl dX9_firstFrom_59 (ct_X9_leftOf i1 i5 s12) (by rw [hfr]; decide) (by rw [hlo]; decide) (Nat.le_of_ble_eq_true rfl) (fun v13 s14 => ?_)
      refine g_icmp_le (tgt := 77) O dX9_firstFrom_62 (by decide) ?_ ?_
      · refine g_pick [1, 2, 3, 4, 5, 6, 7, 0] rfl ?_
        exact hk10 s14
      refine g_aload_n O dX9_firstFrom_65 rfl 1 rfl ?_
      refine g_iload_n O dX9_firstFrom_66 rfl 2 rfl ?_
      refine g_iload O dX9_firstFrom_67 7 rfl ?_
      refine g_callV1 (As := [vI i1, vI i6]) (rest := []) (b := 0) (ci := 9) O mw_4_235 mw_4_237 mp_3_7 mw_4_238 mw_1_10 hd_X9_leftOf rfl ⟨_, _, rfl⟩ rfl dX9_firstFrom_69 (ct_X9_leftOf i1 i6 s14) (by rw [hfr]; decide) (by rw [hlo]; decide) (Nat.le_of_ble_eq_true rfl) (fun v15 s16 => ?_)
      refine g_iload O dX9_firstFrom_72 6 rfl ?_
      refine g_icmp_gt (tgt := 81) O dX9_firstFrom_74 (by decide) ?_ ?_
      · refine g_iconst O dX9_firstFrom_81 ?_
        refine g_pick [1, 2, 3, 4, 5, 6, 7, 0] rfl ?_
        exact hk8 0 s16
      refine g_pick [1, 2, 3, 4, 5, 6, 7, 0] rfl ?_
      exact hk10 s16
    intro k5 hk5
    refine g_jn (fun (j : St → Rs) => ∀  (s17 : St), GX LM K X 9 1 38 [(0, vR 0), (1, vI i1), (2, vI i2), (3, vI i3), (4, vI i4), (5, vI i5), (6, vI i6)] [] s17 (j  s17)) ?_ ?_
    · intro  s17
      refine g_iconst O dX9_firstFrom_38 ?_
      exact hk5 0 s17
    intro k18 hk18
    refine g_if_eq (tgt := 38) O dX9_firstFrom_20 (by decide) ?_ ?_
    · exact hk18 s2
    refine g_aload_n O dX9_firstFrom_23 rfl 0 rfl ?_
    refine g_iload_n O dX9_firstFrom_24 rfl 1 rfl ?_
    refine g_iload O dX9_firstFrom_25 6 rfl ?_
    refine g_callV1 (As := [vI i1, vI i6]) (rest := []) (b := 0) (ci := 9) O mw_4_235 mw_4_237 mp_3_7 mw_4_238 mw_1_10 hd_X9_leftOf rfl ⟨_, _, rfl⟩ rfl dX9_firstFrom_27 (ct_X9_leftOf i1 i6 s2) (by rw [hfr]; decide) (by rw [hlo]; decide) (Nat.le_of_ble_eq_true rfl) (fun v19 s20 => ?_)
    refine g_iload_n O dX9_firstFrom_30 rfl 3 rfl ?_
    refine g_icmp_lt (tgt := 38) O dX9_firstFrom_31 (by decide) ?_ ?_
    · exact hk18 s20
    refine g_iconst O dX9_firstFrom_34 ?_
    refine g_goto (tgt := 39) O dX9_firstFrom_35 (by decide) ?_
    exact hk5 1 s20
theorem hd_X9_firstFrom : yX9_firstFrom.cls ≠ "java/lang/invoke/MethodHandle" ∧ yX9_firstFrom.cls ≠ "java/lang/invoke/VarHandle" ∧ (parseMethodDescriptor yX9_firstFrom.desc).map (fun d => d.parameters.length) = some 4 := by decide +kernel
set_option maxRecDepth 20000 in
set_option maxHeartbeats 4000000 in
theorem ct_X9_firstFrom  (i1 : Int) (i2 : Int) (i3 : Int) (i4 : Int) (s : St) : Ctr LM yX9_firstFrom cX9_firstFrom 9 (Option.some .int) 1 1 22 [vR 0, vI i1, vI i2, vI i3, vI i4] s (X9_firstFrom i1 i2 i3 i4 s) := by
  refine Ctr.of (by decide +kernel) (fun ρ => Nat.le_of_ble_eq_true rfl) (lv := [(0, vR 0), (1, vI i1), (2, vI i2), (3, vI i3), (4, vI i4)]) (fun ρ => rfl) (fun K X O hrt hfr hlo => ?_)
  unfold X9_firstFrom
  refine g_bipush O dX9_firstFrom_0 (by decide +kernel) ?_
  refine g_istore (lv2 := [(5, vI (-9)), (0, vR 0), (1, vI i1), (2, vI i2), (3, vI i3), (4, vI i4)]) O dX9_firstFrom_2 (by decide) rfl ?_
  refine g_iload_n O dX9_firstFrom_4 rfl 4 rfl ?_
  refine g_istore (lv2 := [(6, vI i3), (5, vI (-9)), (0, vR 0), (1, vI i1), (2, vI i2), (3, vI i3), (4, vI i4)]) O dX9_firstFrom_5 (by decide) rfl ?_
  refine g_pick [2, 3, 4, 5, 6, 1, 0] rfl ?_
  refine lt_X9_firstFrom_7 O hrt hfr hlo  (fun x1 s2 => ?_) FU (-9) i3 s
  refine g_iload O dX9_firstFrom_109 0 rfl ?_
  exact g_iret O hrt rfl dX9_firstFrom_111
def X9_beneath_11 (i2 : Int) (i3 : Int) (k : Int → St → Rs) : Nat → Int → Int → St → Rs
  | 0, _, _, _ => none
  | n + 1, i4, i5, s => cLt i5 i3 (cl (X9_has i2 i5 s) (fun v1 s2 => cEq v1 0 (X9_beneath_11 i2 i3 k n (i4 + 0) (i5 + 1) s2) (X9_beneath_11 i2 i3 k n (i4 + 1) (i5 + 1) s2))) (k i4 s)
def X9_beneath (i1 : Int) (i2 : Int) (i3 : Int) (s : St) : Rs := cl (X9_leftOf i1 i3 s) (fun v1 s2 => X9_beneath_11 i2 i3 (fun x3 s4 => some (x3, s4)) FU 0 v1 s2)
set_option maxRecDepth 20000 in
set_option maxHeartbeats 4000000 in
theorem lt_X9_beneath_11 {K : Cx} {X : Wx} (O : OKx LM K X yX9_beneath.cls cX9_beneath 6) (hrt : (kMe K).sig.returnType = (Option.some .int)) (hfr : (kR K).frames = 1) (hlo : (kR K).locals = 22) {i2 : Int} {i3 : Int} {k : Int → St → Rs}  (hk : ∀ (i4 : Int) (s : St), GX LM K X 6 1 42 [(4, vI i4)] [] s (k i4 s)) : ∀ (n : Nat) (i4 : Int) (i5 : Int) (s : St), GX LM K X 6 1 11 [(2, vI i2), (3, vI i3), (4, vI i4), (5, vI i5)] [] s (X9_beneath_11 i2 i3 k n i4 i5 s) := by
  intro n
  induction n with
  | zero => intro i4 i5 s; exact GX.none
  | succ n ih =>
    intro i4 i5 s
    rw [X9_beneath_11]
    refine g_iload O dX9_beneath_11 3 rfl ?_
    refine g_iload_n O dX9_beneath_13 rfl 1 rfl ?_
    refine g_icmp_ge (tgt := 42) O dX9_beneath_14 (by decide) ?_ ?_
    · refine g_pick [2] rfl ?_
      exact hk i4 s
    refine g_iload O dX9_beneath_17 2 rfl ?_
    refine g_iload_n O dX9_beneath_19 rfl 0 rfl ?_
    refine g_iload O dX9_beneath_20 3 rfl ?_
    refine g_callS1 (As := [vI i2, vI i5]) (rest := [vI i4]) O mw_4_232 mw_4_233 mw_4_234 mw_1_10 hd_X9_has rfl dX9_beneath_22 (ct_X9_has i2 i5 s) (by rw [hfr]; decide) (by rw [hlo]; decide) (Nat.le_of_ble_eq_true rfl) (fun v1 s2 => ?_)
    refine g_if_eq (tgt := 32) O dX9_beneath_25 (by decide) ?_ ?_
    · refine g_iconst O dX9_beneath_32 ?_
      refine g_iadd O dX9_beneath_33 ?_
      refine g_istore (lv2 := [(4, vI (i4 + 0)), (2, vI i2), (3, vI i3), (5, vI i5)]) O dX9_beneath_34 (by decide) rfl ?_
      refine g_iinc (lv2 := [(5, vI (i5 + 1)), (4, vI (i4 + 0)), (2, vI i2), (3, vI i3)]) O dX9_beneath_36 3 rfl (by decide) rfl ?_
      refine g_goto (tgt := 11) O dX9_beneath_39 (by decide) ?_
      refine g_pick [2, 3, 1, 0] rfl ?_
      exact ih (i4 + 0) (i5 + 1) s2
    refine g_iconst O dX9_beneath_28 ?_
    refine g_goto (tgt := 33) O dX9_beneath_29 (by decide) ?_
    refine g_iadd O dX9_beneath_33 ?_
    refine g_istore (lv2 := [(4, vI (i4 + 1)), (2, vI i2), (3, vI i3), (5, vI i5)]) O dX9_beneath_34 (by decide) rfl ?_
    refine g_iinc (lv2 := [(5, vI (i5 + 1)), (4, vI (i4 + 1)), (2, vI i2), (3, vI i3)]) O dX9_beneath_36 3 rfl (by decide) rfl ?_
    refine g_goto (tgt := 11) O dX9_beneath_39 (by decide) ?_
    refine g_pick [2, 3, 1, 0] rfl ?_
    exact ih (i4 + 1) (i5 + 1) s2
theorem hd_X9_beneath : yX9_beneath.cls ≠ "java/lang/invoke/MethodHandle" ∧ yX9_beneath.cls ≠ "java/lang/invoke/VarHandle" ∧ (parseMethodDescriptor yX9_beneath.desc).map (fun d => d.parameters.length) = some 3 := by decide +kernel
set_option maxRecDepth 20000 in
set_option maxHeartbeats 4000000 in
theorem ct_X9_beneath  (i1 : Int) (i2 : Int) (i3 : Int) (s : St) : Ctr LM yX9_beneath cX9_beneath 6 (Option.some .int) 1 1 22 [vR 0, vI i1, vI i2, vI i3] s (X9_beneath i1 i2 i3 s) := by
  refine Ctr.of (by decide +kernel) (fun ρ => Nat.le_of_ble_eq_true rfl) (lv := [(0, vR 0), (1, vI i1), (2, vI i2), (3, vI i3)]) (fun ρ => rfl) (fun K X O hrt hfr hlo => ?_)
  unfold X9_beneath
  refine g_iconst O dX9_beneath_0 ?_
  refine g_istore (lv2 := [(4, vI 0), (0, vR 0), (1, vI i1), (2, vI i2), (3, vI i3)]) O dX9_beneath_1 (by decide) rfl ?_
  refine g_aload_n O dX9_beneath_3 rfl 1 rfl ?_
  refine g_iload_n O dX9_beneath_4 rfl 2 rfl ?_
  refine g_iload_n O dX9_beneath_5 rfl 4 rfl ?_
  refine g_callV1 (As := [vI i1, vI i3]) (rest := []) (b := 0) (ci := 9) O mw_4_235 mw_4_237 mp_3_7 mw_4_238 mw_1_10 hd_X9_leftOf rfl ⟨_, _, rfl⟩ rfl dX9_beneath_6 (ct_X9_leftOf i1 i3 s) (by rw [hfr]; decide) (by rw [hlo]; decide) (Nat.le_of_ble_eq_true rfl) (fun v1 s2 => ?_)
  refine g_istore (lv2 := [(5, vI v1), (4, vI 0), (0, vR 0), (1, vI i1), (2, vI i2), (3, vI i3)]) O dX9_beneath_9 (by decide) rfl ?_
  refine g_pick [4, 5, 1, 0] rfl ?_
  refine lt_X9_beneath_11 O hrt hfr hlo  (fun x3 s4 => ?_) FU 0 v1 s2
  refine g_iload O dX9_beneath_42 0 rfl ?_
  exact g_iret O hrt rfl dX9_beneath_44
def X9_writesAll_23 (i1 : Int) (i2 : Int) (k : St → Rs) : Nat → Int → Int → St → Rs
  | 0, _, _, _ => none
  | n + 1, i3, i4, s => cLt i3 0 (k s) (rd s 16 13 i3 (fun v1 => cl (X9_firstFrom i1 i2 i4 v1 s) (fun v2 s3 => cEq v2 (-9) (rd s3 16 13 i3 (fun v14 => cLt (i3 + (-1)) 0 (X9_writesAll_23 i1 i2 k n (i3 + (-1)) (v14 + 1) s3) (cl (X9_writes 41 s3) (fun _ s16 => X9_writesAll_23 i1 i2 k n (i3 + (-1)) (v14 + 1 + 1) s16)))) (rd s3 15 12 v2 (fun v4 => cl (X9_writes v4 s3) (fun _ s6 => cl (X9_beneath i1 i2 v2 s6) (fun v7 s8 => cLt 0 v7 (cl (X9_writes 40 s8) (fun _ s10 => cl (X9_leftOf i1 v2 s10) (fun v11 s12 => wr s12 16 13 (i3 + 1) (v2 - 1) (fun s13 => X9_writesAll_23 i1 i2 k n (i3 + 1) v11 s13)))) (X9_writesAll_23 i1 i2 k n i3 (v2 + 1) s8))))))))
def X9_writesAll (i1 : Int) (i2 : Int) (s : St) : Rs := put s 0 19 0 (fun s1 => cl (X9_many i1 s1) (fun v2 s3 => wr s3 16 13 0 (v2 - 1) (fun s4 => X9_writesAll_23 i1 i2 (fun s5 => some (0, s5)) FU 0 0 s4)))
set_option maxRecDepth 20000 in
set_option maxHeartbeats 4000000 in
theorem lt_X9_writesAll_23 {K : Cx} {X : Wx} (O : OKx LM K X yX9_writesAll.cls cX9_writesAll 6) (hrt : (kMe K).sig.returnType = none) (hfr : (kR K).frames = 2) (hlo : (kR K).locals = 50) {i1 : Int} {i2 : Int} {k : St → Rs}  (hk : ∀  (s : St), GX LM K X 6 0 141 [] [] s (k s)) : ∀ (n : Nat) (i3 : Int) (i4 : Int) (s : St), GX LM K X 6 0 23 [(0, vR 0), (1, vI i1), (2, vI i2), (3, vI i3), (4, vI i4)] [] s (X9_writesAll_23 i1 i2 k n i3 i4 s) := by
  intro n
  induction n with
  | zero => intro i3 i4 s; exact GX.none
  | succ n ih =>
    intro i3 i4 s
    rw [X9_writesAll_23]
    refine g_iload_n O dX9_writesAll_23 rfl 3 rfl ?_
    refine g_if_lt (tgt := 141) O dX9_writesAll_24 (by decide) ?_ ?_
    · refine g_pick [] rfl ?_
      exact hk s
    refine g_aload_n O dX9_writesAll_27 rfl 0 rfl ?_
    refine g_iload_n O dX9_writesAll_28 rfl 1 rfl ?_
    refine g_iload_n O dX9_writesAll_29 rfl 2 rfl ?_
    refine g_iload O dX9_writesAll_30 4 rfl ?_
    refine g_aload_n O dX9_writesAll_32 rfl 0 rfl ?_
    refine g_getR O fw_9_56 rfl dX9_writesAll_33 rfl ?_
    refine g_iload_n O dX9_writesAll_36 rfl 3 rfl ?_
    refine g_iald O rfl (by decide) dX9_writesAll_37 (fun v1 => ?_)
    refine g_callV1 (As := [vI i1, vI i2, vI i4, vI v1]) (rest := []) (b := 0) (ci := 9) O mw_4_228 mw_4_230 mp_3_6 mw_4_231 mw_1_10 hd_X9_firstFrom rfl ⟨_, _, rfl⟩ rfl dX9_writesAll_38 (ct_X9_firstFrom i1 i2 i4 v1 s) (by rw [hfr]; decide) (by rw [hlo]; decide) (Nat.le_of_ble_eq_true rfl) (fun v2 s3 => ?_)
    refine g_istore (lv2 := [(5, vI v2), (0, vR 0), (1, vI i1), (2, vI i2), (3, vI i3), (4, vI i4)]) O dX9_writesAll_41 (by decide) rfl ?_
    refine g_iload O dX9_writesAll_43 0 rfl ?_
    refine g_bipush O dX9_writesAll_45 (by decide +kernel) ?_
    refine g_icmp_ne (tgt := 79) O dX9_writesAll_47 (by decide) ?_ ?_
    · refine g_aload_n O dX9_writesAll_79 rfl 1 rfl ?_
      refine g_aload_n O dX9_writesAll_80 rfl 1 rfl ?_
      refine g_getR O fw_9_53 rfl dX9_writesAll_81 rfl ?_
      refine g_iload O dX9_writesAll_84 0 rfl ?_
      refine g_iald O rfl (by decide) dX9_writesAll_86 (fun v4 => ?_)
      refine g_callV0 (As := [vI v4]) (rest := []) (b := 0) (ci := 9) O mw_4_239 mw_5_1 mp_3_8 mw_5_2 mw_1_10 hd_X9_writes rfl ⟨_, _, rfl⟩ rfl dX9_writesAll_87 (ct_X9_writes v4 s3) (by rw [hfr]; decide) (by rw [hlo]; decide) (Nat.le_of_ble_eq_true rfl) (fun _ s6 => ?_)
      refine g_aload_n O dX9_writesAll_90 rfl 1 rfl ?_
      refine g_iload_n O dX9_writesAll_91 rfl 2 rfl ?_
      refine g_iload_n O dX9_writesAll_92 rfl 3 rfl ?_
      refine g_iload O dX9_writesAll_93 0 rfl ?_
      refine g_callV1 (As := [vI i1, vI i2, vI v2]) (rest := []) (b := 0) (ci := 9) O mw_5_3 mw_5_5 mp_3_9 mw_5_6 mw_1_10 hd_X9_beneath rfl ⟨_, _, rfl⟩ rfl dX9_writesAll_95 (ct_X9_beneath i1 i2 v2 s6) (by rw [hfr]; decide) (by rw [hlo]; decide) (Nat.le_of_ble_eq_true rfl) (fun v7 s8 => ?_)
      refine g_if_le (tgt := 132) O dX9_writesAll_98 (by decide) ?_ ?_
      · refine g_iload O dX9_writesAll_132 0 rfl ?_
        refine g_iconst O dX9_writesAll_134 ?_
        refine g_iadd O dX9_writesAll_135 ?_
        refine g_istore (lv2 := [(4, vI (v2 + 1)), (5, vI v2), (0, vR 0), (1, vI i1), (2, vI i2), (3, vI i3)]) O dX9_writesAll_136 (by decide) rfl ?_
        refine g_goto (tgt := 23) O dX9_writesAll_138 (by decide) ?_
        refine g_pick [2, 3, 4, 5, 0] rfl ?_
        exact ih i3 (v2 + 1) s8
      refine g_aload_n O dX9_writesAll_101 rfl 1 rfl ?_
      refine g_bipush O dX9_writesAll_102 (by decide +kernel) ?_
      refine g_callV0 (As := [vI 40]) (rest := []) (b := 0) (ci := 9) O mw_4_239 mw_5_1 mp_3_8 mw_5_2 mw_1_10 hd_X9_writes rfl ⟨_, _, rfl⟩ rfl dX9_writesAll_104 (ct_X9_writes 40 s8) (by rw [hfr]; decide) (by rw [hlo]; decide) (Nat.le_of_ble_eq_true rfl) (fun _ s10 => ?_)
      refine g_aload_n O dX9_writesAll_107 rfl 1 rfl ?_
      refine g_iload_n O dX9_writesAll_108 rfl 2 rfl ?_
      refine g_iload O dX9_writesAll_109 0 rfl ?_
      refine g_callV1 (As := [vI i1, vI v2]) (rest := []) (b := 0) (ci := 9) O mw_4_235 mw_4_237 mp_3_7 mw_4_238 mw_1_10 hd_X9_leftOf rfl ⟨_, _, rfl⟩ rfl dX9_writesAll_111 (ct_X9_leftOf i1 v2 s10) (by rw [hfr]; decide) (by rw [hlo]; decide) (Nat.le_of_ble_eq_true rfl) (fun v11 s12 => ?_)
      refine g_istore (lv2 := [(4, vI v11), (5, vI v2), (0, vR 0), (1, vI i1), (2, vI i2), (3, vI i3)]) O dX9_writesAll_114 (by decide) rfl ?_
      refine g_iinc (lv2 := [(3, vI (i3 + 1)), (4, vI v11), (5, vI v2), (0, vR 0), (1, vI i1), (2, vI i2)]) O dX9_writesAll_116 5 rfl (by decide) rfl ?_
      refine g_aload_n O dX9_writesAll_119 rfl 3 rfl ?_
      refine g_getR O fw_9_56 rfl dX9_writesAll_120 rfl ?_
      refine g_iload_n O dX9_writesAll_123 rfl 0 rfl ?_
      refine g_iload O dX9_writesAll_124 2 rfl ?_
      refine g_iconst O dX9_writesAll_126 ?_
      refine g_isub O dX9_writesAll_127 ?_
      refine g_iast O rfl (by decide) dX9_writesAll_128 (fun s13 => ?_)
      refine g_goto (tgt := 138) O dX9_writesAll_129 (by decide) ?_
      refine g_goto (tgt := 23) O dX9_writesAll_138 (by decide) ?_
      refine g_pick [3, 4, 5, 0, 1] rfl ?_
      exact ih (i3 + 1) v11 s13
    refine g_aload_n O dX9_writesAll_50 rfl 1 rfl ?_
    refine g_getR O fw_9_56 rfl dX9_writesAll_51 rfl ?_
    refine g_iload_n O dX9_writesAll_54 rfl 4 rfl ?_
    refine g_iald O rfl (by decide) dX9_writesAll_55 (fun v14 => ?_)
    refine g_iconst O dX9_writesAll_56 ?_
    refine g_iadd O dX9_writesAll_57 ?_
    refine g_istore (lv2 := [(4, vI (v14 + 1)), (5, vI v2), (0, vR 0), (1, vI i1), (2, vI i2), (3, vI i3)]) O dX9_writesAll_58 (by decide) rfl ?_
    refine g_iinc (lv2 := [(3, vI (i3 + (-1))), (4, vI (v14 + 1)), (5, vI v2), (0, vR 0), (1, vI i1), (2, vI i2)]) O dX9_writesAll_60 5 rfl (by decide) rfl ?_
    refine g_iload_n O dX9_writesAll_63 rfl 0 rfl ?_
    refine g_if_lt (tgt := 138) O dX9_writesAll_64 (by decide) ?_ ?_
    · refine g_goto (tgt := 23) O dX9_writesAll_138 (by decide) ?_
      refine g_pick [3, 4, 5, 0, 1] rfl ?_
      exact ih (i3 + (-1)) (v14 + 1) s3
    refine g_aload_n O dX9_writesAll_67 rfl 3 rfl ?_
    refine g_bipush O dX9_writesAll_68 (by decide +kernel) ?_
    refine g_callV0 (As := [vI 41]) (rest := []) (b := 0) (ci := 9) O mw_4_239 mw_5_1 mp_3_8 mw_5_2 mw_1_10 hd_X9_writes rfl ⟨_, _, rfl⟩ rfl dX9_writesAll_70 (ct_X9_writes 41 s3) (by rw [hfr]; decide) (by rw [hlo]; decide) (Nat.le_of_ble_eq_true rfl) (fun _ s16 => ?_)
    refine g_iinc (lv2 := [(4, vI (v14 + 1 + 1)), (3, vI (i3 + (-1))), (5, vI v2), (0, vR 0), (1, vI i1), (2, vI i2)]) O dX9_writesAll_73 1 rfl (by decide) rfl ?_
    refine g_goto (tgt := 138) O dX9_writesAll_76 (by decide) ?_
    refine g_goto (tgt := 23) O dX9_writesAll_138 (by decide) ?_
    refine g_pick [3, 4, 5, 1, 0] rfl ?_
    exact ih (i3 + (-1)) (v14 + 1 + 1) s16
theorem hd_X9_writesAll : yX9_writesAll.cls ≠ "java/lang/invoke/MethodHandle" ∧ yX9_writesAll.cls ≠ "java/lang/invoke/VarHandle" ∧ (parseMethodDescriptor yX9_writesAll.desc).map (fun d => d.parameters.length) = some 2 := by decide +kernel
set_option maxRecDepth 20000 in
set_option maxHeartbeats 4000000 in
theorem ct_X9_writesAll  (i1 : Int) (i2 : Int) (s : St) : Ctr LM yX9_writesAll cX9_writesAll 6 none 0 2 50 [vR 0, vI i1, vI i2] s (X9_writesAll i1 i2 s) := by
  refine Ctr.of (by decide +kernel) (fun ρ => Nat.le_of_ble_eq_true rfl) (lv := [(0, vR 0), (1, vI i1), (2, vI i2)]) (fun ρ => rfl) (fun K X O hrt hfr hlo => ?_)
  unfold X9_writesAll
  refine g_iconst O dX9_writesAll_0 ?_
  refine g_istore_n (lv2 := [(3, vI 0), (0, vR 0), (1, vI i1), (2, vI i2)]) O dX9_writesAll_1 rfl (by decide) rfl ?_
  refine g_iconst O dX9_writesAll_2 ?_
  refine g_istore (lv2 := [(4, vI 0), (3, vI 0), (0, vR 0), (1, vI i1), (2, vI i2)]) O dX9_writesAll_3 (by decide) rfl ?_
  refine g_aload_n O dX9_writesAll_5 rfl 2 rfl ?_
  refine g_iconst O dX9_writesAll_6 ?_
  refine g_putI O fw_9_147 rfl dX9_writesAll_7 rfl rfl rfl (fun s1 => ?_)
  refine g_aload_n O dX9_writesAll_10 rfl 2 rfl ?_
  refine g_getR O fw_9_56 rfl dX9_writesAll_11 rfl ?_
  refine g_iconst O dX9_writesAll_14 ?_
  refine g_aload_n O dX9_writesAll_15 rfl 2 rfl ?_
  refine g_iload_n O dX9_writesAll_16 rfl 3 rfl ?_
  refine g_callV1 (As := [vI i1]) (rest := [vI 0, vR 16]) (b := 0) (ci := 9) O mw_4_216 mw_4_218 mp_3_3 mw_4_219 mw_1_10 hd_X9_many rfl ⟨_, _, rfl⟩ rfl dX9_writesAll_17 (ct_X9_many i1 s1) (by rw [hfr]; decide) (by rw [hlo]; decide) (Nat.le_of_ble_eq_true rfl) (fun v2 s3 => ?_)
  refine g_iconst O dX9_writesAll_20 ?_
  refine g_isub O dX9_writesAll_21 ?_
  refine g_iast O rfl (by decide) dX9_writesAll_22 (fun s4 => ?_)
  refine g_pick [2, 3, 4, 1, 0] rfl ?_
  refine lt_X9_writesAll_23 O hrt hfr hlo  (fun s5 => ?_) FU 0 0 s4
  exact g_vret O hrt dX9_writesAll_141
def X9_toText (i1 : Int) (s : St) : Rs := wr s 3 4 i1 (s 0 19) (fun s1 => cl (X9_bring 14 0 4 (60 * i1) (s1 0 19) s1) (fun _ s3 => some (s3 0 19, s3)))
theorem hd_X9_toText : yX9_toText.cls ≠ "java/lang/invoke/MethodHandle" ∧ yX9_toText.cls ≠ "java/lang/invoke/VarHandle" ∧ (parseMethodDescriptor yX9_toText.desc).map (fun d => d.parameters.length) = some 1 := by decide +kernel
set_option maxRecDepth 20000 in
set_option maxHeartbeats 4000000 in
theorem ct_X9_toText  (i1 : Int) (s : St) : Ctr LM yX9_toText cX9_toText 2 (Option.some .int) 1 1 25 [vR 0, vI i1] s (X9_toText i1 s) := by
  refine Ctr.of (by decide +kernel) (fun ρ => Nat.le_of_ble_eq_true rfl) (lv := [(0, vR 0), (1, vI i1)]) (fun ρ => rfl) (fun K X O hrt hfr hlo => ?_)
  unfold X9_toText
  refine g_aload_n O dX9_toText_0 rfl 0 rfl ?_
  refine g_getR O fw_9_16 rfl dX9_toText_1 rfl ?_
  refine g_iload_n O dX9_toText_4 rfl 1 rfl ?_
  refine g_aload_n O dX9_toText_5 rfl 0 rfl ?_
  refine g_getI O fw_9_147 rfl dX9_toText_6 rfl ?_
  refine g_iast O rfl (by decide) dX9_toText_9 (fun s1 => ?_)
  refine g_aload_n O dX9_toText_10 rfl 0 rfl ?_
  refine g_getR O fw_9_50 rfl dX9_toText_11 rfl ?_
  refine g_iconst O dX9_toText_14 ?_
  refine g_aload_n O dX9_toText_15 rfl 0 rfl ?_
  refine g_getR O fw_9_19 rfl dX9_toText_16 rfl ?_
  refine g_bipush O dX9_toText_19 (by decide +kernel) ?_
  refine g_iload_n O dX9_toText_21 rfl 1 rfl ?_
  refine g_imul O dX9_toText_22 ?_
  refine g_aload_n O dX9_toText_23 rfl 0 rfl ?_
  refine g_getI O fw_9_147 rfl dX9_toText_24 rfl ?_
  refine g_callS0 (As := [vR 14, vI 0, vR 4, vI (60 * i1), vI (s1 0 19)]) (rest := []) O mw_4_209 mw_4_210 mw_4_211 mw_1_10 hd_X9_bring rfl dX9_toText_27 (ct_X9_bring ⟨_, _, rfl⟩ ⟨_, _, rfl⟩ 0 (60 * i1) (s1 0 19) s1) (by rw [hfr]; decide) (by rw [hlo]; decide) (Nat.le_of_ble_eq_true rfl) (fun _ s3 => ?_)
  refine g_aload_n O dX9_toText_30 rfl 0 rfl ?_
  refine g_getI O fw_9_147 rfl dX9_toText_31 rfl ?_
  exact g_iret O hrt rfl dX9_toText_34
def X9_write_29 (i1 : Int) (i2 : Int) (k : St → Rs) : Nat → Int → St → Rs
  | 0, _, _ => none
  | n + 1, i3, s => cl (X9_many i1 s) (fun v1 s2 => cLt i3 v1 (cl (X9_codeOf i1 i3 s2) (fun v3 s4 => wr s4 15 12 i3 v3 (fun s5 => X9_write_29 i1 i2 k n (i3 + 1) s5))) (k s2))
def X9_write (i1 : Int) (i2 : Int) (s : St) : Rs := cl (X9_isDocument i1 s) (fun v1 s2 => cEq v1 0 (some ((-1), s2)) (cl (X9_isText i2 s2) (fun v3 s4 => cEq v3 0 (some ((-1), s4)) (cl (X9_many i1 s4) (fun v5 s6 => cEq v5 0 (some ((-4), s6)) (X9_write_29 i1 i2 (fun s7 => cl (X9_many i1 s7) (fun v8 s9 => cl (X9_writesAll i1 ((oShl 1 v8) - 1) s9) (fun _ s11 => cl (X9_toText i2 s11) (fun v12 s13 => some (v12, s13))))) FU 0 s6))))))
set_option maxRecDepth 20000 in
set_option maxHeartbeats 4000000 in
theorem lt_X9_write_29 {K : Cx} {X : Wx} (O : OKx LM K X yX9_write.cls cX9_write 4) (hrt : (kMe K).sig.returnType = (Option.some .int)) (hfr : (kR K).frames = 3) (hlo : (kR K).locals = 75) {i1 : Int} {i2 : Int} {k : St → Rs}  (hk : ∀  (s : St), GX LM K X 4 1 56 [(0, vR 0), (1, vI i1), (2, vI i2)] [] s (k s)) : ∀ (n : Nat) (i3 : Int) (s : St), GX LM K X 4 1 29 [(0, vR 0), (1, vI i1), (2, vI i2), (3, vI i3)] [] s (X9_write_29 i1 i2 k n i3 s) := by
  intro n
  induction n with
  | zero => intro i3 s; exact GX.none
  | succ n ih =>
    intro i3 s
    rw [X9_write_29]
    refine g_iload_n O dX9_write_29 rfl 3 rfl ?_
    refine g_aload_n O dX9_write_30 rfl 0 rfl ?_
    refine g_iload_n O dX9_write_31 rfl 1 rfl ?_
    refine g_callV1 (As := [vI i1]) (rest := [vI i3]) (b := 0) (ci := 9) O mw_4_216 mw_4_218 mp_3_3 mw_4_219 mw_1_10 hd_X9_many rfl ⟨_, _, rfl⟩ rfl dX9_write_32 (ct_X9_many i1 s) (by rw [hfr]; decide) (by rw [hlo]; decide) (Nat.le_of_ble_eq_true rfl) (fun v1 s2 => ?_)
    refine g_icmp_ge (tgt := 56) O dX9_write_35 (by decide) ?_ ?_
    · refine g_pick [0, 1, 2] rfl ?_
      exact hk s2
    refine g_aload_n O dX9_write_38 rfl 0 rfl ?_
    refine g_getR O fw_9_53 rfl dX9_write_39 rfl ?_
    refine g_iload_n O dX9_write_42 rfl 3 rfl ?_
    refine g_aload_n O dX9_write_43 rfl 0 rfl ?_
    refine g_iload_n O dX9_write_44 rfl 1 rfl ?_
    refine g_iload_n O dX9_write_45 rfl 3 rfl ?_
    refine g_callV1 (As := [vI i1, vI i3]) (rest := [vI i3, vR 15]) (b := 0) (ci := 9) O mw_4_220 mw_4_222 mp_3_4 mw_4_223 mw_1_10 hd_X9_codeOf rfl ⟨_, _, rfl⟩ rfl dX9_write_46 (ct_X9_codeOf i1 i3 s2) (by rw [hfr]; decide) (by rw [hlo]; decide) (Nat.le_of_ble_eq_true rfl) (fun v3 s4 => ?_)
    refine g_iast O rfl (by decide) dX9_write_49 (fun s5 => ?_)
    refine g_iinc (lv2 := [(3, vI (i3 + 1)), (0, vR 0), (1, vI i1), (2, vI i2)]) O dX9_write_50 3 rfl (by decide) rfl ?_
    refine g_goto (tgt := 29) O dX9_write_53 (by decide) ?_
    refine g_pick [1, 2, 3, 0] rfl ?_
    exact ih (i3 + 1) s5
theorem hd_X9_write : yX9_write.cls ≠ "java/lang/invoke/MethodHandle" ∧ yX9_write.cls ≠ "java/lang/invoke/VarHandle" ∧ (parseMethodDescriptor yX9_write.desc).map (fun d => d.parameters.length) = some 2 := by decide +kernel
set_option maxRecDepth 20000 in
set_option maxHeartbeats 4000000 in
theorem ct_X9_write  (i1 : Int) (i2 : Int) (s : St) : Ctr LM yX9_write cX9_write 4 (Option.some .int) 1 3 75 [vR 0, vI i1, vI i2] s (X9_write i1 i2 s) := by
  refine Ctr.of (by decide +kernel) (fun ρ => Nat.le_of_ble_eq_true rfl) (lv := [(0, vR 0), (1, vI i1), (2, vI i2)]) (fun ρ => rfl) (fun K X O hrt hfr hlo => ?_)
  unfold X9_write
  refine g_iload_n O dX9_write_0 rfl 1 rfl ?_
  refine g_callS1 (As := [vI i1]) (rest := []) O mw_4_206 mw_4_207 mw_4_208 mw_1_10 hd_X9_isDocument rfl dX9_write_1 (ct_X9_isDocument i1 s) (by rw [hfr]; decide) (by rw [hlo]; decide) (Nat.le_of_ble_eq_true rfl) (fun v1 s2 => ?_)
  refine g_if_eq (tgt := 14) O dX9_write_4 (by decide) ?_ ?_
  · refine g_iconst O dX9_write_14 ?_
    exact g_iret O hrt rfl dX9_write_15
  refine g_iload_n O dX9_write_7 rfl 2 rfl ?_
  refine g_callS1 (As := [vI i2]) (rest := []) O mw_4_176 mw_4_177 mw_4_178 mw_1_10 hd_X9_isText rfl dX9_write_8 (ct_X9_isText i2 s2) (by rw [hfr]; decide) (by rw [hlo]; decide) (Nat.le_of_ble_eq_true rfl) (fun v3 s4 => ?_)
  refine g_if_ne (tgt := 16) O dX9_write_11 (by decide) ?_ ?_
  · refine g_aload_n O dX9_write_16 rfl 0 rfl ?_
    refine g_iload_n O dX9_write_17 rfl 1 rfl ?_
    refine g_callV1 (As := [vI i1]) (rest := []) (b := 0) (ci := 9) O mw_4_216 mw_4_218 mp_3_3 mw_4_219 mw_1_10 hd_X9_many rfl ⟨_, _, rfl⟩ rfl dX9_write_18 (ct_X9_many i1 s4) (by rw [hfr]; decide) (by rw [hlo]; decide) (Nat.le_of_ble_eq_true rfl) (fun v5 s6 => ?_)
    refine g_if_ne (tgt := 27) O dX9_write_21 (by decide) ?_ ?_
    · refine g_iconst O dX9_write_27 ?_
      refine g_istore_n (lv2 := [(3, vI 0), (0, vR 0), (1, vI i1), (2, vI i2)]) O dX9_write_28 rfl (by decide) rfl ?_
      refine g_pick [1, 2, 3, 0] rfl ?_
      refine lt_X9_write_29 O hrt hfr hlo  (fun s7 => ?_) FU 0 s6
      refine g_aload_n O dX9_write_56 rfl 0 rfl ?_
      refine g_iload_n O dX9_write_57 rfl 1 rfl ?_
      refine g_iconst O dX9_write_58 ?_
      refine g_aload_n O dX9_write_59 rfl 0 rfl ?_
      refine g_iload_n O dX9_write_60 rfl 1 rfl ?_
      refine g_callV1 (As := [vI i1]) (rest := [vI 1, vI i1, vR 0]) (b := 0) (ci := 9) O mw_4_216 mw_4_218 mp_3_3 mw_4_219 mw_1_10 hd_X9_many rfl ⟨_, _, rfl⟩ rfl dX9_write_61 (ct_X9_many i1 s7) (by rw [hfr]; decide) (by rw [hlo]; decide) (Nat.le_of_ble_eq_true rfl) (fun v8 s9 => ?_)
      refine g_ishl O dX9_write_64 ?_
      refine g_iconst O dX9_write_65 ?_
      refine g_isub O dX9_write_66 ?_
      refine g_callV0 (As := [vI i1, vI ((oShl 1 v8) - 1)]) (rest := []) (b := 0) (ci := 9) O mw_4_224 mw_4_226 mp_3_5 mw_4_227 mw_1_10 hd_X9_writesAll rfl ⟨_, _, rfl⟩ rfl dX9_write_67 (ct_X9_writesAll i1 ((oShl 1 v8) - 1) s9) (by rw [hfr]; decide) (by rw [hlo]; decide) (Nat.le_of_ble_eq_true rfl) (fun _ s11 => ?_)
      refine g_aload_n O dX9_write_70 rfl 0 rfl ?_
      refine g_iload_n O dX9_write_71 rfl 2 rfl ?_
      refine g_callV1 (As := [vI i2]) (rest := []) (b := 0) (ci := 9) O mw_5_7 mw_5_9 mp_3_10 mw_5_10 mw_1_10 hd_X9_toText rfl ⟨_, _, rfl⟩ rfl dX9_write_72 (ct_X9_toText i2 s11) (by rw [hfr]; decide) (by rw [hlo]; decide) (Nat.le_of_ble_eq_true rfl) (fun v12 s13 => ?_)
      exact g_iret O hrt rfl dX9_write_75
    refine g_bipush O dX9_write_24 (by decide +kernel) ?_
    exact g_iret O hrt rfl dX9_write_26
  refine g_iconst O dX9_write_14 ?_
  exact g_iret O hrt rfl dX9_write_15
def X9_above_4 (i1 : Int) (i2 : Int) (k : Int → St → Rs) : Nat → Int → St → Rs
  | 0, _, _ => none
  | n + 1, i3, s => cl (X9_many i1 s) (fun v1 s2 => cLt i3 v1 (cl (X9_leftOf i1 i3 s2) (fun v3 s4 => cLt i2 v3 (X9_above_4 i1 i2 k n (i3 + 1) s4) (k i3 s4))) (k i3 s2))
def X9_above (i1 : Int) (i2 : Int) (s : St) : Rs := X9_above_4 i1 i2 (fun x1 s2 => cl (X9_many i1 s2) (fun v3 s4 => cLt x1 v3 (some (x1, s4)) (some ((-9), s4)))) FU (i2 + 1) s
set_option maxRecDepth 20000 in
set_option maxHeartbeats 4000000 in
theorem lt_X9_above_4 {K : Cx} {X : Wx} (O : OKx LM K X yX9_above.cls cX9_above 4) (hrt : (kMe K).sig.returnType = (Option.some .int)) (hfr : (kR K).frames = 1) (hlo : (kR K).locals = 22) {i1 : Int} {i2 : Int} {k : Int → St → Rs}  (hk : ∀ (i3 : Int) (s : St), GX LM K X 4 1 29 [(0, vR 0), (1, vI i1), (3, vI i3)] [] s (k i3 s)) : ∀ (n : Nat) (i3 : Int) (s : St), GX LM K X 4 1 4 [(0, vR 0), (1, vI i1), (2, vI i2), (3, vI i3)] [] s (X9_above_4 i1 i2 k n i3 s) := by
  intro n
  induction n with
  | zero => intro i3 s; exact GX.none
  | succ n ih =>
    intro i3 s
    rw [X9_above_4]
    refine g_iload_n O dX9_above_4 rfl 3 rfl ?_
    refine g_aload_n O dX9_above_5 rfl 0 rfl ?_
    refine g_iload_n O dX9_above_6 rfl 1 rfl ?_
    refine g_callV1 (As := [vI i1]) (rest := [vI i3]) (b := 0) (ci := 9) O mw_4_216 mw_4_218 mp_3_3 mw_4_219 mw_1_10 hd_X9_many rfl ⟨_, _, rfl⟩ rfl dX9_above_7 (ct_X9_many i1 s) (by rw [hfr]; decide) (by rw [hlo]; decide) (Nat.le_of_ble_eq_true rfl) (fun v1 s2 => ?_)
    refine g_icmp_ge (tgt := 29) O dX9_above_10 (by decide) ?_ ?_
    · refine g_pick [0, 1, 3] rfl ?_
      exact hk i3 s2
    refine g_aload_n O dX9_above_13 rfl 0 rfl ?_
    refine g_iload_n O dX9_above_14 rfl 1 rfl ?_
    refine g_iload_n O dX9_above_15 rfl 3 rfl ?_
    refine g_callV1 (As := [vI i1, vI i3]) (rest := []) (b := 0) (ci := 9) O mw_4_235 mw_4_237 mp_3_7 mw_4_238 mw_1_10 hd_X9_leftOf rfl ⟨_, _, rfl⟩ rfl dX9_above_16 (ct_X9_leftOf i1 i3 s2) (by rw [hfr]; decide) (by rw [hlo]; decide) (Nat.le_of_ble_eq_true rfl) (fun v3 s4 => ?_)
    refine g_iload_n O dX9_above_19 rfl 2 rfl ?_
    refine g_icmp_le (tgt := 29) O dX9_above_20 (by decide) ?_ ?_
    · refine g_pick [0, 1, 3] rfl ?_
      exact hk i3 s4
    refine g_iinc (lv2 := [(3, vI (i3 + 1)), (0, vR 0), (1, vI i1), (2, vI i2)]) O dX9_above_23 3 rfl (by decide) rfl ?_
    refine g_goto (tgt := 4) O dX9_above_26 (by decide) ?_
    refine g_pick [1, 2, 3, 0] rfl ?_
    exact ih (i3 + 1) s4
theorem hd_X9_above : yX9_above.cls ≠ "java/lang/invoke/MethodHandle" ∧ yX9_above.cls ≠ "java/lang/invoke/VarHandle" ∧ (parseMethodDescriptor yX9_above.desc).map (fun d => d.parameters.length) = some 2 := by decide +kernel
set_option maxRecDepth 20000 in
set_option maxHeartbeats 4000000 in
theorem ct_X9_above  (i1 : Int) (i2 : Int) (s : St) : Ctr LM yX9_above cX9_above 4 (Option.some .int) 1 1 22 [vR 0, vI i1, vI i2] s (X9_above i1 i2 s) := by
  refine Ctr.of (by decide +kernel) (fun ρ => Nat.le_of_ble_eq_true rfl) (lv := [(0, vR 0), (1, vI i1), (2, vI i2)]) (fun ρ => rfl) (fun K X O hrt hfr hlo => ?_)
  unfold X9_above
  refine g_iload_n O dX9_above_0 rfl 2 rfl ?_
  refine g_iconst O dX9_above_1 ?_
  refine g_iadd O dX9_above_2 ?_
  refine g_istore_n (lv2 := [(3, vI (i2 + 1)), (0, vR 0), (1, vI i1), (2, vI i2)]) O dX9_above_3 rfl (by decide) rfl ?_
  refine g_pick [1, 2, 3, 0] rfl ?_
  refine lt_X9_above_4 O hrt hfr hlo  (fun x1 s2 => ?_) FU (i2 + 1) s
  refine g_iload_n O dX9_above_29 rfl 2 rfl ?_
  refine g_aload_n O dX9_above_30 rfl 0 rfl ?_
  refine g_iload_n O dX9_above_31 rfl 1 rfl ?_
  refine g_callV1 (As := [vI i1]) (rest := [vI x1]) (b := 0) (ci := 9) O mw_4_216 mw_4_218 mp_3_3 mw_4_219 mw_1_10 hd_X9_many rfl ⟨_, _, rfl⟩ rfl dX9_above_32 (ct_X9_many i1 s2) (by rw [hfr]; decide) (by rw [hlo]; decide) (Nat.le_of_ble_eq_true rfl) (fun v3 s4 => ?_)
  refine g_icmp_ge (tgt := 42) O dX9_above_35 (by decide) ?_ ?_
  · refine g_bipush O dX9_above_42 (by decide +kernel) ?_
    exact g_iret O hrt rfl dX9_above_44
  refine g_iload_n O dX9_above_38 rfl 2 rfl ?_
  refine g_goto (tgt := 44) O dX9_above_39 (by decide) ?_
  exact g_iret O hrt rfl dX9_above_44
def X9_rightBeneath_10 (i1 : Int) (i2 : Int) (k : Int → St → Rs) : Nat → Int → Int → St → Rs
  | 0, _, _, _ => none
  | n + 1, i3, i4, s => cLt i4 i2 (cl (X9_above i1 i4 s) (fun v1 s2 => cEq v1 i2 (X9_rightBeneath_10 i1 i2 k n (i3 + 1) (i4 + 1) s2) (X9_rightBeneath_10 i1 i2 k n (i3 + 0) (i4 + 1) s2))) (k i3 s)
def X9_rightBeneath (i1 : Int) (i2 : Int) (s : St) : Rs := cl (X9_leftOf i1 i2 s) (fun v1 s2 => X9_rightBeneath_10 i1 i2 (fun x3 s4 => some (x3, s4)) FU 0 v1 s2)
set_option maxRecDepth 20000 in
set_option maxHeartbeats 4000000 in
theorem lt_X9_rightBeneath_10 {K : Cx} {X : Wx} (O : OKx LM K X yX9_rightBeneath.cls cX9_rightBeneath 5) (hrt : (kMe K).sig.returnType = (Option.some .int)) (hfr : (kR K).frames = 2) (hlo : (kR K).locals = 45) {i1 : Int} {i2 : Int} {k : Int → St → Rs}  (hk : ∀ (i3 : Int) (s : St), GX LM K X 5 1 41 [(3, vI i3)] [] s (k i3 s)) : ∀ (n : Nat) (i3 : Int) (i4 : Int) (s : St), GX LM K X 5 1 10 [(0, vR 0), (1, vI i1), (2, vI i2), (3, vI i3), (4, vI i4)] [] s (X9_rightBeneath_10 i1 i2 k n i3 i4 s) := by
  intro n
  induction n with
  | zero => intro i3 i4 s; exact GX.none
  | succ n ih =>
    intro i3 i4 s
    rw [X9_rightBeneath_10]
    refine g_iload O dX9_rightBeneath_10 4 rfl ?_
    refine g_iload_n O dX9_rightBeneath_12 rfl 2 rfl ?_
    refine g_icmp_ge (tgt := 41) O dX9_rightBeneath_13 (by decide) ?_ ?_
    · refine g_pick [3] rfl ?_
      exact hk i3 s
    refine g_iload_n O dX9_rightBeneath_16 rfl 3 rfl ?_
    refine g_aload_n O dX9_rightBeneath_17 rfl 0 rfl ?_
    refine g_iload_n O dX9_rightBeneath_18 rfl 1 rfl ?_
    refine g_iload O dX9_rightBeneath_19 4 rfl ?_
    refine g_callV1 (As := [vI i1, vI i4]) (rest := [vI i3]) (b := 0) (ci := 9) O mw_5_26 mw_5_28 mp_3_13 mw_5_29 mw_1_10 hd_X9_above rfl ⟨_, _, rfl⟩ rfl dX9_rightBeneath_21 (ct_X9_above i1 i4 s) (by rw [hfr]; decide) (by rw [hlo]; decide) (Nat.le_of_ble_eq_true rfl) (fun v1 s2 => ?_)
    refine g_iload_n O dX9_rightBeneath_24 rfl 2 rfl ?_
    refine g_icmp_ne (tgt := 32) O dX9_rightBeneath_25 (by decide) ?_ ?_
    · refine g_iconst O dX9_rightBeneath_32 ?_
      refine g_iadd O dX9_rightBeneath_33 ?_
      refine g_istore_n (lv2 := [(3, vI (i3 + 0)), (0, vR 0), (1, vI i1), (2, vI i2), (4, vI i4)]) O dX9_rightBeneath_34 rfl (by decide) rfl ?_
      refine g_iinc (lv2 := [(4, vI (i4 + 1)), (3, vI (i3 + 0)), (0, vR 0), (1, vI i1), (2, vI i2)]) O dX9_rightBeneath_35 4 rfl (by decide) rfl ?_
      refine g_goto (tgt := 10) O dX9_rightBeneath_38 (by decide) ?_
      refine g_pick [2, 3, 4, 1, 0] rfl ?_
      exact ih (i3 + 0) (i4 + 1) s2
    refine g_iconst O dX9_rightBeneath_28 ?_
    refine g_goto (tgt := 33) O dX9_rightBeneath_29 (by decide) ?_
    refine g_iadd O dX9_rightBeneath_33 ?_
    refine g_istore_n (lv2 := [(3, vI (i3 + 1)), (0, vR 0), (1, vI i1), (2, vI i2), (4, vI i4)]) O dX9_rightBeneath_34 rfl (by decide) rfl ?_
    refine g_iinc (lv2 := [(4, vI (i4 + 1)), (3, vI (i3 + 1)), (0, vR 0), (1, vI i1), (2, vI i2)]) O dX9_rightBeneath_35 4 rfl (by decide) rfl ?_
    refine g_goto (tgt := 10) O dX9_rightBeneath_38 (by decide) ?_
    refine g_pick [2, 3, 4, 1, 0] rfl ?_
    exact ih (i3 + 1) (i4 + 1) s2
theorem hd_X9_rightBeneath : yX9_rightBeneath.cls ≠ "java/lang/invoke/MethodHandle" ∧ yX9_rightBeneath.cls ≠ "java/lang/invoke/VarHandle" ∧ (parseMethodDescriptor yX9_rightBeneath.desc).map (fun d => d.parameters.length) = some 2 := by decide +kernel
set_option maxRecDepth 20000 in
set_option maxHeartbeats 4000000 in
theorem ct_X9_rightBeneath  (i1 : Int) (i2 : Int) (s : St) : Ctr LM yX9_rightBeneath cX9_rightBeneath 5 (Option.some .int) 1 2 45 [vR 0, vI i1, vI i2] s (X9_rightBeneath i1 i2 s) := by
  refine Ctr.of (by decide +kernel) (fun ρ => Nat.le_of_ble_eq_true rfl) (lv := [(0, vR 0), (1, vI i1), (2, vI i2)]) (fun ρ => rfl) (fun K X O hrt hfr hlo => ?_)
  unfold X9_rightBeneath
  refine g_iconst O dX9_rightBeneath_0 ?_
  refine g_istore_n (lv2 := [(3, vI 0), (0, vR 0), (1, vI i1), (2, vI i2)]) O dX9_rightBeneath_1 rfl (by decide) rfl ?_
  refine g_aload_n O dX9_rightBeneath_2 rfl 1 rfl ?_
  refine g_iload_n O dX9_rightBeneath_3 rfl 2 rfl ?_
  refine g_iload_n O dX9_rightBeneath_4 rfl 3 rfl ?_
  refine g_callV1 (As := [vI i1, vI i2]) (rest := []) (b := 0) (ci := 9) O mw_4_235 mw_4_237 mp_3_7 mw_4_238 mw_1_10 hd_X9_leftOf rfl ⟨_, _, rfl⟩ rfl dX9_rightBeneath_5 (ct_X9_leftOf i1 i2 s) (by rw [hfr]; decide) (by rw [hlo]; decide) (Nat.le_of_ble_eq_true rfl) (fun v1 s2 => ?_)
  refine g_istore (lv2 := [(4, vI v1), (3, vI 0), (0, vR 0), (1, vI i1), (2, vI i2)]) O dX9_rightBeneath_8 (by decide) rfl ?_
  refine g_pick [2, 3, 4, 1, 0] rfl ?_
  refine lt_X9_rightBeneath_10 O hrt hfr hlo  (fun x3 s4 => ?_) FU 0 v1 s2
  refine g_iload_n O dX9_rightBeneath_41 rfl 0 rfl ?_
  exact g_iret O hrt rfl dX9_rightBeneath_42
