set_option maxRecDepth 100000 in
set_option maxHeartbeats 40000000 in
theorem k_X6_init (l : Launch) (D : va_G) (ca : Nat → ClassId) (h0 sz : Nat) : Met l yX6_init (Cond.code yX6_init cX6_init 1 none :: wsL_law) { frames := 1, cells := 2, slots := 24, locals := 16 } (va_Pc [.ref h0] (fun U => U.heap.size = sz ∧ va_P D vwCl [(h0, .inr (6, [.int 0, .null, .null]))] U.heap ∧ va_K D vwCl (tysOf ca) U ∧ va_D (fun _ => True) [(h0, .inr (6, [.int 0, .null, .null]))] ∧ NWi U)) (va_Qv (fun u : Nat → Nat => u 0 = h0) (fun u t => va_P D vwCl [((u 0), .inr (6, [.int 0, .ref (u 1), .ref (u 2)])), ((u 1), .inl (ca 0, 12, .inl (fun _ => (0 : Int32)))), ((u 2), .inl (ca 0, 12, .inl (fun _ => (0 : Int32))))] t.heap ∧ va_D (va_A [(h0, .inr (6, [.int 0, .null, .null]))] sz) [((u 0), .inr (6, [.int 0, .ref (u 1), .ref (u 2)])), ((u 1), .inl (ca 0, 12, .inl (fun _ => (0 : Int32)))), ((u 2), .inl (ca 0, 12, .inl (fun _ => (0 : Int32))))]) (va_A [(h0, .inr (6, [.int 0, .null, .null]))] sz)) 2 24 (va_A [(h0, .inr (6, [.int 0, .null, .null]))] sz) := by
  refine Met.ofW (cc := cX6_init) (maxL := 1) (ret := none) (by decide +kernel) rfl ?_
  intro p e s m args below meth c s₁ B hml hv
  obtain ⟨rfl, hsz, hP, hK, hD0, hN⟩ := hv
  have hx := B.exec
  have hb := B.bytes
  have hr := B.returns
  have hts0 := atoms_spec (ws := Cond.code yX6_init cX6_init 1 none :: wsL_law) B.pre
  have hts : ∀ w ∈ wsL_law, w.before ([.ref h0] : List Value).toArray s = true := fun w h => hts0 w (List.mem_cons_of_mem _ h)
  have hown : s.vm.findClass RX6 = some m.cls := findClass_of_methodNamed B.named
  have hlocks := B.notSynchronized
  have hin : meth.name = "<init>" := (name_of_methodNamed B.named B.method).1
  subst hsz
  have hD := hD0.self (sz := s.heap.size)
  generalize hAe : va_A [(h0, .inr (6, [.int 0, .null, .null]))] s.heap.size = A at hD ⊢
  have hA : ∀ q : Nat, s.heap.size ≤ q → A q := fun q h => by rw [← hAe]; exact Or.inr h
  have hS : va_S A s.heap s.heap [] := va_S.rf
  have hl := lv_entry ([.ref h0]) (n := 1) (Nat.le_of_ble_eq_true rfl)
  rw [lg_entry_eq]
  generalize (lg_sl ([.ref h0]) ++ List.replicate (1 - (lg_sl ([.ref h0])).length) Slot.unset).toArray = ls at hl ⊢
  have hl : lv_has ls 1 [(0, .ref h0)] := hl
  refine lv_aload_n hx hb dX6_init_0 rfl (lv_at hl 0 rfl) ?_
  refine W.objInit hx hb hown (hts _ mw_1_42) (hts _ mw_1_19) (hts _ objcode) rfl (by rw [hml]; exact hl.1) rfl dX6_init_1 (Nat.le_of_ble_eq_true rfl) (Nat.le_of_ble_eq_true rfl) ?_
  refine W.eq (g2 := F0 m 4 ls []) rfl ?_
  refine lv_aload_n hx hb dX6_init_4 rfl (lv_at hl 0 rfl) ?_
  refine lv_iconst (v := 0) hx hb dX6_init_5 (by decide) ?_
  refine va_put (D := D) (ci := 6) (v := .int 0) (ty := .int) (C := RX6) (T := TX6) (N := 3) hx hb hts inlX6 tyX6 tyX6_ok nmX6 hown hK hP hD hS 0 rfl rfl 0 (by decide) (hts _ mw_1_43) (fun _ h9 => h9) rfl (by decide +kernel) rfl rfl (Nat.le_of_ble_eq_true rfl) dX6_init_6 (fun H locs hP hD hS => ?_)
  have hP : va_P D vwCl [(h0, .inr (6, [.int 0, .null, .null]))] H := hP
  have hD : va_D A [(h0, .inr (6, [.int 0, .null, .null]))] := hD
  refine lv_aload_n hx hb dX6_init_9 rfl (lv_at hl 0 rfl) ?_
  refine lv_bipush (v := 12) hx hb dX6_init_10 (by decide +kernel) ?_
  refine n_newaI (N' := 12) (a0 := (12, .inl (fun _ => (0 : Int32)))) hx hb (hts _ mw_1_65) hK hP hD hS hA (fun _ => rfl) (by decide) (by decide) (Nat.le_of_ble_eq_true rfl) (Nat.le_of_ble_eq_true rfl) (Nat.le_of_ble_eq_true rfl) dX6_init_12 (fun q1z H hP hD hS => ?_)
  have hP : va_P D vwCl [(h0, .inr (6, [.int 0, .null, .null])), (q1z, .inl (ca 0, 12, .inl (fun _ => (0 : Int32))))] H := hP
  have hD : va_D A [(h0, .inr (6, [.int 0, .null, .null])), (q1z, .inl (ca 0, 12, .inl (fun _ => (0 : Int32))))] := hD
  refine W.widen (k := 1) (n := 12) (Nat.le_of_ble_eq_true rfl) (Nat.le_of_ble_eq_true rfl) ?_
  refine va_putF (D := D) (ci := 6) (v := .ref q1z) (ty := .array .int) (C := RX6) (T := TX6) (N := 3) hx hb hts inlX6 tyX6 tyX6_ok nmX6 hown hK hP hD hS 0 rfl rfl 1 (by decide) (hts _ mw_1_49) (fun _ h9 => h9) rfl hin rfl (by decide +kernel) rfl rfl (Nat.le_of_ble_eq_true rfl) dX6_init_14 (fun H locs hP hD hS => ?_)
  have hP : va_P D vwCl [(h0, .inr (6, [.int 0, .ref q1z, .null])), (q1z, .inl (ca 0, 12, .inl (fun _ => (0 : Int32))))] H := hP
  have hD : va_D A [(h0, .inr (6, [.int 0, .ref q1z, .null])), (q1z, .inl (ca 0, 12, .inl (fun _ => (0 : Int32))))] := hD
  refine lv_aload_n hx hb dX6_init_17 rfl (lv_at hl 0 rfl) ?_
  refine lv_bipush (v := 12) hx hb dX6_init_18 (by decide +kernel) ?_
  refine n_newaI (N' := 12) (a0 := (12, .inl (fun _ => (0 : Int32)))) hx hb (hts _ mw_1_65) hK hP hD hS hA (fun _ => rfl) (by decide) (by decide) (Nat.le_of_ble_eq_true rfl) (Nat.le_of_ble_eq_true rfl) (Nat.le_of_ble_eq_true rfl) dX6_init_20 (fun q2z H hP hD hS => ?_)
  have hP : va_P D vwCl [(h0, .inr (6, [.int 0, .ref q1z, .null])), (q1z, .inl (ca 0, 12, .inl (fun _ => (0 : Int32)))), (q2z, .inl (ca 0, 12, .inl (fun _ => (0 : Int32))))] H := hP
  have hD : va_D A [(h0, .inr (6, [.int 0, .ref q1z, .null])), (q1z, .inl (ca 0, 12, .inl (fun _ => (0 : Int32)))), (q2z, .inl (ca 0, 12, .inl (fun _ => (0 : Int32))))] := hD
  refine W.widen (k := 2) (n := 24) (Nat.le_of_ble_eq_true rfl) (Nat.le_of_ble_eq_true rfl) ?_
  refine va_putF (D := D) (ci := 6) (v := .ref q2z) (ty := .array .int) (C := RX6) (T := TX6) (N := 3) hx hb hts inlX6 tyX6 tyX6_ok nmX6 hown hK hP hD hS 0 rfl rfl 2 (by decide) (hts _ mw_1_55) (fun _ h9 => h9) rfl hin rfl (by decide +kernel) rfl rfl (Nat.le_of_ble_eq_true rfl) dX6_init_22 (fun H locs hP hD hS => ?_)
  have hP : va_P D vwCl [(h0, .inr (6, [.int 0, .ref q1z, .ref q2z])), (q1z, .inl (ca 0, 12, .inl (fun _ => (0 : Int32)))), (q2z, .inl (ca 0, 12, .inl (fun _ => (0 : Int32))))] H := hP
  have hD : va_D A [(h0, .inr (6, [.int 0, .ref q1z, .ref q2z])), (q1z, .inl (ca 0, 12, .inl (fun _ => (0 : Int32)))), (q2z, .inl (ca 0, 12, .inl (fun _ => (0 : Int32))))] := hD
  refine W.vret hx hb hr (fun t ht hW => ⟨⟨fun i => ([h0, q1z, q2z] : List Nat).getD i 0, rfl, rfl, ?_, ?_⟩, ?_⟩) hS.2.2 dX6_init_25 hlocks
  · rw [ht]; exact hP.sub [0, 1, 2] rfl
  · exact hD.sub [0, 1, 2] (by decide +kernel) rfl
  · exact hS.F ht
set_option maxRecDepth 100000 in
set_option maxHeartbeats 40000000 in
theorem k_X2_init (l : Launch) (D : va_G) (ca : Nat → ClassId) (h0 sz : Nat) : Met l yX2_init (Cond.code yX2_init cX2_init 1 none :: wsL_law) { frames := 1, cells := 1, slots := 40, locals := 16 } (va_Pc [.ref h0] (fun U => U.heap.size = sz ∧ va_P D vwCl [(h0, .inr (2, [.int 0, .null]))] U.heap ∧ va_K D vwCl (tysOf ca) U ∧ va_D (fun _ => True) [(h0, .inr (2, [.int 0, .null]))] ∧ NWi U)) (va_Qv (fun u : Nat → Nat => u 0 = h0) (fun u t => va_P D vwCl [((u 0), .inr (2, [.int (-1), .ref (u 1)])), ((u 1), .inl (ca 0, 40, .inl (fun _ => (0 : Int32))))] t.heap ∧ va_D (va_A [(h0, .inr (2, [.int 0, .null]))] sz) [((u 0), .inr (2, [.int (-1), .ref (u 1)])), ((u 1), .inl (ca 0, 40, .inl (fun _ => (0 : Int32))))]) (va_A [(h0, .inr (2, [.int 0, .null]))] sz)) 1 40 (va_A [(h0, .inr (2, [.int 0, .null]))] sz) := by
  refine Met.ofW (cc := cX2_init) (maxL := 1) (ret := none) (by decide +kernel) rfl ?_
  intro p e s m args below meth c s₁ B hml hv
  obtain ⟨rfl, hsz, hP, hK, hD0, hN⟩ := hv
  have hx := B.exec
  have hb := B.bytes
  have hr := B.returns
  have hts0 := atoms_spec (ws := Cond.code yX2_init cX2_init 1 none :: wsL_law) B.pre
  have hts : ∀ w ∈ wsL_law, w.before ([.ref h0] : List Value).toArray s = true := fun w h => hts0 w (List.mem_cons_of_mem _ h)
  have hown : s.vm.findClass RX2 = some m.cls := findClass_of_methodNamed B.named
  have hlocks := B.notSynchronized
  have hin : meth.name = "<init>" := (name_of_methodNamed B.named B.method).1
  subst hsz
  have hD := hD0.self (sz := s.heap.size)
  generalize hAe : va_A [(h0, .inr (2, [.int 0, .null]))] s.heap.size = A at hD ⊢
  have hA : ∀ q : Nat, s.heap.size ≤ q → A q := fun q h => by rw [← hAe]; exact Or.inr h
  have hS : va_S A s.heap s.heap [] := va_S.rf
  have hl := lv_entry ([.ref h0]) (n := 1) (Nat.le_of_ble_eq_true rfl)
  rw [lg_entry_eq]
  generalize (lg_sl ([.ref h0]) ++ List.replicate (1 - (lg_sl ([.ref h0])).length) Slot.unset).toArray = ls at hl ⊢
  have hl : lv_has ls 1 [(0, .ref h0)] := hl
  refine lv_aload_n hx hb dX2_init_0 rfl (lv_at hl 0 rfl) ?_
  refine W.objInit hx hb hown (hts _ mw_1_207) (hts _ mw_1_19) (hts _ objcode) rfl (by rw [hml]; exact hl.1) rfl dX2_init_1 (Nat.le_of_ble_eq_true rfl) (Nat.le_of_ble_eq_true rfl) ?_
  refine W.eq (g2 := F0 m 4 ls []) rfl ?_
  refine lv_aload_n hx hb dX2_init_4 rfl (lv_at hl 0 rfl) ?_
  refine lv_iconst (v := (-1)) hx hb dX2_init_5 (by decide) ?_
  refine va_put (D := D) (ci := 2) (v := .int (-1)) (ty := .int) (C := RX2) (T := TX2) (N := 2) hx hb hts inlX2 tyX2 tyX2_ok nmX2 hown hK hP hD hS 0 rfl rfl 0 (by decide) (hts _ mw_1_208) (fun _ h9 => h9) rfl (by decide +kernel) rfl rfl (Nat.le_of_ble_eq_true rfl) dX2_init_6 (fun H locs hP hD hS => ?_)
  have hP : va_P D vwCl [(h0, .inr (2, [.int (-1), .null]))] H := hP
  have hD : va_D A [(h0, .inr (2, [.int (-1), .null]))] := hD
  refine lv_aload_n hx hb dX2_init_9 rfl (lv_at hl 0 rfl) ?_
  refine lv_bipush (v := 40) hx hb dX2_init_10 (by decide +kernel) ?_
  refine n_newaI (N' := 40) (a0 := (40, .inl (fun _ => (0 : Int32)))) hx hb (hts _ mw_1_65) hK hP hD hS hA (fun _ => rfl) (by decide) (by decide) (Nat.le_of_ble_eq_true rfl) (Nat.le_of_ble_eq_true rfl) (Nat.le_of_ble_eq_true rfl) dX2_init_12 (fun q1z H hP hD hS => ?_)
  have hP : va_P D vwCl [(h0, .inr (2, [.int (-1), .null])), (q1z, .inl (ca 0, 40, .inl (fun _ => (0 : Int32))))] H := hP
  have hD : va_D A [(h0, .inr (2, [.int (-1), .null])), (q1z, .inl (ca 0, 40, .inl (fun _ => (0 : Int32))))] := hD
  refine W.widen (k := 1) (n := 40) (Nat.le_of_ble_eq_true rfl) (Nat.le_of_ble_eq_true rfl) ?_
  refine va_putF (D := D) (ci := 2) (v := .ref q1z) (ty := .array .int) (C := RX2) (T := TX2) (N := 2) hx hb hts inlX2 tyX2 tyX2_ok nmX2 hown hK hP hD hS 0 rfl rfl 1 (by decide) (hts _ mw_1_210) (fun _ h9 => h9) rfl hin rfl (by decide +kernel) rfl rfl (Nat.le_of_ble_eq_true rfl) dX2_init_14 (fun H locs hP hD hS => ?_)
  have hP : va_P D vwCl [(h0, .inr (2, [.int (-1), .ref q1z])), (q1z, .inl (ca 0, 40, .inl (fun _ => (0 : Int32))))] H := hP
  have hD : va_D A [(h0, .inr (2, [.int (-1), .ref q1z])), (q1z, .inl (ca 0, 40, .inl (fun _ => (0 : Int32))))] := hD
  refine W.vret hx hb hr (fun t ht hW => ⟨⟨fun i => ([h0, q1z] : List Nat).getD i 0, rfl, rfl, ?_, ?_⟩, ?_⟩) hS.2.2 dX2_init_17 hlocks
  · rw [ht]; exact hP.sub [0, 1] rfl
  · exact hD.sub [0, 1] (by decide +kernel) rfl
  · exact hS.F ht
set_option maxRecDepth 100000 in
set_option maxHeartbeats 40000000 in
theorem k_X5_init (l : Launch) (D : va_G) (ca : Nat → ClassId) (h0 sz : Nat) : Met l yX5_init (Cond.code yX5_init cX5_init 1 none :: wsL_law) { frames := 1, cells := 1, slots := 60, locals := 16 } (va_Pc [.ref h0] (fun U => U.heap.size = sz ∧ va_P D vwCl [(h0, .inr (5, [.int 0, .null]))] U.heap ∧ va_K D vwCl (tysOf ca) U ∧ va_D (fun _ => True) [(h0, .inr (5, [.int 0, .null]))] ∧ NWi U)) (va_Qv (fun u : Nat → Nat => u 0 = h0) (fun u t => va_P D vwCl [((u 0), .inr (5, [.int (-1), .ref (u 1)])), ((u 1), .inl (ca 1, 60, .inl (fun _ => (0 : Int32))))] t.heap ∧ va_D (va_A [(h0, .inr (5, [.int 0, .null]))] sz) [((u 0), .inr (5, [.int (-1), .ref (u 1)])), ((u 1), .inl (ca 1, 60, .inl (fun _ => (0 : Int32))))]) (va_A [(h0, .inr (5, [.int 0, .null]))] sz)) 1 60 (va_A [(h0, .inr (5, [.int 0, .null]))] sz) := by
  refine Met.ofW (cc := cX5_init) (maxL := 1) (ret := none) (by decide +kernel) rfl ?_
  intro p e s m args below meth c s₁ B hml hv
  obtain ⟨rfl, hsz, hP, hK, hD0, hN⟩ := hv
  have hx := B.exec
  have hb := B.bytes
  have hr := B.returns
  have hts0 := atoms_spec (ws := Cond.code yX5_init cX5_init 1 none :: wsL_law) B.pre
  have hts : ∀ w ∈ wsL_law, w.before ([.ref h0] : List Value).toArray s = true := fun w h => hts0 w (List.mem_cons_of_mem _ h)
  have hown : s.vm.findClass RX5 = some m.cls := findClass_of_methodNamed B.named
  have hlocks := B.notSynchronized
  have hin : meth.name = "<init>" := (name_of_methodNamed B.named B.method).1
  subst hsz
  have hD := hD0.self (sz := s.heap.size)
  generalize hAe : va_A [(h0, .inr (5, [.int 0, .null]))] s.heap.size = A at hD ⊢
  have hA : ∀ q : Nat, s.heap.size ≤ q → A q := fun q h => by rw [← hAe]; exact Or.inr h
  have hS : va_S A s.heap s.heap [] := va_S.rf
  have hl := lv_entry ([.ref h0]) (n := 1) (Nat.le_of_ble_eq_true rfl)
  rw [lg_entry_eq]
  generalize (lg_sl ([.ref h0]) ++ List.replicate (1 - (lg_sl ([.ref h0])).length) Slot.unset).toArray = ls at hl ⊢
  have hl : lv_has ls 1 [(0, .ref h0)] := hl
  refine lv_aload_n hx hb dX5_init_0 rfl (lv_at hl 0 rfl) ?_
  refine W.objInit hx hb hown (hts _ mw_1_221) (hts _ mw_1_19) (hts _ objcode) rfl (by rw [hml]; exact hl.1) rfl dX5_init_1 (Nat.le_of_ble_eq_true rfl) (Nat.le_of_ble_eq_true rfl) ?_
  refine W.eq (g2 := F0 m 4 ls []) rfl ?_
  refine lv_aload_n hx hb dX5_init_4 rfl (lv_at hl 0 rfl) ?_
  refine lv_iconst (v := (-1)) hx hb dX5_init_5 (by decide) ?_
  refine va_put (D := D) (ci := 5) (v := .int (-1)) (ty := .int) (C := RX5) (T := TX5) (N := 2) hx hb hts inlX5 tyX5 tyX5_ok nmX5 hown hK hP hD hS 0 rfl rfl 0 (by decide) (hts _ mw_1_222) (fun _ h9 => h9) rfl (by decide +kernel) rfl rfl (Nat.le_of_ble_eq_true rfl) dX5_init_6 (fun H locs hP hD hS => ?_)
  have hP : va_P D vwCl [(h0, .inr (5, [.int (-1), .null]))] H := hP
  have hD : va_D A [(h0, .inr (5, [.int (-1), .null]))] := hD
  refine lv_aload_n hx hb dX5_init_9 rfl (lv_at hl 0 rfl) ?_
  refine lv_bipush (v := 60) hx hb dX5_init_10 (by decide +kernel) ?_
  refine n_newaB (N' := 60) (a0 := (60, .inl (fun _ => (0 : Int32)))) hx hb (hts _ mw_1_233) hK hP hD hS hA (fun _ => rfl) (by decide) (by decide) (Nat.le_of_ble_eq_true rfl) (Nat.le_of_ble_eq_true rfl) (Nat.le_of_ble_eq_true rfl) dX5_init_12 (fun q1z H hP hD hS => ?_)
  have hP : va_P D vwCl [(h0, .inr (5, [.int (-1), .null])), (q1z, .inl (ca 1, 60, .inl (fun _ => (0 : Int32))))] H := hP
  have hD : va_D A [(h0, .inr (5, [.int (-1), .null])), (q1z, .inl (ca 1, 60, .inl (fun _ => (0 : Int32))))] := hD
  refine W.widen (k := 1) (n := 60) (Nat.le_of_ble_eq_true rfl) (Nat.le_of_ble_eq_true rfl) ?_
  refine va_putF (D := D) (ci := 5) (v := .ref q1z) (ty := .array .byte) (C := RX5) (T := TX5) (N := 2) hx hb hts inlX5 tyX5 tyX5_ok nmX5 hown hK hP hD hS 0 rfl rfl 1 (by decide) (hts _ mw_1_225) (fun _ h9 => h9) rfl hin rfl (by decide +kernel) rfl rfl (Nat.le_of_ble_eq_true rfl) dX5_init_14 (fun H locs hP hD hS => ?_)
  have hP : va_P D vwCl [(h0, .inr (5, [.int (-1), .ref q1z])), (q1z, .inl (ca 1, 60, .inl (fun _ => (0 : Int32))))] H := hP
  have hD : va_D A [(h0, .inr (5, [.int (-1), .ref q1z])), (q1z, .inl (ca 1, 60, .inl (fun _ => (0 : Int32))))] := hD
  refine W.vret hx hb hr (fun t ht hW => ⟨⟨fun i => ([h0, q1z] : List Nat).getD i 0, rfl, rfl, ?_, ?_⟩, ?_⟩) hS.2.2 dX5_init_17 hlocks
  · rw [ht]; exact hP.sub [0, 1] rfl
  · exact hD.sub [0, 1] (by decide +kernel) rfl
  · exact hS.F ht
set_option maxRecDepth 100000 in
set_option maxHeartbeats 40000000 in
theorem k_X0_init (l : Launch) (D : va_G) (ca : Nat → ClassId) (h0 sz : Nat) (iv : Int32) : Met l yX0_init (Cond.code yX0_init cX0_init 2 none :: wsL_law) { frames := 1, cells := 1, slots := 1189, locals := 16 } (va_Pc [.ref h0, .int iv] (fun U => U.heap.size = sz ∧ va_P D vwCl [(h0, .inr (0, [.int 0, .null]))] U.heap ∧ va_K D vwCl (tysOf ca) U ∧ va_D (fun _ => True) [(h0, .inr (0, [.int 0, .null]))] ∧ NWi U)) (va_Qv (fun u : Nat → Nat => u 0 = h0) (fun u t => va_P D vwCl [((u 0), .inr (0, [.int iv, .ref (u 1)])), ((u 1), .inl (ca 0, 1189, .inl (fun _ => (0 : Int32))))] t.heap ∧ va_D (va_A [(h0, .inr (0, [.int 0, .null]))] sz) [((u 0), .inr (0, [.int iv, .ref (u 1)])), ((u 1), .inl (ca 0, 1189, .inl (fun _ => (0 : Int32))))]) (va_A [(h0, .inr (0, [.int 0, .null]))] sz)) 1 1189 (va_A [(h0, .inr (0, [.int 0, .null]))] sz) := by
  refine Met.ofW (cc := cX0_init) (maxL := 2) (ret := none) (by decide +kernel) rfl ?_
  intro p e s m args below meth c s₁ B hml hv
  obtain ⟨rfl, hsz, hP, hK, hD0, hN⟩ := hv
  have hx := B.exec
  have hb := B.bytes
  have hr := B.returns
  have hts0 := atoms_spec (ws := Cond.code yX0_init cX0_init 2 none :: wsL_law) B.pre
  have hts : ∀ w ∈ wsL_law, w.before ([.ref h0, .int iv] : List Value).toArray s = true := fun w h => hts0 w (List.mem_cons_of_mem _ h)
  have hown : s.vm.findClass RX0 = some m.cls := findClass_of_methodNamed B.named
  have hlocks := B.notSynchronized
  have hin : meth.name = "<init>" := (name_of_methodNamed B.named B.method).1
  subst hsz
  have hD := hD0.self (sz := s.heap.size)
  generalize hAe : va_A [(h0, .inr (0, [.int 0, .null]))] s.heap.size = A at hD ⊢
  have hA : ∀ q : Nat, s.heap.size ≤ q → A q := fun q h => by rw [← hAe]; exact Or.inr h
  have hS : va_S A s.heap s.heap [] := va_S.rf
  have hl := lv_entry ([.ref h0, .int iv]) (n := 2) (Nat.le_of_ble_eq_true rfl)
  rw [lg_entry_eq]
  generalize (lg_sl ([.ref h0, .int iv]) ++ List.replicate (2 - (lg_sl ([.ref h0, .int iv])).length) Slot.unset).toArray = ls at hl ⊢
  have hl : lv_has ls 2 [(0, .ref h0), (1, .int iv)] := hl
  refine lv_aload_n hx hb dX0_init_0 rfl (lv_at hl 0 rfl) ?_
  refine W.objInit hx hb hown (hts _ mw_1_163) (hts _ mw_1_19) (hts _ objcode) rfl (by rw [hml]; exact hl.1) rfl dX0_init_1 (Nat.le_of_ble_eq_true rfl) (Nat.le_of_ble_eq_true rfl) ?_
  refine W.eq (g2 := F0 m 4 ls []) rfl ?_
  refine lv_aload_n hx hb dX0_init_4 rfl (lv_at hl 0 rfl) ?_
  refine lv_sipush (v := 1189) hx hb dX0_init_5 (by decide +kernel) ?_
  refine n_newaI (N' := 1189) (a0 := (1189, .inl (fun _ => (0 : Int32)))) hx hb (hts _ mw_1_65) hK hP hD hS hA (fun _ => rfl) (by decide) (by decide) (Nat.le_of_ble_eq_true rfl) (Nat.le_of_ble_eq_true rfl) (Nat.le_of_ble_eq_true rfl) dX0_init_8 (fun q1z H hP hD hS => ?_)
  have hP : va_P D vwCl [(h0, .inr (0, [.int 0, .null])), (q1z, .inl (ca 0, 1189, .inl (fun _ => (0 : Int32))))] H := hP
  have hD : va_D A [(h0, .inr (0, [.int 0, .null])), (q1z, .inl (ca 0, 1189, .inl (fun _ => (0 : Int32))))] := hD
  refine W.widen (k := 1) (n := 1189) (Nat.le_of_ble_eq_true rfl) (Nat.le_of_ble_eq_true rfl) ?_
  refine va_putF (D := D) (ci := 0) (v := .ref q1z) (ty := .array .int) (C := RX0) (T := TX0) (N := 2) hx hb hts inlX0 tyX0 tyX0_ok nmX0 hown hK hP hD hS 0 rfl rfl 1 (by decide) (hts _ mw_1_166) (fun _ h9 => h9) rfl hin rfl (by decide +kernel) rfl rfl (Nat.le_of_ble_eq_true rfl) dX0_init_10 (fun H locs hP hD hS => ?_)
  have hP : va_P D vwCl [(h0, .inr (0, [.int 0, .ref q1z])), (q1z, .inl (ca 0, 1189, .inl (fun _ => (0 : Int32))))] H := hP
  have hD : va_D A [(h0, .inr (0, [.int 0, .ref q1z])), (q1z, .inl (ca 0, 1189, .inl (fun _ => (0 : Int32))))] := hD
  refine lv_aload_n hx hb dX0_init_13 rfl (lv_at hl 0 rfl) ?_
  refine lv_iload_n hx hb dX0_init_14 rfl (lv_at hl 1 rfl) ?_
  refine va_put (D := D) (ci := 0) (v := .int iv) (ty := .int) (C := RX0) (T := TX0) (N := 2) hx hb hts inlX0 tyX0 tyX0_ok nmX0 hown hK hP hD hS 0 rfl rfl 0 (by decide) (hts _ mw_1_164) (fun _ h9 => h9) rfl (by decide +kernel) rfl rfl (Nat.le_of_ble_eq_true rfl) dX0_init_15 (fun H locs hP hD hS => ?_)
  have hP : va_P D vwCl [(h0, .inr (0, [.int iv, .ref q1z])), (q1z, .inl (ca 0, 1189, .inl (fun _ => (0 : Int32))))] H := hP
  have hD : va_D A [(h0, .inr (0, [.int iv, .ref q1z])), (q1z, .inl (ca 0, 1189, .inl (fun _ => (0 : Int32))))] := hD
  refine W.vret hx hb hr (fun t ht hW => ⟨⟨fun i => ([h0, q1z] : List Nat).getD i 0, rfl, rfl, ?_, ?_⟩, ?_⟩) hS.2.2 dX0_init_18 hlocks
  · rw [ht]; exact hP.sub [0, 1] rfl
  · exact hD.sub [0, 1] (by decide +kernel) rfl
  · exact hS.F ht
set_option maxRecDepth 100000 in
set_option maxHeartbeats 40000000 in
theorem k_X4_init (l : Launch) (D : va_G) (ca : Nat → ClassId) (h0 sz : Nat) : Met l yX4_init (Cond.code yX4_init cX4_init 1 none :: wsL_law) { frames := 1, cells := 3, slots := 72, locals := 16 } (va_Pc [.ref h0] (fun U => U.heap.size = sz ∧ va_P D vwCl [(h0, .inr (4, [.int 0, .null, .null, .null]))] U.heap ∧ va_K D vwCl (tysOf ca) U ∧ va_D (fun _ => True) [(h0, .inr (4, [.int 0, .null, .null, .null]))] ∧ NWi U)) (va_Qv (fun u : Nat → Nat => u 0 = h0) (fun u t => va_P D vwCl [((u 0), .inr (4, [.int 0, .ref (u 1), .ref (u 2), .ref (u 3)])), ((u 1), .inl (ca 0, 24, .inl (fun _ => (0 : Int32)))), ((u 2), .inl (ca 0, 24, .inl (fun _ => (0 : Int32)))), ((u 3), .inl (ca 0, 24, .inl (fun _ => (0 : Int32))))] t.heap ∧ va_D (va_A [(h0, .inr (4, [.int 0, .null, .null, .null]))] sz) [((u 0), .inr (4, [.int 0, .ref (u 1), .ref (u 2), .ref (u 3)])), ((u 1), .inl (ca 0, 24, .inl (fun _ => (0 : Int32)))), ((u 2), .inl (ca 0, 24, .inl (fun _ => (0 : Int32)))), ((u 3), .inl (ca 0, 24, .inl (fun _ => (0 : Int32))))]) (va_A [(h0, .inr (4, [.int 0, .null, .null, .null]))] sz)) 3 72 (va_A [(h0, .inr (4, [.int 0, .null, .null, .null]))] sz) := by
  refine Met.ofW (cc := cX4_init) (maxL := 1) (ret := none) (by decide +kernel) rfl ?_
  intro p e s m args below meth c s₁ B hml hv
  obtain ⟨rfl, hsz, hP, hK, hD0, hN⟩ := hv
  have hx := B.exec
  have hb := B.bytes
  have hr := B.returns
  have hts0 := atoms_spec (ws := Cond.code yX4_init cX4_init 1 none :: wsL_law) B.pre
  have hts : ∀ w ∈ wsL_law, w.before ([.ref h0] : List Value).toArray s = true := fun w h => hts0 w (List.mem_cons_of_mem _ h)
  have hown : s.vm.findClass RX4 = some m.cls := findClass_of_methodNamed B.named
  have hlocks := B.notSynchronized
  have hin : meth.name = "<init>" := (name_of_methodNamed B.named B.method).1
  subst hsz
  have hD := hD0.self (sz := s.heap.size)
  generalize hAe : va_A [(h0, .inr (4, [.int 0, .null, .null, .null]))] s.heap.size = A at hD ⊢
  have hA : ∀ q : Nat, s.heap.size ≤ q → A q := fun q h => by rw [← hAe]; exact Or.inr h
  have hS : va_S A s.heap s.heap [] := va_S.rf
  have hl := lv_entry ([.ref h0]) (n := 1) (Nat.le_of_ble_eq_true rfl)
  rw [lg_entry_eq]
  generalize (lg_sl ([.ref h0]) ++ List.replicate (1 - (lg_sl ([.ref h0])).length) Slot.unset).toArray = ls at hl ⊢
  have hl : lv_has ls 1 [(0, .ref h0)] := hl
  refine lv_aload_n hx hb dX4_init_0 rfl (lv_at hl 0 rfl) ?_
  refine W.objInit hx hb hown (hts _ mw_1_86) (hts _ mw_1_19) (hts _ objcode) rfl (by rw [hml]; exact hl.1) rfl dX4_init_1 (Nat.le_of_ble_eq_true rfl) (Nat.le_of_ble_eq_true rfl) ?_
  refine W.eq (g2 := F0 m 4 ls []) rfl ?_
  refine lv_aload_n hx hb dX4_init_4 rfl (lv_at hl 0 rfl) ?_
  refine lv_iconst (v := 0) hx hb dX4_init_5 (by decide) ?_
  refine va_put (D := D) (ci := 4) (v := .int 0) (ty := .int) (C := RX4) (T := TX4) (N := 4) hx hb hts inlX4 tyX4 tyX4_ok nmX4 hown hK hP hD hS 0 rfl rfl 0 (by decide) (hts _ mw_1_87) (fun _ h9 => h9) rfl (by decide +kernel) rfl rfl (Nat.le_of_ble_eq_true rfl) dX4_init_6 (fun H locs hP hD hS => ?_)
  have hP : va_P D vwCl [(h0, .inr (4, [.int 0, .null, .null, .null]))] H := hP
  have hD : va_D A [(h0, .inr (4, [.int 0, .null, .null, .null]))] := hD
  refine lv_aload_n hx hb dX4_init_9 rfl (lv_at hl 0 rfl) ?_
  refine lv_bipush (v := 24) hx hb dX4_init_10 (by decide +kernel) ?_
  refine n_newaI (N' := 24) (a0 := (24, .inl (fun _ => (0 : Int32)))) hx hb (hts _ mw_1_65) hK hP hD hS hA (fun _ => rfl) (by decide) (by decide) (Nat.le_of_ble_eq_true rfl) (Nat.le_of_ble_eq_true rfl) (Nat.le_of_ble_eq_true rfl) dX4_init_12 (fun q1z H hP hD hS => ?_)
  have hP : va_P D vwCl [(h0, .inr (4, [.int 0, .null, .null, .null])), (q1z, .inl (ca 0, 24, .inl (fun _ => (0 : Int32))))] H := hP
  have hD : va_D A [(h0, .inr (4, [.int 0, .null, .null, .null])), (q1z, .inl (ca 0, 24, .inl (fun _ => (0 : Int32))))] := hD
  refine W.widen (k := 1) (n := 24) (Nat.le_of_ble_eq_true rfl) (Nat.le_of_ble_eq_true rfl) ?_
  refine va_putF (D := D) (ci := 4) (v := .ref q1z) (ty := .array .int) (C := RX4) (T := TX4) (N := 4) hx hb hts inlX4 tyX4 tyX4_ok nmX4 hown hK hP hD hS 0 rfl rfl 1 (by decide) (hts _ mw_1_90) (fun _ h9 => h9) rfl hin rfl (by decide +kernel) rfl rfl (Nat.le_of_ble_eq_true rfl) dX4_init_14 (fun H locs hP hD hS => ?_)
  have hP : va_P D vwCl [(h0, .inr (4, [.int 0, .ref q1z, .null, .null])), (q1z, .inl (ca 0, 24, .inl (fun _ => (0 : Int32))))] H := hP
  have hD : va_D A [(h0, .inr (4, [.int 0, .ref q1z, .null, .null])), (q1z, .inl (ca 0, 24, .inl (fun _ => (0 : Int32))))] := hD
  refine lv_aload_n hx hb dX4_init_17 rfl (lv_at hl 0 rfl) ?_
  refine lv_bipush (v := 24) hx hb dX4_init_18 (by decide +kernel) ?_
  refine n_newaI (N' := 24) (a0 := (24, .inl (fun _ => (0 : Int32)))) hx hb (hts _ mw_1_65) hK hP hD hS hA (fun _ => rfl) (by decide) (by decide) (Nat.le_of_ble_eq_true rfl) (Nat.le_of_ble_eq_true rfl) (Nat.le_of_ble_eq_true rfl) dX4_init_20 (fun q2z H hP hD hS => ?_)
  have hP : va_P D vwCl [(h0, .inr (4, [.int 0, .ref q1z, .null, .null])), (q1z, .inl (ca 0, 24, .inl (fun _ => (0 : Int32)))), (q2z, .inl (ca 0, 24, .inl (fun _ => (0 : Int32))))] H := hP
  have hD : va_D A [(h0, .inr (4, [.int 0, .ref q1z, .null, .null])), (q1z, .inl (ca 0, 24, .inl (fun _ => (0 : Int32)))), (q2z, .inl (ca 0, 24, .inl (fun _ => (0 : Int32))))] := hD
  refine W.widen (k := 2) (n := 48) (Nat.le_of_ble_eq_true rfl) (Nat.le_of_ble_eq_true rfl) ?_
  refine va_putF (D := D) (ci := 4) (v := .ref q2z) (ty := .array .int) (C := RX4) (T := TX4) (N := 4) hx hb hts inlX4 tyX4 tyX4_ok nmX4 hown hK hP hD hS 0 rfl rfl 2 (by decide) (hts _ mw_1_93) (fun _ h9 => h9) rfl hin rfl (by decide +kernel) rfl rfl (Nat.le_of_ble_eq_true rfl) dX4_init_22 (fun H locs hP hD hS => ?_)
  have hP : va_P D vwCl [(h0, .inr (4, [.int 0, .ref q1z, .ref q2z, .null])), (q1z, .inl (ca 0, 24, .inl (fun _ => (0 : Int32)))), (q2z, .inl (ca 0, 24, .inl (fun _ => (0 : Int32))))] H := hP
  have hD : va_D A [(h0, .inr (4, [.int 0, .ref q1z, .ref q2z, .null])), (q1z, .inl (ca 0, 24, .inl (fun _ => (0 : Int32)))), (q2z, .inl (ca 0, 24, .inl (fun _ => (0 : Int32))))] := hD
  refine lv_aload_n hx hb dX4_init_25 rfl (lv_at hl 0 rfl) ?_
  refine lv_bipush (v := 24) hx hb dX4_init_26 (by decide +kernel) ?_
  refine n_newaI (N' := 24) (a0 := (24, .inl (fun _ => (0 : Int32)))) hx hb (hts _ mw_1_65) hK hP hD hS hA (fun _ => rfl) (by decide) (by decide) (Nat.le_of_ble_eq_true rfl) (Nat.le_of_ble_eq_true rfl) (Nat.le_of_ble_eq_true rfl) dX4_init_28 (fun q3z H hP hD hS => ?_)
  have hP : va_P D vwCl [(h0, .inr (4, [.int 0, .ref q1z, .ref q2z, .null])), (q1z, .inl (ca 0, 24, .inl (fun _ => (0 : Int32)))), (q2z, .inl (ca 0, 24, .inl (fun _ => (0 : Int32)))), (q3z, .inl (ca 0, 24, .inl (fun _ => (0 : Int32))))] H := hP
  have hD : va_D A [(h0, .inr (4, [.int 0, .ref q1z, .ref q2z, .null])), (q1z, .inl (ca 0, 24, .inl (fun _ => (0 : Int32)))), (q2z, .inl (ca 0, 24, .inl (fun _ => (0 : Int32)))), (q3z, .inl (ca 0, 24, .inl (fun _ => (0 : Int32))))] := hD
  refine W.widen (k := 3) (n := 72) (Nat.le_of_ble_eq_true rfl) (Nat.le_of_ble_eq_true rfl) ?_
  refine va_putF (D := D) (ci := 4) (v := .ref q3z) (ty := .array .int) (C := RX4) (T := TX4) (N := 4) hx hb hts inlX4 tyX4 tyX4_ok nmX4 hown hK hP hD hS 0 rfl rfl 3 (by decide) (hts _ mw_1_96) (fun _ h9 => h9) rfl hin rfl (by decide +kernel) rfl rfl (Nat.le_of_ble_eq_true rfl) dX4_init_30 (fun H locs hP hD hS => ?_)
  have hP : va_P D vwCl [(h0, .inr (4, [.int 0, .ref q1z, .ref q2z, .ref q3z])), (q1z, .inl (ca 0, 24, .inl (fun _ => (0 : Int32)))), (q2z, .inl (ca 0, 24, .inl (fun _ => (0 : Int32)))), (q3z, .inl (ca 0, 24, .inl (fun _ => (0 : Int32))))] H := hP
  have hD : va_D A [(h0, .inr (4, [.int 0, .ref q1z, .ref q2z, .ref q3z])), (q1z, .inl (ca 0, 24, .inl (fun _ => (0 : Int32)))), (q2z, .inl (ca 0, 24, .inl (fun _ => (0 : Int32)))), (q3z, .inl (ca 0, 24, .inl (fun _ => (0 : Int32))))] := hD
  refine W.vret hx hb hr (fun t ht hW => ⟨⟨fun i => ([h0, q1z, q2z, q3z] : List Nat).getD i 0, rfl, rfl, ?_, ?_⟩, ?_⟩) hS.2.2 dX4_init_33 hlocks
  · rw [ht]; exact hP.sub [0, 1, 2, 3] rfl
  · exact hD.sub [0, 1, 2, 3] (by decide +kernel) rfl
  · exact hS.F ht
set_option maxRecDepth 100000 in
set_option maxHeartbeats 40000000 in
theorem k_X3_init (l : Launch) (D : va_G) (ca : Nat → ClassId) (h0 sz : Nat) : Met l yX3_init (Cond.code yX3_init cX3_init 1 none :: wsL_law) { frames := 2, cells := 7, slots := 57, locals := 36 } (va_Pc [.ref h0] (fun U => U.heap.size = sz ∧ va_P D vwCl [(h0, .inr (3, [.null, .null, .null]))] U.heap ∧ va_K D vwCl (tysOf ca) U ∧ va_D (fun _ => True) [(h0, .inr (3, [.null, .null, .null]))] ∧ NWi U)) (va_Qv (fun u : Nat → Nat => u 0 = h0) (fun u t => va_P D vwCl [((u 0), .inr (3, [.ref (u 1), .ref (u 4), .ref (u 7)])), ((u 1), .inr (6, [.int 0, .ref (u 2), .ref (u 3)])), ((u 2), .inl (ca 0, 12, .inl (fun _ => (0 : Int32)))), ((u 3), .inl (ca 0, 12, .inl (fun _ => (0 : Int32)))), ((u 4), .inr (6, [.int 0, .ref (u 5), .ref (u 6)])), ((u 5), .inl (ca 0, 12, .inl (fun _ => (0 : Int32)))), ((u 6), .inl (ca 0, 12, .inl (fun _ => (0 : Int32)))), ((u 7), .inl (ca 0, 3, .inl (upd (upd (upd (fun _ => (0 : Int32)) (0 : Int32).toNatClampNeg 1) (1 : Int32).toNatClampNeg 1) (2 : Int32).toNatClampNeg 1)))] t.heap ∧ va_D (va_A [(h0, .inr (3, [.null, .null, .null]))] sz) [((u 0), .inr (3, [.ref (u 1), .ref (u 4), .ref (u 7)])), ((u 1), .inr (6, [.int 0, .ref (u 2), .ref (u 3)])), ((u 2), .inl (ca 0, 12, .inl (fun _ => (0 : Int32)))), ((u 3), .inl (ca 0, 12, .inl (fun _ => (0 : Int32)))), ((u 4), .inr (6, [.int 0, .ref (u 5), .ref (u 6)])), ((u 5), .inl (ca 0, 12, .inl (fun _ => (0 : Int32)))), ((u 6), .inl (ca 0, 12, .inl (fun _ => (0 : Int32)))), ((u 7), .inl (ca 0, 3, .inl (upd (upd (upd (fun _ => (0 : Int32)) (0 : Int32).toNatClampNeg 1) (1 : Int32).toNatClampNeg 1) (2 : Int32).toNatClampNeg 1)))]) (va_A [(h0, .inr (3, [.null, .null, .null]))] sz)) 7 57 (va_A [(h0, .inr (3, [.null, .null, .null]))] sz) := by
  refine Met.ofW (cc := cX3_init) (maxL := 1) (ret := none) (by decide +kernel) rfl ?_
  intro p e s m args below meth c s₁ B hml hv
  obtain ⟨rfl, hsz, hP, hK, hD0, hN⟩ := hv
  have hx := B.exec
  have hb := B.bytes
  have hr := B.returns
  have hts0 := atoms_spec (ws := Cond.code yX3_init cX3_init 1 none :: wsL_law) B.pre
  have hts : ∀ w ∈ wsL_law, w.before ([.ref h0] : List Value).toArray s = true := fun w h => hts0 w (List.mem_cons_of_mem _ h)
  have hown : s.vm.findClass RX3 = some m.cls := findClass_of_methodNamed B.named
  have hlocks := B.notSynchronized
  have hin : meth.name = "<init>" := (name_of_methodNamed B.named B.method).1
  subst hsz
  have hD := hD0.self (sz := s.heap.size)
  generalize hAe : va_A [(h0, .inr (3, [.null, .null, .null]))] s.heap.size = A at hD ⊢
  have hA : ∀ q : Nat, s.heap.size ≤ q → A q := fun q h => by rw [← hAe]; exact Or.inr h
  have hS : va_S A s.heap s.heap [] := va_S.rf
  have hl := lv_entry ([.ref h0]) (n := 1) (Nat.le_of_ble_eq_true rfl)
  rw [lg_entry_eq]
  generalize (lg_sl ([.ref h0]) ++ List.replicate (1 - (lg_sl ([.ref h0])).length) Slot.unset).toArray = ls at hl ⊢
  have hl : lv_has ls 1 [(0, .ref h0)] := hl
  refine lv_aload_n hx hb dX3_init_0 rfl (lv_at hl 0 rfl) ?_
  refine W.objInit hx hb hown (hts _ mw_1_36) (hts _ mw_1_19) (hts _ objcode) rfl (by rw [hml]; exact hl.1) rfl dX3_init_1 (Nat.le_of_ble_eq_true rfl) (Nat.le_of_ble_eq_true rfl) ?_
  refine W.eq (g2 := F0 m 4 ls []) rfl ?_
  refine lv_aload_n hx hb dX3_init_4 rfl (lv_at hl 0 rfl) ?_
  refine va_new (ci := 6) (fs := [.int 0, .null, .null]) (C := RX6) (T := TX6) (N := 3) hx hb hts inlX6 tyX6 tyX6_ok hown (hts _ mw_1_37) (hts _ mw_1_38) (hts _ mw_1_4) hK hP hD hS hA rfl (fun j hj => by rcases (show j = 0 ∨ j = 1 ∨ j = 2 by omega) with rfl | rfl | rfl <;> rfl) (Nat.le_of_ble_eq_true rfl) (Nat.le_of_ble_eq_true rfl) dX3_init_5 (fun q1z H hP hD hS => ?_)
  have hP : va_P D vwCl [(h0, .inr (3, [.null, .null, .null])), (q1z, .inr (6, [.int 0, .null, .null]))] H := hP
  have hD : va_D A [(h0, .inr (3, [.null, .null, .null])), (q1z, .inr (6, [.int 0, .null, .null]))] := hD
  refine W.widen (k := 1) (n := 3) (Nat.le_of_ble_eq_true rfl) (Nat.le_of_ble_eq_true rfl) ?_
  refine lv_dup hx hb dX3_init_8 rfl ?_
  have hPc := hP.sub (ws' := [(q1z, .inr (6, [.int 0, .null, .null]))]) [1] rfl
  have hDc := hD.sub (ws' := [(q1z, .inr (6, [.int 0, .null, .null]))]) [1] (by decide) rfl
  have hFc := va_free (wc := [(q1z, .inr (6, [.int 0, .null, .null]))]) hD hS hA [1] rfl
  refine va_callv (va_runIN (As := []) (rest := [.ref q1z, .ref h0]) ⟨hx, hb, hml, hown, hts⟩ (k_X6_init l D ca q1z H.size) ⟨va_cnB 0 hts (good_code mw_1_41) rfl rfl rfl (nwi_3_13 hN) (hts _ mw_1_4) (by decide +kernel) ⟨(Nat.le_of_ble_eq_true rfl), (Nat.le_of_ble_eq_true rfl)⟩, rfl, (hts _ mw_1_40)⟩ ⟨fun a U g mk q => by obtain ⟨q0, q1, qP, qK, qD, qN⟩ := q; exact ⟨q0, q1, qP, va_K.moved (u := U) (U := U.calling g mk a) (Vm.Alike.refl U.vm) qK, qD, NWi.same (U := U.calling g mk a) rfl qN⟩, fun U hU hW => ⟨rfl, by rw [hU], by rw [hU]; exact hPc, va_K.moved hW.alike hK, hDc.weaken (fun _ _ _ _ => trivial), NWi.warm hW hN⟩⟩ rfl rfl hl.1 rfl (lv_room (Nat.le_of_ble_eq_true rfl)) dX3_init_9 ⟨(Nat.le_of_ble_eq_true rfl), (Nat.le_of_ble_eq_true rfl)⟩) hS (fun q _ h => hFc q h) hFc (fun u2z t H1 locs ht hvm hw hB hz1 hk1 hS => ?_)
  obtain ⟨hP1, hD1⟩ := hB
  rw [ht] at hP1
  obtain ⟨hP, hD⟩ := va_join (wr := [(h0, .inr (3, [.null, .null, .null]))]) (w1 := [((u2z 0), .inr (6, [.int 0, .ref (u2z 1), .ref (u2z 2)])), ((u2z 1), .inl (ca 0, 12, .inl (fun _ => (0 : Int32)))), ((u2z 2), .inl (ca 0, 12, .inl (fun _ => (0 : Int32))))]) hP hD [1] [0] rfl rfl (by decide) (by decide) hk1 hFc hP1 hD1
  rw [hw] at hP hD
  generalize H1 = H at hP hS ⊢
  have hP : va_P D vwCl [(h0, .inr (3, [.null, .null, .null])), (q1z, .inr (6, [.int 0, .ref (u2z 1), .ref (u2z 2)])), ((u2z 1), .inl (ca 0, 12, .inl (fun _ => (0 : Int32)))), ((u2z 2), .inl (ca 0, 12, .inl (fun _ => (0 : Int32))))] H := hP
  have hD : va_D A [(h0, .inr (3, [.null, .null, .null])), (q1z, .inr (6, [.int 0, .ref (u2z 1), .ref (u2z 2)])), ((u2z 1), .inl (ca 0, 12, .inl (fun _ => (0 : Int32)))), ((u2z 2), .inl (ca 0, 12, .inl (fun _ => (0 : Int32))))] := hD
  refine W.widen (k := 3) (n := 27) (Nat.le_of_ble_eq_true rfl) (Nat.le_of_ble_eq_true rfl) ?_
  refine va_putF (D := D) (ci := 3) (v := .ref q1z) (ty := .object "MarkScripts$Tree") (C := RX3) (T := TX3) (N := 3) hx hb hts inlX3 tyX3 tyX3_ok nmX3 hown hK hP hD hS 0 rfl rfl 0 (by decide) (hts _ mw_1_66) (fun _ h9 => h9) rfl hin rfl (by decide +kernel) rfl rfl (Nat.le_of_ble_eq_true rfl) dX3_init_12 (fun H locs hP hD hS => ?_)
  have hP : va_P D vwCl [(h0, .inr (3, [.ref q1z, .null, .null])), (q1z, .inr (6, [.int 0, .ref (u2z 1), .ref (u2z 2)])), ((u2z 1), .inl (ca 0, 12, .inl (fun _ => (0 : Int32)))), ((u2z 2), .inl (ca 0, 12, .inl (fun _ => (0 : Int32))))] H := hP
  have hD : va_D A [(h0, .inr (3, [.ref q1z, .null, .null])), (q1z, .inr (6, [.int 0, .ref (u2z 1), .ref (u2z 2)])), ((u2z 1), .inl (ca 0, 12, .inl (fun _ => (0 : Int32)))), ((u2z 2), .inl (ca 0, 12, .inl (fun _ => (0 : Int32))))] := hD
  refine lv_aload_n hx hb dX3_init_15 rfl (lv_at hl 0 rfl) ?_
  refine va_new (ci := 6) (fs := [.int 0, .null, .null]) (C := RX6) (T := TX6) (N := 3) hx hb hts inlX6 tyX6 tyX6_ok hown (hts _ mw_1_37) (hts _ mw_1_38) (hts _ mw_1_4) hK hP hD hS hA rfl (fun j hj => by rcases (show j = 0 ∨ j = 1 ∨ j = 2 by omega) with rfl | rfl | rfl <;> rfl) (Nat.le_of_ble_eq_true rfl) (Nat.le_of_ble_eq_true rfl) dX3_init_16 (fun q3z H hP hD hS => ?_)
  have hP : va_P D vwCl [(h0, .inr (3, [.ref q1z, .null, .null])), (q1z, .inr (6, [.int 0, .ref (u2z 1), .ref (u2z 2)])), ((u2z 1), .inl (ca 0, 12, .inl (fun _ => (0 : Int32)))), ((u2z 2), .inl (ca 0, 12, .inl (fun _ => (0 : Int32)))), (q3z, .inr (6, [.int 0, .null, .null]))] H := hP
  have hD : va_D A [(h0, .inr (3, [.ref q1z, .null, .null])), (q1z, .inr (6, [.int 0, .ref (u2z 1), .ref (u2z 2)])), ((u2z 1), .inl (ca 0, 12, .inl (fun _ => (0 : Int32)))), ((u2z 2), .inl (ca 0, 12, .inl (fun _ => (0 : Int32)))), (q3z, .inr (6, [.int 0, .null, .null]))] := hD
  refine W.widen (k := 4) (n := 30) (Nat.le_of_ble_eq_true rfl) (Nat.le_of_ble_eq_true rfl) ?_
  refine lv_dup hx hb dX3_init_19 rfl ?_
  have hPc := hP.sub (ws' := [(q3z, .inr (6, [.int 0, .null, .null]))]) [4] rfl
  have hDc := hD.sub (ws' := [(q3z, .inr (6, [.int 0, .null, .null]))]) [4] (by decide) rfl
  have hFc := va_free (wc := [(q3z, .inr (6, [.int 0, .null, .null]))]) hD hS hA [4] rfl
  refine va_callv (va_runIN (As := []) (rest := [.ref q3z, .ref h0]) ⟨hx, hb, hml, hown, hts⟩ (k_X6_init l D ca q3z H.size) ⟨va_cnB 0 hts (good_code mw_1_41) rfl rfl rfl (nwi_3_13 hN) (hts _ mw_1_4) (by decide +kernel) ⟨(Nat.le_of_ble_eq_true rfl), (Nat.le_of_ble_eq_true rfl)⟩, rfl, (hts _ mw_1_40)⟩ ⟨fun a U g mk q => by obtain ⟨q0, q1, qP, qK, qD, qN⟩ := q; exact ⟨q0, q1, qP, va_K.moved (u := U) (U := U.calling g mk a) (Vm.Alike.refl U.vm) qK, qD, NWi.same (U := U.calling g mk a) rfl qN⟩, fun U hU hW => ⟨rfl, by rw [hU], by rw [hU]; exact hPc, va_K.moved hW.alike hK, hDc.weaken (fun _ _ _ _ => trivial), NWi.warm hW hN⟩⟩ rfl rfl hl.1 rfl (lv_room (Nat.le_of_ble_eq_true rfl)) dX3_init_20 ⟨(Nat.le_of_ble_eq_true rfl), (Nat.le_of_ble_eq_true rfl)⟩) hS (fun q _ h => hFc q h) hFc (fun u4z t H1 locs ht hvm hw hB hz1 hk1 hS => ?_)
  obtain ⟨hP1, hD1⟩ := hB
  rw [ht] at hP1
  obtain ⟨hP, hD⟩ := va_join (wr := [(h0, .inr (3, [.ref q1z, .null, .null])), (q1z, .inr (6, [.int 0, .ref (u2z 1), .ref (u2z 2)])), ((u2z 1), .inl (ca 0, 12, .inl (fun _ => (0 : Int32)))), ((u2z 2), .inl (ca 0, 12, .inl (fun _ => (0 : Int32))))]) (w1 := [((u4z 0), .inr (6, [.int 0, .ref (u4z 1), .ref (u4z 2)])), ((u4z 1), .inl (ca 0, 12, .inl (fun _ => (0 : Int32)))), ((u4z 2), .inl (ca 0, 12, .inl (fun _ => (0 : Int32))))]) hP hD [4] [0, 1, 2, 3] rfl rfl (by decide) (by decide) hk1 hFc hP1 hD1
  rw [hw] at hP hD
  generalize H1 = H at hP hS ⊢
  have hP : va_P D vwCl [(h0, .inr (3, [.ref q1z, .null, .null])), (q1z, .inr (6, [.int 0, .ref (u2z 1), .ref (u2z 2)])), ((u2z 1), .inl (ca 0, 12, .inl (fun _ => (0 : Int32)))), ((u2z 2), .inl (ca 0, 12, .inl (fun _ => (0 : Int32)))), (q3z, .inr (6, [.int 0, .ref (u4z 1), .ref (u4z 2)])), ((u4z 1), .inl (ca 0, 12, .inl (fun _ => (0 : Int32)))), ((u4z 2), .inl (ca 0, 12, .inl (fun _ => (0 : Int32))))] H := hP
  have hD : va_D A [(h0, .inr (3, [.ref q1z, .null, .null])), (q1z, .inr (6, [.int 0, .ref (u2z 1), .ref (u2z 2)])), ((u2z 1), .inl (ca 0, 12, .inl (fun _ => (0 : Int32)))), ((u2z 2), .inl (ca 0, 12, .inl (fun _ => (0 : Int32)))), (q3z, .inr (6, [.int 0, .ref (u4z 1), .ref (u4z 2)])), ((u4z 1), .inl (ca 0, 12, .inl (fun _ => (0 : Int32)))), ((u4z 2), .inl (ca 0, 12, .inl (fun _ => (0 : Int32))))] := hD
  refine W.widen (k := 6) (n := 54) (Nat.le_of_ble_eq_true rfl) (Nat.le_of_ble_eq_true rfl) ?_
  refine va_putF (D := D) (ci := 3) (v := .ref q3z) (ty := .object "MarkScripts$Tree") (C := RX3) (T := TX3) (N := 3) hx hb hts inlX3 tyX3 tyX3_ok nmX3 hown hK hP hD hS 0 rfl rfl 1 (by decide) (hts _ mw_1_69) (fun _ h9 => h9) rfl hin rfl (by decide +kernel) rfl rfl (Nat.le_of_ble_eq_true rfl) dX3_init_23 (fun H locs hP hD hS => ?_)
  have hP : va_P D vwCl [(h0, .inr (3, [.ref q1z, .ref q3z, .null])), (q1z, .inr (6, [.int 0, .ref (u2z 1), .ref (u2z 2)])), ((u2z 1), .inl (ca 0, 12, .inl (fun _ => (0 : Int32)))), ((u2z 2), .inl (ca 0, 12, .inl (fun _ => (0 : Int32)))), (q3z, .inr (6, [.int 0, .ref (u4z 1), .ref (u4z 2)])), ((u4z 1), .inl (ca 0, 12, .inl (fun _ => (0 : Int32)))), ((u4z 2), .inl (ca 0, 12, .inl (fun _ => (0 : Int32))))] H := hP
  have hD : va_D A [(h0, .inr (3, [.ref q1z, .ref q3z, .null])), (q1z, .inr (6, [.int 0, .ref (u2z 1), .ref (u2z 2)])), ((u2z 1), .inl (ca 0, 12, .inl (fun _ => (0 : Int32)))), ((u2z 2), .inl (ca 0, 12, .inl (fun _ => (0 : Int32)))), (q3z, .inr (6, [.int 0, .ref (u4z 1), .ref (u4z 2)])), ((u4z 1), .inl (ca 0, 12, .inl (fun _ => (0 : Int32)))), ((u4z 2), .inl (ca 0, 12, .inl (fun _ => (0 : Int32))))] := hD
  refine lv_aload_n hx hb dX3_init_26 rfl (lv_at hl 0 rfl) ?_
  refine lv_iconst (v := 3) hx hb dX3_init_27 (by decide) ?_
  refine n_newaI (N' := 3) (a0 := (3, .inl (fun _ => (0 : Int32)))) hx hb (hts _ mw_1_65) hK hP hD hS hA (fun _ => rfl) (by decide) (by decide) (Nat.le_of_ble_eq_true rfl) (Nat.le_of_ble_eq_true rfl) (Nat.le_of_ble_eq_true rfl) dX3_init_28 (fun q5z H hP hD hS => ?_)
  have hP : va_P D vwCl [(h0, .inr (3, [.ref q1z, .ref q3z, .null])), (q1z, .inr (6, [.int 0, .ref (u2z 1), .ref (u2z 2)])), ((u2z 1), .inl (ca 0, 12, .inl (fun _ => (0 : Int32)))), ((u2z 2), .inl (ca 0, 12, .inl (fun _ => (0 : Int32)))), (q3z, .inr (6, [.int 0, .ref (u4z 1), .ref (u4z 2)])), ((u4z 1), .inl (ca 0, 12, .inl (fun _ => (0 : Int32)))), ((u4z 2), .inl (ca 0, 12, .inl (fun _ => (0 : Int32)))), (q5z, .inl (ca 0, 3, .inl (fun _ => (0 : Int32))))] H := hP
  have hD : va_D A [(h0, .inr (3, [.ref q1z, .ref q3z, .null])), (q1z, .inr (6, [.int 0, .ref (u2z 1), .ref (u2z 2)])), ((u2z 1), .inl (ca 0, 12, .inl (fun _ => (0 : Int32)))), ((u2z 2), .inl (ca 0, 12, .inl (fun _ => (0 : Int32)))), (q3z, .inr (6, [.int 0, .ref (u4z 1), .ref (u4z 2)])), ((u4z 1), .inl (ca 0, 12, .inl (fun _ => (0 : Int32)))), ((u4z 2), .inl (ca 0, 12, .inl (fun _ => (0 : Int32)))), (q5z, .inl (ca 0, 3, .inl (fun _ => (0 : Int32))))] := hD
  refine W.widen (k := 7) (n := 57) (Nat.le_of_ble_eq_true rfl) (Nat.le_of_ble_eq_true rfl) ?_
  refine lv_dup hx hb dX3_init_30 rfl ?_
  refine lv_iconst (v := 0) hx hb dX3_init_31 (by decide) ?_
  refine lv_iconst (v := 1) hx hb dX3_init_32 (by decide) ?_
  refine va_iast hx hb hK hP hD hS 7 0 (f := (fun _ => (0 : Int32))) rfl rfl (i := 0) (x := 1) (by unfold vp_in; decide) dX3_init_33 (fun H locs hP hD hS => ?_)
  have hP : va_P D vwCl [(h0, .inr (3, [.ref q1z, .ref q3z, .null])), (q1z, .inr (6, [.int 0, .ref (u2z 1), .ref (u2z 2)])), ((u2z 1), .inl (ca 0, 12, .inl (fun _ => (0 : Int32)))), ((u2z 2), .inl (ca 0, 12, .inl (fun _ => (0 : Int32)))), (q3z, .inr (6, [.int 0, .ref (u4z 1), .ref (u4z 2)])), ((u4z 1), .inl (ca 0, 12, .inl (fun _ => (0 : Int32)))), ((u4z 2), .inl (ca 0, 12, .inl (fun _ => (0 : Int32)))), (q5z, .inl (ca 0, 3, .inl (upd (fun _ => (0 : Int32)) (0 : Int32).toNatClampNeg 1)))] H := hP
  have hD : va_D A [(h0, .inr (3, [.ref q1z, .ref q3z, .null])), (q1z, .inr (6, [.int 0, .ref (u2z 1), .ref (u2z 2)])), ((u2z 1), .inl (ca 0, 12, .inl (fun _ => (0 : Int32)))), ((u2z 2), .inl (ca 0, 12, .inl (fun _ => (0 : Int32)))), (q3z, .inr (6, [.int 0, .ref (u4z 1), .ref (u4z 2)])), ((u4z 1), .inl (ca 0, 12, .inl (fun _ => (0 : Int32)))), ((u4z 2), .inl (ca 0, 12, .inl (fun _ => (0 : Int32)))), (q5z, .inl (ca 0, 3, .inl (upd (fun _ => (0 : Int32)) (0 : Int32).toNatClampNeg 1)))] := hD
  refine lv_dup hx hb dX3_init_34 rfl ?_
  refine lv_iconst (v := 1) hx hb dX3_init_35 (by decide) ?_
  refine lv_iconst (v := 1) hx hb dX3_init_36 (by decide) ?_
  refine va_iast hx hb hK hP hD hS 7 0 (f := (upd (fun _ => (0 : Int32)) (0 : Int32).toNatClampNeg 1)) rfl rfl (i := 1) (x := 1) (by unfold vp_in; decide) dX3_init_37 (fun H locs hP hD hS => ?_)
  have hP : va_P D vwCl [(h0, .inr (3, [.ref q1z, .ref q3z, .null])), (q1z, .inr (6, [.int 0, .ref (u2z 1), .ref (u2z 2)])), ((u2z 1), .inl (ca 0, 12, .inl (fun _ => (0 : Int32)))), ((u2z 2), .inl (ca 0, 12, .inl (fun _ => (0 : Int32)))), (q3z, .inr (6, [.int 0, .ref (u4z 1), .ref (u4z 2)])), ((u4z 1), .inl (ca 0, 12, .inl (fun _ => (0 : Int32)))), ((u4z 2), .inl (ca 0, 12, .inl (fun _ => (0 : Int32)))), (q5z, .inl (ca 0, 3, .inl (upd (upd (fun _ => (0 : Int32)) (0 : Int32).toNatClampNeg 1) (1 : Int32).toNatClampNeg 1)))] H := hP
  have hD : va_D A [(h0, .inr (3, [.ref q1z, .ref q3z, .null])), (q1z, .inr (6, [.int 0, .ref (u2z 1), .ref (u2z 2)])), ((u2z 1), .inl (ca 0, 12, .inl (fun _ => (0 : Int32)))), ((u2z 2), .inl (ca 0, 12, .inl (fun _ => (0 : Int32)))), (q3z, .inr (6, [.int 0, .ref (u4z 1), .ref (u4z 2)])), ((u4z 1), .inl (ca 0, 12, .inl (fun _ => (0 : Int32)))), ((u4z 2), .inl (ca 0, 12, .inl (fun _ => (0 : Int32)))), (q5z, .inl (ca 0, 3, .inl (upd (upd (fun _ => (0 : Int32)) (0 : Int32).toNatClampNeg 1) (1 : Int32).toNatClampNeg 1)))] := hD
  refine lv_dup hx hb dX3_init_38 rfl ?_
  refine lv_iconst (v := 2) hx hb dX3_init_39 (by decide) ?_
  refine lv_iconst (v := 1) hx hb dX3_init_40 (by decide) ?_
  refine va_iast hx hb hK hP hD hS 7 0 (f := (upd (upd (fun _ => (0 : Int32)) (0 : Int32).toNatClampNeg 1) (1 : Int32).toNatClampNeg 1)) rfl rfl (i := 2) (x := 1) (by unfold vp_in; decide) dX3_init_41 (fun H locs hP hD hS => ?_)
  have hP : va_P D vwCl [(h0, .inr (3, [.ref q1z, .ref q3z, .null])), (q1z, .inr (6, [.int 0, .ref (u2z 1), .ref (u2z 2)])), ((u2z 1), .inl (ca 0, 12, .inl (fun _ => (0 : Int32)))), ((u2z 2), .inl (ca 0, 12, .inl (fun _ => (0 : Int32)))), (q3z, .inr (6, [.int 0, .ref (u4z 1), .ref (u4z 2)])), ((u4z 1), .inl (ca 0, 12, .inl (fun _ => (0 : Int32)))), ((u4z 2), .inl (ca 0, 12, .inl (fun _ => (0 : Int32)))), (q5z, .inl (ca 0, 3, .inl (upd (upd (upd (fun _ => (0 : Int32)) (0 : Int32).toNatClampNeg 1) (1 : Int32).toNatClampNeg 1) (2 : Int32).toNatClampNeg 1)))] H := hP
  have hD : va_D A [(h0, .inr (3, [.ref q1z, .ref q3z, .null])), (q1z, .inr (6, [.int 0, .ref (u2z 1), .ref (u2z 2)])), ((u2z 1), .inl (ca 0, 12, .inl (fun _ => (0 : Int32)))), ((u2z 2), .inl (ca 0, 12, .inl (fun _ => (0 : Int32)))), (q3z, .inr (6, [.int 0, .ref (u4z 1), .ref (u4z 2)])), ((u4z 1), .inl (ca 0, 12, .inl (fun _ => (0 : Int32)))), ((u4z 2), .inl (ca 0, 12, .inl (fun _ => (0 : Int32)))), (q5z, .inl (ca 0, 3, .inl (upd (upd (upd (fun _ => (0 : Int32)) (0 : Int32).toNatClampNeg 1) (1 : Int32).toNatClampNeg 1) (2 : Int32).toNatClampNeg 1)))] := hD
  refine va_putF (D := D) (ci := 3) (v := .ref q5z) (ty := .array .int) (C := RX3) (T := TX3) (N := 3) hx hb hts inlX3 tyX3 tyX3_ok nmX3 hown hK hP hD hS 0 rfl rfl 2 (by decide) (hts _ mw_1_72) (fun _ h9 => h9) rfl hin rfl (by decide +kernel) rfl rfl (Nat.le_of_ble_eq_true rfl) dX3_init_42 (fun H locs hP hD hS => ?_)
  have hP : va_P D vwCl [(h0, .inr (3, [.ref q1z, .ref q3z, .ref q5z])), (q1z, .inr (6, [.int 0, .ref (u2z 1), .ref (u2z 2)])), ((u2z 1), .inl (ca 0, 12, .inl (fun _ => (0 : Int32)))), ((u2z 2), .inl (ca 0, 12, .inl (fun _ => (0 : Int32)))), (q3z, .inr (6, [.int 0, .ref (u4z 1), .ref (u4z 2)])), ((u4z 1), .inl (ca 0, 12, .inl (fun _ => (0 : Int32)))), ((u4z 2), .inl (ca 0, 12, .inl (fun _ => (0 : Int32)))), (q5z, .inl (ca 0, 3, .inl (upd (upd (upd (fun _ => (0 : Int32)) (0 : Int32).toNatClampNeg 1) (1 : Int32).toNatClampNeg 1) (2 : Int32).toNatClampNeg 1)))] H := hP
  have hD : va_D A [(h0, .inr (3, [.ref q1z, .ref q3z, .ref q5z])), (q1z, .inr (6, [.int 0, .ref (u2z 1), .ref (u2z 2)])), ((u2z 1), .inl (ca 0, 12, .inl (fun _ => (0 : Int32)))), ((u2z 2), .inl (ca 0, 12, .inl (fun _ => (0 : Int32)))), (q3z, .inr (6, [.int 0, .ref (u4z 1), .ref (u4z 2)])), ((u4z 1), .inl (ca 0, 12, .inl (fun _ => (0 : Int32)))), ((u4z 2), .inl (ca 0, 12, .inl (fun _ => (0 : Int32)))), (q5z, .inl (ca 0, 3, .inl (upd (upd (upd (fun _ => (0 : Int32)) (0 : Int32).toNatClampNeg 1) (1 : Int32).toNatClampNeg 1) (2 : Int32).toNatClampNeg 1)))] := hD
  refine W.vret hx hb hr (fun t ht hW => ⟨⟨fun i => ([h0, q1z, (u2z 1), (u2z 2), q3z, (u4z 1), (u4z 2), q5z] : List Nat).getD i 0, rfl, rfl, ?_, ?_⟩, ?_⟩) hS.2.2 dX3_init_45 hlocks
  · rw [ht]; exact hP.sub [0, 1, 2, 3, 4, 5, 6, 7] rfl
  · exact hD.sub [0, 1, 2, 3, 4, 5, 6, 7] (by decide +kernel) rfl
  · exact hS.F ht
set_option maxRecDepth 100000 in
set_option maxHeartbeats 40000000 in
theorem k_X1_init (l : Launch) (D : va_G) (ca : Nat → ClassId) (h0 sz : Nat) : Met l yX1_init (Cond.code yX1_init cX1_init 1 none :: wsL_law) { frames := 2, cells := 5, slots := 51, locals := 36 } (va_Pc [.ref h0] (fun U => U.heap.size = sz ∧ va_P D vwCl [(h0, .inr (1, [.null, .null, .null, .int 0, .int 0, .int 0]))] U.heap ∧ va_K D vwCl (tysOf ca) U ∧ va_D (fun _ => True) [(h0, .inr (1, [.null, .null, .null, .int 0, .int 0, .int 0]))] ∧ NWi U)) (va_Qv (fun u : Nat → Nat => u 0 = h0) (fun u t => va_P D vwCl [((u 0), .inr (1, [.ref (u 1), .ref (u 4), .ref (u 5), .int 0, .int 0, .int 0])), ((u 1), .inr (6, [.int 0, .ref (u 2), .ref (u 3)])), ((u 2), .inl (ca 0, 12, .inl (fun _ => (0 : Int32)))), ((u 3), .inl (ca 0, 12, .inl (fun _ => (0 : Int32)))), ((u 4), .inl (ca 0, 12, .inl (fun _ => (0 : Int32)))), ((u 5), .inl (ca 0, 12, .inl (fun _ => (0 : Int32))))] t.heap ∧ va_D (va_A [(h0, .inr (1, [.null, .null, .null, .int 0, .int 0, .int 0]))] sz) [((u 0), .inr (1, [.ref (u 1), .ref (u 4), .ref (u 5), .int 0, .int 0, .int 0])), ((u 1), .inr (6, [.int 0, .ref (u 2), .ref (u 3)])), ((u 2), .inl (ca 0, 12, .inl (fun _ => (0 : Int32)))), ((u 3), .inl (ca 0, 12, .inl (fun _ => (0 : Int32)))), ((u 4), .inl (ca 0, 12, .inl (fun _ => (0 : Int32)))), ((u 5), .inl (ca 0, 12, .inl (fun _ => (0 : Int32))))]) (va_A [(h0, .inr (1, [.null, .null, .null, .int 0, .int 0, .int 0]))] sz)) 5 51 (va_A [(h0, .inr (1, [.null, .null, .null, .int 0, .int 0, .int 0]))] sz) := by
  refine Met.ofW (cc := cX1_init) (maxL := 1) (ret := none) (by decide +kernel) rfl ?_
  intro p e s m args below meth c s₁ B hml hv
  obtain ⟨rfl, hsz, hP, hK, hD0, hN⟩ := hv
  have hx := B.exec
  have hb := B.bytes
  have hr := B.returns
  have hts0 := atoms_spec (ws := Cond.code yX1_init cX1_init 1 none :: wsL_law) B.pre
  have hts : ∀ w ∈ wsL_law, w.before ([.ref h0] : List Value).toArray s = true := fun w h => hts0 w (List.mem_cons_of_mem _ h)
  have hown : s.vm.findClass RX1 = some m.cls := findClass_of_methodNamed B.named
  have hlocks := B.notSynchronized
  have hin : meth.name = "<init>" := (name_of_methodNamed B.named B.method).1
  subst hsz
  have hD := hD0.self (sz := s.heap.size)
  generalize hAe : va_A [(h0, .inr (1, [.null, .null, .null, .int 0, .int 0, .int 0]))] s.heap.size = A at hD ⊢
  have hA : ∀ q : Nat, s.heap.size ≤ q → A q := fun q h => by rw [← hAe]; exact Or.inr h
  have hS : va_S A s.heap s.heap [] := va_S.rf
  have hl := lv_entry ([.ref h0]) (n := 1) (Nat.le_of_ble_eq_true rfl)
  rw [lg_entry_eq]
  generalize (lg_sl ([.ref h0]) ++ List.replicate (1 - (lg_sl ([.ref h0])).length) Slot.unset).toArray = ls at hl ⊢
  have hl : lv_has ls 1 [(0, .ref h0)] := hl
  refine lv_aload_n hx hb dX1_init_0 rfl (lv_at hl 0 rfl) ?_
  refine W.objInit hx hb hown (hts _ mw_1_178) (hts _ mw_1_19) (hts _ objcode) rfl (by rw [hml]; exact hl.1) rfl dX1_init_1 (Nat.le_of_ble_eq_true rfl) (Nat.le_of_ble_eq_true rfl) ?_
  refine W.eq (g2 := F0 m 4 ls []) rfl ?_
  refine lv_aload_n hx hb dX1_init_4 rfl (lv_at hl 0 rfl) ?_
  refine va_new (ci := 6) (fs := [.int 0, .null, .null]) (C := RX6) (T := TX6) (N := 3) hx hb hts inlX6 tyX6 tyX6_ok hown (hts _ mw_1_179) (hts _ mw_1_38) (hts _ mw_1_4) hK hP hD hS hA rfl (fun j hj => by rcases (show j = 0 ∨ j = 1 ∨ j = 2 by omega) with rfl | rfl | rfl <;> rfl) (Nat.le_of_ble_eq_true rfl) (Nat.le_of_ble_eq_true rfl) dX1_init_5 (fun q1z H hP hD hS => ?_)
  have hP : va_P D vwCl [(h0, .inr (1, [.null, .null, .null, .int 0, .int 0, .int 0])), (q1z, .inr (6, [.int 0, .null, .null]))] H := hP
  have hD : va_D A [(h0, .inr (1, [.null, .null, .null, .int 0, .int 0, .int 0])), (q1z, .inr (6, [.int 0, .null, .null]))] := hD
  refine W.widen (k := 1) (n := 3) (Nat.le_of_ble_eq_true rfl) (Nat.le_of_ble_eq_true rfl) ?_
  refine lv_dup hx hb dX1_init_8 rfl ?_
  have hPc := hP.sub (ws' := [(q1z, .inr (6, [.int 0, .null, .null]))]) [1] rfl
  have hDc := hD.sub (ws' := [(q1z, .inr (6, [.int 0, .null, .null]))]) [1] (by decide) rfl
  have hFc := va_free (wc := [(q1z, .inr (6, [.int 0, .null, .null]))]) hD hS hA [1] rfl
  refine va_callv (va_runIN (As := []) (rest := [.ref q1z, .ref h0]) ⟨hx, hb, hml, hown, hts⟩ (k_X6_init l D ca q1z H.size) ⟨va_cnB 0 hts (good_code mw_1_41) rfl rfl rfl (nwi_1_11 hN) (hts _ mw_1_4) (by decide +kernel) ⟨(Nat.le_of_ble_eq_true rfl), (Nat.le_of_ble_eq_true rfl)⟩, rfl, (hts _ mw_1_40)⟩ ⟨fun a U g mk q => by obtain ⟨q0, q1, qP, qK, qD, qN⟩ := q; exact ⟨q0, q1, qP, va_K.moved (u := U) (U := U.calling g mk a) (Vm.Alike.refl U.vm) qK, qD, NWi.same (U := U.calling g mk a) rfl qN⟩, fun U hU hW => ⟨rfl, by rw [hU], by rw [hU]; exact hPc, va_K.moved hW.alike hK, hDc.weaken (fun _ _ _ _ => trivial), NWi.warm hW hN⟩⟩ rfl rfl hl.1 rfl (lv_room (Nat.le_of_ble_eq_true rfl)) dX1_init_9 ⟨(Nat.le_of_ble_eq_true rfl), (Nat.le_of_ble_eq_true rfl)⟩) hS (fun q _ h => hFc q h) hFc (fun u2z t H1 locs ht hvm hw hB hz1 hk1 hS => ?_)
  obtain ⟨hP1, hD1⟩ := hB
  rw [ht] at hP1
  obtain ⟨hP, hD⟩ := va_join (wr := [(h0, .inr (1, [.null, .null, .null, .int 0, .int 0, .int 0]))]) (w1 := [((u2z 0), .inr (6, [.int 0, .ref (u2z 1), .ref (u2z 2)])), ((u2z 1), .inl (ca 0, 12, .inl (fun _ => (0 : Int32)))), ((u2z 2), .inl (ca 0, 12, .inl (fun _ => (0 : Int32))))]) hP hD [1] [0] rfl rfl (by decide) (by decide) hk1 hFc hP1 hD1
  rw [hw] at hP hD
  generalize H1 = H at hP hS ⊢
  have hP : va_P D vwCl [(h0, .inr (1, [.null, .null, .null, .int 0, .int 0, .int 0])), (q1z, .inr (6, [.int 0, .ref (u2z 1), .ref (u2z 2)])), ((u2z 1), .inl (ca 0, 12, .inl (fun _ => (0 : Int32)))), ((u2z 2), .inl (ca 0, 12, .inl (fun _ => (0 : Int32))))] H := hP
  have hD : va_D A [(h0, .inr (1, [.null, .null, .null, .int 0, .int 0, .int 0])), (q1z, .inr (6, [.int 0, .ref (u2z 1), .ref (u2z 2)])), ((u2z 1), .inl (ca 0, 12, .inl (fun _ => (0 : Int32)))), ((u2z 2), .inl (ca 0, 12, .inl (fun _ => (0 : Int32))))] := hD
  refine W.widen (k := 3) (n := 27) (Nat.le_of_ble_eq_true rfl) (Nat.le_of_ble_eq_true rfl) ?_
  refine va_putF (D := D) (ci := 1) (v := .ref q1z) (ty := .object "MarkScripts$Tree") (C := RX1) (T := TX1) (N := 6) hx hb hts inlX1 tyX1 tyX1_ok nmX1 hown hK hP hD hS 0 rfl rfl 0 (by decide) (hts _ mw_1_181) (fun _ h9 => h9) rfl hin rfl (by decide +kernel) rfl rfl (Nat.le_of_ble_eq_true rfl) dX1_init_12 (fun H locs hP hD hS => ?_)
  have hP : va_P D vwCl [(h0, .inr (1, [.ref q1z, .null, .null, .int 0, .int 0, .int 0])), (q1z, .inr (6, [.int 0, .ref (u2z 1), .ref (u2z 2)])), ((u2z 1), .inl (ca 0, 12, .inl (fun _ => (0 : Int32)))), ((u2z 2), .inl (ca 0, 12, .inl (fun _ => (0 : Int32))))] H := hP
  have hD : va_D A [(h0, .inr (1, [.ref q1z, .null, .null, .int 0, .int 0, .int 0])), (q1z, .inr (6, [.int 0, .ref (u2z 1), .ref (u2z 2)])), ((u2z 1), .inl (ca 0, 12, .inl (fun _ => (0 : Int32)))), ((u2z 2), .inl (ca 0, 12, .inl (fun _ => (0 : Int32))))] := hD
  refine lv_aload_n hx hb dX1_init_15 rfl (lv_at hl 0 rfl) ?_
  refine lv_bipush (v := 12) hx hb dX1_init_16 (by decide +kernel) ?_
  refine n_newaI (N' := 12) (a0 := (12, .inl (fun _ => (0 : Int32)))) hx hb (hts _ mw_1_65) hK hP hD hS hA (fun _ => rfl) (by decide) (by decide) (Nat.le_of_ble_eq_true rfl) (Nat.le_of_ble_eq_true rfl) (Nat.le_of_ble_eq_true rfl) dX1_init_18 (fun q3z H hP hD hS => ?_)
  have hP : va_P D vwCl [(h0, .inr (1, [.ref q1z, .null, .null, .int 0, .int 0, .int 0])), (q1z, .inr (6, [.int 0, .ref (u2z 1), .ref (u2z 2)])), ((u2z 1), .inl (ca 0, 12, .inl (fun _ => (0 : Int32)))), ((u2z 2), .inl (ca 0, 12, .inl (fun _ => (0 : Int32)))), (q3z, .inl (ca 0, 12, .inl (fun _ => (0 : Int32))))] H := hP
  have hD : va_D A [(h0, .inr (1, [.ref q1z, .null, .null, .int 0, .int 0, .int 0])), (q1z, .inr (6, [.int 0, .ref (u2z 1), .ref (u2z 2)])), ((u2z 1), .inl (ca 0, 12, .inl (fun _ => (0 : Int32)))), ((u2z 2), .inl (ca 0, 12, .inl (fun _ => (0 : Int32)))), (q3z, .inl (ca 0, 12, .inl (fun _ => (0 : Int32))))] := hD
  refine W.widen (k := 4) (n := 39) (Nat.le_of_ble_eq_true rfl) (Nat.le_of_ble_eq_true rfl) ?_
  refine va_putF (D := D) (ci := 1) (v := .ref q3z) (ty := .array .int) (C := RX1) (T := TX1) (N := 6) hx hb hts inlX1 tyX1 tyX1_ok nmX1 hown hK hP hD hS 0 rfl rfl 1 (by decide) (hts _ mw_1_183) (fun _ h9 => h9) rfl hin rfl (by decide +kernel) rfl rfl (Nat.le_of_ble_eq_true rfl) dX1_init_20 (fun H locs hP hD hS => ?_)
  have hP : va_P D vwCl [(h0, .inr (1, [.ref q1z, .ref q3z, .null, .int 0, .int 0, .int 0])), (q1z, .inr (6, [.int 0, .ref (u2z 1), .ref (u2z 2)])), ((u2z 1), .inl (ca 0, 12, .inl (fun _ => (0 : Int32)))), ((u2z 2), .inl (ca 0, 12, .inl (fun _ => (0 : Int32)))), (q3z, .inl (ca 0, 12, .inl (fun _ => (0 : Int32))))] H := hP
  have hD : va_D A [(h0, .inr (1, [.ref q1z, .ref q3z, .null, .int 0, .int 0, .int 0])), (q1z, .inr (6, [.int 0, .ref (u2z 1), .ref (u2z 2)])), ((u2z 1), .inl (ca 0, 12, .inl (fun _ => (0 : Int32)))), ((u2z 2), .inl (ca 0, 12, .inl (fun _ => (0 : Int32)))), (q3z, .inl (ca 0, 12, .inl (fun _ => (0 : Int32))))] := hD
  refine lv_aload_n hx hb dX1_init_23 rfl (lv_at hl 0 rfl) ?_
  refine lv_bipush (v := 12) hx hb dX1_init_24 (by decide +kernel) ?_
  refine n_newaI (N' := 12) (a0 := (12, .inl (fun _ => (0 : Int32)))) hx hb (hts _ mw_1_65) hK hP hD hS hA (fun _ => rfl) (by decide) (by decide) (Nat.le_of_ble_eq_true rfl) (Nat.le_of_ble_eq_true rfl) (Nat.le_of_ble_eq_true rfl) dX1_init_26 (fun q4z H hP hD hS => ?_)
  have hP : va_P D vwCl [(h0, .inr (1, [.ref q1z, .ref q3z, .null, .int 0, .int 0, .int 0])), (q1z, .inr (6, [.int 0, .ref (u2z 1), .ref (u2z 2)])), ((u2z 1), .inl (ca 0, 12, .inl (fun _ => (0 : Int32)))), ((u2z 2), .inl (ca 0, 12, .inl (fun _ => (0 : Int32)))), (q3z, .inl (ca 0, 12, .inl (fun _ => (0 : Int32)))), (q4z, .inl (ca 0, 12, .inl (fun _ => (0 : Int32))))] H := hP
  have hD : va_D A [(h0, .inr (1, [.ref q1z, .ref q3z, .null, .int 0, .int 0, .int 0])), (q1z, .inr (6, [.int 0, .ref (u2z 1), .ref (u2z 2)])), ((u2z 1), .inl (ca 0, 12, .inl (fun _ => (0 : Int32)))), ((u2z 2), .inl (ca 0, 12, .inl (fun _ => (0 : Int32)))), (q3z, .inl (ca 0, 12, .inl (fun _ => (0 : Int32)))), (q4z, .inl (ca 0, 12, .inl (fun _ => (0 : Int32))))] := hD
  refine W.widen (k := 5) (n := 51) (Nat.le_of_ble_eq_true rfl) (Nat.le_of_ble_eq_true rfl) ?_
  refine va_putF (D := D) (ci := 1) (v := .ref q4z) (ty := .array .int) (C := RX1) (T := TX1) (N := 6) hx hb hts inlX1 tyX1 tyX1_ok nmX1 hown hK hP hD hS 0 rfl rfl 2 (by decide) (hts _ mw_1_184) (fun _ h9 => h9) rfl hin rfl (by decide +kernel) rfl rfl (Nat.le_of_ble_eq_true rfl) dX1_init_28 (fun H locs hP hD hS => ?_)
  have hP : va_P D vwCl [(h0, .inr (1, [.ref q1z, .ref q3z, .ref q4z, .int 0, .int 0, .int 0])), (q1z, .inr (6, [.int 0, .ref (u2z 1), .ref (u2z 2)])), ((u2z 1), .inl (ca 0, 12, .inl (fun _ => (0 : Int32)))), ((u2z 2), .inl (ca 0, 12, .inl (fun _ => (0 : Int32)))), (q3z, .inl (ca 0, 12, .inl (fun _ => (0 : Int32)))), (q4z, .inl (ca 0, 12, .inl (fun _ => (0 : Int32))))] H := hP
  have hD : va_D A [(h0, .inr (1, [.ref q1z, .ref q3z, .ref q4z, .int 0, .int 0, .int 0])), (q1z, .inr (6, [.int 0, .ref (u2z 1), .ref (u2z 2)])), ((u2z 1), .inl (ca 0, 12, .inl (fun _ => (0 : Int32)))), ((u2z 2), .inl (ca 0, 12, .inl (fun _ => (0 : Int32)))), (q3z, .inl (ca 0, 12, .inl (fun _ => (0 : Int32)))), (q4z, .inl (ca 0, 12, .inl (fun _ => (0 : Int32))))] := hD
  refine lv_aload_n hx hb dX1_init_31 rfl (lv_at hl 0 rfl) ?_
  refine lv_iconst (v := 0) hx hb dX1_init_32 (by decide) ?_
  refine va_put (D := D) (ci := 1) (v := .int 0) (ty := .int) (C := RX1) (T := TX1) (N := 6) hx hb hts inlX1 tyX1 tyX1_ok nmX1 hown hK hP hD hS 0 rfl rfl 3 (by decide) (hts _ mw_1_185) (fun _ h9 => h9) rfl (by decide +kernel) rfl rfl (Nat.le_of_ble_eq_true rfl) dX1_init_33 (fun H locs hP hD hS => ?_)
  have hP : va_P D vwCl [(h0, .inr (1, [.ref q1z, .ref q3z, .ref q4z, .int 0, .int 0, .int 0])), (q1z, .inr (6, [.int 0, .ref (u2z 1), .ref (u2z 2)])), ((u2z 1), .inl (ca 0, 12, .inl (fun _ => (0 : Int32)))), ((u2z 2), .inl (ca 0, 12, .inl (fun _ => (0 : Int32)))), (q3z, .inl (ca 0, 12, .inl (fun _ => (0 : Int32)))), (q4z, .inl (ca 0, 12, .inl (fun _ => (0 : Int32))))] H := hP
  have hD : va_D A [(h0, .inr (1, [.ref q1z, .ref q3z, .ref q4z, .int 0, .int 0, .int 0])), (q1z, .inr (6, [.int 0, .ref (u2z 1), .ref (u2z 2)])), ((u2z 1), .inl (ca 0, 12, .inl (fun _ => (0 : Int32)))), ((u2z 2), .inl (ca 0, 12, .inl (fun _ => (0 : Int32)))), (q3z, .inl (ca 0, 12, .inl (fun _ => (0 : Int32)))), (q4z, .inl (ca 0, 12, .inl (fun _ => (0 : Int32))))] := hD
  refine lv_aload_n hx hb dX1_init_36 rfl (lv_at hl 0 rfl) ?_
  refine lv_iconst (v := 0) hx hb dX1_init_37 (by decide) ?_
  refine va_put (D := D) (ci := 1) (v := .int 0) (ty := .int) (C := RX1) (T := TX1) (N := 6) hx hb hts inlX1 tyX1 tyX1_ok nmX1 hown hK hP hD hS 0 rfl rfl 4 (by decide) (hts _ mw_1_186) (fun _ h9 => h9) rfl (by decide +kernel) rfl rfl (Nat.le_of_ble_eq_true rfl) dX1_init_38 (fun H locs hP hD hS => ?_)
  have hP : va_P D vwCl [(h0, .inr (1, [.ref q1z, .ref q3z, .ref q4z, .int 0, .int 0, .int 0])), (q1z, .inr (6, [.int 0, .ref (u2z 1), .ref (u2z 2)])), ((u2z 1), .inl (ca 0, 12, .inl (fun _ => (0 : Int32)))), ((u2z 2), .inl (ca 0, 12, .inl (fun _ => (0 : Int32)))), (q3z, .inl (ca 0, 12, .inl (fun _ => (0 : Int32)))), (q4z, .inl (ca 0, 12, .inl (fun _ => (0 : Int32))))] H := hP
  have hD : va_D A [(h0, .inr (1, [.ref q1z, .ref q3z, .ref q4z, .int 0, .int 0, .int 0])), (q1z, .inr (6, [.int 0, .ref (u2z 1), .ref (u2z 2)])), ((u2z 1), .inl (ca 0, 12, .inl (fun _ => (0 : Int32)))), ((u2z 2), .inl (ca 0, 12, .inl (fun _ => (0 : Int32)))), (q3z, .inl (ca 0, 12, .inl (fun _ => (0 : Int32)))), (q4z, .inl (ca 0, 12, .inl (fun _ => (0 : Int32))))] := hD
  refine lv_aload_n hx hb dX1_init_41 rfl (lv_at hl 0 rfl) ?_
  refine lv_iconst (v := 0) hx hb dX1_init_42 (by decide) ?_
  refine va_put (D := D) (ci := 1) (v := .int 0) (ty := .int) (C := RX1) (T := TX1) (N := 6) hx hb hts inlX1 tyX1 tyX1_ok nmX1 hown hK hP hD hS 0 rfl rfl 5 (by decide) (hts _ mw_1_187) (fun _ h9 => h9) rfl (by decide +kernel) rfl rfl (Nat.le_of_ble_eq_true rfl) dX1_init_43 (fun H locs hP hD hS => ?_)
  have hP : va_P D vwCl [(h0, .inr (1, [.ref q1z, .ref q3z, .ref q4z, .int 0, .int 0, .int 0])), (q1z, .inr (6, [.int 0, .ref (u2z 1), .ref (u2z 2)])), ((u2z 1), .inl (ca 0, 12, .inl (fun _ => (0 : Int32)))), ((u2z 2), .inl (ca 0, 12, .inl (fun _ => (0 : Int32)))), (q3z, .inl (ca 0, 12, .inl (fun _ => (0 : Int32)))), (q4z, .inl (ca 0, 12, .inl (fun _ => (0 : Int32))))] H := hP
  have hD : va_D A [(h0, .inr (1, [.ref q1z, .ref q3z, .ref q4z, .int 0, .int 0, .int 0])), (q1z, .inr (6, [.int 0, .ref (u2z 1), .ref (u2z 2)])), ((u2z 1), .inl (ca 0, 12, .inl (fun _ => (0 : Int32)))), ((u2z 2), .inl (ca 0, 12, .inl (fun _ => (0 : Int32)))), (q3z, .inl (ca 0, 12, .inl (fun _ => (0 : Int32)))), (q4z, .inl (ca 0, 12, .inl (fun _ => (0 : Int32))))] := hD
  refine W.vret hx hb hr (fun t ht hW => ⟨⟨fun i => ([h0, q1z, (u2z 1), (u2z 2), q3z, q4z] : List Nat).getD i 0, rfl, rfl, ?_, ?_⟩, ?_⟩) hS.2.2 dX1_init_46 hlocks
  · rw [ht]; exact hP.sub [0, 1, 2, 3, 4, 5] rfl
  · exact hD.sub [0, 1, 2, 3, 4, 5] (by decide +kernel) rfl
  · exact hS.F ht
