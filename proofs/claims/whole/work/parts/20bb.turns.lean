set_option maxRecDepth 100000 in
set_option maxHeartbeats 4000000 in
theorem it_rows {p : Program} {l : Launch} {e : Env} {R : Room} {s : State} {m : MethodId} {args : Array Value} {below : List Frame} {meth : Method} {c : Code} {H : Heap} {locs : List Loc} {cells slots : Nat} {Q : State → Prop} {D : va_G} {A : Nat → Prop} {ca : Nat → ClassId} {V : va_W} {ls : Array Slot} {h0 q1 q2 q3 b1 b2 b3 b4 b5 b6 : Nat} {f1 f2 f3 : Nat → Option Nat}
    (hx : p.tables.exec = Jvm.exec) (hb : c.code = cX8_init) (hml : c.maxLocals = 2) (hown : s.vm.findClass RX8 = some m.cls) (hts : ∀ w ∈ wsL_law, w.before args s = true) (hK : va_K D vwCl (tysOf ca) s) (hN : NWi s) (hA : ∀ q, s.heap.size ≤ q → A q) (hfr : 2 ≤ R.frames) (hlo : 37 ≤ R.locals) (hc : cells + 2 ≤ R.cells) (hsl : slots + 42 ≤ R.slots) (i i' : Int32) (hi : vp_in i 6) (hlt : ¬ (6 : Int32) ≤ i) (hi' : i + 1 = i')
    (hP : va_P D vwCl ([(h0, .inr (8, [.ref q1, .ref q2, .ref b1, .ref b2, .ref b3, .ref q3, .ref b4, .ref b5, .ref b6, .int 0, .int 0])), (q1, .inl (ca 3, 6, .inr (.inr (.inr (.inr f1))))), (q2, .inl (ca 4, 4, .inr (.inr (.inr (.inr f2))))), (q3, .inl (ca 5, 3, .inr (.inr (.inr (.inr f3)))))] ++ V) H) (hD : va_D A ([(h0, .inr (8, [.ref q1, .ref q2, .ref b1, .ref b2, .ref b3, .ref q3, .ref b4, .ref b5, .ref b6, .int 0, .int 0])), (q1, .inl (ca 3, 6, .inr (.inr (.inr (.inr f1))))), (q2, .inl (ca 4, 4, .inr (.inr (.inr (.inr f2))))), (q3, .inl (ca 5, 3, .inr (.inr (.inr (.inr f3)))))] ++ V)) (hS : va_S A s.heap H locs) (hl : lv_has ls 2 [(1, .int i), (0, .ref h0)])
    (kk : ∀ (q : Nat) (u : Nat → Nat) (H : Heap) (locs : List Loc) (ls : Array Slot), va_P D vwCl ([(h0, .inr (8, [.ref q1, .ref q2, .ref b1, .ref b2, .ref b3, .ref q3, .ref b4, .ref b5, .ref b6, .int 0, .int 0])), (q1, .inl (ca 3, 6, .inr (.inr (.inr (.inr (va_up f1 i.toNatClampNeg (some q))))))), (q2, .inl (ca 4, 4, .inr (.inr (.inr (.inr f2))))), (q3, .inl (ca 5, 3, .inr (.inr (.inr (.inr f3)))))] ++ ([(q, .inr (2, [.int (-1), .ref (u 1)])), ((u 1), .inl (ca 0, 40, .inl (fun _ => (0 : Int32))))] ++ V)) H → va_D A ([(h0, .inr (8, [.ref q1, .ref q2, .ref b1, .ref b2, .ref b3, .ref q3, .ref b4, .ref b5, .ref b6, .int 0, .int 0])), (q1, .inl (ca 3, 6, .inr (.inr (.inr (.inr (va_up f1 i.toNatClampNeg (some q))))))), (q2, .inl (ca 4, 4, .inr (.inr (.inr (.inr f2))))), (q3, .inl (ca 5, 3, .inr (.inr (.inr (.inr f3)))))] ++ ([(q, .inr (2, [.int (-1), .ref (u 1)])), ((u 1), .inl (ca 0, 40, .inl (fun _ => (0 : Int32))))] ++ V)) → va_S A s.heap H locs → lv_has ls 2 [(1, .int i'), (0, .ref h0)] → W p l e R s m args below meth c H locs (cells + 2) (slots + 42) Q (F0 m 105 ls [])) : W p l e R s m args below meth c H locs cells slots Q (F0 m 105 ls []) := by
  refine lv_iload_n hx hb dX8_init_105 rfl (lv_at hl 0 rfl) ?_
  refine lv_bipush (v := 6) hx hb dX8_init_106 (by decide +kernel) ?_
  refine lv_icmp_ge (tgt := 130) hx hb dX8_init_108 (by decide) (fun c => absurd c hlt) (fun _ => ?_)
  refine lv_aload_n hx hb dX8_init_111 rfl (lv_at hl 1 rfl) ?_
  refine va_get (C := RX8) (T := TX8) (N := 11) (ci := 8) hx hb hts inlX8 hown hK hP 0 rfl rfl 0 (by decide) (hts _ mw_1_234) (fun _ h9 => h9) (v := .ref q1) rfl dX8_init_112 ?_
  refine lv_iload_n hx hb dX8_init_115 rfl (lv_at hl 0 rfl) ?_
  refine va_new (ci := 2) (fs := [.int 0, .null]) (C := RX2) (T := TX2) (N := 2) hx hb hts inlX2 tyX2 tyX2_ok hown (hts _ mw_1_21) (hts _ mw_1_203) (hts _ mw_1_8) hK hP hD hS hA rfl (fun j hj => by rcases (show j = 0 ∨ j = 1 by omega) with rfl | rfl <;> rfl) (by omega) (by omega) dX8_init_116 (fun q H hP hD hS => ?_)
  refine lv_dup hx hb dX8_init_119 rfl ?_
  have hPc := last_P hP
  have hDc := last_D hD
  have hFc := free_l hD hS hA
  refine va_callv (va_runIN (As := []) (rest := [.ref q, .int i, .ref q1]) ⟨hx, hb, hml, hown, hts⟩ (k_X2_init l D ca q H.size) ⟨va_cnB 0 hts (good_code mw_1_206) rfl rfl rfl (nwi_8_71 hN) (hts _ mw_1_8) (by decide +kernel) ⟨by show _ ≤ _; exact hfr, by show 8 + (_ + 11) + 16 ≤ _; omega⟩, rfl, (hts _ mw_1_205)⟩ ⟨fun a U g mk q => by obtain ⟨q0, q1, qP, qK, qD, qN⟩ := q; exact ⟨q0, q1, qP, va_K.moved (u := U) (U := U.calling g mk a) (Vm.Alike.refl U.vm) qK, qD, NWi.same (U := U.calling g mk a) rfl qN⟩, fun U hU hW => ⟨rfl, by rw [hU], by rw [hU]; exact hPc, va_K.moved hW.alike hK, hDc.weaken (fun _ _ _ _ => trivial), NWi.warm hW hN⟩⟩ rfl rfl hl.1 rfl (lv_room (Nat.le_of_ble_eq_true rfl)) dX8_init_120 ⟨by omega, by omega⟩) hS (fun q _ h => hFc q h) hFc (fun u t H1 locs ht hvm hw hB hz1 hk1 hS => ?_)
  obtain ⟨hP1, hD1⟩ := hB
  rw [ht] at hP1
  obtain ⟨hP, hD⟩ := join_l (w1 := [((u 0), .inr (2, [.int (-1), .ref (u 1)])), ((u 1), .inl (ca 0, 40, .inl (fun _ => (0 : Int32))))]) hP hD hk1 hFc hP1 hD1
  rw [hw] at hP hD
  obtain ⟨hP, hD⟩ := mv_e (E := [(h0, .inr (8, [.ref q1, .ref q2, .ref b1, .ref b2, .ref b3, .ref q3, .ref b4, .ref b5, .ref b6, .int 0, .int 0])), (q1, .inl (ca 3, 6, .inr (.inr (.inr (.inr f1))))), (q2, .inl (ca 4, 4, .inr (.inr (.inr (.inr f2))))), (q3, .inl (ca 5, 3, .inr (.inr (.inr (.inr f3)))))]) (V := V) (w := [(q, .inr (2, [.int (-1), .ref (u 1)])), ((u 1), .inl (ca 0, 40, .inl (fun _ => (0 : Int32))))]) hP hD
  refine va_astq hx hb hK hP hD hS 1 3 4 2 (r := (RX2, TX2, 2)) (f := f1) rfl rfl rfl rfl (i := i) hi dX8_init_123 (fun H locs hP hD hS => ?_)
  refine lv_iinc (v := i') (lv' := [(1, .int i'), (0, .ref h0)]) hx hb dX8_init_124 hl (k := 0) rfl hi' (by decide) rfl (fun ls hl => ?_)
  refine lv_goto (tgt := 105) hx hb dX8_init_127 (by decide) ?_
  refine W.widen (k := cells + 2) (n := slots + 42) (by omega) (by omega) ?_
  exact kk q u H locs ls hP hD hS hl

set_option maxRecDepth 100000 in
set_option maxHeartbeats 4000000 in
theorem it_texts {p : Program} {l : Launch} {e : Env} {R : Room} {s : State} {m : MethodId} {args : Array Value} {below : List Frame} {meth : Method} {c : Code} {H : Heap} {locs : List Loc} {cells slots : Nat} {Q : State → Prop} {D : va_G} {A : Nat → Prop} {ca : Nat → ClassId} {V : va_W} {ls : Array Slot} {h0 q1 q2 q3 b1 b2 b3 b4 b5 b6 : Nat} {f1 f2 f3 : Nat → Option Nat}
    (hx : p.tables.exec = Jvm.exec) (hb : c.code = cX8_init) (hml : c.maxLocals = 2) (hown : s.vm.findClass RX8 = some m.cls) (hts : ∀ w ∈ wsL_law, w.before args s = true) (hK : va_K D vwCl (tysOf ca) s) (hN : NWi s) (hA : ∀ q, s.heap.size ≤ q → A q) (hfr : 2 ≤ R.frames) (hlo : 37 ≤ R.locals) (hc : cells + 2 ≤ R.cells) (hsl : slots + 62 ≤ R.slots) (i i' : Int32) (hi : vp_in i 4) (hlt : ¬ (4 : Int32) ≤ i) (hi' : i + 1 = i')
    (hP : va_P D vwCl ([(h0, .inr (8, [.ref q1, .ref q2, .ref b1, .ref b2, .ref b3, .ref q3, .ref b4, .ref b5, .ref b6, .int 0, .int 0])), (q1, .inl (ca 3, 6, .inr (.inr (.inr (.inr f1))))), (q2, .inl (ca 4, 4, .inr (.inr (.inr (.inr f2))))), (q3, .inl (ca 5, 3, .inr (.inr (.inr (.inr f3)))))] ++ V) H) (hD : va_D A ([(h0, .inr (8, [.ref q1, .ref q2, .ref b1, .ref b2, .ref b3, .ref q3, .ref b4, .ref b5, .ref b6, .int 0, .int 0])), (q1, .inl (ca 3, 6, .inr (.inr (.inr (.inr f1))))), (q2, .inl (ca 4, 4, .inr (.inr (.inr (.inr f2))))), (q3, .inl (ca 5, 3, .inr (.inr (.inr (.inr f3)))))] ++ V)) (hS : va_S A s.heap H locs) (hl : lv_has ls 2 [(1, .int i), (0, .ref h0)])
    (kk : ∀ (q : Nat) (u : Nat → Nat) (H : Heap) (locs : List Loc) (ls : Array Slot), va_P D vwCl ([(h0, .inr (8, [.ref q1, .ref q2, .ref b1, .ref b2, .ref b3, .ref q3, .ref b4, .ref b5, .ref b6, .int 0, .int 0])), (q1, .inl (ca 3, 6, .inr (.inr (.inr (.inr f1))))), (q2, .inl (ca 4, 4, .inr (.inr (.inr (.inr (va_up f2 i.toNatClampNeg (some q))))))), (q3, .inl (ca 5, 3, .inr (.inr (.inr (.inr f3)))))] ++ ([(q, .inr (5, [.int (-1), .ref (u 1)])), ((u 1), .inl (ca 1, 60, .inl (fun _ => (0 : Int32))))] ++ V)) H → va_D A ([(h0, .inr (8, [.ref q1, .ref q2, .ref b1, .ref b2, .ref b3, .ref q3, .ref b4, .ref b5, .ref b6, .int 0, .int 0])), (q1, .inl (ca 3, 6, .inr (.inr (.inr (.inr f1))))), (q2, .inl (ca 4, 4, .inr (.inr (.inr (.inr (va_up f2 i.toNatClampNeg (some q))))))), (q3, .inl (ca 5, 3, .inr (.inr (.inr (.inr f3)))))] ++ ([(q, .inr (5, [.int (-1), .ref (u 1)])), ((u 1), .inl (ca 1, 60, .inl (fun _ => (0 : Int32))))] ++ V)) → va_S A s.heap H locs → lv_has ls 2 [(1, .int i'), (0, .ref h0)] → W p l e R s m args below meth c H locs (cells + 2) (slots + 62) Q (F0 m 132 ls [])) : W p l e R s m args below meth c H locs cells slots Q (F0 m 132 ls []) := by
  refine lv_iload_n hx hb dX8_init_132 rfl (lv_at hl 0 rfl) ?_
  refine lv_iconst (v := 4) hx hb dX8_init_133 (by decide) ?_
  refine lv_icmp_ge (tgt := 156) hx hb dX8_init_134 (by decide) (fun c => absurd c hlt) (fun _ => ?_)
  refine lv_aload_n hx hb dX8_init_137 rfl (lv_at hl 1 rfl) ?_
  refine va_get (C := RX8) (T := TX8) (N := 11) (ci := 8) hx hb hts inlX8 hown hK hP 0 rfl rfl 1 (by decide) (hts _ mw_1_235) (fun _ h9 => h9) (v := .ref q2) rfl dX8_init_138 ?_
  refine lv_iload_n hx hb dX8_init_141 rfl (lv_at hl 0 rfl) ?_
  refine va_new (ci := 5) (fs := [.int 0, .null]) (C := RX5) (T := TX5) (N := 2) hx hb hts inlX5 tyX5 tyX5_ok hown (hts _ mw_1_23) (hts _ mw_1_217) (hts _ mw_1_9) hK hP hD hS hA rfl (fun j hj => by rcases (show j = 0 ∨ j = 1 by omega) with rfl | rfl <;> rfl) (by omega) (by omega) dX8_init_142 (fun q H hP hD hS => ?_)
  refine lv_dup hx hb dX8_init_145 rfl ?_
  have hPc := last_P hP
  have hDc := last_D hD
  have hFc := free_l hD hS hA
  refine va_callv (va_runIN (As := []) (rest := [.ref q, .int i, .ref q2]) ⟨hx, hb, hml, hown, hts⟩ (k_X5_init l D ca q H.size) ⟨va_cnB 0 hts (good_code mw_1_220) rfl rfl rfl (nwi_8_72 hN) (hts _ mw_1_9) (by decide +kernel) ⟨by show _ ≤ _; exact hfr, by show 8 + (_ + 11) + 16 ≤ _; omega⟩, rfl, (hts _ mw_1_219)⟩ ⟨fun a U g mk q => by obtain ⟨q0, q1, qP, qK, qD, qN⟩ := q; exact ⟨q0, q1, qP, va_K.moved (u := U) (U := U.calling g mk a) (Vm.Alike.refl U.vm) qK, qD, NWi.same (U := U.calling g mk a) rfl qN⟩, fun U hU hW => ⟨rfl, by rw [hU], by rw [hU]; exact hPc, va_K.moved hW.alike hK, hDc.weaken (fun _ _ _ _ => trivial), NWi.warm hW hN⟩⟩ rfl rfl hl.1 rfl (lv_room (Nat.le_of_ble_eq_true rfl)) dX8_init_146 ⟨by omega, by omega⟩) hS (fun q _ h => hFc q h) hFc (fun u t H1 locs ht hvm hw hB hz1 hk1 hS => ?_)
  obtain ⟨hP1, hD1⟩ := hB
  rw [ht] at hP1
  obtain ⟨hP, hD⟩ := join_l (w1 := [((u 0), .inr (5, [.int (-1), .ref (u 1)])), ((u 1), .inl (ca 1, 60, .inl (fun _ => (0 : Int32))))]) hP hD hk1 hFc hP1 hD1
  rw [hw] at hP hD
  obtain ⟨hP, hD⟩ := mv_e (E := [(h0, .inr (8, [.ref q1, .ref q2, .ref b1, .ref b2, .ref b3, .ref q3, .ref b4, .ref b5, .ref b6, .int 0, .int 0])), (q1, .inl (ca 3, 6, .inr (.inr (.inr (.inr f1))))), (q2, .inl (ca 4, 4, .inr (.inr (.inr (.inr f2))))), (q3, .inl (ca 5, 3, .inr (.inr (.inr (.inr f3)))))]) (V := V) (w := [(q, .inr (5, [.int (-1), .ref (u 1)])), ((u 1), .inl (ca 1, 60, .inl (fun _ => (0 : Int32))))]) hP hD
  refine va_astq hx hb hK hP hD hS 2 4 4 5 (r := (RX5, TX5, 2)) (f := f2) rfl rfl rfl rfl (i := i) hi dX8_init_149 (fun H locs hP hD hS => ?_)
  refine lv_iinc (v := i') (lv' := [(1, .int i'), (0, .ref h0)]) hx hb dX8_init_150 hl (k := 0) rfl hi' (by decide) rfl (fun ls hl => ?_)
  refine lv_goto (tgt := 132) hx hb dX8_init_153 (by decide) ?_
  refine W.widen (k := cells + 2) (n := slots + 62) (by omega) (by omega) ?_
  exact kk q u H locs ls hP hD hS hl

set_option maxRecDepth 100000 in
set_option maxHeartbeats 4000000 in
theorem it_places {p : Program} {l : Launch} {e : Env} {R : Room} {s : State} {m : MethodId} {args : Array Value} {below : List Frame} {meth : Method} {c : Code} {H : Heap} {locs : List Loc} {cells slots : Nat} {Q : State → Prop} {D : va_G} {A : Nat → Prop} {ca : Nat → ClassId} {V : va_W} {ls : Array Slot} {h0 q1 q2 q3 b1 b2 b3 b4 b5 b6 : Nat} {f1 f2 f3 : Nat → Option Nat}
    (hx : p.tables.exec = Jvm.exec) (hb : c.code = cX8_init) (hml : c.maxLocals = 2) (hown : s.vm.findClass RX8 = some m.cls) (hts : ∀ w ∈ wsL_law, w.before args s = true) (hK : va_K D vwCl (tysOf ca) s) (hN : NWi s) (hA : ∀ q, s.heap.size ≤ q → A q) (hfr : 2 ≤ R.frames) (hlo : 37 ≤ R.locals) (hc : cells + 2 ≤ R.cells) (hsl : slots + 1191 ≤ R.slots) (i i' : Int32) (hi : vp_in i 3) (hlt : ¬ (3 : Int32) ≤ i) (hi' : i + 1 = i')
    (hP : va_P D vwCl ([(h0, .inr (8, [.ref q1, .ref q2, .ref b1, .ref b2, .ref b3, .ref q3, .ref b4, .ref b5, .ref b6, .int 0, .int 0])), (q1, .inl (ca 3, 6, .inr (.inr (.inr (.inr f1))))), (q2, .inl (ca 4, 4, .inr (.inr (.inr (.inr f2))))), (q3, .inl (ca 5, 3, .inr (.inr (.inr (.inr f3)))))] ++ V) H) (hD : va_D A ([(h0, .inr (8, [.ref q1, .ref q2, .ref b1, .ref b2, .ref b3, .ref q3, .ref b4, .ref b5, .ref b6, .int 0, .int 0])), (q1, .inl (ca 3, 6, .inr (.inr (.inr (.inr f1))))), (q2, .inl (ca 4, 4, .inr (.inr (.inr (.inr f2))))), (q3, .inl (ca 5, 3, .inr (.inr (.inr (.inr f3)))))] ++ V)) (hS : va_S A s.heap H locs) (hl : lv_has ls 2 [(1, .int i), (0, .ref h0)])
    (kk : ∀ (q : Nat) (u : Nat → Nat) (H : Heap) (locs : List Loc) (ls : Array Slot), va_P D vwCl ([(h0, .inr (8, [.ref q1, .ref q2, .ref b1, .ref b2, .ref b3, .ref q3, .ref b4, .ref b5, .ref b6, .int 0, .int 0])), (q1, .inl (ca 3, 6, .inr (.inr (.inr (.inr f1))))), (q2, .inl (ca 4, 4, .inr (.inr (.inr (.inr f2))))), (q3, .inl (ca 5, 3, .inr (.inr (.inr (.inr (va_up f3 i.toNatClampNeg (some q)))))))] ++ ([(q, .inr (0, [.int (-1), .ref (u 1)])), ((u 1), .inl (ca 0, 1189, .inl (fun _ => (0 : Int32))))] ++ V)) H → va_D A ([(h0, .inr (8, [.ref q1, .ref q2, .ref b1, .ref b2, .ref b3, .ref q3, .ref b4, .ref b5, .ref b6, .int 0, .int 0])), (q1, .inl (ca 3, 6, .inr (.inr (.inr (.inr f1))))), (q2, .inl (ca 4, 4, .inr (.inr (.inr (.inr f2))))), (q3, .inl (ca 5, 3, .inr (.inr (.inr (.inr (va_up f3 i.toNatClampNeg (some q)))))))] ++ ([(q, .inr (0, [.int (-1), .ref (u 1)])), ((u 1), .inl (ca 0, 1189, .inl (fun _ => (0 : Int32))))] ++ V)) → va_S A s.heap H locs → lv_has ls 2 [(1, .int i'), (0, .ref h0)] → W p l e R s m args below meth c H locs (cells + 2) (slots + 1191) Q (F0 m 158 ls [])) : W p l e R s m args below meth c H locs cells slots Q (F0 m 158 ls []) := by
  refine lv_iload_n hx hb dX8_init_158 rfl (lv_at hl 0 rfl) ?_
  refine lv_iconst (v := 3) hx hb dX8_init_159 (by decide) ?_
  refine lv_icmp_ge (tgt := 183) hx hb dX8_init_160 (by decide) (fun c => absurd c hlt) (fun _ => ?_)
  refine lv_aload_n hx hb dX8_init_163 rfl (lv_at hl 1 rfl) ?_
  refine va_get (C := RX8) (T := TX8) (N := 11) (ci := 8) hx hb hts inlX8 hown hK hP 0 rfl rfl 5 (by decide) (hts _ mw_1_239) (fun _ h9 => h9) (v := .ref q3) rfl dX8_init_164 ?_
  refine lv_iload_n hx hb dX8_init_167 rfl (lv_at hl 0 rfl) ?_
  refine va_new (ci := 0) (fs := [.int 0, .null]) (C := RX0) (T := TX0) (N := 2) hx hb hts inlX0 tyX0 tyX0_ok hown (hts _ mw_1_158) (hts _ mw_1_159) (hts _ mw_1_6) hK hP hD hS hA rfl (fun j hj => by rcases (show j = 0 ∨ j = 1 by omega) with rfl | rfl <;> rfl) (by omega) (by omega) dX8_init_168 (fun q H hP hD hS => ?_)
  refine lv_dup hx hb dX8_init_171 rfl ?_
  refine lv_iconst (v := (-1)) hx hb dX8_init_172 (by decide) ?_
  have hPc := last_P hP
  have hDc := last_D hD
  have hFc := free_l hD hS hA
  refine va_callv (va_runI (As := [.int (-1)]) (rest := [.ref q, .int i, .ref q3]) ⟨hx, hb, hml, hown, hts⟩ (k_X0_init l D ca q H.size (-1)) (cwI 1 hts (good_code mw_1_162) rfl rfl rfl (hts _ mw_1_6) (hts _ mw_1_160) (hts _ mw_1_161) rfl (by decide +kernel) ⟨by show _ ≤ _; exact hfr, by show 8 + (_ + 11) + 16 ≤ _; omega⟩) ⟨fun a U g mk q => by obtain ⟨q0, q1, qP, qK, qD, qN⟩ := q; exact ⟨q0, q1, qP, va_K.moved (u := U) (U := U.calling g mk a) (Vm.Alike.refl U.vm) qK, qD, NWi.same (U := U.calling g mk a) rfl qN⟩, fun U hU hW => ⟨rfl, by rw [hU], by rw [hU]; exact hPc, va_K.moved hW.alike hK, hDc.weaken (fun _ _ _ _ => trivial), NWi.warm hW hN⟩⟩ rfl rfl hl.1 rfl (lv_room (Nat.le_of_ble_eq_true rfl)) dX8_init_173 ⟨by omega, by omega⟩) hS (fun q _ h => hFc q h) hFc (fun u t H1 locs ht hvm hw hB hz1 hk1 hS => ?_)
  obtain ⟨hP1, hD1⟩ := hB
  rw [ht] at hP1
  obtain ⟨hP, hD⟩ := join_l (w1 := [((u 0), .inr (0, [.int (-1), .ref (u 1)])), ((u 1), .inl (ca 0, 1189, .inl (fun _ => (0 : Int32))))]) hP hD hk1 hFc hP1 hD1
  rw [hw] at hP hD
  obtain ⟨hP, hD⟩ := mv_e (E := [(h0, .inr (8, [.ref q1, .ref q2, .ref b1, .ref b2, .ref b3, .ref q3, .ref b4, .ref b5, .ref b6, .int 0, .int 0])), (q1, .inl (ca 3, 6, .inr (.inr (.inr (.inr f1))))), (q2, .inl (ca 4, 4, .inr (.inr (.inr (.inr f2))))), (q3, .inl (ca 5, 3, .inr (.inr (.inr (.inr f3)))))]) (V := V) (w := [(q, .inr (0, [.int (-1), .ref (u 1)])), ((u 1), .inl (ca 0, 1189, .inl (fun _ => (0 : Int32))))]) hP hD
  refine va_astq hx hb hK hP hD hS 3 5 4 0 (r := (RX0, TX0, 2)) (f := f3) rfl rfl rfl rfl (i := i) hi dX8_init_176 (fun H locs hP hD hS => ?_)
  refine lv_iinc (v := i') (lv' := [(1, .int i'), (0, .ref h0)]) hx hb dX8_init_177 hl (k := 0) rfl hi' (by decide) rfl (fun ls hl => ?_)
  refine lv_goto (tgt := 158) hx hb dX8_init_180 (by decide) ?_
  refine W.widen (k := cells + 2) (n := slots + 1191) (by omega) (by omega) ?_
  exact kk q u H locs ls hP hD hS hl
