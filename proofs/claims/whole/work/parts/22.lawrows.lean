/-! THE CLAIM OUT OF ONE WALK OF THE LAW'S BODY. Your part is whole_start (and what it stands on); all else here is the same for every law, but numbers. -/
def R_law : String := "MarkScriptsLaw"
def lw_P (b : Addr) (xs : List Int32) (args : Array Value) (s : State) : Prop := args = #[.ref b] ∧ s.IntsAt b xs ∧ xs.length ≤ 3072 ∧ (Jvm.Cond.and given_1 narrow_1).before args s = true
def lw_Q (_ : Array Value) (s : State) (o : Outcome) (t : State) : Prop := o = .returned (some (.int 1)) ∧ Framed s o t [] 600000 7302250
def lw_Z (below : List Frame) (a : Array Value) (s : State) : State → Prop := fun t => ∃ o, t.status = .running ∧ Ended t below o ∧ lw_Q a s o t
/-- the law's own end, with 1 on the stack, nothing written that was there before, its room as the claim has it -/
theorem lw_ret {p : Program} {l : Launch} {e : Env} {s : State} {m : MethodId} {below : List Frame} {meth : Method} {c : Code} {b : Nat} (hx : p.tables.exec = Jvm.exec) (hb : c.code = code) (hr : meth.sig.returnType = ret) (hlocks : meth.locks = false) {pc : Nat} {H : Heap} {ls : Array Slot} (hdg : decode code pc = .ok (.ireturn, 1)) : W p l e room_1 s m #[Value.ref b] below meth c H [] 600000 7302250 (lw_Z below #[Value.ref b] s) (F0 m pc ls [.int 1]) := by
  intro T hT X
  obtain ⟨fs, hret, hrun, hended, hW, hframe⟩ := X.leave (v := some (.int 1)) (hlocks := hlocks) (fun h => by rw [hr] at h; cases h)
  have hmeth' : T.vm.method? m = some meth := X.method'
  refine ⟨T.setFrames fs, ?_, .returned (some (.int 1)), hrun, hended, rfl, ⟨_, rfl⟩, hW, hframe⟩
  jvm_step X.here [X.here.top, hx, hb, hdg, hmeth', hr, ret, narrow_b1]
  (try refine ⟨rfl, ?_⟩); (try refine ⟨rfl, ?_⟩)
  first | (intro acts; rw [hret _ acts rfl rfl rfl]) | rw [hret _ _ rfl rfl rfl]
  exact Steps.refl _
/-- what holds at the law's entry: the machine, the code, the tables' words (any of lw_tbl by 'hts w (by decide +kernel)'), the script of L ints xs at the cell b, what the Statement gives of the start (any of its parts by flat_of_before) -/
def lw_At (p : Program) (s : State) (m : MethodId) (meth : Method) (c : Code) (b L : Nat) (xs : Nat → Int32) : Prop :=
  p.tables.exec = Jvm.exec ∧ c.code = code ∧ meth.sig.returnType = ret ∧ c.maxLocals = 4 ∧ s.vm.findClass R_law = some m.cls ∧ (∀ w ∈ lw_tbl, w.before #[Value.ref b] s = true) ∧ va_X b L xs s s.heap ∧ b < s.heap.size ∧ meth.locks = false ∧ (Jvm.Cond.and given_1 narrow_1).before #[Value.ref b] s = true

def Ok2 (Inv : St → St → Prop) (e f : Rs) : Prop := ∃ (r : Int) (s' t' : St), e = some (r, s') ∧ f = some (r, t') ∧ Inv s' t'
def xM (X : Wx) (ρM : Nat → Nat) : Wx := (xD X, ρM, xc X)
def LOK (K : Cx) (X : Wx) (ρM : Nat → Nat) (b L : Nat) (xs : Nat → Int32) : Prop :=
  K.1.tables.exec = Jvm.exec ∧ (kC K).code = code ∧ (kC K).maxLocals = 4 ∧ (kS K).vm.findClass RL = some (kM K).cls ∧ (∀ w ∈ wsL_law, w.before (kA K) (kS K) = true) ∧ va_K (xD X) vwCl (tysOf (xc X)) (kS K) ∧ NWs (kS K) ∧ (Inj LC (xr X) ∧ Inj LM ρM ∧ (∀ i, i < 112 → ∀ j, j < 25 → xr X i ≠ ρM j) ∧ (∀ i, i < 112 → (kS K).heap.size ≤ xr X i) ∧ (∀ j, j < 25 → (kS K).heap.size ≤ ρM j)) ∧ va_X b L xs (kS K) (kS K).heap ∧ b < (kS K).heap.size ∧ kR K = room_1
def GL (K : Cx) (X : Wx) (ρM : Nat → Nat) (b pc : Nat) (lv : List (Nat × Value)) (st : List Value) (σ τ : St) : Prop :=
  ∀ (H : Heap) (locs : List Loc) (ls : Array Slot), lv_has ls 4 lv → WP LC X σ H → WP LM (xM X ρM) τ H → va_S (fun q : Nat => (kS K).heap.size ≤ q) (kS K).heap H locs →
    W K.1 K.2.1 K.2.2.1 (kR K) (kS K) (kM K) (kA K) K.2.2.2.2.2.2.2.1 (kMe K) (kC K) H locs 600000 7302250 (lw_Z K.2.2.2.2.2.2.2.1 #[Value.ref b] (kS K)) (F0 (kM K) pc ls st)
section LROWS
variable {K : Cx} {X : Wx} {ρM : Nat → Nat} {b L : Nat} {xs : Nat → Int32} {pc : Nat} {lv : List (Nat × Value)} {st : List Value} {σ τ : St}
theorem l_aload_n (O : LOK K X ρM b L xs) {k : Fin 4} {i x : Nat} (hd : decode code pc = .ok (.aload_n k, 1)) (hi : (k : Nat) = i) (j : Nat) (hl : lv[j]? = some (i, .ref x)) (kk : GL K X ρM b (pc + 1) lv (.ref x :: st) σ τ) : GL K X ρM b pc lv st σ τ :=
  fun H locs ls h1 h2 h3 h4 => lv_aload_n O.1 O.2.1 hd hi (lv_at h1 j hl) (kk H locs ls h1 h2 h3 h4)
theorem nI_sm {i k : Nat} (hk : k < 64) : nI i + Int32.ofInt (k : Int) = nI (i + k) := by
  rw [← nI_add]
  exact congrArg (fun z => nI i + z) Int32.ofInt_eq_ofNat
theorem l_arg (O : LOK K X ρM b L xs) {i k p1 p2 p3 p4 : Nat} (hi : i + k < L) (hk : k < 64) (hL : L ≤ 3072) (d0 : decode code pc = .ok (.aload_n 0, 1)) (d1 : decode code p1 = .ok (.iload_n 3, 1)) (d2 : decode code p2 = .ok (.iconst (k : Int), 1)) (d3 : decode code p3 = .ok (.iadd, 1)) (d4 : decode code p4 = .ok (.iaload, 1)) (e1 : p1 = pc + 1) (e2 : p2 = pc + 2) (e3 : p3 = pc + 3) (e4 : p4 = pc + 4) (hl0 : lv[0]? = some (0, .ref b)) (hl3 : lv[3]? = some (3, .int (nI i))) (kk : GL K X ρM b (pc + 5) lv (.int (xs (i + k)) :: st) σ τ) : GL K X ρM b pc lv st σ τ := by
  subst e1; subst e2; subst e3; subst e4
  intro H locs ls h1 h2 h3 h4
  have hlt : i + k < 2 ^ 31 := by omega
  refine lv_aload_n O.1 O.2.1 d0 rfl (lv_at h1 0 hl0) ?_
  refine lv_iload_n O.1 O.2.1 d1 rfl (lv_at h1 3 hl3) ?_
  refine lv_iconst (v := Int32.ofInt (k : Int)) O.1 O.2.1 d2 rfl ?_
  refine lv_iadd O.1 O.2.1 d3 ?_
  rw [nI_sm hk]
  refine va_sld O.1 O.2.1 O.2.2.2.2.2.2.2.2.1 O.2.2.2.2.2.2.2.2.2.1 (A := fun q : Nat => (kS K).heap.size ≤ q) (by have := O.2.2.2.2.2.2.2.2.2.1; omega) h4 (vp_in_nI hi (by omega)) d4 ?_
  rw [nI_clamp hlt]
  exact kk H locs ls h1 h2 h3 h4
theorem l_goto (O : LOK K X ρM b L xs) {off : Int} {tgt : Nat} (hd : decode code pc = .ok (.goto off, 3)) (ht : (pc : Int) + off = (tgt : Int)) (kk : GL K X ρM b tgt lv st σ τ) : GL K X ρM b pc lv st σ τ :=
  fun H locs ls h1 h2 h3 h4 => lv_goto O.1 O.2.1 hd ht (kk H locs ls h1 h2 h3 h4)
theorem l_same (O : LOK K X ρM b L xs) {off : Int} {tgt : Nat} {x : Int32} (hd : decode code pc = .ok (.if_icmp .eq off, 3)) (ht : (pc : Int) + off = (tgt : Int)) (kk : GL K X ρM b tgt lv st σ τ) : GL K X ρM b pc lv (.int x :: .int x :: st) σ τ :=
  fun H locs ls h1 h2 h3 h4 => lv_icmp_eq O.1 O.2.1 hd ht (fun _ => kk H locs ls h1 h2 h3 h4) (fun c => absurd rfl c)
theorem l_sameL (O : LOK K X ρM b L xs) {off : Int} {tgt p1 : Nat} {x : Int64} (hd : decode code pc = .ok (.lcmp, 1)) (hd2 : decode code p1 = .ok (.ifCond .eq off, 3)) (e1 : p1 = pc + 1) (ht : (p1 : Int) + off = (tgt : Int)) (kk : GL K X ρM b tgt lv st σ τ) : GL K X ρM b pc lv (.long x :: .long x :: st) σ τ := by
  subst e1
  intro H locs ls h1 h2 h3 h4
  refine W.lcmp O.1 O.2.1 hd ?_
  have e : lg_cmp x x = 0 := by
    unfold lg_cmp
    rw [if_neg (by intro q; exact absurd q (by rw [gt_iff_lt, Int64.lt_iff_toInt_lt]; omega)), if_pos rfl]
  rw [e]
  exact lv_if_eq O.1 O.2.1 hd2 ht (fun _ => kk H locs ls h1 h2 h3 h4) (fun c => absurd rfl c)

theorem l_callC (O : LOK K X ρM b L xs) {idx maxL fr lo rk : Nat} {y : MethodName} {bytes : ByteArray} {ret : Option FieldType} {As : List AV} {rest stk : List Value} {e0 : Rs} {r0 : Int × St} {T0 : u_T} {N : Nat} (he : e0 = some r0) (hM : Ctr LC y bytes maxL ret rk fr lo (vR 0 :: As) σ e0) (hw : Cond.methodLink RL idx y ∈ wsL_law) (hin : Cond.instanceMethod y ∈ wsL_law) (hsel : Cond.selects y.cls y y ∈ wsL_law) (hcode : Cond.code y bytes maxL ret ∈ wsL_law) (hini : Cond.initialized y.cls ∈ wsL_law) (hd0 : y.cls ≠ "java/lang/invoke/MethodHandle" ∧ y.cls ≠ "java/lang/invoke/VarHandle" ∧ (parseMethodDescriptor y.desc).map (fun d => d.parameters.length) = some As.length) (hcl : vwCl[8]? = some (y.cls, T0, N))
    (hst : stk = (As.map (tv (xr X))).reverse ++ .ref ((xr X) 0) :: rest) (hd : decode code pc = .ok (.invokevirtual idx, 3)) (hfr : fr + 1 ≤ 12) (hlo : 8 + (maxL + 11) + lo ≤ 442) (hW : (rest.map fun v => v.category).sum ≤ 8) (kk : GL K X ρM b (pc + 3) lv ((rvo rk (xr X) r0.1).toList ++ rest) r0.2 τ) : GL K X ρM b pc lv stk σ τ := by
  intro H locs ls h1 h2 h3 h4 T hT Xs
  have hR : kR K = room_1 := O.2.2.2.2.2.2.2.2.2.2
  have hout : ∀ i, i < 25 → ¬ Ain LC (xr X) (ρM i) := fun i hi h => by obtain ⟨j, hj, e⟩ := h; exact O.2.2.2.2.2.2.2.1.2.2.1 j hj i hi e.symm
  have hlow : ∀ q, Ain LC (xr X) q → (kS K).heap.size ≤ q := fun q h => by obtain ⟨j, hj, e⟩ := h; rw [e]; exact O.2.2.2.2.2.2.2.1.2.2.2.1 j hj
  obtain ⟨n0, fs0, hc0⟩ : Kd LC 0 (10 + 8) := ⟨_, _, rfl⟩
  have hPw : ∀ U : State, U.heap = H → (kS K).WarmedH U.vm → Pw LC X σ U := fun U hU hW => ⟨by rw [hU]; exact h2, va_K.moved hW.alike O.2.2.2.2.2.1, O.2.2.2.2.2.2.2.1.1, NWs.warm hW O.2.2.2.2.2.2.1⟩
  obtain ⟨v, st₀, t, T', L1, e00, X', hL, e1, e2, ⟨hv, hp, hz, hk⟩, stp⟩ := va_runV (R := kR K) (C := y.cls) (n := As.length) (b := (xr X) 0) (As := As.map (tv (xr X))) (rest := rest) (locs := locs) (cells := 600000) (slots := 7302250) (g := F0 (kM K) pc ls stk) (H := H) (below := K.2.2.2.2.2.2.2.1) (meth := kMe K) ⟨O.1, O.2.1, O.2.2.1, O.2.2.2.1, O.2.2.2.2.1⟩ (hM r0 he K.2.1 X) ⟨callB_of As.length O.2.2.2.2.1 (good_code hcode) rfl rfl rfl (O.2.2.2.2.1 _ hini) (O.2.2.2.2.1 _ hw) hd0 ⟨by rw [hR]; exact hfr, by rw [hR]; exact hlo⟩, O.2.2.2.2.1 _ hin, O.2.2.2.2.1 _ hsel⟩ ⟨Pw_blind, va_recv O.2.2.2.2.2.1 h2 hcl (q0 := 0) (fs := fs0.mapIdx (fE (xr X) σ 0)) (by rw [show xr X = (xr X) from rfl, wm_get hc0, cE_obj]), fun U hU hW => ⟨rfl, hPw U hU hW⟩⟩ rfl (by rw [List.length_map]) h1.1 hst (lv_room hW) hd ⟨by rw [hR]; exact Nat.le_refl _, by rw [hR]; exact Nat.le_refl _⟩ T hT Xs
  cases hv
  rw [e00] at hz hk
  have hkeep : WP LM (xM X ρM) τ T'.heap := by
    rw [e1]
    refine va_P.kept h3 (fun k q hq => ?_)
    have hl := (h3 k q hq).lt
    refine hk q.1 hl ?_
    have hq1 : k < 25 ∧ q.1 = ρM k := by
      unfold wm at hq
      rw [List.getElem?_mapIdx] at hq
      cases hk2 : LM[k]? with
      | none => rw [hk2] at hq; cases hq
      | some c => rw [hk2] at hq; cases hq; exact ⟨(List.getElem?_eq_some_iff.mp hk2).1, rfl⟩
    rw [hq1.2]
    exact hout k hq1.1
  obtain ⟨t2, a1, b1⟩ := kk T'.heap (locs ++ L1) ls h1 (by rw [e1]; exact hp) hkeep
    ⟨Nat.le_trans h4.1 (by rw [e1]; exact hz), fun q q1 q2 => by rw [e1, hk q (Nat.lt_of_lt_of_le q1 h4.1) (fun z => q2 (hlow q z))]; exact h4.2.1 q q1 q2, fun q hq => by
      rcases List.mem_append.mp hq with h | h
      · exact h4.2.2 q h
      · exact hlow _ (hL q h)⟩ T' rfl X'
  exact ⟨t2, stp t2 a1, b1⟩
theorem l_callM (O : LOK K X ρM b L xs) {idx maxL fr lo rk : Nat} {y : MethodName} {bytes : ByteArray} {ret : Option FieldType} {As : List AV} {rest stk : List Value} {e0 : Rs} {r0 : Int × St} {T0 : u_T} {N : Nat} (he : e0 = some r0) (hM : Ctr LM y bytes maxL ret rk fr lo (vR 0 :: As) τ e0) (hw : Cond.methodLink RL idx y ∈ wsL_law) (hin : Cond.instanceMethod y ∈ wsL_law) (hsel : Cond.selects y.cls y y ∈ wsL_law) (hcode : Cond.code y bytes maxL ret ∈ wsL_law) (hini : Cond.initialized y.cls ∈ wsL_law) (hd0 : y.cls ≠ "java/lang/invoke/MethodHandle" ∧ y.cls ≠ "java/lang/invoke/VarHandle" ∧ (parseMethodDescriptor y.desc).map (fun d => d.parameters.length) = some As.length) (hcl : vwCl[9]? = some (y.cls, T0, N))
    (hst : stk = (As.map (tv ρM)).reverse ++ .ref (ρM 0) :: rest) (hd : decode code pc = .ok (.invokevirtual idx, 3)) (hfr : fr + 1 ≤ 12) (hlo : 8 + (maxL + 11) + lo ≤ 442) (hW : (rest.map fun v => v.category).sum ≤ 8) (kk : GL K X ρM b (pc + 3) lv ((rvo rk ρM r0.1).toList ++ rest) σ r0.2) : GL K X ρM b pc lv stk σ τ := by
  intro H locs ls h1 h2 h3 h4 T hT Xs
  have hR : kR K = room_1 := O.2.2.2.2.2.2.2.2.2.2
  have hout : ∀ i, i < 112 → ¬ Ain LM ρM (xr X i) := fun i hi h => by obtain ⟨j, hj, e⟩ := h; exact O.2.2.2.2.2.2.2.1.2.2.1 i hi j hj e
  have hlow : ∀ q, Ain LM ρM q → (kS K).heap.size ≤ q := fun q h => by obtain ⟨j, hj, e⟩ := h; rw [e]; exact O.2.2.2.2.2.2.2.1.2.2.2.2 j hj
  obtain ⟨n0, fs0, hc0⟩ : Kd LM 0 (10 + 9) := ⟨_, _, rfl⟩
  have hPw : ∀ U : State, U.heap = H → (kS K).WarmedH U.vm → Pw LM (xM X ρM) τ U := fun U hU hW => ⟨by rw [hU]; exact h3, va_K.moved hW.alike O.2.2.2.2.2.1, O.2.2.2.2.2.2.2.1.2.1, NWs.warm hW O.2.2.2.2.2.2.1⟩
  obtain ⟨v, st₀, t, T', L1, e00, X', hL, e1, e2, ⟨hv, hp, hz, hk⟩, stp⟩ := va_runV (R := kR K) (C := y.cls) (n := As.length) (b := ρM 0) (As := As.map (tv ρM)) (rest := rest) (locs := locs) (cells := 600000) (slots := 7302250) (g := F0 (kM K) pc ls stk) (H := H) (below := K.2.2.2.2.2.2.2.1) (meth := kMe K) ⟨O.1, O.2.1, O.2.2.1, O.2.2.2.1, O.2.2.2.2.1⟩ (hM r0 he K.2.1 (xM X ρM)) ⟨callB_of As.length O.2.2.2.2.1 (good_code hcode) rfl rfl rfl (O.2.2.2.2.1 _ hini) (O.2.2.2.2.1 _ hw) hd0 ⟨by rw [hR]; exact hfr, by rw [hR]; exact hlo⟩, O.2.2.2.2.1 _ hin, O.2.2.2.2.1 _ hsel⟩ ⟨Pw_blind, va_recv O.2.2.2.2.2.1 h3 hcl (q0 := 0) (fs := fs0.mapIdx (fE ρM τ 0)) (by rw [show xr (xM X ρM) = ρM from rfl, wm_get hc0, cE_obj]), fun U hU hW => ⟨rfl, hPw U hU hW⟩⟩ rfl (by rw [List.length_map]) h1.1 hst (lv_room hW) hd ⟨by rw [hR]; exact Nat.le_refl _, by rw [hR]; exact Nat.le_refl _⟩ T hT Xs
  cases hv
  rw [e00] at hz hk
  have hkeep : WP LC X σ T'.heap := by
    rw [e1]
    refine va_P.kept h2 (fun k q hq => ?_)
    have hl := (h2 k q hq).lt
    refine hk q.1 hl ?_
    have hq1 : k < 112 ∧ q.1 = xr X k := by
      unfold wm at hq
      rw [List.getElem?_mapIdx] at hq
      cases hk2 : LC[k]? with
      | none => rw [hk2] at hq; cases hq
      | some c => rw [hk2] at hq; cases hq; exact ⟨(List.getElem?_eq_some_iff.mp hk2).1, rfl⟩
    rw [hq1.2]
    exact hout k hq1.1
  obtain ⟨t2, a1, b1⟩ := kk T'.heap (locs ++ L1) ls h1 hkeep (by rw [e1]; exact hp)
    ⟨Nat.le_trans h4.1 (by rw [e1]; exact hz), fun q q1 q2 => by rw [e1, hk q (Nat.lt_of_lt_of_le q1 h4.1) (fun z => q2 (hlow q z))]; exact h4.2.1 q q1 q2, fun q hq => by
      rcases List.mem_append.mp hq with h | h
      · exact h4.2.2 q h
      · exact hlow _ (hL q h)⟩ T' rfl X'
  exact ⟨t2, stp t2 a1, b1⟩
end LROWS
