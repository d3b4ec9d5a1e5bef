section GROWS
variable {L : Shp} {K : Cx} {X : Wx} {nL rk pc : Nat} {lv : List (Nat × AV)} {st : List AV} {σ : St} {e f : Rs} {own : String} {cc : ByteArray}
theorem g_iconst (O : OKx L K X own cc nL) {n : Int} (hd : decode cc pc = .ok (.iconst n, 1)) (kk : GX L K X nL rk (pc + 1) lv (vI n :: st) (σ) (e)) : GX L K X nL rk (pc) lv (st) (σ) (e) :=
  fun r hr H locs ls h1 h2 h3 => lv_iconst O.1 O.2.1 hd rfl (kk r hr H locs ls h1 h2 h3)
theorem g_bipush (O : OKx L K X own cc nL) {n : Int} (hd : decode cc pc = .ok (.bipush n, 2)) (hn : (Int8.ofInt n).toInt32 = iI n) (kk : GX L K X nL rk (pc + 2) lv (vI n :: st) (σ) (e)) : GX L K X nL rk (pc) lv (st) (σ) (e) :=
  fun r hr H locs ls h1 h2 h3 => lv_bipush O.1 O.2.1 hd hn (kk r hr H locs ls h1 h2 h3)
theorem g_sipush (O : OKx L K X own cc nL) {n : Int} (hd : decode cc pc = .ok (.sipush n, 3)) (hn : (Int16.ofInt n).toInt32 = iI n) (kk : GX L K X nL rk (pc + 3) lv (vI n :: st) (σ) (e)) : GX L K X nL rk (pc) lv (st) (σ) (e) :=
  fun r hr H locs ls h1 h2 h3 => lv_sipush O.1 O.2.1 hd hn (kk r hr H locs ls h1 h2 h3)
theorem g_lconst (O : OKx L K X own cc nL) {n : Fin 2} {x : Int} (hd : decode cc pc = .ok (.lconst n, 1)) (hn : Int64.ofNat (n : Nat) = iL x) (kk : GX L K X nL rk (pc + 1) lv (vL x :: st) (σ) (e)) : GX L K X nL rk (pc) lv (st) (σ) (e) :=
  fun r hr H locs ls h1 h2 h3 => lv_lconst O.1 O.2.1 hd hn (kk r hr H locs ls h1 h2 h3)
theorem g_ldc (O : OKx L K X own cc nL) {i : Nat} {v : Int32} {x : Int} (hd : decode cc pc = .ok (.ldc i, 2)) (hw : Cond.constant own i v ∈ wsL_law) (hn : v = iI x) (kk : GX L K X nL rk (pc + 2) lv (vI x :: st) (σ) (e)) : GX L K X nL rk (pc) lv (st) (σ) (e) :=
  by
  subst hn
  exact fun r hr H locs ls h1 h2 h3 => lv_ldc O.1 O.2.1 O.2.2.2.1 (O.2.2.2.2.1 _ hw) hd (kk r hr H locs ls h1 h2 h3)
theorem g_ldcw (O : OKx L K X own cc nL) {i : Nat} {v : Int32} {x : Int} (hd : decode cc pc = .ok (.ldc_w i, 3)) (hw : Cond.constant own i v ∈ wsL_law) (hn : v = iI x) (kk : GX L K X nL rk (pc + 3) lv (vI x :: st) (σ) (e)) : GX L K X nL rk (pc) lv (st) (σ) (e) :=
  by
  subst hn
  intro r hr H locs ls h1 h2 h3 T hT Xs
  obtain ⟨t, a1, b1⟩ := kk r hr H locs ls h1 h2 h3 T hT Xs
  exact ⟨t, va_ldcwI Xs O.1 O.2.2.2.1 (O.2.2.2.2.1 _ hw) (g := F0 (kM K) pc ls (st.map (tv (xr X)))) rfl (by rw [O.2.1]; exact hd) t a1, b1⟩
theorem g_ldc2 (O : OKx L K X own cc nL) {i : Nat} {v : Int64} {x : Int} (hd : decode cc pc = .ok (.ldc2_w i, 3)) (hw : Cond.constantLong own i v ∈ wsL_law) (hn : v = iL x) (kk : GX L K X nL rk (pc + 3) lv (vL x :: st) (σ) (e)) : GX L K X nL rk (pc) lv (st) (σ) (e) :=
  by
  subst hn
  exact fun r hr H locs ls h1 h2 h3 => lv_ldc2 O.1 O.2.1 O.2.2.2.1 (O.2.2.2.2.1 _ hw) hd (kk r hr H locs ls h1 h2 h3)
theorem g_iload_n (O : OKx L K X own cc nL) {k : Fin 4} {i : Nat} {x : Int} (hd : decode cc pc = .ok (.iload_n k, 1)) (hi : (k : Nat) = i) (j : Nat) (hl : lv[j]? = some (i, vI x)) (kk : GX L K X nL rk (pc + 1) lv (vI x :: st) (σ) (e)) : GX L K X nL rk (pc) lv (st) (σ) (e) :=
  fun r hr H locs ls h1 h2 h3 => lv_iload_n O.1 O.2.1 hd hi (lv_at h1 j (tl_at hl)) (kk r hr H locs ls h1 h2 h3)
theorem g_iload (O : OKx L K X own cc nL) {i : Nat} {x : Int} (hd : decode cc pc = .ok (.iload i, 2)) (j : Nat) (hl : lv[j]? = some (i, vI x)) (kk : GX L K X nL rk (pc + 2) lv (vI x :: st) (σ) (e)) : GX L K X nL rk (pc) lv (st) (σ) (e) :=
  fun r hr H locs ls h1 h2 h3 => lv_iload O.1 O.2.1 hd (lv_at h1 j (tl_at hl)) (kk r hr H locs ls h1 h2 h3)
theorem g_istore_n (O : OKx L K X own cc nL) {k : Fin 4} {i : Nat} {x : Int} {lv2 : List (Nat × AV)} (hd : decode cc pc = .ok (.istore_n k, 1)) (hi : (k : Nat) = i) (hn : i < nL) (hl : st1 i (vI x) lv = lv2) (kk : GX L K X nL rk (pc + 1) lv2 (st) (σ) (e)) : GX L K X nL rk (pc) lv (vI x :: st) (σ) (e) :=
  fun r hr H locs ls h1 h2 h3 => lv_istore_n O.1 O.2.1 hd hi h1 hn (by rw [← hl]; exact tl_st1 (v := vI x)) (fun ls h1 => kk r hr H locs ls h1 h2 h3)
theorem g_istore (O : OKx L K X own cc nL) {i : Nat} {x : Int} {lv2 : List (Nat × AV)} (hd : decode cc pc = .ok (.istore i, 2)) (hn : i < nL) (hl : st1 i (vI x) lv = lv2) (kk : GX L K X nL rk (pc + 2) lv2 (st) (σ) (e)) : GX L K X nL rk (pc) lv (vI x :: st) (σ) (e) :=
  fun r hr H locs ls h1 h2 h3 => lv_istore O.1 O.2.1 hd h1 hn (by rw [← hl]; exact tl_st1 (v := vI x)) (fun ls h1 => kk r hr H locs ls h1 h2 h3)
theorem g_lload_n (O : OKx L K X own cc nL) {k : Fin 4} {i : Nat} {x : Int} (hd : decode cc pc = .ok (.lload_n k, 1)) (hi : (k : Nat) = i) (j : Nat) (hl : lv[j]? = some (i, vL x)) (kk : GX L K X nL rk (pc + 1) lv (vL x :: st) (σ) (e)) : GX L K X nL rk (pc) lv (st) (σ) (e) :=
  fun r hr H locs ls h1 h2 h3 => lv_lload_n O.1 O.2.1 hd hi (lv_at h1 j (tl_at hl)) (kk r hr H locs ls h1 h2 h3)
theorem g_lload (O : OKx L K X own cc nL) {i : Nat} {x : Int} (hd : decode cc pc = .ok (.lload i, 2)) (j : Nat) (hl : lv[j]? = some (i, vL x)) (kk : GX L K X nL rk (pc + 2) lv (vL x :: st) (σ) (e)) : GX L K X nL rk (pc) lv (st) (σ) (e) :=
  fun r hr H locs ls h1 h2 h3 => lv_lload O.1 O.2.1 hd (lv_at h1 j (tl_at hl)) (kk r hr H locs ls h1 h2 h3)
theorem g_lstore_n (O : OKx L K X own cc nL) {k : Fin 4} {i : Nat} {x : Int} {lv2 : List (Nat × AV)} (hd : decode cc pc = .ok (.lstore_n k, 1)) (hi : (k : Nat) = i) (hn : i + 1 < nL) (hl : st2 i (vL x) lv = lv2) (kk : GX L K X nL rk (pc + 1) lv2 (st) (σ) (e)) : GX L K X nL rk (pc) lv (vL x :: st) (σ) (e) :=
  fun r hr H locs ls h1 h2 h3 => lv_lstore_n O.1 O.2.1 hd hi h1 hn (by rw [← hl]; exact tl_st2 (v := vL x)) (fun ls h1 => kk r hr H locs ls h1 h2 h3)
theorem g_lstore (O : OKx L K X own cc nL) {i : Nat} {x : Int} {lv2 : List (Nat × AV)} (hd : decode cc pc = .ok (.lstore i, 2)) (hn : i + 1 < nL) (hl : st2 i (vL x) lv = lv2) (kk : GX L K X nL rk (pc + 2) lv2 (st) (σ) (e)) : GX L K X nL rk (pc) lv (vL x :: st) (σ) (e) :=
  fun r hr H locs ls h1 h2 h3 => lv_lstore O.1 O.2.1 hd h1 hn (by rw [← hl]; exact tl_st2 (v := vL x)) (fun ls h1 => kk r hr H locs ls h1 h2 h3)
theorem g_aload_n (O : OKx L K X own cc nL) {k : Fin 4} {i : Nat} {x : Nat} (hd : decode cc pc = .ok (.aload_n k, 1)) (hi : (k : Nat) = i) (j : Nat) (hl : lv[j]? = some (i, vR x)) (kk : GX L K X nL rk (pc + 1) lv (vR x :: st) (σ) (e)) : GX L K X nL rk (pc) lv (st) (σ) (e) :=
  fun r hr H locs ls h1 h2 h3 => lv_aload_n O.1 O.2.1 hd hi (lv_at h1 j (tl_at hl)) (kk r hr H locs ls h1 h2 h3)
theorem g_aload (O : OKx L K X own cc nL) {i : Nat} {x : Nat} (hd : decode cc pc = .ok (.aload i, 2)) (j : Nat) (hl : lv[j]? = some (i, vR x)) (kk : GX L K X nL rk (pc + 2) lv (vR x :: st) (σ) (e)) : GX L K X nL rk (pc) lv (st) (σ) (e) :=
  fun r hr H locs ls h1 h2 h3 => lv_aload O.1 O.2.1 hd (lv_at h1 j (tl_at hl)) (kk r hr H locs ls h1 h2 h3)
theorem g_astore_n (O : OKx L K X own cc nL) {k : Fin 4} {i : Nat} {x : Nat} {lv2 : List (Nat × AV)} (hd : decode cc pc = .ok (.astore_n k, 1)) (hi : (k : Nat) = i) (hn : i < nL) (hl : st1 i (vR x) lv = lv2) (kk : GX L K X nL rk (pc + 1) lv2 (st) (σ) (e)) : GX L K X nL rk (pc) lv (vR x :: st) (σ) (e) :=
  fun r hr H locs ls h1 h2 h3 => lv_astore_n O.1 O.2.1 hd hi h1 hn (by rw [← hl]; exact tl_st1 (v := vR x)) (fun ls h1 => kk r hr H locs ls h1 h2 h3)
theorem g_astore (O : OKx L K X own cc nL) {i : Nat} {x : Nat} {lv2 : List (Nat × AV)} (hd : decode cc pc = .ok (.astore i, 2)) (hn : i < nL) (hl : st1 i (vR x) lv = lv2) (kk : GX L K X nL rk (pc + 2) lv2 (st) (σ) (e)) : GX L K X nL rk (pc) lv (vR x :: st) (σ) (e) :=
  fun r hr H locs ls h1 h2 h3 => lv_astore O.1 O.2.1 hd h1 hn (by rw [← hl]; exact tl_st1 (v := vR x)) (fun ls h1 => kk r hr H locs ls h1 h2 h3)
theorem g_iinc (O : OKx L K X own cc nL) {i : Nat} {n x : Int} {lv2 : List (Nat × AV)} (hd : decode cc pc = .ok (.iinc i n, 3)) (j : Nat) (hj : lv[j]? = some (i, vI x)) (hn : i < nL) (hl : st1 i (vI (x + n)) lv = lv2) (kk : GX L K X nL rk (pc + 3) lv2 (st) (σ) (e)) : GX L K X nL rk (pc) lv (st) (σ) (e) :=
  fun r hr H locs ls h1 h2 h3 => lv_iinc O.1 O.2.1 hd h1 (tl_at hj) (show iI x + Int32.ofInt n = iI (x + n) from (Int32.ofInt_add x n).symm) hn (by rw [← hl]; exact tl_st1 (v := vI (x + n))) (fun ls h1 => kk r hr H locs ls h1 h2 h3)
theorem g_iadd (O : OKx L K X own cc nL) {x y : Int} (hd : decode cc pc = .ok (.iadd, 1)) (kk : GX L K X nL rk (pc + 1) lv (vI (x + y) :: st) (σ) (e)) : GX L K X nL rk (pc) lv (vI y :: vI x :: st) (σ) (e) :=
  by
  intro r hr H locs ls h1 h2 h3
  have z := kk r hr H locs ls h1 h2 h3
  refine lv_iadd O.1 O.2.1 hd ?_
  have q : iI (x + y) = iI x + iI y := Int32.ofInt_add x y
  rw [← q]
  exact z
theorem g_ladd (O : OKx L K X own cc nL) {x y : Int} (hd : decode cc pc = .ok (.ladd, 1)) (kk : GX L K X nL rk (pc + 1) lv (vL (x + y) :: st) (σ) (e)) : GX L K X nL rk (pc) lv (vL y :: vL x :: st) (σ) (e) :=
  by
  intro r hr H locs ls h1 h2 h3
  have z := kk r hr H locs ls h1 h2 h3
  refine lv_ladd O.1 O.2.1 hd ?_
  have q : iL (x + y) = iL x + iL y := Int64.ofInt_add x y
  rw [← q]
  exact z
theorem g_isub (O : OKx L K X own cc nL) {x y : Int} (hd : decode cc pc = .ok (.isub, 1)) (kk : GX L K X nL rk (pc + 1) lv (vI (x - y) :: st) (σ) (e)) : GX L K X nL rk (pc) lv (vI y :: vI x :: st) (σ) (e) :=
  by
  intro r hr H locs ls h1 h2 h3
  have z := kk r hr H locs ls h1 h2 h3
  refine lv_isub O.1 O.2.1 hd ?_
  have q : iI (x - y) = iI x - iI y := Int32.ofInt_sub x y
  rw [← q]
  exact z
theorem g_lsub (O : OKx L K X own cc nL) {x y : Int} (hd : decode cc pc = .ok (.lsub, 1)) (kk : GX L K X nL rk (pc + 1) lv (vL (x - y) :: st) (σ) (e)) : GX L K X nL rk (pc) lv (vL y :: vL x :: st) (σ) (e) :=
  by
  intro r hr H locs ls h1 h2 h3
  have z := kk r hr H locs ls h1 h2 h3
  refine lv_lsub O.1 O.2.1 hd ?_
  have q : iL (x - y) = iL x - iL y := Int64.ofInt_sub x y
  rw [← q]
  exact z
theorem g_imul (O : OKx L K X own cc nL) {x y : Int} (hd : decode cc pc = .ok (.imul, 1)) (kk : GX L K X nL rk (pc + 1) lv (vI (x * y) :: st) (σ) (e)) : GX L K X nL rk (pc) lv (vI y :: vI x :: st) (σ) (e) :=
  by
  intro r hr H locs ls h1 h2 h3
  have z := kk r hr H locs ls h1 h2 h3
  refine lv_imul O.1 O.2.1 hd ?_
  have q : iI (x * y) = iI x * iI y := Int32.ofInt_mul x y
  rw [← q]
  exact z
theorem g_lmul (O : OKx L K X own cc nL) {x y : Int} (hd : decode cc pc = .ok (.lmul, 1)) (kk : GX L K X nL rk (pc + 1) lv (vL (x * y) :: st) (σ) (e)) : GX L K X nL rk (pc) lv (vL y :: vL x :: st) (σ) (e) :=
  by
  intro r hr H locs ls h1 h2 h3
  have z := kk r hr H locs ls h1 h2 h3
  refine lv_lmul O.1 O.2.1 hd ?_
  have q : iL (x * y) = iL x * iL y := Int64.ofInt_mul x y
  rw [← q]
  exact z
theorem g_ishl (O : OKx L K X own cc nL) {x y : Int} (hd : decode cc pc = .ok (.ishl, 1)) (kk : GX L K X nL rk (pc + 1) lv (vI (oShl x y) :: st) (σ) (e)) : GX L K X nL rk (pc) lv (vI y :: vI x :: st) (σ) (e) :=
  by
  intro r hr H locs ls h1 h2 h3
  have z := kk r hr H locs ls h1 h2 h3
  refine lv_ishl O.1 O.2.1 hd ?_
  have q : tv (xr X) (vI (oShl x y)) = .int (iI (oShl x y)) := rfl
  unfold oShl at q z
  rw [iI_back] at q
  rw [List.map_cons, q] at z
  exact z
theorem g_ishr (O : OKx L K X own cc nL) {x y : Int} (hd : decode cc pc = .ok (.ishr, 1)) (kk : GX L K X nL rk (pc + 1) lv (vI (oShr x y) :: st) (σ) (e)) : GX L K X nL rk (pc) lv (vI y :: vI x :: st) (σ) (e) :=
  by
  intro r hr H locs ls h1 h2 h3
  have z := kk r hr H locs ls h1 h2 h3
  refine lv_ishr O.1 O.2.1 hd ?_
  have q : tv (xr X) (vI (oShr x y)) = .int (iI (oShr x y)) := rfl
  unfold oShr at q z
  rw [iI_back] at q
  rw [List.map_cons, q] at z
  exact z
theorem g_iand (O : OKx L K X own cc nL) {x y : Int} (hd : decode cc pc = .ok (.iand, 1)) (kk : GX L K X nL rk (pc + 1) lv (vI (oAnd x y) :: st) (σ) (e)) : GX L K X nL rk (pc) lv (vI y :: vI x :: st) (σ) (e) :=
  by
  intro r hr H locs ls h1 h2 h3
  have z := kk r hr H locs ls h1 h2 h3
  refine lv_iand O.1 O.2.1 hd ?_
  have q : tv (xr X) (vI (oAnd x y)) = .int (iI (oAnd x y)) := rfl
  unfold oAnd at q z
  rw [iI_back] at q
  rw [List.map_cons, q] at z
  exact z
theorem g_ior (O : OKx L K X own cc nL) {x y : Int} (hd : decode cc pc = .ok (.ior, 1)) (kk : GX L K X nL rk (pc + 1) lv (vI (oOr x y) :: st) (σ) (e)) : GX L K X nL rk (pc) lv (vI y :: vI x :: st) (σ) (e) :=
  by
  intro r hr H locs ls h1 h2 h3
  have z := kk r hr H locs ls h1 h2 h3
  refine lv_ior O.1 O.2.1 hd ?_
  have q : tv (xr X) (vI (oOr x y)) = .int (iI (oOr x y)) := rfl
  unfold oOr at q z
  rw [iI_back] at q
  rw [List.map_cons, q] at z
  exact z
theorem g_ixor (O : OKx L K X own cc nL) {x y : Int} (hd : decode cc pc = .ok (.ixor, 1)) (kk : GX L K X nL rk (pc + 1) lv (vI (oXor x y) :: st) (σ) (e)) : GX L K X nL rk (pc) lv (vI y :: vI x :: st) (σ) (e) :=
  by
  intro r hr H locs ls h1 h2 h3
  have z := kk r hr H locs ls h1 h2 h3
  refine lv_ixor O.1 O.2.1 hd ?_
  have q : tv (xr X) (vI (oXor x y)) = .int (iI (oXor x y)) := rfl
  unfold oXor at q z
  rw [iI_back] at q
  rw [List.map_cons, q] at z
  exact z
theorem g_i2l (O : OKx L K X own cc nL) {x : Int} (hd : decode cc pc = .ok (.i2l, 1)) (kk : GX L K X nL rk (pc + 1) lv (vL (w32 x) :: st) σ e) : GX L K X nL rk pc lv (vI x :: st) σ e :=
  fun r hr H locs ls h1 h2 h3 => lv_i2l O.1 O.2.1 hd (by rfl) (kk r hr H locs ls h1 h2 h3)
theorem g_l2i (O : OKx L K X own cc nL) {x : Int} (hd : decode cc pc = .ok (.l2i, 1)) (kk : GX L K X nL rk (pc + 1) lv (vI x :: st) σ e) : GX L K X nL rk pc lv (vL x :: st) σ e :=
  fun r hr H locs ls h1 h2 h3 => lv_l2i O.1 O.2.1 hd (show (iL x).toInt32 = iI x from Int64.toInt32_ofInt) (kk r hr H locs ls h1 h2 h3)
theorem g_i2b (O : OKx L K X own cc nL) {x : Int} (hd : decode cc pc = .ok (.i2b, 1)) (kk : GX L K X nL rk (pc + 1) lv (vI (nb8 x) :: st) σ e) : GX L K X nL rk pc lv (vI x :: st) σ e :=
  fun r hr H locs ls h1 h2 h3 => lv_i2b O.1 O.2.1 hd (show (iI x).toInt8.toInt32 = iI (nb8 x) from (iI_back _).symm) (kk r hr H locs ls h1 h2 h3)
theorem g_dup (O : OKx L K X own cc nL) {v : AV} (hd : decode cc pc = .ok (.dup, 1)) (hv : isL v = false) (kk : GX L K X nL rk (pc + 1) lv (v :: v :: st) σ e) : GX L K X nL rk pc lv (v :: st) σ e :=
  fun r hr H locs ls h1 h2 h3 => lv_dup O.1 O.2.1 hd (by rcases v with a | x | x <;> first | rfl | cases hv) (kk r hr H locs ls h1 h2 h3)
theorem g_pop (O : OKx L K X own cc nL) {v : AV} (hd : decode cc pc = .ok (.pop, 1)) (hv : isL v = false) (kk : GX L K X nL rk (pc + 1) lv st σ e) : GX L K X nL rk pc lv (v :: st) σ e :=
  fun r hr H locs ls h1 h2 h3 => lv_pop O.1 O.2.1 hd (by rcases v with a | x | x <;> first | rfl | cases hv) (kk r hr H locs ls h1 h2 h3)
theorem g_dup2 (O : OKx L K X own cc nL) {v w : AV} (hd : decode cc pc = .ok (.dup2, 1)) (hv : isL v = false) (hw : isL w = false) (kk : GX L K X nL rk (pc + 1) lv (v :: w :: v :: w :: st) σ e) : GX L K X nL rk pc lv (v :: w :: st) σ e :=
  fun r hr H locs ls h1 h2 h3 => lv_dup2_11 O.1 O.2.1 hd (by rcases v with a | x | x <;> first | rfl | cases hv) (by rcases w with a | x | x <;> first | rfl | cases hw) (kk r hr H locs ls h1 h2 h3)
theorem g_goto (O : OKx L K X own cc nL) {off : Int} {tgt : Nat} (hd : decode cc pc = .ok (.goto off, 3)) (ht : (pc : Int) + off = (tgt : Int)) (kk : GX L K X nL rk tgt lv st σ e) : GX L K X nL rk pc lv st σ e :=
  fun r hr H locs ls h1 h2 h3 => lv_goto O.1 O.2.1 hd ht (kk r hr H locs ls h1 h2 h3)
theorem g_pick {lv2 : List (Nat × AV)} (ks : List Nat) (hl : ks.filterMap (fun k => lv[k]?) = lv2) (kk : GX L K X nL rk pc lv2 st σ e) : GX L K X nL rk pc lv st σ e := by
  intro r hr H locs ls h1 h2 h3
  refine kk r hr H locs ls (lv_sub h1 ks ?_) h2 h3
  rw [← hl]
  unfold lv_pick tl
  rw [List.map_filterMap]
  congr 1
  funext k
  rw [List.getElem?_map]
theorem g_gR {x : Int} (kk : inR x → GX L K X nL rk pc lv st σ e) : GX L K X nL rk pc lv st σ (gR x e) := by
  intro r hr
  unfold gR at hr
  split at hr
  · rename_i h
    exact kk h r hr
  · cases hr
theorem g_gK {a kd : Nat} (hk : kd ≠ 99) (kk : Kd L a kd → GX L K X nL rk pc lv st σ e) : GX L K X nL rk pc lv st σ (gK L a kd e) := by
  intro r hr
  unfold gK at hr
  split at hr
  · rename_i h
    exact kk (Kd.of_gK h hk) r hr
  · cases hr
theorem g_ite {p : Prop} [Decidable p] (kt : p → GX L K X nL rk pc lv st σ e) (kf : ¬ p → GX L K X nL rk pc lv st σ f) : GX L K X nL rk pc lv st σ (if p then e else f) := by
  by_cases h : p
  · rw [if_pos h]; exact kt h
  · rw [if_neg h]; exact kf h
theorem g_tin (O : OKx L K X own cc nL) {x k dflt lo hi off : Int} {offs : Array Int} {len tgt : Nat} (hd : decode cc pc = .ok (.tableswitch dflt lo hi offs, len)) (hr0 : inR x) (hx : x = k) (h1 : ¬ k < lo) (h2 : ¬ hi < k) (ho : offs[(k - lo).toNat]? = some off) (ht : (pc : Int) + off = (tgt : Int)) (kk : GX L K X nL rk tgt lv st σ e) : GX L K X nL rk pc lv (vI x :: st) σ e :=
  fun r hr H locs ls l1 l2 l3 => lv_tableIn O.1 O.2.1 hd (by rw [iI_in hr0, hx]; exact h1) (by rw [iI_in hr0, hx]; exact h2) (by rw [iI_in hr0, hx]; exact ho) ht (kk r hr H locs ls l1 l2 l3)
theorem g_tout (O : OKx L K X own cc nL) {x dflt lo hi : Int} {offs : Array Int} {len tgt : Nat} (hd : decode cc pc = .ok (.tableswitch dflt lo hi offs, len)) (hr0 : inR x) (hx : x < lo ∨ hi < x) (ht : (pc : Int) + dflt = (tgt : Int)) (kk : GX L K X nL rk tgt lv st σ e) : GX L K X nL rk pc lv (vI x :: st) σ e :=
  fun r hr H locs ls l1 l2 l3 => lv_tableOut O.1 O.2.1 hd (by rw [iI_in hr0]; exact hx) ht (kk r hr H locs ls l1 l2 l3)
theorem g_lsw (O : OKx L K X own cc nL) {x dflt off : Int} {ps : Array (Int × Int)} {len tgt : Nat} (hd : decode cc pc = .ok (.lookupswitch dflt ps, len)) (hp : (ps.toList.zip (ps.toList.drop 1)).all (fun (a, next) => a.1 < next.1) = true) (hr0 : inR x) (ho : Op.lookupswitch.offset ps.toList dflt x = off) (ht : (pc : Int) + off = (tgt : Int)) (kk : GX L K X nL rk tgt lv st σ e) : GX L K X nL rk pc lv (vI x :: st) σ e :=
  fun r hr H locs ls l1 l2 l3 => lv_lookup O.1 O.2.1 hd hp (by rw [iI_in hr0]; exact ho) ht (kk r hr H locs ls l1 l2 l3)

theorem g_icmp_lt (O : OKx L K X own cc nL) {x y : Int} {off : Int} {tgt : Nat} (hd : decode cc pc = .ok (.if_icmp .lt off, 3)) (ht : (pc : Int) + off = (tgt : Int)) (kt : GX L K X nL rk tgt lv st σ e) (kf : GX L K X nL rk (pc + 3) lv st σ f) : GX L K X nL rk pc lv (vI y :: vI x :: st) σ (cLt x y e f) := by
  intro r hr H locs ls h1 h2 h3
  unfold cLt at hr
  split at hr
  · rename_i hxy
    have hx : inR x := hxy.1
    have hy : inR y := hxy.2
    have hz : True := trivial
    have hc : iI x < iI y ↔ x < y := iI_lt hx hy
    refine lv_icmp_lt O.1 O.2.1 hd ht (fun c => ?_) (fun c => ?_)
    · rw [if_pos (hc.mp c)] at hr
      exact kt r hr H locs ls h1 h2 h3
    · rw [if_neg (fun q => c (hc.mpr q))] at hr
      exact kf r hr H locs ls h1 h2 h3
  · cases hr
theorem g_if_lt (O : OKx L K X own cc nL) {x : Int} {off : Int} {tgt : Nat} (hd : decode cc pc = .ok (.ifCond .lt off, 3)) (ht : (pc : Int) + off = (tgt : Int)) (kt : GX L K X nL rk tgt lv st σ e) (kf : GX L K X nL rk (pc + 3) lv st σ f) : GX L K X nL rk pc lv (vI x :: st) σ (cLt x 0 e f) := by
  intro r hr H locs ls h1 h2 h3
  unfold cLt at hr
  split at hr
  · rename_i hxy
    have hx : inR x := hxy.1
    have hy : inR 0 := hxy.2
    have hz : iI 0 = (0 : Int32) := iI_0
    have hc : iI x < iI 0 ↔ x < 0 := iI_lt hx hy
    rw [hz] at hc
    refine lv_if_lt O.1 O.2.1 hd ht (fun c => ?_) (fun c => ?_)
    · rw [if_pos (hc.mp c)] at hr
      exact kt r hr H locs ls h1 h2 h3
    · rw [if_neg (fun q => c (hc.mpr q))] at hr
      exact kf r hr H locs ls h1 h2 h3
  · cases hr
theorem g_icmp_ge (O : OKx L K X own cc nL) {x y : Int} {off : Int} {tgt : Nat} (hd : decode cc pc = .ok (.if_icmp .ge off, 3)) (ht : (pc : Int) + off = (tgt : Int)) (kt : GX L K X nL rk tgt lv st σ e) (kf : GX L K X nL rk (pc + 3) lv st σ f) : GX L K X nL rk pc lv (vI y :: vI x :: st) σ (cLt x y f e) := by
  intro r hr H locs ls h1 h2 h3
  unfold cLt at hr
  split at hr
  · rename_i hxy
    have hx : inR x := hxy.1
    have hy : inR y := hxy.2
    have hz : True := trivial
    have hc : iI y ≤ iI x ↔ y ≤ x := iI_le hy hx
    refine lv_icmp_ge O.1 O.2.1 hd ht (fun c => ?_) (fun c => ?_)
    · rw [if_neg (by have := hc.mp c; omega)] at hr
      exact kt r hr H locs ls h1 h2 h3
    · rw [if_pos (by have := mt hc.mpr c; omega)] at hr
      exact kf r hr H locs ls h1 h2 h3
  · cases hr
theorem g_if_ge (O : OKx L K X own cc nL) {x : Int} {off : Int} {tgt : Nat} (hd : decode cc pc = .ok (.ifCond .ge off, 3)) (ht : (pc : Int) + off = (tgt : Int)) (kt : GX L K X nL rk tgt lv st σ e) (kf : GX L K X nL rk (pc + 3) lv st σ f) : GX L K X nL rk pc lv (vI x :: st) σ (cLt x 0 f e) := by
  intro r hr H locs ls h1 h2 h3
  unfold cLt at hr
  split at hr
  · rename_i hxy
    have hx : inR x := hxy.1
    have hy : inR 0 := hxy.2
    have hz : iI 0 = (0 : Int32) := iI_0
    have hc : iI 0 ≤ iI x ↔ 0 ≤ x := iI_le hy hx
    rw [hz] at hc
    refine lv_if_ge O.1 O.2.1 hd ht (fun c => ?_) (fun c => ?_)
    · rw [if_neg (by have := hc.mp c; omega)] at hr
      exact kt r hr H locs ls h1 h2 h3
    · rw [if_pos (by have := mt hc.mpr c; omega)] at hr
      exact kf r hr H locs ls h1 h2 h3
  · cases hr
theorem g_icmp_gt (O : OKx L K X own cc nL) {x y : Int} {off : Int} {tgt : Nat} (hd : decode cc pc = .ok (.if_icmp .gt off, 3)) (ht : (pc : Int) + off = (tgt : Int)) (kt : GX L K X nL rk tgt lv st σ e) (kf : GX L K X nL rk (pc + 3) lv st σ f) : GX L K X nL rk pc lv (vI y :: vI x :: st) σ (cLt y x e f) := by
  intro r hr H locs ls h1 h2 h3
  unfold cLt at hr
  split at hr
  · rename_i hxy
    have hx : inR x := hxy.2
    have hy : inR y := hxy.1
    have hz : True := trivial
    have hc : iI y < iI x ↔ y < x := iI_lt hy hx
    refine lv_icmp_gt O.1 O.2.1 hd ht (fun c => ?_) (fun c => ?_)
    · rw [if_pos (hc.mp c)] at hr
      exact kt r hr H locs ls h1 h2 h3
    · rw [if_neg (fun q => c (hc.mpr q))] at hr
      exact kf r hr H locs ls h1 h2 h3
  · cases hr
theorem g_if_gt (O : OKx L K X own cc nL) {x : Int} {off : Int} {tgt : Nat} (hd : decode cc pc = .ok (.ifCond .gt off, 3)) (ht : (pc : Int) + off = (tgt : Int)) (kt : GX L K X nL rk tgt lv st σ e) (kf : GX L K X nL rk (pc + 3) lv st σ f) : GX L K X nL rk pc lv (vI x :: st) σ (cLt 0 x e f) := by
  intro r hr H locs ls h1 h2 h3
  unfold cLt at hr
  split at hr
  · rename_i hxy
    have hx : inR x := hxy.2
    have hy : inR 0 := hxy.1
    have hz : iI 0 = (0 : Int32) := iI_0
    have hc : iI 0 < iI x ↔ 0 < x := iI_lt hy hx
    rw [hz] at hc
    refine lv_if_gt O.1 O.2.1 hd ht (fun c => ?_) (fun c => ?_)
    · rw [if_pos (hc.mp c)] at hr
      exact kt r hr H locs ls h1 h2 h3
    · rw [if_neg (fun q => c (hc.mpr q))] at hr
      exact kf r hr H locs ls h1 h2 h3
  · cases hr
theorem g_icmp_le (O : OKx L K X own cc nL) {x y : Int} {off : Int} {tgt : Nat} (hd : decode cc pc = .ok (.if_icmp .le off, 3)) (ht : (pc : Int) + off = (tgt : Int)) (kt : GX L K X nL rk tgt lv st σ e) (kf : GX L K X nL rk (pc + 3) lv st σ f) : GX L K X nL rk pc lv (vI y :: vI x :: st) σ (cLt y x f e) := by
  intro r hr H locs ls h1 h2 h3
  unfold cLt at hr
  split at hr
  · rename_i hxy
    have hx : inR x := hxy.2
    have hy : inR y := hxy.1
    have hz : True := trivial
    have hc : iI x ≤ iI y ↔ x ≤ y := iI_le hx hy
    refine lv_icmp_le O.1 O.2.1 hd ht (fun c => ?_) (fun c => ?_)
    · rw [if_neg (by have := hc.mp c; omega)] at hr
      exact kt r hr H locs ls h1 h2 h3
    · rw [if_pos (by have := mt hc.mpr c; omega)] at hr
      exact kf r hr H locs ls h1 h2 h3
  · cases hr
theorem g_if_le (O : OKx L K X own cc nL) {x : Int} {off : Int} {tgt : Nat} (hd : decode cc pc = .ok (.ifCond .le off, 3)) (ht : (pc : Int) + off = (tgt : Int)) (kt : GX L K X nL rk tgt lv st σ e) (kf : GX L K X nL rk (pc + 3) lv st σ f) : GX L K X nL rk pc lv (vI x :: st) σ (cLt 0 x f e) := by
  intro r hr H locs ls h1 h2 h3
  unfold cLt at hr
  split at hr
  · rename_i hxy
    have hx : inR x := hxy.2
    have hy : inR 0 := hxy.1
    have hz : iI 0 = (0 : Int32) := iI_0
    have hc : iI x ≤ iI 0 ↔ x ≤ 0 := iI_le hx hy
    rw [hz] at hc
    refine lv_if_le O.1 O.2.1 hd ht (fun c => ?_) (fun c => ?_)
    · rw [if_neg (by have := hc.mp c; omega)] at hr
      exact kt r hr H locs ls h1 h2 h3
    · rw [if_pos (by have := mt hc.mpr c; omega)] at hr
      exact kf r hr H locs ls h1 h2 h3
  · cases hr
theorem g_icmp_eq (O : OKx L K X own cc nL) {x y : Int} {off : Int} {tgt : Nat} (hd : decode cc pc = .ok (.if_icmp .eq off, 3)) (ht : (pc : Int) + off = (tgt : Int)) (kt : GX L K X nL rk tgt lv st σ e) (kf : GX L K X nL rk (pc + 3) lv st σ f) : GX L K X nL rk pc lv (vI y :: vI x :: st) σ (cEq x y e f) := by
  intro r hr H locs ls h1 h2 h3
  unfold cEq at hr
  split at hr
  · rename_i hxy
    have hx : inR x := hxy.1
    have hy : inR y := hxy.2
    have hz : True := trivial
    have hc : iI x = iI y ↔ x = y := iI_eq hx hy
    refine lv_icmp_eq O.1 O.2.1 hd ht (fun c => ?_) (fun c => ?_)
    · rw [if_pos (hc.mp c)] at hr
      exact kt r hr H locs ls h1 h2 h3
    · rw [if_neg (fun q => c (hc.mpr q))] at hr
      exact kf r hr H locs ls h1 h2 h3
  · cases hr
theorem g_if_eq (O : OKx L K X own cc nL) {x : Int} {off : Int} {tgt : Nat} (hd : decode cc pc = .ok (.ifCond .eq off, 3)) (ht : (pc : Int) + off = (tgt : Int)) (kt : GX L K X nL rk tgt lv st σ e) (kf : GX L K X nL rk (pc + 3) lv st σ f) : GX L K X nL rk pc lv (vI x :: st) σ (cEq x 0 e f) := by
  intro r hr H locs ls h1 h2 h3
  unfold cEq at hr
  split at hr
  · rename_i hxy
    have hx : inR x := hxy.1
    have hy : inR 0 := hxy.2
    have hz : iI 0 = (0 : Int32) := iI_0
    have hc : iI x = iI 0 ↔ x = 0 := iI_eq hx hy
    rw [hz] at hc
    refine lv_if_eq O.1 O.2.1 hd ht (fun c => ?_) (fun c => ?_)
    · rw [if_pos (hc.mp c)] at hr
      exact kt r hr H locs ls h1 h2 h3
    · rw [if_neg (fun q => c (hc.mpr q))] at hr
      exact kf r hr H locs ls h1 h2 h3
  · cases hr
theorem g_icmp_ne (O : OKx L K X own cc nL) {x y : Int} {off : Int} {tgt : Nat} (hd : decode cc pc = .ok (.if_icmp .ne off, 3)) (ht : (pc : Int) + off = (tgt : Int)) (kt : GX L K X nL rk tgt lv st σ e) (kf : GX L K X nL rk (pc + 3) lv st σ f) : GX L K X nL rk pc lv (vI y :: vI x :: st) σ (cEq x y f e) := by
  intro r hr H locs ls h1 h2 h3
  unfold cEq at hr
  split at hr
  · rename_i hxy
    have hx : inR x := hxy.1
    have hy : inR y := hxy.2
    have hz : True := trivial
    have hc : ¬ iI x = iI y ↔ ¬ x = y := not_congr (iI_eq hx hy)
    refine lv_icmp_ne O.1 O.2.1 hd ht (fun c => ?_) (fun c => ?_)
    · rw [if_neg (hc.mp c)] at hr
      exact kt r hr H locs ls h1 h2 h3
    · rw [if_pos (Decidable.byContradiction fun q => (hc.mpr q) c)] at hr
      exact kf r hr H locs ls h1 h2 h3
  · cases hr
theorem g_if_ne (O : OKx L K X own cc nL) {x : Int} {off : Int} {tgt : Nat} (hd : decode cc pc = .ok (.ifCond .ne off, 3)) (ht : (pc : Int) + off = (tgt : Int)) (kt : GX L K X nL rk tgt lv st σ e) (kf : GX L K X nL rk (pc + 3) lv st σ f) : GX L K X nL rk pc lv (vI x :: st) σ (cEq x 0 f e) := by
  intro r hr H locs ls h1 h2 h3
  unfold cEq at hr
  split at hr
  · rename_i hxy
    have hx : inR x := hxy.1
    have hy : inR 0 := hxy.2
    have hz : iI 0 = (0 : Int32) := iI_0
    have hc : ¬ iI x = iI 0 ↔ ¬ x = 0 := not_congr (iI_eq hx hy)
    rw [hz] at hc
    refine lv_if_ne O.1 O.2.1 hd ht (fun c => ?_) (fun c => ?_)
    · rw [if_neg (hc.mp c)] at hr
      exact kt r hr H locs ls h1 h2 h3
    · rw [if_pos (Decidable.byContradiction fun q => (hc.mpr q) c)] at hr
      exact kf r hr H locs ls h1 h2 h3
  · cases hr
end GROWS
