/-! rows of cells, of returns, of calls -/
section GCELLS
variable {L : Shp} {K : Cx} {X : Wx} {nL rk pc : Nat} {lv : List (Nat × AV)} {st : List AV} {σ : St} {e f : Rs} {own : String} {cc : ByteArray}
/-- a field as a class's code names it: its link, and its place -/
def Fw (own : String) (idx ci k : Nat) (ty : FieldType) (fin : Bool) : Prop := ∃ (C : String) (T : u_T) (N : Nat) (ty0 : Nat → FieldType), vwCl[ci]? = some (C, T, N) ∧ k < N ∧ Cond.fieldLink own idx (T k).1 (T k).2.1 (T k).2.2.1 ∈ wsL_law ∧ (∀ w ∈ u_ws C T N, w ∈ wsL_law) ∧ (∀ k, k < N → parseFieldDescriptor (T k).2.2.1 = some (ty0 k)) ∧ (∀ a, a < N → ∀ b, b < N → a ≠ b → (T a).2.1 ≠ (T b).2.1) ∧ parseFieldDescriptor (T k).2.2.1 = some ty ∧ (T k).2.2.2 = fin
theorem g_getV (O : OKx L K X own cc nL) {idx ci k a n : Nat} {ty : FieldType} {fin : Bool} {fs : List (Option Nat)} {v : AV} (hw : Fw own idx ci k ty fin) (hc : L[a]? = some (10 + ci, n, fs)) (hd : decode cc pc = .ok (.getfield idx, 3)) (hv : (fs.mapIdx (fE (xr X) σ a))[k]? = some (tv (xr X) v)) (kk : GX L K X nL rk (pc + 3) lv (v :: st) σ e) : GX L K X nL rk pc lv (vR a :: st) σ e := by
  obtain ⟨C, T, N, ty0, q1, q2, q3, q4, -⟩ := hw
  intro r hr H locs ls h1 h2 h3
  refine va_get (ws := wm L (xr X) (xc X) σ) O.1 O.2.1 O.2.2.2.2.1 q4 O.2.2.2.1 O.2.2.2.2.2.1 h2 a (ci := ci) (fs := fs.mapIdx (fE (xr X) σ a)) ?_ q1 k q2 (O.2.2.2.2.1 _ q3) (fun _ h => h) hv hd (kk r hr H locs ls h1 h2 h3)
  rw [wm_get hc, cE_obj]
theorem g_getI (O : OKx L K X own cc nL) {idx ci k a n : Nat} {ty : FieldType} {fin : Bool} {fs : List (Option Nat)} (hw : Fw own idx ci k ty fin) (hc : L[a]? = some (10 + ci, n, fs)) (hd : decode cc pc = .ok (.getfield idx, 3)) (hk : fs[k]? = some none) (kk : GX L K X nL rk (pc + 3) lv (vI (σ a k) :: st) σ e) : GX L K X nL rk pc lv (vR a :: st) σ e :=
  g_getV O hw hc hd (v := vI (σ a k)) (by rw [List.getElem?_mapIdx, hk]; rfl) kk
theorem g_getR (O : OKx L K X own cc nL) {idx ci k a n b : Nat} {ty : FieldType} {fin : Bool} {fs : List (Option Nat)} (hw : Fw own idx ci k ty fin) (hc : L[a]? = some (10 + ci, n, fs)) (hd : decode cc pc = .ok (.getfield idx, 3)) (hk : fs[k]? = some (some b)) (kk : GX L K X nL rk (pc + 3) lv (vR b :: st) σ e) : GX L K X nL rk pc lv (vR a :: st) σ e :=
  g_getV O hw hc hd (v := vR b) (by rw [List.getElem?_mapIdx, hk]; rfl) kk
theorem g_putI (O : OKx L K X own cc nL) {idx ci k a n : Nat} {ty : FieldType} {fs : List (Option Nat)} {v : Int} {g : St → Rs} (hw : Fw own idx ci k ty false) (hc : L[a]? = some (10 + ci, n, fs)) (hd : decode cc pc = .ok (.putfield idx, 3)) (hk : fs[k]? = some none) (hn : narrow ty (.int (iI v)) = .int (iI v)) (hf : fits ty (.int (iI v)) = true) (kk : ∀ σ1 : St, GX L K X nL rk (pc + 3) lv st σ1 (g σ1)) : GX L K X nL rk pc lv (vI v :: vR a :: st) σ (put σ a k v g) := by
  obtain ⟨C, T, N, ty0, q1, q2, q3, q4, q5, q6, q7, q8⟩ := hw
  intro r hr H locs ls h1 h2 h3
  have hkl : k < fs.length := (List.getElem?_eq_some_iff.mp hk).1
  refine va_put (ws := wm L (xr X) (xc X) σ) O.1 O.2.1 O.2.2.2.2.1 q4 ty0 q5 q6 O.2.2.2.1 O.2.2.2.2.2.1 h2 (wm_D O.2.2.2.2.2.2.1) h3 a (ci := ci) (fs := fs.mapIdx (fE (xr X) σ a)) ?_ q1 k q2 (O.2.2.2.2.1 _ q3) (fun _ h => h) q8 q7 hn hf (by rw [List.length_mapIdx]; exact hkl) hd (fun H1 locs1 hP hD hS => ?_)
  · rw [wm_get hc, cE_obj]
  · have e1 : (fs.mapIdx (fE (xr X) σ a)).set k (.int (iI v)) = fs.mapIdx (fE (xr X) (up σ a k v) a) := by
      apply List.ext_getElem?
      intro j
      by_cases hj : j = k
      · subst hj
        rw [List.getElem?_set_self (by rw [List.length_mapIdx]; exact hkl), List.getElem?_mapIdx, hk]
        simp [fE, up]
      · rw [List.getElem?_set_ne (Ne.symm hj), List.getElem?_mapIdx, List.getElem?_mapIdx]
        cases fs[j]? with
        | none => rfl
        | some f =>
          cases f with
          | none => simp [fE, up, hj]
          | some b => simp [fE]
    refine kk _ r hr H1 locs1 ls h1 ?_ hS
    unfold WP
    rw [← wm_set hc (fun b hb => up_ne (σ := σ) (a := a) (i := k) (v := v) hb), cE_obj, ← e1]
    exact hP
/-- arrays of ints, bytes, booleans -/
theorem g_iald (O : OKx L K X own cc nL) {a n : Nat} {fs : List (Option Nat)} {i : Int} {k : Int → Rs} (hc : L[a]? = some (0, n, fs)) (hn : n ≤ 2147483648) (hd : decode cc pc = .ok (.iaload, 1)) (kk : ∀ v : Int, GX L K X nL rk (pc + 1) lv (vI v :: st) σ (k v)) : GX L K X nL rk pc lv (vI i :: vR a :: st) σ (rd σ a n i k) := by
  intro r hr H locs ls h1 h2 h3
  unfold rd at hr
  split at hr
  · rename_i hi
    have hcl := iI_cl hi hn
    refine va_iald O.1 O.2.1 O.2.2.2.2.2.1 h2 a 0 (n := n) (f := fun j => iI (σ a j)) (by rw [wm_get hc, cE_arr (by decide)]) rfl (iI_vp hi hn) hd ?_
    rw [hcl]
    exact kk _ r hr H locs ls h1 h2 h3
  · cases hr
theorem g_bald (O : OKx L K X own cc nL) {a n : Nat} {fs : List (Option Nat)} {i : Int} {k : Int → Rs} (hc : L[a]? = some (1, n, fs)) (hn : n ≤ 2147483648) (hd : decode cc pc = .ok (.baload, 1)) (kk : ∀ v : Int, GX L K X nL rk (pc + 1) lv (vI v :: st) σ (k v)) : GX L K X nL rk pc lv (vI i :: vR a :: st) σ (rd σ a n i k) := by
  intro r hr H locs ls h1 h2 h3
  unfold rd at hr
  split at hr
  · rename_i hi
    have hcl := iI_cl hi hn
    refine va_bald O.1 O.2.1 O.2.2.2.2.2.1 h2 a 1 (n := n) (f := fun j => iI (σ a j)) (by rw [wm_get hc, cE_arr (by decide)]) rfl (iI_vp hi hn) hd ?_
    rw [hcl]
    exact kk _ r hr H locs ls h1 h2 h3
  · cases hr
theorem g_zald (O : OKx L K X own cc nL) {a n : Nat} {fs : List (Option Nat)} {i : Int} {k : Int → Rs} (hc : L[a]? = some (2, n, fs)) (hn : n ≤ 2147483648) (hd : decode cc pc = .ok (.baload, 1)) (kk : ∀ v : Int, GX L K X nL rk (pc + 1) lv (vI v :: st) σ (k v)) : GX L K X nL rk pc lv (vI i :: vR a :: st) σ (rd σ a n i k) := by
  intro r hr H locs ls h1 h2 h3
  unfold rd at hr
  split at hr
  · rename_i hi
    have hcl := iI_cl hi hn
    refine va_zald O.1 O.2.1 O.2.2.2.2.2.1 h2 a 2 (n := n) (f := fun j => iI (σ a j)) (by rw [wm_get hc, cE_arr (by decide)]) rfl (iI_vp hi hn) hd ?_
    rw [hcl]
    exact kk _ r hr H locs ls h1 h2 h3
  · cases hr
theorem wm_arr {ρ : Nat → Nat} {ca : Nat → ClassId} {a kd n : Nat} {fs : List (Option Nat)} {i : Int} {v : Int} {x : Int32} (hc : L[a]? = some (kd, n, fs)) (hk : kd < 3) (hi : 0 ≤ i ∧ i < n) (hn : n ≤ 2147483648) (hx : x = iI v) : (wm L ρ ca σ).set a (ρ a, .inl (ca kd, n, .inl (upd (fun j => iI (σ a j)) (iI i).toNatClampNeg x))) = wm L ρ ca (up σ a i.toNat v) := by
  rw [← wm_set hc (fun b hb => up_ne (σ := σ) (a := a) (i := i.toNat) (v := v) hb), cE_arr hk, iI_cl hi hn]
  have e1 : upd (fun j => iI (σ a j)) i.toNat x = fun j => iI (up σ a i.toNat v a j) := by
    funext j
    by_cases hj : j = i.toNat
    · subst hj; simp [upd, up, hx]
    · simp [upd, up, hj]
  rw [e1]
theorem g_iast (O : OKx L K X own cc nL) {a n : Nat} {fs : List (Option Nat)} {i v : Int} {k : St → Rs} (hc : L[a]? = some (0, n, fs)) (hn : n ≤ 2147483648) (hd : decode cc pc = .ok (.iastore, 1)) (kk : ∀ σ1 : St, GX L K X nL rk (pc + 1) lv st σ1 (k σ1)) : GX L K X nL rk pc lv (vI v :: vI i :: vR a :: st) σ (wr σ a n i v k) := by
  intro r hr H locs ls h1 h2 h3
  unfold wr at hr
  split at hr
  · rename_i hi
    refine va_iast O.1 O.2.1 O.2.2.2.2.2.1 h2 (wm_D O.2.2.2.2.2.2.1) h3 a 0 (n := n) (f := fun j => iI (σ a j)) (by rw [wm_get hc, cE_arr (by decide)]) rfl (iI_vp hi hn) hd (fun H1 locs1 hP hD hS => ?_)
    refine kk _ r hr H1 locs1 ls h1 ?_ hS
    unfold WP
    rw [← wm_arr hc (by decide) hi hn rfl]
    exact hP
  · cases hr
theorem g_bast (O : OKx L K X own cc nL) {a n : Nat} {fs : List (Option Nat)} {i v : Int} {k : St → Rs} (hc : L[a]? = some (1, n, fs)) (hn : n ≤ 2147483648) (hd : decode cc pc = .ok (.bastore, 1)) (kk : ∀ σ1 : St, GX L K X nL rk (pc + 1) lv st σ1 (k σ1)) : GX L K X nL rk pc lv (vI v :: vI i :: vR a :: st) σ (wr σ a n i (nb8 v) k) := by
  intro r hr H locs ls h1 h2 h3
  unfold wr at hr
  split at hr
  · rename_i hi
    refine va_bast O.1 O.2.1 O.2.2.2.2.2.1 h2 (wm_D O.2.2.2.2.2.2.1) h3 a 1 (n := n) (f := fun j => iI (σ a j)) (by rw [wm_get hc, cE_arr (by decide)]) rfl (iI_vp hi hn) hd (fun H1 locs1 hP hD hS => ?_)
    refine kk _ r hr H1 locs1 ls h1 ?_ hS
    unfold WP
    rw [← wm_arr (x := vp_nar .byte (iI v)) hc (by decide) hi hn (by rw [vp_nar_byte]; exact (iI_back _).symm)]
    exact hP
  · cases hr
theorem g_zast (O : OKx L K X own cc nL) {a n : Nat} {fs : List (Option Nat)} {i v : Int} {k : St → Rs} (hc : L[a]? = some (2, n, fs)) (hn : n ≤ 2147483648) (hd : decode cc pc = .ok (.bastore, 1)) (kk : ∀ σ1 : St, GX L K X nL rk (pc + 1) lv st σ1 (k σ1)) : GX L K X nL rk pc lv (vI v :: vI i :: vR a :: st) σ (wr σ a n i (nb1 v) k) := by
  intro r hr H locs ls h1 h2 h3
  unfold wr at hr
  split at hr
  · rename_i hi
    refine va_zast O.1 O.2.1 O.2.2.2.2.2.1 h2 (wm_D O.2.2.2.2.2.2.1) h3 a 2 (n := n) (f := fun j => iI (σ a j)) (by rw [wm_get hc, cE_arr (by decide)]) rfl (iI_vp hi hn) hd (fun H1 locs1 hP hD hS => ?_)
    refine kk _ r hr H1 locs1 ls h1 ?_ hS
    unfold WP
    rw [← wm_arr (v := nb1 v) (x := vp_nar .boolean (iI v)) hc (by decide) hi hn (iI_back _).symm]
    exact hP
  · cases hr
/-- rows of rows, and of objects -/
theorem g_aald (O : OKx L K X own cc nL) {a n kd : Nat} {fs : List (Option Nat)} {i : Int} {k : Nat → Rs} {g : Nat → Nat} (hc : L[a]? = some (kd, n, fs)) (hk : 3 ≤ kd) (hk2 : kd < 7) (hn : n ≤ 2147483648) (hg : ∀ j, j < n → fs[j]? = some (some (g j))) (hd : decode cc pc = .ok (.aaload, 1)) (kk : ∀ j : Nat, j < n → GX L K X nL rk (pc + 1) lv (vR (g j) :: st) σ (k j)) : GX L K X nL rk pc lv (vI i :: vR a :: st) σ (rdR n i k) := by
  intro r hr H locs ls h1 h2 h3
  unfold rdR at hr
  split at hr
  · rename_i hi
    have hin : i.toNat < n := by omega
    have hcl := iI_cl hi hn
    have hcell : H[xr X a]? = some (vp_cell (xc X kd) (n, .inr (.inr (.inr (.inr (fun i => (fs.getD i none).map (xr X))))))) := by
      have := h2 a _ (wm_get hc)
      rw [cE_ref (by omega) (by omega)] at this
      exact this
    have hty : ∃ ty : FieldType, ty.isReference = true ∧ (tysOf (xc X))[kd]? = some (xc X kd, ty) := by
      rcases (show kd = 3 ∨ kd = 4 ∨ kd = 5 ∨ kd = 6 by omega) with rfl | rfl | rfl | rfl
      · exact ⟨_, rfl, rfl⟩
      · exact ⟨_, rfl, rfl⟩
      · exact ⟨_, rfl, rfl⟩
      · exact ⟨_, rfl, rfl⟩
    obtain ⟨ty, ht1, ht2⟩ := hty
    refine W.aald (v := .ref (xr X (g i.toNat))) O.1 O.2.1 hcell ((O.2.2.2.2.2.1.2 kd _ ht2).1 n (fun j => va_rf ((fs.getD j none).map (xr X)))) ht1 (fun q => by cases q) (by rw [vp_cell_q, arrV_size]; exact iI_vp hi hn) ?_ rfl rfl hd (kk _ hin r hr H locs ls h1 h2 h3)
    rw [hcl, vp_cell_q, arrV_read _ _ hin]
    simp [List.getD, hg _ hin, va_rf]
  · cases hr
theorem g_alen (O : OKx L K X own cc nL) {a n : Nat} {fs : List (Option Nat)} (hc : L[a]? = some (0, n, fs)) (hd : decode cc pc = .ok (.arraylength, 1)) (kk : GX L K X nL rk (pc + 1) lv (vI (n : Int) :: st) σ e) : GX L K X nL rk pc lv (vR a :: st) σ e :=
  fun r hr H locs ls h1 h2 h3 => va_alen O.1 O.2.1 O.2.2.2.2.2.1 h2 a 0 (by rw [wm_get hc, cE_arr (by decide)]) rfl (show Int32.ofNat n = iI (n : Int) from Int32.ofInt_eq_ofNat.symm) hd (kk r hr H locs ls h1 h2 h3)
theorem g_copy (O : OKx L K X own cc nL) {idx a b na nb : Nat} {fa fb : List (Option Nat)} {sp dp n : Int} {k : St → Rs} (hw : Cond.methodLink own idx arraycopyName ∈ wsL_law) (w2 : Cond.native arraycopyName ∈ wsL_law) (w3 : Cond.static arraycopyName ∈ wsL_law) (w4 : Cond.initialized "java/lang/System" ∈ wsL_law) (hca : L[a]? = some (0, na, fa)) (hcb : L[b]? = some (0, nb, fb)) (hna : na ≤ 2147483647) (hnb : nb ≤ 2147483647) (hfr : 1 ≤ (kR K).frames) (hlo : ((st.map (tv (xr X))).map fun v => v.category).sum + (nativeFrameWords "java/lang/System" "arraycopy" 5 + 11) ≤ (kR K).locals) (hd : decode cc pc = .ok (.invokestatic idx, 3)) (kk : ∀ σ1 : St, GX L K X nL rk (pc + 3) lv st σ1 (k σ1)) : GX L K X nL rk pc lv (vI n :: vI dp :: vR b :: vI sp :: vR a :: st) σ (cpA σ a na sp b nb dp n k) := by
  intro r hr H locs ls h1 h2 h3
  unfold cpA at hr
  split at hr
  · rename_i hi
    obtain ⟨i1, i2, i3, i4, i5⟩ := hi
    have r1 : inR sp := ⟨by omega, by omega⟩
    have r2 : inR dp := ⟨by omega, by omega⟩
    have r3 : inR n := ⟨by omega, by omega⟩
    have r0 : inR 0 := ⟨by omega, by omega⟩
    have c1 : (iI sp).toNatClampNeg = sp.toNat := by show (iI sp).toInt.toNat = _; rw [iI_in r1]
    have c2 : (iI dp).toNatClampNeg = dp.toNat := by show (iI dp).toInt.toNat = _; rw [iI_in r2]
    have c3 : (iI n).toNatClampNeg = n.toNat := by show (iI n).toInt.toNat = _; rw [iI_in r3]
    have ng : ∀ z : Int, inR z → 0 ≤ z → ¬ iI z < 0 := fun z hz h0 q => by
      rw [← iI_0, iI_lt hz r0] at q
      omega
    refine va_copyi O.1 O.2.1 (O.2.2.1.trans h1.1.symm) O.2.2.2.1 (O.2.2.2.2.1 _ hw) (O.2.2.2.2.1 _ w2) (O.2.2.2.2.1 _ w3) (O.2.2.2.2.1 _ w4) O.2.2.2.2.2.1 h2 (wm_D O.2.2.2.2.2.2.1) h3 a b 0 0 (n0 := na) (n1 := nb) (f := fun j => iI (σ a j)) (g := fun j => iI (σ b j)) (by rw [wm_get hca, cE_arr (by decide)]) (by rw [wm_get hcb, cE_arr (by decide)]) rfl rfl rfl (ng sp r1 i1) (ng dp r2 i2) (ng n r3 i3) (by rw [c1, c3]; omega) (by rw [c2, c3]; omega) (fun i hi => rfl) hfr hlo hd (fun H1 locs1 hP hD hS => ?_)
    refine kk _ r hr H1 locs1 ls h1 ?_ hS
    unfold WP
    rw [← wm_set hcb (fun c hcne => cpy_ne (σ := σ) (a := a) (sp := sp.toNat) (b := b) (dp := dp.toNat) (n := n.toNat) hcne), cE_arr (by decide)]
    rw [c1, c2, c3] at hP
    have e1 : va_cpy (fun j => iI (σ a j)) (fun j => iI (σ b j)) sp.toNat dp.toNat n.toNat = fun j => iI (cpy σ a sp.toNat b dp.toNat n.toNat b j) := by
      funext j
      by_cases hj : dp.toNat ≤ j ∧ j < dp.toNat + n.toNat
      · unfold va_cpy cpy
        rw [if_pos hj, if_pos ⟨rfl, hj.1, hj.2⟩]
      · unfold va_cpy cpy
        rw [if_neg hj, if_neg (fun q => hj ⟨q.2.1, q.2.2⟩)]
    rw [← e1]
    exact hP
  · cases hr
theorem g_min (O : OKx L K X own cc nL) {idx : Nat} {x y : Int} {k : Int → Rs} (hw : Cond.methodLink own idx Lib.Math.min.name ∈ wsL_law) (w2 : Cond.static Lib.Math.min.name ∈ wsL_law) (w3 : Cond.initialized "java/lang/Math" ∈ wsL_law) (w4 : Cond.code Lib.Math.min.name Lib.Math.min.code 2 (some .int) ∈ wsL_law) (hfr : 1 ≤ (kR K).frames) (hlo : ((st.map (tv (xr X))).map fun v => v.category).sum + 13 ≤ (kR K).locals) (hd : decode cc pc = .ok (.invokestatic idx, 3)) (kk : ∀ v : Int, GX L K X nL rk (pc + 3) lv (vI v :: st) σ (k v)) : GX L K X nL rk pc lv (vI y :: vI x :: st) σ (mMin x y k) := by
  intro r hr H locs ls h1 h2 h3
  unfold mMin at hr
  split at hr
  · rename_i hxy
    refine va_mmin O.1 O.2.1 (O.2.2.1.trans h1.1.symm) O.2.2.2.1 (O.2.2.2.2.1 _ hw) (O.2.2.2.2.1 _ w2) (O.2.2.2.2.1 _ w3) (O.2.2.2.2.1 _ w4) hfr hlo (Nat.zero_le _) (Nat.zero_le _) hd ?_
    have z := kk _ r hr H locs ls h1 h2 h3
    by_cases c : y < x
    · rw [if_pos ((iI_lt hxy.2 hxy.1).mpr c)]
      rw [if_pos c] at z
      exact z
    · rw [if_neg (fun q => c ((iI_lt hxy.2 hxy.1).mp q))]
      rw [if_neg c] at z
      exact z
  · cases hr
theorem g_abs (O : OKx L K X own cc nL) {idx : Nat} {x : Int} {k : Int → Rs} (hw : Cond.methodLink own idx Lib.Math.abs.name ∈ wsL_law) (w2 : Cond.static Lib.Math.abs.name ∈ wsL_law) (w3 : Cond.initialized "java/lang/Math" ∈ wsL_law) (w4 : Cond.code Lib.Math.abs.name Lib.Math.abs.code 1 (some .int) ∈ wsL_law) (hfr : 1 ≤ (kR K).frames) (hlo : ((st.map (tv (xr X))).map fun v => v.category).sum + 13 ≤ (kR K).locals) (hd : decode cc pc = .ok (.invokestatic idx, 3)) (kk : ∀ v : Int, GX L K X nL rk (pc + 3) lv (vI v :: st) σ (k v)) : GX L K X nL rk pc lv (vI x :: st) σ (mAbs x k) := by
  intro r hr H locs ls h1 h2 h3
  unfold mAbs at hr
  split at hr
  · rename_i hxy
    refine va_mabs O.1 O.2.1 (O.2.2.1.trans h1.1.symm) O.2.2.2.1 (O.2.2.2.2.1 _ hw) (O.2.2.2.2.1 _ w2) (O.2.2.2.2.1 _ w3) (O.2.2.2.2.1 _ w4) hfr hlo (Nat.zero_le _) (Nat.zero_le _) hd ?_
    have z := kk _ r hr H locs ls h1 h2 h3
    have r0 : inR 0 := ⟨by omega, by omega⟩
    by_cases c : x < 0
    · rw [if_pos c] at z
      have q : iI (-x) = 0 - iI x := by
        rw [show (-x) = 0 - x by omega]
        exact (Int32.ofInt_sub 0 x).trans (by rw [show Int32.ofInt 0 = (0 : Int32) by decide]; rfl)
      rw [if_neg (by intro q; rw [← iI_0, iI_le r0 hxy.1] at q; omega), ← q]
      exact z
    · rw [if_neg c] at z
      rw [if_pos (by rw [← iI_0, iI_le r0 hxy.1]; omega)]
      exact z
  · cases hr
theorem g_idiv (O : OKx L K X own cc nL) {x y : Int} {k : Int → Rs} (hd : decode cc pc = .ok (.idiv, 1)) (kk : ∀ v : Int, GX L K X nL rk (pc + 1) lv (vI v :: st) σ (k v)) : GX L K X nL rk pc lv (vI y :: vI x :: st) σ (dv x y k) := by
  intro r hr H locs ls h1 h2 h3
  unfold dv at hr
  split at hr
  · rename_i h
    have r0 : inR 0 := ⟨by omega, by omega⟩
    have hy : ¬ iI y = 0 := by rw [← iI_0, iI_eq h.2.1 r0]; exact h.2.2
    refine lv_idiv O.1 O.2.1 hd hy ?_
    have q : iI (x.tdiv y) = iI x / iI y := Int32.toInt_inj.mp (by rw [Int32.toInt_div, iI_in h.1, iI_in h.2.1]; exact Int32.toInt_ofInt)
    have z := kk _ r hr H locs ls h1 h2 h3
    have z2 : tv (xr X) (vI (x.tdiv y)) = .int (iI (x.tdiv y)) := rfl
    rw [List.map_cons, z2, q] at z
    exact z
  · cases hr
theorem g_irem (O : OKx L K X own cc nL) {x y : Int} {k : Int → Rs} (hd : decode cc pc = .ok (.irem, 1)) (kk : ∀ v : Int, GX L K X nL rk (pc + 1) lv (vI v :: st) σ (k v)) : GX L K X nL rk pc lv (vI y :: vI x :: st) σ (rm x y k) := by
  intro r hr H locs ls h1 h2 h3
  unfold rm at hr
  split at hr
  · rename_i h
    have r0 : inR 0 := ⟨by omega, by omega⟩
    have hy : ¬ iI y = 0 := by rw [← iI_0, iI_eq h.2.1 r0]; exact h.2.2
    refine lv_irem O.1 O.2.1 hd hy ?_
    have q0 : iI (x.tdiv y) = iI x / iI y := Int32.toInt_inj.mp (by rw [Int32.toInt_div, iI_in h.1, iI_in h.2.1]; exact Int32.toInt_ofInt)
    have q : iI (x.tmod y) = iI x - iI x / iI y * iI y := by
      rw [← q0, Int.tmod_def, Int.mul_comm y]
      exact (Int32.ofInt_sub _ _).trans (congrArg (fun w => iI x - w) (Int32.ofInt_mul _ _))
    have z := kk _ r hr H locs ls h1 h2 h3
    have z2 : tv (xr X) (vI (x.tmod y)) = .int (iI (x.tmod y)) := rfl
    rw [List.map_cons, z2, q] at z
    exact z
  · cases hr
theorem iL_0 : iL 0 = 0 := by decide +kernel
theorem iL_eq {x y : Int} (hx : inRL x) (hy : inRL y) : iL x = iL y ↔ x = y := by rw [← Int64.toInt_inj, iL_in hx, iL_in hy]
theorem iL_lt {x y : Int} (hx : inRL x) (hy : inRL y) : iL x < iL y ↔ x < y := by rw [Int64.lt_iff_toInt_lt, iL_in hx, iL_in hy]
theorem g_ldiv (O : OKx L K X own cc nL) {x y : Int} {k : Int → Rs} (hd : decode cc pc = .ok (.ldiv, 1)) (kk : ∀ v : Int, GX L K X nL rk (pc + 1) lv (vL v :: st) σ (k v)) : GX L K X nL rk pc lv (vL y :: vL x :: st) σ (dvL x y k) := by
  intro r hr H locs ls h1 h2 h3
  unfold dvL at hr
  split at hr
  · rename_i h
    have r0 : inRL 0 := ⟨by omega, by omega⟩
    have hy : ¬ iL y = 0 := by rw [← iL_0, iL_eq h.2.1 r0]; exact h.2.2
    refine lv_ldiv O.1 O.2.1 hd hy ?_
    have q : iL (x.tdiv y) = iL x / iL y := Int64.toInt_inj.mp (by rw [Int64.toInt_div, iL_in h.1, iL_in h.2.1]; exact Int64.toInt_ofInt)
    have z := kk _ r hr H locs ls h1 h2 h3
    have z2 : tv (xr X) (vL (x.tdiv y)) = .long (iL (x.tdiv y)) := rfl
    rw [List.map_cons, z2, q] at z
    exact z
  · cases hr
theorem g_lrem (O : OKx L K X own cc nL) {x y : Int} {k : Int → Rs} (hd : decode cc pc = .ok (.lrem, 1)) (kk : ∀ v : Int, GX L K X nL rk (pc + 1) lv (vL v :: st) σ (k v)) : GX L K X nL rk pc lv (vL y :: vL x :: st) σ (rmL x y k) := by
  intro r hr H locs ls h1 h2 h3
  unfold rmL at hr
  split at hr
  · rename_i h
    have r0 : inRL 0 := ⟨by omega, by omega⟩
    have hy : ¬ iL y = 0 := by rw [← iL_0, iL_eq h.2.1 r0]; exact h.2.2
    refine lv_lrem O.1 O.2.1 hd hy ?_
    have q0 : iL (x.tdiv y) = iL x / iL y := Int64.toInt_inj.mp (by rw [Int64.toInt_div, iL_in h.1, iL_in h.2.1]; exact Int64.toInt_ofInt)
    have q : iL (x.tmod y) = iL x - iL x / iL y * iL y := by
      rw [← q0, Int.tmod_def, Int.mul_comm y]
      exact (Int64.ofInt_sub _ _).trans (congrArg (fun w => iL x - w) (Int64.ofInt_mul _ _))
    have z := kk _ r hr H locs ls h1 h2 h3
    have z2 : tv (xr X) (vL (x.tmod y)) = .long (iL (x.tmod y)) := rfl
    rw [List.map_cons, z2, q] at z
    exact z
  · cases hr
theorem g_lcmp (O : OKx L K X own cc nL) {x y : Int} {k : Int → Rs} (hd : decode cc pc = .ok (.lcmp, 1)) (kk : ∀ v : Int, GX L K X nL rk (pc + 1) lv (vI v :: st) σ (k v)) : GX L K X nL rk pc lv (vL y :: vL x :: st) σ (lcm x y k) := by
  intro r hr H locs ls h1 h2 h3
  unfold lcm at hr
  split at hr
  · rename_i h
    refine W.lcmp O.1 O.2.1 hd ?_
    have q : iI (if y < x then 1 else if x = y then 0 else -1) = lg_cmp (iL x) (iL y) := by
      unfold lg_cmp
      simp only [gt_iff_lt, iL_lt h.2 h.1, iL_eq h.1 h.2]
      split
      · decide +kernel
      · split <;> decide +kernel
    have z := kk _ r hr H locs ls h1 h2 h3
    have z2 : tv (xr X) (vI (if y < x then 1 else if x = y then 0 else -1)) = .int (iI (if y < x then 1 else if x = y then 0 else -1)) := rfl
    rw [List.map_cons, z2, q] at z
    exact z
  · cases hr
/-! returns -/
theorem MQ_of {H : Heap} {locs : List Loc} (hS : va_S (Ain L (xr X)) (kS K).heap H locs) : ∀ q ∈ locs, Ain L (xr X) q.base := hS.2.2
theorem g_iret (O : OKx L K X own cc nL) {v : Int} {ty : FieldType} (hrt : (kMe K).sig.returnType = some ty) (hn : narrow ty (.int (iI v)) = .int (iI v)) (hd : decode cc pc = .ok (.ireturn, 1)) : GX L K X nL 1 pc lv [vI v] σ (some (v, σ)) := by
  intro r hr H locs ls h1 h2 h3
  cases hr
  exact W.zret O.1 O.2.1 hrt hn (fun t ht hW => ⟨rfl, by rw [ht]; exact h2, h3.F ht⟩) h3.2.2 hd O.2.2.2.2.2.2.2.2
theorem g_lret (O : OKx L K X own cc nL) {v : Int} (hrt : (kMe K).sig.returnType = some .long) (hd : decode cc pc = .ok (.lreturn, 1)) : GX L K X nL 2 pc lv [vL v] σ (some (v, σ)) := by
  intro r hr H locs ls h1 h2 h3
  cases hr
  exact W.lret O.1 O.2.1 hrt (fun t ht hW => ⟨rfl, by rw [ht]; exact h2, h3.F ht⟩) h3.2.2 hd O.2.2.2.2.2.2.2.2
theorem g_vret (O : OKx L K X own cc nL) (hrt : (kMe K).sig.returnType = none) (hd : decode cc pc = .ok (.return_, 1)) : GX L K X nL 0 pc lv [] σ (some (0, σ)) := by
  intro r hr H locs ls h1 h2 h3
  cases hr
  exact W.vret O.1 O.2.1 hrt (fun t ht hW => ⟨rfl, by rw [ht]; exact h2, h3.F ht⟩) h3.2.2 hd O.2.2.2.2.2.2.2.2
theorem g_aret (O : OKx L K X own cc nL) {a : Nat} {n : String} (hrt : (kMe K).sig.returnType = some (.object n)) (hd : decode cc pc = .ok (.areturn, 1)) : GX L K X nL 3 pc lv [vR a] σ (some ((a : Int), σ)) := by
  intro r hr H locs ls h1 h2 h3
  cases hr
  exact W.aret O.1 O.2.1 hrt (Or.inl ⟨_, rfl⟩) (Or.inr ⟨_, rfl⟩) (fun t ht hW => ⟨rfl, by rw [ht]; exact h2, h3.F ht⟩) h3.2.2 hd O.2.2.2.2.2.2.2.2
/-! calls: what a method promises, by its value -/
def Ctr (L : Shp) (y : MethodName) (cc : ByteArray) (maxL : Nat) (ret : Option FieldType) (rk fr lo : Nat) (As : List AV) (σ : St) (e : Rs) : Prop :=
  ∀ r, e = some r → ∀ (l : Launch) (X : Wx), Met l y (Cond.code y cc maxL ret :: wsL_law) { frames := fr, cells := 0, slots := 0, locals := lo } (va_Pc (As.map (tv (xr X))) (Pw L X σ)) (Qf rk L X r) 0 0 (Ain L (xr X))
theorem Ctr.of {y : MethodName} {cc : ByteArray} {maxL : Nat} {ret : Option FieldType} {rk fr lo : Nat} {As : List AV} {σ : St} {e : Rs} (hy : plainName y.cls = true) (hL : ∀ ρ, (lg_sl (As.map (tv ρ))).length ≤ maxL) {lv : List (Nat × AV)} (hlv : ∀ ρ, lv_args 0 (As.map (tv ρ)) = tl ρ lv)
    (body : ∀ (K : Cx) (X : Wx), OKx L K X y.cls cc maxL → (kMe K).sig.returnType = ret → (kR K).frames = fr → (kR K).locals = lo → GX L K X maxL rk 0 lv [] σ e) : Ctr L y cc maxL ret rk fr lo As σ e := by
  intro r hr l X
  refine Met.ofW (cc := cc) (maxL := maxL) (ret := ret) hy rfl ?_
  intro p ev s m args below meth c s₁ B hml hv
  obtain ⟨rfl, hP, hK, hI, hN⟩ := hv
  have hts := atoms_spec (ws := Cond.code y cc maxL ret :: wsL_law) B.pre
  have hown : s.vm.findClass y.cls = some m.cls := findClass_of_methodNamed B.named
  have hl := lv_entry (As.map (tv (xr X))) (n := maxL) (hL (xr X))
  rw [hlv (xr X)] at hl
  have G := body (p, l, ev, (headSpec (Cond.code y cc maxL ret :: wsL_law) { frames := fr, cells := 0, slots := 0, locals := lo }).room, s, m, (As.map (tv (xr X))).toArray, below, meth, c) X ⟨B.exec, B.bytes, hml, hown, fun w h => hts w (List.mem_cons_of_mem _ h), hK, hI, hN, B.notSynchronized⟩ B.returns rfl rfl
  rw [lg_entry_eq]
  exact G r hr s.heap [] _ hl hP va_S.rf
theorem wsL_good : GoodIn wsL_law wsL_law := fun w h => ⟨h, wsL_law_good w h⟩
theorem good_code {y : MethodName} {cc : ByteArray} {maxL : Nat} {ret : Option FieldType} (h : Cond.code y cc maxL ret ∈ wsL_law) : GoodIn wsL_law (Cond.code y cc maxL ret :: wsL_law) := fun w hw => by
  rcases List.mem_cons.mp hw with rfl | hw
  · exact ⟨h, wsL_law_good _ h⟩
  · exact wsL_good w hw
theorem Pw_blind {As : List Value} : FrameBlind (va_Pc As (Pw L X σ)) := fun a U g mk q => by
  obtain ⟨q0, qP, qK, qI, qN⟩ := q
  exact ⟨q0, qP, va_K.moved (u := U) (U := U.calling g mk a) (Vm.Alike.refl U.vm) qK, qI, NWs.same (U := U.calling g mk a) rfl qN⟩
theorem Pw_at (O : OKx L K X own cc nL) {H : Heap} (h2 : WP L X σ H) : ∀ U : State, U.heap = H → (kS K).WarmedH U.vm → Pw L X σ U := fun U hU hW => ⟨by rw [hU]; exact h2, va_K.moved hW.alike O.2.2.2.2.2.1, O.2.2.2.2.2.2.1, NWs.warm hW O.2.2.2.2.2.2.2.1⟩
theorem g_run (O : OKx L K X own cc nL) {rk2 : Nat} {H : Heap} {locs : List Loc} {ls : Array Slot} {stk : List Value} {rest : List AV} {a : Array Value} {r0 : Int × St} {r : Int × St}
    (hr : va_Run K.1 K.2.1 K.2.2.1 (kR K) (kS K) (kM K) (kA K) K.2.2.2.2.2.2.2.1 (kMe K) (kC K) H locs 0 0 0 0 (F0 (kM K) pc ls stk) (rest.map (tv (xr X))) (Qf rk2 L X r0 a) (Ain L (xr X))) (h3 : va_S (Ain L (xr X)) (kS K).heap H locs)
    (kk : ∀ (H1 : Heap) (locs1 : List Loc), WP L X r0.2 H1 → va_S (Ain L (xr X)) (kS K).heap H1 locs1 → W K.1 K.2.1 K.2.2.1 (kR K) (kS K) (kM K) (kA K) K.2.2.2.2.2.2.2.1 (kMe K) (kC K) H1 locs1 0 0 (MQ K.2.2.2.2.2.2.2.1 (Qf rk L X r) (kA K) (kS K) 0 0 (Ain L (xr X))) (F0 (kM K) (pc + 3) ls ((rvo rk2 (xr X) r0.1).toList ++ rest.map (tv (xr X))))) :
    W K.1 K.2.1 K.2.2.1 (kR K) (kS K) (kM K) (kA K) K.2.2.2.2.2.2.2.1 (kMe K) (kC K) H locs 0 0 (MQ K.2.2.2.2.2.2.2.1 (Qf rk L X r) (kA K) (kS K) 0 0 (Ain L (xr X))) (F0 (kM K) pc ls stk) := by
  intro T hT Xs
  obtain ⟨v, st₀, t, T', L1, h0, X', hL, e1, e2, ⟨hv, hp, hz, hk⟩, st⟩ := hr T hT Xs
  cases hv
  rw [h0] at hz hk
  obtain ⟨t2, a1, b1⟩ := kk T'.heap (locs ++ L1) (by rw [e1]; exact hp)
    ⟨Nat.le_trans h3.1 (by rw [e1]; exact hz), fun q h1 h2 => by rw [e1, hk q (Nat.lt_of_lt_of_le h1 h3.1) h2]; exact h3.2.1 q h1 h2, fun q hq => by
      rcases List.mem_append.mp hq with h | h
      · exact h3.2.2 q h
      · exact hL q h⟩ T' rfl X'
  exact ⟨t2, st t2 a1, b1⟩
end GCELLS
