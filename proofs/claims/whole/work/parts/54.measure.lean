/-! prices; all nodes measured, key by key -/
def relC (p a b : Int) : Int := if a = b then 0 else if kdOf a = kdOf b then (if kdOf a = 2 then p * min 3 (if a - b < 0 then -(a - b) else a - b) else p) else 2 * p
def Kv (v : Vec) : Prc := (fun x => v.2.2 1 * wgt (v.1.c x), fun y => v.2.2 0 * wgt (v.2.1.c y), fun x y => relC (v.2.2 2) (v.1.c x) (v.2.1.c y))
theorem mul_r {p q : Int} (h1 : 1 ≤ p) (h2 : p ≤ 9) (h3 : 0 ≤ q) (h4 : q ≤ 3) : 0 ≤ p * q ∧ p * q ≤ 27 := by
  rcases (show q = 0 ∨ q = 1 ∨ q = 2 ∨ q = 3 by omega) with rfl | rfl | rfl | rfl <;> omega
theorem relC_r {p a b : Int} (h1 : 1 ≤ p) (h2 : p ≤ 9) : 0 ≤ relC p a b ∧ relC p a b ≤ 27 := by
  have := mul_r (q := min 3 (if a - b < 0 then -(a - b) else a - b)) h1 h2 (by split <;> omega) (by omega)
  unfold relC
  split
  · omega
  split
  · split
    · exact this
    · omega
  · omega
theorem Kv_r {v : Vec} (h : VecOK v) : (∀ x, 0 ≤ (Kv v).1 x ∧ (Kv v).1 x ≤ 27) ∧ (∀ x, 0 ≤ (Kv v).2.1 x ∧ (Kv v).2.1 x ≤ 27) ∧ ∀ x y, 0 ≤ (Kv v).2.2 x y ∧ (Kv v).2.2 x y ≤ 27 := by
  have p0 := h.2.2 0 (by omega)
  have p1 := h.2.2 1 (by omega)
  have p2 := h.2.2 2 (by omega)
  refine ⟨fun x => ?_, fun x => ?_, fun x y => relC_r p2.1 p2.2⟩
  · have := wgt_r (v.1.c x)
    exact mul_r p1.1 p1.2 (by omega) (by omega)
  · have := wgt_r (v.2.1.c x)
    exact mul_r p0.1 p0.2 (by omega) (by omega)
theorem Kv_ok {v : Vec} (h : VecOK v) : (Kv v).ok := by
  have := Kv_r h
  exact ⟨fun x => ⟨(this.1 x).1, by have := (this.1 x).2; omega⟩, fun x => ⟨(this.2.1 x).1, by have := (this.2.1 x).2; omega⟩, fun x y => ⟨(this.2.2 x y).1, by have := (this.2.2 x y).2; omega⟩⟩
theorem mAbs_ok {x : Int} {k : Int → Rs} (h1 : -2147483648 < x) (h2 : x ≤ 2147483647) : mAbs x k = k (if x < 0 then -x else x) := by
  unfold mAbs
  rw [if_pos ⟨⟨by omega, by omega⟩, by omega⟩]
theorem p_relabelling {s : St} {p : Int} (hp : s 7 2 = p) {a b : Int} (ha : lab a) (hb : lab b) : X3_relabelling a b s = some (relC p a b, s) := by
  have k1 := kdOf_r a
  have k2 := kdOf_r b
  unfold X3_relabelling relC
  by_cases e : a = b
  · rw [if_pos e]
    simp (disch := omega) only [cLt_t, cLt_f, cEq_t, cEq_f, rdR_ok, rd_ok, wr_ok, put_eq, jn_eq, cl_some, Int.toNat_natCast]
  · rw [if_neg e]
    have h0 : s 7 (2 : Int).toNat = p := hp
    simp (disch := omega) only [cLt_t, cLt_f, cEq_t, cEq_f, rdR_ok, rd_ok, wr_ok, put_eq, jn_eq, cl_some, Int.toNat_natCast, p_kindL ha, p_kindL hb, h0]
    by_cases e1 : kdOf a = kdOf b
    · rw [if_pos e1]
      by_cases e2 : kdOf a = 2
      · rw [if_pos e2]
        simp (disch := omega) only [cLt_t, cLt_f, cEq_t, cEq_f, rdR_ok, rd_ok, wr_ok, put_eq, jn_eq, cl_some, Int.toNat_natCast]
        rw [mAbs_ok (by omega) (by omega), mMin_ok (by omega) (by omega) (by split <;> omega) (by split <;> omega)]
      · rw [if_neg e2]
        simp (disch := omega) only [cLt_t, cLt_f, cEq_t, cEq_f, rdR_ok, rd_ok, wr_ok, put_eq, jn_eq, cl_some, Int.toNat_natCast]
    · rw [if_neg e1]
      simp (disch := omega) only [cLt_t, cLt_f, cEq_t, cEq_f, rdR_ok, rd_ok, wr_ok, put_eq, jn_eq, cl_some, Int.toNat_natCast]
def FM (s s' : St) : Prop := ∀ b, b ≠ 55 → b ≠ 56 → b < 63 → s' b = s b
theorem FM.rfl {s : St} : FM s s := fun _ _ _ _ => Eq.refl _
theorem FM.trans {a b c : St} (h : FM a b) (g : FM b c) : FM a c := fun x h1 h2 h3 => (g x h1 h2 h3).trans (h x h1 h2 h3)
theorem FM.up {s s' : St} {a i : Nat} {v : Int} (h : FM s s') (ha : a = 55 ∨ a = 56 ∨ 63 ≤ a) : FM s (up s' a i v) := fun b h1 h2 h3 => by rw [up_b (by omega)]; exact h b h1 h2 h3
theorem FF.fm {s s' : St} (h : FF s s') : FM s s' := fun b h1 h2 h3 => h b (by omega) (by omega)
theorem FM.cst {s s' : St} {v : Vec} (h : FM s s') (hC : CSt s v) : CSt s' v := hC.congr (fun b hb => h b (by omega) (by omega) (by omega))
theorem l_gains {v : Vec} (hv : VecOK v) (k : St → Rs) : ∀ (n y : Nat) (s : St), y ≤ v.2.1.n → v.2.1.n < y + n → CSt s v → (∀ j, j < y → s 56 j = (Kv v).2.1 j) → ∃ s', X7_setPrices_2 k n (y : Int) s = k s' ∧ FM s s' ∧ ∀ j, j < v.2.1.n → s' 56 j = (Kv v).2.1 j := by
  have hB := hv.2.1.1
  have hB12 := hB.1
  intro n
  induction n with
  | zero => intro y s h1 h2; omega
  | succ n ih =>
    intro y s h1 h2 hC hI
    have hT := hC.2.1
    by_cases e : y = v.2.1.n
    · subst e
      refine ⟨s, ?_, FM.rfl, hI⟩
      rw [X7_setPrices_2, hT.1]
      simp (disch := omega) only [cLt_t, cLt_f, cEq_t, cEq_f, rdR_ok, rd_ok, wr_ok, put_eq, jn_eq, cl_some, Int.toNat_natCast]
    · have e1 := (hT.2 y (by omega)).1
      have hc := (hB.2.1 y (by omega)).1
      have hf : FM s (up s 56 y ((Kv v).2.1 y)) := FM.rfl.up (by omega)
      obtain ⟨s', f1, f2, f3⟩ := ih (y + 1) _ (by omega) (by omega) (hf.cst hC) (fun j hj => by
        by_cases q : j = y
        · subst q
          simp (disch := omega) only [fil_o, up_o, fil_out, fil_in, up_i, up_eq]
        · simp (disch := omega) only [fil_o, up_o, fil_out, fil_in, up_i, up_eq]
          exact hI j (by omega))
      refine ⟨s', ?_, hf.trans f2, f3⟩
      rw [← f1, X7_setPrices_2, hT.1]
      simp (disch := omega) only [cLt_t, cLt_f, cEq_t, cEq_f, rdR_ok, rd_ok, wr_ok, put_eq, jn_eq, cl_some, Int.toNat_natCast, e1, p_insertion hC hc]
      rfl
theorem l_swaps {v : Vec} (hv : VecOK v) {x : Nat} (hx : x < v.1.n) (k : St → Rs) : ∀ (n y : Nat) (s : St), y ≤ v.2.1.n → v.2.1.n < y + n → CSt s v → (∀ j, j < y → s (75 + x) j = (Kv v).2.2 x j) → ∃ s', X7_setPrices_78 (x : Int) k n (y : Int) s = k s' ∧ (∀ b, b ≠ 75 + x → s' b = s b) ∧ ∀ j, j < v.2.1.n → s' (75 + x) j = (Kv v).2.2 x j := by
  have hA := hv.1.1
  have hB := hv.2.1.1
  have hA12 := hA.1
  have hB12 := hB.1
  intro n
  induction n with
  | zero => intro y s h1 h2; omega
  | succ n ih =>
    intro y s h1 h2 hC hI
    have hT := hC.2.1
    by_cases e : y = v.2.1.n
    · subst e
      refine ⟨s, ?_, fun _ _ => rfl, hI⟩
      rw [X7_setPrices_78, hT.1]
      simp (disch := omega) only [cLt_t, cLt_f, cEq_t, cEq_f, rdR_ok, rd_ok, wr_ok, put_eq, jn_eq, cl_some, Int.toNat_natCast]
    · have e1 := (hT.2 y (by omega)).1
      have e0 := (hC.1.2 x hx).1
      have hc := (hB.2.1 y (by omega)).1
      have hd := (hA.2.1 x hx).1
      have hp := p_relabelling (hC.2.2 2 (by omega)) hd hc
      have hf : FM s (up s (75 + x) y ((Kv v).2.2 x y)) := FM.rfl.up (by omega)
      obtain ⟨s', f1, f2, f3⟩ := ih (y + 1) _ (by omega) (by omega) (hf.cst hC) (fun j hj => by
        by_cases q : j = y
        · subst q
          simp (disch := omega) only [fil_o, up_o, fil_out, fil_in, up_i, up_eq]
        · simp (disch := omega) only [fil_o, up_o, fil_out, fil_in, up_i, up_eq]
          exact hI j (by omega))
      refine ⟨s', ?_, fun b hb => by rw [f2 b hb, up_b hb], f3⟩
      rw [← f1, X7_setPrices_78, hT.1]
      simp (disch := omega) only [cLt_t, cLt_f, cEq_t, cEq_f, rdR_ok, rd_ok, wr_ok, put_eq, jn_eq, cl_some, Int.toNat_natCast, e1, e0, hp]
      rfl
theorem l_drops {v : Vec} (hv : VecOK v) (k : St → Rs) : ∀ (n x : Nat) (s : St), x ≤ v.1.n → v.1.n < x + n → CSt s v → (∀ j, j < v.2.1.n → s 56 j = (Kv v).2.1 j) → (∀ i, i < x → s 55 i = (Kv v).1 i ∧ ∀ j, j < v.2.1.n → s (75 + i) j = (Kv v).2.2 i j) → ∃ s', X7_setPrices_43 k n (x : Int) s = k s' ∧ FM s s' ∧ WE s' v.1 v.2.1 (Kv v) := by
  have hA := hv.1.1
  have hB := hv.2.1.1
  have hA12 := hA.1
  have hB12 := hB.1
  have hU := FU_gt
  intro n
  induction n with
  | zero => intro y s h1 h2; omega
  | succ n ih =>
    intro x s h1 h2 hC hG hI
    have hT := hC.1
    by_cases e : x = v.1.n
    · subst e
      refine ⟨s, ?_, FM.rfl, hC.1, hC.2.1, fun i hi => (hI i hi).1, hG, fun i j hi hj => (hI i hi).2 j hj⟩
      rw [X7_setPrices_43, hT.1]
      simp (disch := omega) only [cLt_t, cLt_f, cEq_t, cEq_f, rdR_ok, rd_ok, wr_ok, put_eq, jn_eq, cl_some, Int.toNat_natCast]
    · have e0 := (hT.2 x (by omega)).1
      have hd := (hA.2.1 x (by omega)).1
      have hf : FM s (up s 55 x ((Kv v).1 x)) := FM.rfl.up (by omega)
      obtain ⟨s1, g1, g2, g3⟩ := l_swaps hv (x := x) (by omega) (fun s5 => X7_setPrices_43 k n ((x : Int) + 1) s5) FU 0 _ (by omega) (by omega) (hf.cst hC) (fun j hj => by omega)
      have hf2 : FM (up s 55 x ((Kv v).1 x)) s1 := fun b q1 q2 q3 => g2 b (by omega)
      obtain ⟨s', f1, f2, f3⟩ := ih (x + 1) s1 (by omega) (by omega) (hf2.cst (hf.cst hC)) (fun j hj => by rw [g2 56 (by omega), up_o (by omega)]; exact hG j hj) (fun i hi => by
        by_cases q : i = x
        · subst q
          refine ⟨by rw [g2 55 (by omega), up_eq], g3⟩
        · refine ⟨by rw [g2 55 (by omega), up_i q]; exact (hI i (by omega)).1, fun j hj => ?_⟩
          rw [g2 _ (by omega), up_o (by omega)]
          exact (hI i (by omega)).2 j hj)
      refine ⟨s', ?_, (hf.trans hf2).trans f2, f3⟩
      rw [← f1, X7_setPrices_43, hT.1]
      simp (disch := omega) only [cLt_t, cLt_f, cEq_t, cEq_f, rdR_ok, rd_ok, wr_ok, put_eq, jn_eq, cl_some, Int.toNat_natCast, e0, p_deletion hC hd]
      exact g1
theorem p_setPrices {v : Vec} (hv : VecOK v) {s : St} (hC : CSt s v) : ∃ s', X7_setPrices s = some (0, s') ∧ FM s s' ∧ WE s' v.1 v.2.1 (Kv v) := by
  have hA := hv.1.1
  have hB := hv.2.1.1
  have hA12 := hA.1
  have hB12 := hB.1
  have hU := FU_gt
  obtain ⟨s1, g1, g2, g3⟩ := l_gains hv (fun s1 => X7_setPrices_43  (fun s2 => some (0, s2)) FU 0 s1) FU 0 s (by omega) (by omega) hC (fun j hj => by omega)
  obtain ⟨s2, f1, f2, f3⟩ := l_drops hv (fun s2 => some (0, s2)) FU 0 s1 (by omega) (by omega) (g2.cst hC) g3 (fun i hi => by omega)
  exact ⟨s2, (g1.trans f1 : _), g2.trans f2, f3⟩
/-! keys -/
theorem key_of {d : Doc} (hF : Fst d) : ∀ (n a : Nat), a < d.n → d.n ≤ a + n → ∃ k, a ≤ k ∧ k < d.n ∧ keyOf d 0 k = 1 ∧ d.l k = d.l a := by
  intro n
  induction n with
  | zero => intro a h1 h2; omega
  | succ n ih =>
    intro a h1 h2
    rcases keyOf_r d 0 a with e | e
    · unfold keyOf at e
      rcases par_spec d hF.1 a with ⟨z, q, a1, a2, a3, a4⟩ | ⟨q, -⟩
      · rw [q, if_neg (by omega), if_pos rfl, Int.toNat_natCast] at e
        have ez : d.l z = d.l a := by
          by_cases h : d.l z = d.l a
          · exact h
          · rw [if_neg h] at e; omega
        obtain ⟨k, b1, b2, b3, b4⟩ := ih z a2 (by omega)
        exact ⟨k, by omega, b2, b3, by omega⟩
      · rw [q, if_pos rfl] at e
        omega
    · exact ⟨a, Nat.le_refl _, h1, e, rfl⟩
/-- a has been measured once all keys before x have been -/
def Dn (d : Doc) (x a : Nat) : Prop := ∃ k, k < x ∧ keyOf d 0 k = 1 ∧ d.l k = d.l a ∧ a ≤ k
theorem Dn_all {d : Doc} (hF : Fst d) {a : Nat} (h : a < d.n) : Dn d d.n a := by
  obtain ⟨k, b1, b2, b3, b4⟩ := key_of hF d.n a h (by omega)
  exact ⟨k, b2, b3, b4, b1⟩
theorem Dn_in {d : Doc} (hF : Fst d) {x a : Nat} (hx : x < d.n) (h1 : d.l x ≤ a) (h2 : a ≤ x) (h3 : d.l a ≠ d.l x) : Dn d x a := by
  obtain ⟨k, b1, b2, b3, b4⟩ := key_of hF d.n a (by omega) (by omega)
  have ha : a < x := by
    by_cases e : a = x
    · subst e; exact absurd rfl h3
    · omega
  have q1 := hF.2.2 x a hx ha h1
  have q2 := (hF.2.1 a (by omega)).2
  refine ⟨k, ?_, b3, b4, b1⟩
  by_cases e : k < x
  · exact e
  · by_cases e2 : k = x
    · subst e2; omega
    · have := hF.2.2 k x b2 (by omega) (by omega)
      omega
theorem Dn_step {d : Doc} {x a : Nat} (h : Dn d (x + 1) a) : Dn d x a ∨ (keyOf d 0 x = 1 ∧ d.l x = d.l a ∧ a ≤ x) := by
  obtain ⟨k, b1, b2, b3, b4⟩ := h
  by_cases e : k = x
  · subst e; exact Or.inr ⟨b2, b3, b4⟩
  · exact Or.inl ⟨k, by omega, b2, b3, b4⟩
theorem l_meas31 {A B : Doc} {K : Prc} (hA : Fst A) (hB : Fst B) (hK : K.ok) {x : Nat} (hx : x < A.n) (k : St → Rs) : ∀ (n y : Nat) (s : St), y ≤ B.n → B.n < y + n → WE s A B K → (∀ a b, a < A.n → b < B.n → (Dn A x a ∨ (A.l a = A.l x ∧ a ≤ x ∧ Dn B y b)) → Rt s A B K a b) → ∃ s', X7_measure_31 (x : Int) k n (y : Int) s = k s' ∧ FF s s' ∧ ∀ a b, a < A.n → b < B.n → (Dn A x a ∨ (A.l a = A.l x ∧ a ≤ x)) → Rt s' A B K a b := by
  have hA12 := hA.1
  have hB12 := hB.1
  intro n
  induction n with
  | zero => intro y s h1 h2; omega
  | succ n ih =>
    intro y s h1 h2 hW hI
    by_cases e : y = B.n
    · subst e
      refine ⟨s, ?_, FF.rfl, fun a b a1 a2 a3 => hI a b a1 a2 (a3.imp id (fun z => ⟨z.1, z.2, Dn_all hB a2⟩))⟩
      rw [X7_measure_31, hW.2.1.1]
      simp (disch := omega) only [cLt_t, cLt_f, cEq_t, cEq_f, rdR_ok, rd_ok, wr_ok, put_eq, jn_eq, cl_some, Int.toNat_natCast]
    · have hk := p_isKey hW.2.1 hB (x := y) (by omega) (Or.inl rfl)
      rcases keyOf_r B 0 y with q | q
      · obtain ⟨s', f1, f2, f3⟩ := ih (y + 1) s (by omega) (by omega) hW (fun a b a1 a2 a3 => hI a b a1 a2 (a3.imp id (fun z => ⟨z.1, z.2.1, (Dn_step z.2.2).resolve_right (fun w => by omega)⟩)))
        refine ⟨s', ?_, f2, f3⟩
        rw [← f1, X7_measure_31, hW.2.1.1]
        simp (disch := omega) only [cLt_t, cLt_f, cEq_t, cEq_f, rdR_ok, rd_ok, wr_ok, put_eq, jn_eq, cl_some, Int.toNat_natCast, hk, q]
        rfl
      · obtain ⟨s1, g1, g2, g3, g4⟩ := p_fill hA hB hK (fst_rgx hA hx) (fst_rgx hB (x := y) (by omega)) (by omega) (by omega) (fun a b => Dn A x a ∨ (A.l a = A.l x ∧ a ≤ x ∧ Dn B y b)) (fun a b a1 a2 a3 a4 a5 => by
          by_cases w : A.l a = A.l x
          · exact Or.inr ⟨w, by omega, Dn_in hB (by omega) a3 (by omega) (fun z => a5 ⟨w, z⟩)⟩
          · exact Or.inl (Dn_in hA hx a1 (by omega) w)) hW hI
        rw [show ((x + 1 : Nat) : Int) - 1 = x by omega, show ((y + 1 : Nat) : Int) - 1 = y by omega] at g1
        obtain ⟨s', f1, f2, f3⟩ := ih (y + 1) s1 (by omega) (by omega) (hW.of hA12 g2) (fun a b a1 a2 a3 => g4 a b a1 a2 (by
          rcases a3 with z | z
          · exact Or.inl (Or.inl z)
          · rcases Dn_step z.2.2 with w | w
            · exact Or.inl (Or.inr ⟨z.1, z.2.1, w⟩)
            · have := (hA.2.1 a a1).2
              have := (hB.2.1 b a2).2
              exact Or.inr ⟨by omega, by omega, by omega, z.1, by omega, by omega⟩))
        refine ⟨s', ?_, g2.trans f2, f3⟩
        have l1 := p_leftmost hW.1 hA12 hx
        have l2 := p_leftmost hW.2.1 hB12 (x := y) (by omega)
        rw [← f1, X7_measure_31, hW.2.1.1]
        simp (disch := omega) only [cLt_t, cLt_f, cEq_t, cEq_f, rdR_ok, rd_ok, wr_ok, put_eq, jn_eq, cl_some, Int.toNat_natCast, hk, q, l1, l2, g1]
        rfl
theorem l_meas6 {A B : Doc} {K : Prc} (hA : Fst A) (hB : Fst B) (hK : K.ok) (k : St → Rs) : ∀ (n x : Nat) (s : St), x ≤ A.n → A.n < x + n → WE s A B K → (∀ a b, a < A.n → b < B.n → Dn A x a → Rt s A B K a b) → ∃ s', X7_measure_6 k n (x : Int) s = k s' ∧ FF s s' ∧ ∀ a b, a < A.n → b < B.n → Rt s' A B K a b := by
  have hA12 := hA.1
  have hB12 := hB.1
  have hU := FU_gt
  intro n
  induction n with
  | zero => intro y s h1 h2; omega
  | succ n ih =>
    intro x s h1 h2 hW hI
    by_cases e : x = A.n
    · subst e
      refine ⟨s, ?_, FF.rfl, fun a b a1 a2 => hI a b a1 a2 (Dn_all hA a1)⟩
      rw [X7_measure_6, hW.1.1]
      simp (disch := omega) only [cLt_t, cLt_f, cEq_t, cEq_f, rdR_ok, rd_ok, wr_ok, put_eq, jn_eq, cl_some, Int.toNat_natCast]
    · have hk := p_isKey hW.1 hA (x := x) (by omega) (Or.inl rfl)
      rcases keyOf_r A 0 x with q | q
      · obtain ⟨s', f1, f2, f3⟩ := ih (x + 1) s (by omega) (by omega) hW (fun a b a1 a2 a3 => hI a b a1 a2 ((Dn_step a3).resolve_right (fun w => by omega)))
        refine ⟨s', ?_, f2, f3⟩
        rw [← f1, X7_measure_6, hW.1.1]
        simp (disch := omega) only [cLt_t, cLt_f, cEq_t, cEq_f, rdR_ok, rd_ok, wr_ok, put_eq, jn_eq, cl_some, Int.toNat_natCast, hk, q]
        rfl
      · obtain ⟨s1, g1, g2, g3⟩ := l_meas31 hA hB hK (x := x) (by omega) (fun s3 => X7_measure_6 k n ((x : Int) + 1) s3) FU 0 s (by omega) (by omega) hW (fun a b a1 a2 a3 => hI a b a1 a2 (a3.resolve_right (fun w => by
          obtain ⟨_, _, k, z, _⟩ := w
          omega)))
        obtain ⟨s', f1, f2, f3⟩ := ih (x + 1) s1 (by omega) (by omega) (hW.of hA12 g2) (fun a b a1 a2 a3 => g3 a b a1 a2 ((Dn_step a3).imp id (fun w => ⟨w.2.1.symm, w.2.2⟩)))
        refine ⟨s', ?_, g2.trans f2, f3⟩
        rw [← f1, X7_measure_6, hW.1.1]
        simp (disch := omega) only [cLt_t, cLt_f, cEq_t, cEq_f, rdR_ok, rd_ok, wr_ok, put_eq, jn_eq, cl_some, Int.toNat_natCast, hk, q]
        exact g1
/-- all is measured -/
theorem p_measure {v : Vec} (hv : VecOK v) {s : St} (hC : CSt s v) : ∃ s', X7_measure s = some (0, s') ∧ FM s s' ∧ WE s' v.1 v.2.1 (Kv v) ∧ ∀ a b, a < v.1.n → b < v.2.1.n → Rt s' v.1 v.2.1 (Kv v) a b := by
  have hA := hv.1.1
  have hB := hv.2.1.1
  have hA12 := hA.1
  have hB12 := hB.1
  have hU := FU_gt
  obtain ⟨s1, g1, g2, g3⟩ := p_setPrices hv hC
  obtain ⟨s2, f1, f2, f3⟩ := l_meas6 hA hB (Kv_ok hv) (fun s3 => some (0, s3)) FU 0 s1 (by omega) (by omega) g3 (fun a b a1 a2 a3 => by
    obtain ⟨k, z, _⟩ := a3
    omega)
  refine ⟨s2, ?_, g2.trans f2.fm, g3.of hA12 f2, f3⟩
  unfold X7_measure
  simp (disch := omega) only [cLt_t, cLt_f, cEq_t, cEq_f, rdR_ok, rd_ok, wr_ok, put_eq, jn_eq, cl_some, Int.toNat_natCast, g1]
  exact f1
