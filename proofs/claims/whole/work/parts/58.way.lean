/-! the model's prices, what it shuts, its way -/
theorem q_changeOf {t : St} {p : Int} (hp : t 5 52 = p) {a b : Int} (ha : lab a) (hb : lab b) : X9_changeOf a b t = some (relC p a b, t) := by
  have k1 := kdOf_r a
  have k2 := kdOf_r b
  have h0 : t 5 (52 : Int).toNat = p := hp
  unfold X9_changeOf relC
  by_cases e : a = b
  · rw [if_pos e]
    simp (disch := omega) only [cLt_t, cLt_f, cEq_t, cEq_f, rdR_ok, rd_ok, wr_ok, put_eq, jn_eq, cl_some, Int.toNat_natCast, q_kindOf ha]
  · rw [if_neg e]
    by_cases e2 : kdOf a = 2
    · by_cases e3 : kdOf b = 2
      · rw [if_pos (by omega), if_pos e2]
        by_cases g : b < a
        · rw [if_neg (by omega)]
          by_cases g3 : 3 < a - b
          · simp (disch := omega) only [cLt_t, cLt_f, cEq_t, cEq_f, rdR_ok, rd_ok, wr_ok, put_eq, jn_eq, cl_some, Int.toNat_natCast, q_kindOf ha, q_kindOf hb, h0]
            rw [show min 3 (a - b) = 3 by omega]
          · simp (disch := omega) only [cLt_t, cLt_f, cEq_t, cEq_f, rdR_ok, rd_ok, wr_ok, put_eq, jn_eq, cl_some, Int.toNat_natCast, q_kindOf ha, q_kindOf hb, h0]
            rw [show min 3 (a - b) = a - b by omega]
        · rw [if_pos (by omega)]
          by_cases g3 : 3 < b - a
          · simp (disch := omega) only [cLt_t, cLt_f, cEq_t, cEq_f, rdR_ok, rd_ok, wr_ok, put_eq, jn_eq, cl_some, Int.toNat_natCast, q_kindOf ha, q_kindOf hb, h0]
            rw [show min 3 (-(a - b)) = 3 by omega]
          · simp (disch := omega) only [cLt_t, cLt_f, cEq_t, cEq_f, rdR_ok, rd_ok, wr_ok, put_eq, jn_eq, cl_some, Int.toNat_natCast, q_kindOf ha, q_kindOf hb, h0]
            rw [show min 3 (-(a - b)) = b - a by omega]
      · rw [if_neg (by omega)]
        simp (disch := omega) only [cLt_t, cLt_f, cEq_t, cEq_f, rdR_ok, rd_ok, wr_ok, put_eq, jn_eq, cl_some, Int.toNat_natCast, q_kindOf ha, q_kindOf hb, h0]
    · by_cases e1 : kdOf a = kdOf b
      · rw [if_pos e1, if_neg e2]
        simp (disch := omega) only [cLt_t, cLt_f, cEq_t, cEq_f, rdR_ok, rd_ok, wr_ok, put_eq, jn_eq, cl_some, Int.toNat_natCast, q_kindOf ha, q_kindOf hb, h0]
      · rw [if_neg e1]
        simp (disch := omega) only [cLt_t, cLt_f, cEq_t, cEq_f, rdR_ok, rd_ok, wr_ok, put_eq, jn_eq, cl_some, Int.toNat_natCast, q_kindOf ha, q_kindOf hb, h0]
def FL (t t' : St) : Prop := ∀ b, b < 17 ∨ 21 < b → t' b = t b
theorem FL.rfl {s : St} : FL s s := fun _ _ => Eq.refl _
theorem FL.trans {a b c : St} (h : FL a b) (g : FL b c) : FL a c := fun x h1 => (g x h1).trans (h x h1)
theorem FL.up {s s' : St} {a i : Nat} {v : Int} (h : FL s s') (ha : 17 ≤ a ∧ a ≤ 21) : FL s (up s' a i v) := fun b h1 => by rw [up_b (by omega)]; exact h b h1
theorem FG.fl {s s' : St} (h : FG s s') : FL s s' := fun b hb => h b (by omega) (by omega)
theorem FL.mst {t t' : St} {v : Vec} (h : FL t t') (hM : MSt (t 5) v) : MSt (t' 5) v := by rw [h 5 (by omega)]; exact hM
theorem l_prices36 {v : Vec} (hv : VecOK v) {x : Nat} (hx : x < v.1.n) (k : St → Rs) : ∀ (n y : Nat) (t : St), y ≤ v.2.1.n → v.2.1.n < y + n → MSt (t 5) v → (∀ j, j < y → t 18 j = (Kv v).2.1 j ∧ t 19 (12 * x + j) = (Kv v).2.2 x j) → ∃ t', X9_laysPrices_36 (x : Int) k n (y : Int) t = k t' ∧ (∀ b, b ≠ 18 → b ≠ 19 → t' b = t b) ∧ (∀ a j, a < x → j < 12 → t' 19 (12 * a + j) = t 19 (12 * a + j)) ∧ ∀ j, j < v.2.1.n → t' 18 j = (Kv v).2.1 j ∧ t' 19 (12 * x + j) = (Kv v).2.2 x j := by
  have hA := hv.1.1
  have hB := hv.2.1.1
  have hA12 := hA.1
  have hB12 := hB.1
  intro n
  induction n with
  | zero => intro y s h1 h2; omega
  | succ n ih =>
    intro y t h1 h2 hM hI
    have m1 := q_many1 hM.2.1
    by_cases e : y = v.2.1.n
    · subst e
      refine ⟨t, ?_, fun _ _ _ => rfl, fun _ _ _ _ => rfl, hI⟩
      rw [X9_laysPrices_36]
      simp (disch := omega) only [cLt_t, cLt_f, cEq_t, cEq_f, rdR_ok, rd_ok, wr_ok, put_eq, jn_eq, cl_some, Int.toNat_natCast, m1]
    · have hc := (hB.2.1 y (by omega)).1
      have hd := (hA.2.1 x hx).1
      have c1 := q_code1 hM.2.1 hB12 (x := y) (by omega)
      have p0 : t 5 (50 : Int).toNat = v.2.2 0 := hM.2.2 0 (by omega)
      have hM' : MSt (up t 18 y ((Kv v).2.1 y) 5) v := by rw [up_b (by omega)]; exact hM
      have c0' := q_code0 hM'.1 hA12 hx
      have c1' := q_code1 hM'.2.1 hB12 (x := y) (by omega)
      have ch := q_changeOf (hM'.2.2 2 (by omega)) hd hc
      have i6 : Hid ((12 * (x : Int) + (y : Int)).toNat = 12 * x + y) := Hid.mk (by omega)
      obtain ⟨t', f1, f2, f3, f4⟩ := ih (y + 1) (up (up t 18 y ((Kv v).2.1 y)) 19 (12 * x + y) ((Kv v).2.2 x y)) (by omega) (by omega) (by rw [up_b (by omega)]; exact hM') (fun j hj => by
        by_cases q : j = y
        · subst q
          simp (disch := omega) only [fil_o, up_o, fil_out, fil_in, up_i, up_eq]
          exact ⟨trivial, trivial⟩
        · simp (disch := omega) only [fil_o, up_o, fil_out, fil_in, up_i, up_eq]
          exact hI j (by omega))
      refine ⟨t', ?_, fun b b1 b2 => by rw [f2 b b1 b2, up_b b2, up_b b1], fun a j a1 a2 => by rw [f3 a j a1 a2, up_i (by omega), up_o (by omega)], f4⟩
      rw [← f1, X9_laysPrices_36]
      simp (disch := omega) only [cLt_t, cLt_f, cEq_t, cEq_f, rdR_ok, rd_ok, wr_ok, put_eq, jn_eq, cl_some, Int.toNat_natCast, m1, p0, c1, q_weight hc]
      rw [show up t 18 y (v.2.2 0 * wgt (v.2.1.c y)) = up t 18 y ((Kv v).2.1 y) from rfl]
      simp (disch := omega) only [cLt_t, cLt_f, cEq_t, cEq_f, rdR_ok, rd_ok, wr_ok, put_eq, jn_eq, cl_some, Int.toNat_natCast, c0', c1', ch, i6.out]
      rfl
theorem l_prices2 {v : Vec} (hv : VecOK v) (h0 : 0 < v.1.n) (k : St → Rs) : ∀ (n x : Nat) (t : St), x ≤ v.1.n → v.1.n < x + n → MSt (t 5) v → (∀ j, 0 < x → j < v.2.1.n → t 18 j = (Kv v).2.1 j) → (∀ i, i < x → t 17 i = (Kv v).1 i ∧ ∀ j, j < v.2.1.n → t 19 (12 * i + j) = (Kv v).2.2 i j) → ∃ t', X9_laysPrices_2 k n (x : Int) t = k t' ∧ FL t t' ∧ MW t' v.1 v.2.1 (Kv v) := by
  have hA := hv.1.1
  have hB := hv.2.1.1
  have hA12 := hA.1
  have hB12 := hB.1
  have hU := FU_gt
  intro n
  induction n with
  | zero => intro y s h1 h2; omega
  | succ n ih =>
    intro x t h1 h2 hM hG hI
    have m0 := q_many0 hM.1
    by_cases e : x = v.1.n
    · subst e
      refine ⟨t, ?_, FL.rfl, hM.1, hM.2.1, fun i hi => (hI i hi).1, fun j hj => hG j h0 hj, fun i j hi hj => (hI i hi).2 j hj⟩
      rw [X9_laysPrices_2]
      simp (disch := omega) only [cLt_t, cLt_f, cEq_t, cEq_f, rdR_ok, rd_ok, wr_ok, put_eq, jn_eq, cl_some, Int.toNat_natCast, m0]
    · have hd := (hA.2.1 x (by omega)).1
      have c0 := q_code0 hM.1 hA12 (x := x) (by omega)
      have p1 : t 5 (51 : Int).toNat = v.2.2 1 := hM.2.2 1 (by omega)
      have hf : FL t (up t 17 x ((Kv v).1 x)) := FL.rfl.up (by omega)
      obtain ⟨t1, g1, g2, g3, g4⟩ := l_prices36 hv (x := x) (by omega) (fun s9 => X9_laysPrices_2 k n ((x : Int) + 1) s9) FU 0 _ (by omega) (by omega) (hf.mst hM) (fun j hj => by omega)
      have hf2 : FL (up t 17 x ((Kv v).1 x)) t1 := fun b hb => g2 b (by omega) (by omega)
      obtain ⟨t', f1, f2, f3⟩ := ih (x + 1) t1 (by omega) (by omega) (hf2.mst (hf.mst hM)) (fun j _ hj => (g4 j hj).1) (fun i hi => by
        by_cases q : i = x
        · subst q
          exact ⟨by rw [g2 17 (by omega) (by omega), up_eq], fun j hj => (g4 j hj).2⟩
        · refine ⟨by rw [g2 17 (by omega) (by omega), up_i q]; exact (hI i (by omega)).1, fun j hj => ?_⟩
          rw [g3 i j (by omega) (by omega), up_o (by omega)]
          exact (hI i (by omega)).2 j hj)
      refine ⟨t', ?_, (hf.trans hf2).trans f2, f3⟩
      rw [← f1, X9_laysPrices_2]
      simp (disch := omega) only [cLt_t, cLt_f, cEq_t, cEq_f, rdR_ok, rd_ok, wr_ok, put_eq, jn_eq, cl_some, Int.toNat_natCast, m0, p1, c0, q_weight hd]
      exact g1
theorem q_laysPrices {v : Vec} (hv : VecOK v) (h0 : 0 < v.1.n) {t : St} (hM : MSt (t 5) v) : ∃ t', X9_laysPrices t = some (0, t') ∧ FL t t' ∧ MW t' v.1 v.2.1 (Kv v) := by
  have hA12 := hv.1.1.1
  have hU := FU_gt
  exact l_prices2 hv h0 (fun s1 => some (0, s1)) FU 0 t (by omega) (by omega) hM (fun j hj => by omega) (fun i hi => by omega)
theorem q_leastOf {v : Vec} (hv : VecOK v) (h0 : 0 < v.1.n) (h1 : 0 < v.2.1.n) {t : St} (hM : MSt (t 5) v) : ∃ t', X9_leastOf t = some (dF (Kv v) (Tl v.1 v.2.1) 0 v.1.n 0 v.2.1.n, t') ∧ FL t t' ∧ MW t' v.1 v.2.1 (Kv v) ∧ ∀ a b, a < v.1.n → b < v.2.1.n → MRt t' v.1 v.2.1 (Kv v) a b := by
  obtain ⟨t1, e1, e2, e3⟩ := q_laysPrices hv h0 hM
  obtain ⟨t2, f1, f2, f3⟩ := q_laysCosts hv.1 hv.2.1 h0 h1 (Kv_ok hv) e3
  refine ⟨t2, ?_, e2.trans f2.fl, e3.of f2, f3⟩
  unfold X9_leastOf
  simp (disch := omega) only [cLt_t, cLt_f, cEq_t, cEq_f, rdR_ok, rd_ok, wr_ok, put_eq, jn_eq, cl_some, Int.toNat_natCast, e1, f1]
/-! shut -/
theorem l_sh2 {A B : Doc} (hA12 : A.n ≤ 12) (hB12 : B.n ≤ 12) {x : Nat} (hx : x < A.n) {y : Int} (hy : -9 ≤ y) (hy2 : y ≤ 12) (k : St → Rs) : ∀ (n c : Nat) (t : St), c ≤ B.n → B.n < c + n → DocAt (t 5) 25 B → ∃ t', X9_shuts_2 (x : Int) y k n (c : Int) t = k t' ∧ (∀ b, b ≠ 19 → t' b = t b) ∧ ∀ a b, b < B.n → t' 19 (12 * a + b) = if a = x ∧ c ≤ b ∧ (b : Int) ≠ y then 100000 else t 19 (12 * a + b) := by
  intro n
  induction n with
  | zero => intro y s h1 h2; omega
  | succ n ih =>
    intro c t h1 h2 hD
    have m1 := q_many1 hD
    by_cases e : c = B.n
    · subst e
      refine ⟨t, ?_, fun _ _ => rfl, fun a b hb => by rw [if_neg (by omega)]⟩
      rw [X9_shuts_2]
      simp (disch := omega) only [cLt_t, cLt_f, cEq_t, cEq_f, rdR_ok, rd_ok, wr_ok, put_eq, jn_eq, cl_some, Int.toNat_natCast, m1]
    · have i6 : Hid ((12 * (x : Int) + (c : Int)).toNat = 12 * x + c) := Hid.mk (by omega)
      by_cases q : (c : Int) = y
      · obtain ⟨t', f1, f2, f3⟩ := ih (c + 1) (up t 19 (12 * x + c) (t 19 (12 * x + c))) (by omega) (by omega) (by rw [up_b (by omega)]; exact hD)
        refine ⟨t', ?_, fun b hb => by rw [f2 b hb, up_b hb], fun a b hb => ?_⟩
        · rw [← f1, X9_shuts_2]
          simp (disch := omega) only [cLt_t, cLt_f, cEq_t, cEq_f, rdR_ok, rd_ok, wr_ok, put_eq, jn_eq, cl_some, Int.toNat_natCast, m1, i6.out]
          rfl
        · rw [f3 a b hb, up_self rfl]
          by_cases g : a = x ∧ c + 1 ≤ b ∧ (b : Int) ≠ y
          · rw [if_pos g, if_pos (by omega)]
          · rw [if_neg g, if_neg (by omega)]
      · obtain ⟨t', f1, f2, f3⟩ := ih (c + 1) (up t 19 (12 * x + c) 100000) (by omega) (by omega) (by rw [up_b (by omega)]; exact hD)
        refine ⟨t', ?_, fun b hb => by rw [f2 b hb, up_b hb], fun a b hb => ?_⟩
        · rw [← f1, X9_shuts_2]
          simp (disch := omega) only [cLt_t, cLt_f, cEq_t, cEq_f, rdR_ok, rd_ok, wr_ok, put_eq, jn_eq, cl_some, Int.toNat_natCast, m1, i6.out]
          rfl
        · rw [f3 a b hb]
          by_cases g : a = x ∧ c + 1 ≤ b ∧ (b : Int) ≠ y
          · rw [if_pos g, if_pos (by omega)]
          · rw [if_neg g]
            by_cases g2 : a = x ∧ b = c
            · obtain ⟨rfl, rfl⟩ := g2
              rw [up_eq, if_pos (by omega)]
            · rw [up_i (by omega), if_neg (by omega)]
theorem l_sh73 {A B : Doc} (hA12 : A.n ≤ 12) (hB12 : B.n ≤ 12) {x y : Nat} (hx : x < A.n) (hy : y < B.n) (k : St → Rs) : ∀ (n c : Nat) (t : St), c ≤ A.n → A.n < c + n → DocAt (t 5) 0 A → ∃ t', X9_shuts_73 (x : Int) (y : Int) k n (c : Int) t = k t' ∧ (∀ b, b ≠ 19 → t' b = t b) ∧ ∀ a b, a < A.n → b < B.n → t' 19 (12 * a + b) = if b = y ∧ c ≤ a ∧ a ≠ x then 100000 else t 19 (12 * a + b) := by
  intro n
  induction n with
  | zero => intro y s h1 h2; omega
  | succ n ih =>
    intro c t h1 h2 hD
    have m0 := q_many0 hD
    by_cases e : c = A.n
    · subst e
      refine ⟨t, ?_, fun _ _ => rfl, fun a b ha hb => by rw [if_neg (by omega)]⟩
      rw [X9_shuts_73]
      simp (disch := omega) only [cLt_t, cLt_f, cEq_t, cEq_f, rdR_ok, rd_ok, wr_ok, put_eq, jn_eq, cl_some, Int.toNat_natCast, m0]
    · have i6 : Hid ((12 * (c : Int) + (y : Int)).toNat = 12 * c + y) := Hid.mk (by omega)
      by_cases q : c = x
      · obtain ⟨t', f1, f2, f3⟩ := ih (c + 1) (up t 19 (12 * c + y) (t 19 (12 * c + y))) (by omega) (by omega) (by rw [up_b (by omega)]; exact hD)
        refine ⟨t', ?_, fun b hb => by rw [f2 b hb, up_b hb], fun a b ha hb => ?_⟩
        · rw [← f1, X9_shuts_73]
          simp (disch := omega) only [cLt_t, cLt_f, cEq_t, cEq_f, rdR_ok, rd_ok, wr_ok, put_eq, jn_eq, cl_some, Int.toNat_natCast, m0, i6.out]
          rfl
        · rw [f3 a b ha hb, up_self rfl]
          by_cases g : b = y ∧ c + 1 ≤ a ∧ a ≠ x
          · rw [if_pos g, if_pos (by omega)]
          · rw [if_neg g, if_neg (by omega)]
      · obtain ⟨t', f1, f2, f3⟩ := ih (c + 1) (up t 19 (12 * c + y) 100000) (by omega) (by omega) (by rw [up_b (by omega)]; exact hD)
        refine ⟨t', ?_, fun b hb => by rw [f2 b hb, up_b hb], fun a b ha hb => ?_⟩
        · rw [← f1, X9_shuts_73]
          simp (disch := omega) only [cLt_t, cLt_f, cEq_t, cEq_f, rdR_ok, rd_ok, wr_ok, put_eq, jn_eq, cl_some, Int.toNat_natCast, m0, i6.out]
          rfl
        · rw [f3 a b ha hb]
          by_cases g : b = y ∧ c + 1 ≤ a ∧ a ≠ x
          · rw [if_pos g, if_pos (by omega)]
          · rw [if_neg g]
            by_cases g2 : a = c ∧ b = y
            · obtain ⟨rfl, rfl⟩ := g2
              rw [up_eq, if_pos (by omega)]
            · rw [up_i (by omega), if_neg (by omega)]
/-- one more node's partner is known -/
theorem q_shuts {A B : Doc} {K : Prc} (hA12 : A.n ≤ 12) (hB12 : B.n ≤ 12) {x : Nat} (hx : x < A.n) {p : Nat → Int} {y : Int} (hp : p x = y) (hy : y = -9 ∨ (0 ≤ y ∧ y < B.n)) {t : St} (hW : MW t A B (shK K (x + 1) A.n p)) : ∃ t', X9_shuts (x : Int) y t = some (0, t') ∧ FL t t' ∧ MW t' A B (shK K x A.n p) := by
  have hU := FU_gt
  have s1 : ∀ a, a < A.n → (shK K x A.n p).1 a = if a = x ∧ y ≠ -9 then 100000 else (shK K (x + 1) A.n p).1 a := by
    intro a ha
    by_cases g : a = x ∧ y ≠ -9
    · rw [if_pos g, sh1_t ⟨by omega, by rw [g.1, hp]; exact g.2⟩]
    · rw [if_neg g]
      by_cases g2 : x + 1 ≤ a ∧ p a ≠ -9
      · rw [sh1_t g2, sh1_t ⟨by omega, g2.2⟩]
      · rw [sh1_f g2, sh1_f (fun z => by
          by_cases w : a = x
          · subst w; exact g ⟨rfl, by rw [← hp]; exact z.2⟩
          · exact g2 ⟨by omega, z.2⟩)]
  have s2 : ∀ b, b < B.n → (shK K x A.n p).2.1 b = if (b : Int) = y then 100000 else (shK K (x + 1) A.n p).2.1 b := by
    intro b hb
    by_cases g : (b : Int) = y
    · rw [if_pos g, sh2_t ⟨x, by omega, hx, by omega⟩]
    · rw [if_neg g]
      by_cases g2 : ∃ k, x + 1 ≤ k ∧ k < A.n ∧ p k = (b : Int)
      · obtain ⟨k, k1, k2, k3⟩ := g2
        rw [sh2_t ⟨k, k1, k2, k3⟩, sh2_t ⟨k, by omega, k2, k3⟩]
      · rw [sh2_f g2, sh2_f (fun ⟨k, k1, k2, k3⟩ => by
          by_cases w : k = x
          · subst w; omega
          · exact g2 ⟨k, by omega, k2, k3⟩)]
  have s3 : ∀ a b, a < A.n → b < B.n → (shK K x A.n p).2.2 a b = if (a = x ∧ (b : Int) ≠ y) ∨ ((b : Int) = y ∧ a ≠ x) then 100000 else (shK K (x + 1) A.n p).2.2 a b := by
    intro a b ha hb
    by_cases g : (a = x ∧ (b : Int) ≠ y) ∨ ((b : Int) = y ∧ a ≠ x)
    · rw [if_pos g, sh3_t]
      rcases g with ⟨g1, g2⟩ | ⟨g1, g2⟩
      · subst g1
        exact Or.inl ⟨Nat.le_refl _, by omega⟩
      · exact Or.inr ⟨x, Nat.le_refl _, hx, by omega, by omega⟩
    · rw [if_neg g]
      by_cases g2 : (x + 1 ≤ a ∧ p a ≠ (b : Int)) ∨ ∃ k, x + 1 ≤ k ∧ k < A.n ∧ k ≠ a ∧ p k = (b : Int)
      · rw [sh3_t g2, sh3_t]
        rcases g2 with z | ⟨k, k1, k2, k3, k4⟩
        · exact Or.inl ⟨by omega, z.2⟩
        · exact Or.inr ⟨k, by omega, k2, k3, k4⟩
      · rw [sh3_f g2, sh3_f]
        rintro (z | ⟨k, k1, k2, k3, k4⟩)
        · by_cases w : a = x
          · subst w
            exact g (Or.inl ⟨rfl, by omega⟩)
          · exact g2 (Or.inl ⟨by omega, z.2⟩)
        · by_cases w : k = x
          · subst w
            exact g (Or.inr ⟨by omega, by omega⟩)
          · exact g2 (Or.inr ⟨k, by omega, k2, k3, k4⟩)
  obtain ⟨h1, h2, h3, h4, h5⟩ := hW
  obtain ⟨t1, e1, e2, e3⟩ := l_sh2 (A := A) hA12 hB12 hx (y := y) (by omega) (by omega) (fun s1 => cEq y (-9) (some (0, s1)) (wr s1 17 12 (x : Int) 100000 (fun s2 => wr s2 18 12 y 100000 (fun s3 => X9_shuts_73 (x : Int) y (fun s4 => some (0, s4)) FU 0 s3)))) FU 0 t (by omega) (by omega) h2
  unfold X9_shuts
  rw [show (0 : Int) = ((0 : Nat) : Int) from rfl] at *
  rcases hy with hy | hy
  · refine ⟨t1, ?_, fun b hb => e2 b (by omega), by rw [e2 5 (by omega)]; exact h1, by rw [e2 5 (by omega)]; exact h2, fun i hi => ?_, fun j hj => ?_, fun i j hi hj => ?_⟩
    · refine e1.trans ?_
      simp (disch := omega) only [cLt_t, cLt_f, cEq_t, cEq_f, rdR_ok, rd_ok, wr_ok, put_eq, jn_eq, cl_some, Int.toNat_natCast]
    · rw [e2 17 (by omega), s1 i hi, if_neg (by omega)]
      exact h3 i hi
    · rw [e2 18 (by omega), s2 j hj, if_neg (by omega)]
      exact h4 j hj
    · rw [e3 i j hj, s3 i j hi hj]
      by_cases g : i = x
      · rw [if_pos (by omega), if_pos (by omega)]
      · rw [if_neg (by omega), if_neg (by omega)]
        exact h5 i j hi hj
  · obtain ⟨y, rfl⟩ : ∃ w : Nat, y = w := ⟨y.toNat, by omega⟩
    obtain ⟨t2, f1, f2, f3⟩ := l_sh73 (B := B) hA12 hB12 hx (y := y) (by omega) (fun s4 => some (0, s4)) FU 0 (up (up t1 17 x 100000) 18 y 100000) (by omega) (by omega) (by rw [up_b (by omega), up_b (by omega), e2 5 (by omega)]; exact h1)
    refine ⟨t2, ?_, fun b hb => by rw [f2 b (by omega), up_b (by omega), up_b (by omega), e2 b (by omega)], by rw [f2 5 (by omega), up_b (by omega), up_b (by omega), e2 5 (by omega)]; exact h1, by rw [f2 5 (by omega), up_b (by omega), up_b (by omega), e2 5 (by omega)]; exact h2, fun i hi => ?_, fun j hj => ?_, fun i j hi hj => ?_⟩
    · refine e1.trans ?_
      simp (disch := omega) only [cLt_t, cLt_f, cEq_t, cEq_f, rdR_ok, rd_ok, wr_ok, put_eq, jn_eq, cl_some, Int.toNat_natCast]
      exact f1
    · rw [f2 17 (by omega), up_o (by omega), s1 i hi]
      by_cases g : i = x
      · subst g
        rw [up_eq, if_pos (by omega)]
      · rw [up_i g, if_neg (by omega), e2 17 (by omega)]
        exact h3 i hi
    · rw [f2 18 (by omega), s2 j hj]
      by_cases g : j = y
      · subst g
        rw [up_eq, if_pos rfl]
      · rw [up_i g, up_o (by omega), if_neg (by omega), e2 18 (by omega)]
        exact h4 j hj
    · rw [f3 i j hi hj, up_o (by omega), up_o (by omega), e3 i j hj, s3 i j hi hj, h5 i j hi hj]
      by_cases g : i = x
      · by_cases g2 : j = y
        · rw [if_neg (by omega), if_neg (by omega), if_neg (by omega)]
        · rw [if_neg (by omega), if_pos (by omega), if_pos (by omega)]
      · by_cases g2 : j = y
        · rw [if_pos (by omega), if_pos (by omega)]
        · rw [if_neg (by omega), if_neg (by omega), if_neg (by omega)]
