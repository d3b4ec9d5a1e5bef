/-! the model lays its costs -/
def Hid (p : Prop) : Prop := p
theorem Hid.out {p : Prop} (h : Hid p) : p := h
theorem Hid.mk {p : Prop} (h : p) : Hid p := h
section LAYS
variable {t : St} {A B : Doc}
theorem q_left0 (hD : DocAt (t 5) 0 A) (hn : A.n ≤ 12) {x : Nat} (hx : x < A.n) : X9_leftOf 0 (x : Int) t = some ((A.l x : Int), t) := q_leftOf (k := 0) (by omega) hD hn hx
theorem q_left1 (hD : DocAt (t 5) 25 B) (hn : B.n ≤ 12) {x : Nat} (hx : x < B.n) : X9_leftOf 1 (x : Int) t = some ((B.l x : Int), t) := q_leftOf (k := 1) (by omega) hD hn hx
theorem q_code0 (hD : DocAt (t 5) 0 A) (hn : A.n ≤ 12) {x : Nat} (hx : x < A.n) : X9_codeOf 0 (x : Int) t = some (A.c x, t) := q_codeOf (k := 0) (by omega) hD hn hx
theorem q_code1 (hD : DocAt (t 5) 25 B) (hn : B.n ≤ 12) {x : Nat} (hx : x < B.n) : X9_codeOf 1 (x : Int) t = some (B.c x, t) := q_codeOf (k := 1) (by omega) hD hn hx
theorem q_many0 (hD : DocAt (t 5) 0 A) : X9_many 0 t = some ((A.n : Int), t) := q_many (k := 0) (by omega) hD
theorem q_many1 (hD : DocAt (t 5) 25 B) : X9_many 1 t = some ((B.n : Int), t) := q_many (k := 1) (by omega) hD
theorem q_key0 (hD : DocAt (t 5) 0 A) (hF : Fst A) {x : Nat} (hx : x < A.n) : X9_isKey 0 (x : Int) 0 t = some (keyOf A 0 x, t) := q_isKey (k := 0) (by omega) hD hF hx (Or.inl rfl)
theorem q_key1 (hD : DocAt (t 5) 25 B) (hF : Fst B) {x : Nat} (hx : x < B.n) : X9_isKey 1 (x : Int) 0 t = some (keyOf B 0 x, t) := q_isKey (k := 1) (by omega) hD hF hx (Or.inl rfl)
end LAYS
theorem q_lesser {x y : Int} (h1 : -2147483648 ≤ x) (h2 : x ≤ 2147483647) (h3 : -2147483648 ≤ y) (h4 : y ≤ 2147483647) (s : St) : X9_lesser x y s = some (min x y, s) := by
  unfold X9_lesser
  rw [cLt_if h1 h2 h3 h4]
  split
  · rw [show min x y = x by omega]
  · rw [show min x y = y by omega]
def FG (t t' : St) : Prop := ∀ b, b ≠ 20 → b ≠ 21 → t' b = t b
theorem FG.rfl {s : St} : FG s s := fun _ _ _ => Eq.refl _
theorem FG.trans {a b c : St} (h : FG a b) (g : FG b c) : FG a c := fun x h1 h2 => (g x h1 h2).trans (h x h1 h2)
theorem FG.up {s s' : St} {a i : Nat} {v : Int} (h : FG s s') (ha : a = 20 ∨ a = 21) : FG s (up s' a i v) := fun b h1 h2 => by rw [up_b (by omega)]; exact h b h1 h2
def MW (t : St) (A B : Doc) (K : Prc) : Prop := DocAt (t 5) 0 A ∧ DocAt (t 5) 25 B ∧ (∀ i, i < A.n → t 17 i = K.1 i) ∧ (∀ j, j < B.n → t 18 j = K.2.1 j) ∧ ∀ i j, i < A.n → j < B.n → t 19 (12 * i + j) = K.2.2 i j
theorem MW.of {t t' : St} {A B : Doc} {K : Prc} (h : MW t A B K) (f : FG t t') : MW t' A B K := by
  unfold MW
  rw [f 5 (by omega) (by omega), f 17 (by omega) (by omega), f 18 (by omega) (by omega), f 19 (by omega) (by omega)]
  exact h
def MRt (t : St) (A B : Doc) (K : Prc) (i j : Nat) : Prop := t 20 (12 * i + j) = dF K (Tl A B) (A.l i) (i + 1) (B.l j) (j + 1)
def GInv (A B : Doc) (K : Prc) (l x m y : Nat) (G : Nat → Nat → Prop) (t : St) (i j : Nat) : Prop :=
  (∀ i' j', l ≤ i' → i' ≤ i → m ≤ j' → j' ≤ y + 1 → t 21 (13 * (i' - l) + (j' - m)) = dF K (Tl A B) l i' m j') ∧
  (∀ j', m ≤ j' → j' ≤ j → t 21 (13 * (i + 1 - l) + (j' - m)) = dF K (Tl A B) l (i + 1) m j') ∧
  (∀ i', l ≤ i' → i' ≤ x + 1 → t 21 (13 * (i' - l)) = dF K (Tl A B) l i' m m) ∧
  ∀ a b, a < A.n → b < B.n → (G a b ∨ (l ≤ a ∧ m ≤ b ∧ b ≤ y ∧ A.l a = l ∧ B.l b = m ∧ (a < i ∨ (a = i ∧ b < j)))) → MRt t A B K a b
set_option maxHeartbeats 8000000 in
theorem l_lay134 {A B : Doc} {K : Prc} (hA : Fst A) (hB : Fst B) (hK : K.ok) {l x m y : Nat} (r1 : Rg A.l l (x + 1)) (r2 : Rg B.l m (y + 1)) (hX : x < A.n) (hY : y < B.n) {i : Nat} (hi : l ≤ i) (hi2 : i ≤ x) (G : Nat → Nat → Prop) (hG : ∀ a b, l ≤ a → a ≤ x → m ≤ b → b ≤ y → ¬(A.l a = l ∧ B.l b = m) → G a b) (k : St → Rs) : ∀ (n j : Nat) (t : St), m ≤ j → j ≤ y + 1 → y + 1 < j + n → MW t A B K → GInv A B K l x m y G t i j → ∃ t', X9_laysForest_134 (x : Int) (y : Int) (l : Int) (m : Int) 13 (i : Int) k n (j : Int) t = k t' ∧ FG t t' ∧ GInv A B K l x m y G t' i (y + 1) := by
  have hA12 := hA.1
  have hB12 := hB.1
  intro n
  induction n with
  | zero => intro j s h1 h2 h3; omega
  | succ n ih =>
    intro j t h1 h2 h3 hW hI
    by_cases e : j = y + 1
    · subst e
      refine ⟨t, ?_, FG.rfl, hI⟩
      rw [X9_laysForest_134]
      simp (disch := omega) only [cLt_t, cLt_f, cEq_t, cEq_f, rdR_ok, rd_ok, wr_ok, put_eq, jn_eq, cl_some, Int.toNat_natCast]
    · have l0 := q_left0 hW.1 hA12 (x := i) (by omega)
      have l1 := q_left1 hW.2.1 hB12 (x := j) (by omega)
      have li := r1.at (x := i) hi (by omega)
      have lj := r2.at (x := j) h1 (by omega)
      have v1 := hI.1 i (j + 1) hi (by omega) (by omega) (by omega)
      have v2 := hW.2.2.1 i (by omega)
      have v3 := hI.2.1 j h1 (by omega)
      have v4 := hW.2.2.2.1 j (by omega)
      have v5 := hI.1 (A.l i) (B.l j) li.1 li.2 lj.1 (by omega)
      have v6 := hI.1 i j hi (by omega) h1 (by omega)
      have v7 := hW.2.2.2.2 i j (by omega) (by omega)
      have ri := r1.le (x := i) hi (by omega)
      have ri1 := r1.le (x := i + 1) (by omega) (by omega)
      have rj := r2.le (x := j) h1 (by omega)
      have rj1 := r2.le (x := j + 1) (by omega) (by omega)
      have b1 := dF_r (T := Tl A B) hK ri rj1 (by omega) (by omega)
      have b2 := dF_r (T := Tl A B) hK ri1 rj (by omega) (by omega)
      have b3 := dF_r (T := Tl A B) hK (r1.left hi (by omega)) (r2.left (x := j) h1 (by omega)) (by omega) (by omega)
      have b4 := dF_r (T := Tl A B) hK ri rj (by omega) (by omega)
      have b5 := dF_r (T := Tl A B) hK (fst_rgx hA (x := i) (by omega)) (fst_rgx hB (x := j) (by omega)) (by omega) (by omega)
      have k1 := hK.1 i
      have k2 := hK.2.1 j
      have k3 := hK.2.2 i j
      have eB := Hid.mk (F_both (K := K) (T := Tl A B) ri1 rj1 hi h1)
      have eT := Hid.mk (F_tree (K := K) (T := Tl A B) ri1 rj1 hi h1)
      have i1 : Hid ((13 * ((i : Int) - (l : Int)) + (j : Int) - (m : Int) + 1).toNat = 13 * (i - l) + (j + 1 - m)) := Hid.mk (by omega)
      have i2 : Hid ((13 * ((i : Int) - (l : Int) + 1) + (j : Int) - (m : Int)).toNat = 13 * (i + 1 - l) + (j - m)) := Hid.mk (by omega)
      have i3 : Hid ((13 * ((i : Int) - (l : Int) + 1) + (j : Int) - (m : Int) + 1).toNat = 13 * (i + 1 - l) + (j + 1 - m)) := Hid.mk (by omega)
      have i4 : Hid ((13 * ((i : Int) - (l : Int)) + (j : Int) - (m : Int)).toNat = 13 * (i - l) + (j - m)) := Hid.mk (by omega)
      have i5 : Hid ((13 * ((A.l i : Int) - (l : Int)) + (B.l j : Int) - (m : Int)).toNat = 13 * (A.l i - l) + (B.l j - m)) := Hid.mk (by omega)
      have i6 : Hid ((12 * (i : Int) + (j : Int)).toNat = 12 * i + j) := Hid.mk (by omega)
      by_cases hw : A.l i = l ∧ B.l j = m
      · obtain ⟨w1, w2⟩ := hw
        have eq : Hid (min (dF K (Tl A B) l i m j + K.2.2 i j) (min (dF K (Tl A B) l i m (j + 1) + K.1 i) (dF K (Tl A B) l (i + 1) m j + K.2.1 j)) = dF K (Tl A B) l (i + 1) m (j + 1)) := Hid.mk (by
          have w1' : (Tl A B).1 i = l := w1
          have w2' : (Tl A B).2 j = m := w2
          rw [eB.out, w1', w2', F_nil]
          omega)
        have hf : FG t (up (up t 21 (13 * (i + 1 - l) + (j + 1 - m)) (dF K (Tl A B) l (i + 1) m (j + 1))) 20 (12 * i + j) (dF K (Tl A B) l (i + 1) m (j + 1))) := (FG.rfl.up (by omega)).up (by omega)
        obtain ⟨t', e1, e2, e3⟩ := ih (j + 1) _ (by omega) (by omega) (by omega) (hW.of hf) ⟨fun i' j' a1 a2 a3 a4 => by simp (disch := omega) only [fil_o, up_o, fil_out, fil_in, up_i, up_eq]; exact hI.1 i' j' a1 a2 a3 a4, fun j' a1 a2 => by
          by_cases q : j' = j + 1
          · subst q
            simp (disch := omega) only [fil_o, up_o, fil_out, fil_in, up_i, up_eq]
          · simp (disch := omega) only [fil_o, up_o, fil_out, fil_in, up_i, up_eq]
            exact hI.2.1 j' a1 (by omega), fun i' a1 a2 => by
          by_cases q : 13 * (i' - l) = 13 * (i + 1 - l) + (j + 1 - m)
          · omega
          · simp (disch := omega) only [fil_o, up_o, fil_out, fil_in, up_i, up_eq]
            exact hI.2.2.1 i' a1 a2, fun a b a1 a2 a3 => by
          unfold MRt
          by_cases q : a = i ∧ b = j
          · obtain ⟨rfl, rfl⟩ := q
            simp (disch := omega) only [fil_o, up_o, fil_out, fil_in, up_i, up_eq]
            rw [w1, w2]
          · have := hI.2.2.2 a b a1 a2 (a3.imp id (fun z => ⟨z.1, z.2.1, z.2.2.1, z.2.2.2.1, z.2.2.2.2.1, by omega⟩))
            unfold MRt at this
            simp (disch := omega) only [fil_o, up_o, fil_out, fil_in, up_i, up_eq]
            exact this⟩
        refine ⟨t', ?_, hf.trans e2, e3⟩
        rw [← e1, X9_laysForest_134]
        simp (disch := omega) only [cLt_t, cLt_f, cEq_t, cEq_f, rdR_ok, rd_ok, wr_ok, put_eq, jn_eq, cl_some, Int.toNat_natCast, l0, l1, i1.out, i2.out, i3.out, i4.out, i6.out, v1, v2, v3, v4, v6, v7, q_lesser, eq.out]
        rfl
      · have eq : Hid (min (dF K (Tl A B) l (A.l i) m (B.l j) + dF K (Tl A B) (A.l i) (i + 1) (B.l j) (j + 1)) (min (dF K (Tl A B) l i m (j + 1) + K.1 i) (dF K (Tl A B) l (i + 1) m j + K.2.1 j)) = dF K (Tl A B) l (i + 1) m (j + 1)) := Hid.mk (by
          have eT' : dF K (Tl A B) l (i + 1) m (j + 1) = min (min (dF K (Tl A B) l i m (j + 1) + K.1 i) (dF K (Tl A B) l (i + 1) m j + K.2.1 j)) (dF K (Tl A B) l (A.l i) m (B.l j) + dF K (Tl A B) (A.l i) (i + 1) (B.l j) (j + 1)) := eT.out
          rw [eT']
          omega)
        have gd := hI.2.2.2 i j (by omega) (by omega) (Or.inl (hG i j hi hi2 h1 (by omega) hw))
        unfold MRt at gd
        have hf : FG t (up t 21 (13 * (i + 1 - l) + (j + 1 - m)) (dF K (Tl A B) l (i + 1) m (j + 1))) := FG.rfl.up (by omega)
        obtain ⟨t', e1, e2, e3⟩ := ih (j + 1) _ (by omega) (by omega) (by omega) (hW.of hf) ⟨fun i' j' a1 a2 a3 a4 => by simp (disch := omega) only [fil_o, up_o, fil_out, fil_in, up_i, up_eq]; exact hI.1 i' j' a1 a2 a3 a4, fun j' a1 a2 => by
          by_cases q : j' = j + 1
          · subst q
            simp (disch := omega) only [fil_o, up_o, fil_out, fil_in, up_i, up_eq]
          · simp (disch := omega) only [fil_o, up_o, fil_out, fil_in, up_i, up_eq]
            exact hI.2.1 j' a1 (by omega), fun i' a1 a2 => by
          by_cases q : 13 * (i' - l) = 13 * (i + 1 - l) + (j + 1 - m)
          · omega
          · simp (disch := omega) only [fil_o, up_o, fil_out, fil_in, up_i, up_eq]
            exact hI.2.2.1 i' a1 a2, fun a b a1 a2 a3 => by
          have : MRt t A B K a b := by
            rcases a3 with z | z
            · exact hI.2.2.2 a b a1 a2 (Or.inl z)
            · refine hI.2.2.2 a b a1 a2 (Or.inr ⟨z.1, z.2.1, z.2.2.1, z.2.2.2.1, z.2.2.2.2.1, ?_⟩)
              rcases z.2.2.2.2.2 with w | w
              · exact Or.inl w
              · refine Or.inr ⟨w.1, ?_⟩
                have : b ≠ j := fun q => hw ⟨by rw [← w.1]; exact z.2.2.2.1, by rw [← q]; exact z.2.2.2.2.1⟩
                omega
          unfold MRt at this ⊢
          simp (disch := omega) only [fil_o, up_o, fil_out, fil_in, up_i, up_eq]
          exact this⟩
        refine ⟨t', ?_, hf.trans e2, e3⟩
        rw [← e1, X9_laysForest_134]
        by_cases w1 : A.l i = l
        · have w2 : B.l j ≠ m := fun q => hw ⟨w1, q⟩
          simp (disch := omega) only [cLt_t, cLt_f, cEq_t, cEq_f, rdR_ok, rd_ok, wr_ok, put_eq, jn_eq, cl_some, Int.toNat_natCast, l0, l1, i1.out, i2.out, i3.out, i4.out, i5.out, i6.out, v1, v2, v3, v4, v5, v7, gd, q_lesser, eq.out]
          rfl
        · simp (disch := omega) only [cLt_t, cLt_f, cEq_t, cEq_f, rdR_ok, rd_ok, wr_ok, put_eq, jn_eq, cl_some, Int.toNat_natCast, l0, l1, i1.out, i2.out, i3.out, i4.out, i5.out, i6.out, v1, v2, v3, v4, v5, v7, gd, q_lesser, eq.out]
          rfl
theorem l_lay29 {A B : Doc} {K : Prc} (hA : Fst A) {l x m y : Nat} (r1 : Rg A.l l (x + 1)) (hX : x < A.n) (k : St → Rs) : ∀ (n i : Nat) (t : St), l ≤ i → i ≤ x + 1 → x + 1 < i + n → (∀ i, i < A.n → t 17 i = K.1 i) → (∀ i', l ≤ i' → i' ≤ i → t 21 (13 * (i' - l)) = dF K (Tl A B) l i' m m) → ∃ t', X9_laysForest_29 (x : Int) (y : Int) (l : Int) (m : Int) 13 k n (i : Int) t = k t' ∧ (∀ b, b ≠ 21 → t' b = t b) ∧ ∀ i', l ≤ i' → i' ≤ x + 1 → t' 21 (13 * (i' - l)) = dF K (Tl A B) l i' m m := by
  have hA12 := hA.1
  intro n
  induction n with
  | zero => intro j s h1 h2 h3; omega
  | succ n ih =>
    intro i t h1 h2 h3 hW hI
    by_cases e : i = x + 1
    · subst e
      refine ⟨t, ?_, fun _ _ => rfl, hI⟩
      rw [X9_laysForest_29]
      simp (disch := omega) only [cLt_t, cLt_f, cEq_t, cEq_f, rdR_ok, rd_ok, wr_ok, put_eq, jn_eq, cl_some, Int.toNat_natCast]
    · have v1 := hI i h1 (by omega)
      have v2 := hW i (by omega)
      have eq := (F_del0 (K := K) (T := Tl A B) (m := m) (r1.le (x := i + 1) (by omega) (by omega)) h1).symm
      have i1 : (13 * ((i : Int) - (l : Int))).toNat = 13 * (i - l) := by omega
      have i2 : (13 * ((i : Int) - (l : Int) + 1)).toNat = 13 * (i + 1 - l) := by omega
      obtain ⟨t', e1, e2, e3⟩ := ih (i + 1) (up t 21 (13 * (i + 1 - l)) (dF K (Tl A B) l (i + 1) m m)) (by omega) (by omega) (by omega) (fun j hj => by rw [up_o (by omega)]; exact hW j hj) (fun i' a1 a2 => by
        by_cases q : i' = i + 1
        · subst q
          simp (disch := omega) only [fil_o, up_o, fil_out, fil_in, up_i, up_eq]
        · simp (disch := omega) only [fil_o, up_o, fil_out, fil_in, up_i, up_eq]
          exact hI i' a1 (by omega))
      refine ⟨t', ?_, fun b hb => by rw [e2 b hb, up_b (by omega)], e3⟩
      rw [← e1, X9_laysForest_29]
      simp (disch := omega) only [cLt_t, cLt_f, cEq_t, cEq_f, rdR_ok, rd_ok, wr_ok, put_eq, jn_eq, cl_some, Int.toNat_natCast, i1, i2, v1, v2, eq]
      rfl
theorem l_lay79 {A B : Doc} {K : Prc} (hB : Fst B) {l x m y : Nat} (r2 : Rg B.l m (y + 1)) (hY : y < B.n) (k : St → Rs) : ∀ (n j : Nat) (t : St), m ≤ j → j ≤ y + 1 → y + 1 < j + n → (∀ j, j < B.n → t 18 j = K.2.1 j) → (∀ j', m ≤ j' → j' ≤ j → t 21 (j' - m) = dF K (Tl A B) l l m j') → ∃ t', X9_laysForest_79 (x : Int) (y : Int) (l : Int) (m : Int) 13 k n (j : Int) t = k t' ∧ (∀ b i, b ≠ 21 ∨ 13 ≤ i → t' b i = t b i) ∧ ∀ j', m ≤ j' → j' ≤ y + 1 → t' 21 (j' - m) = dF K (Tl A B) l l m j' := by
  have hB12 := hB.1
  intro n
  induction n with
  | zero => intro j s h1 h2 h3; omega
  | succ n ih =>
    intro j t h1 h2 h3 hW hI
    by_cases e : j = y + 1
    · subst e
      refine ⟨t, ?_, fun _ _ _ => rfl, hI⟩
      rw [X9_laysForest_79]
      simp (disch := omega) only [cLt_t, cLt_f, cEq_t, cEq_f, rdR_ok, rd_ok, wr_ok, put_eq, jn_eq, cl_some, Int.toNat_natCast]
    · have v1 := hI j h1 (by omega)
      have v2 := hW j (by omega)
      have eq := (F_ins0 (K := K) (T := Tl A B) (l := l) (r2.le (x := j + 1) (by omega) (by omega)) h1).symm
      have i1 : ((j : Int) - (m : Int)).toNat = j - m := by omega
      have i2 : ((j : Int) - (m : Int) + 1).toNat = j + 1 - m := by omega
      obtain ⟨t', e1, e2, e3⟩ := ih (j + 1) (up t 21 (j + 1 - m) (dF K (Tl A B) l l m (j + 1))) (by omega) (by omega) (by omega) (fun j hj => by rw [up_o (by omega)]; exact hW j hj) (fun j' a1 a2 => by
        by_cases q : j' = j + 1
        · subst q
          simp (disch := omega) only [fil_o, up_o, fil_out, fil_in, up_i, up_eq]
        · simp (disch := omega) only [fil_o, up_o, fil_out, fil_in, up_i, up_eq]
          exact hI j' a1 (by omega))
      refine ⟨t', ?_, fun b i hb => by rw [e2 b i hb, up_at, if_neg (by omega)], e3⟩
      rw [← e1, X9_laysForest_79]
      simp (disch := omega) only [cLt_t, cLt_f, cEq_t, cEq_f, rdR_ok, rd_ok, wr_ok, put_eq, jn_eq, cl_some, Int.toNat_natCast, i1, i2, v1, v2, eq]
      rfl
theorem l_lay124 {A B : Doc} {K : Prc} (hA : Fst A) (hB : Fst B) (hK : K.ok) {l x m y : Nat} (r1 : Rg A.l l (x + 1)) (r2 : Rg B.l m (y + 1)) (hX : x < A.n) (hY : y < B.n) (hm : m ≤ y + 1) (G : Nat → Nat → Prop) (hG : ∀ a b, l ≤ a → a ≤ x → m ≤ b → b ≤ y → ¬(A.l a = l ∧ B.l b = m) → G a b) (k : St → Rs) : ∀ (n i : Nat) (t : St), l ≤ i → i ≤ x + 1 → x + 1 < i + n → MW t A B K → (∀ i' j', l ≤ i' → i' ≤ i → m ≤ j' → j' ≤ y + 1 → t 21 (13 * (i' - l) + (j' - m)) = dF K (Tl A B) l i' m j') → (∀ i', l ≤ i' → i' ≤ x + 1 → t 21 (13 * (i' - l)) = dF K (Tl A B) l i' m m) → (∀ a b, a < A.n → b < B.n → (G a b ∨ (l ≤ a ∧ m ≤ b ∧ b ≤ y ∧ A.l a = l ∧ B.l b = m ∧ a < i)) → MRt t A B K a b) → ∃ t', X9_laysForest_124 (x : Int) (y : Int) (l : Int) (m : Int) 13 k n (i : Int) t = k t' ∧ FG t t' ∧ ∀ a b, a < A.n → b < B.n → (G a b ∨ (l ≤ a ∧ m ≤ b ∧ b ≤ y ∧ A.l a = l ∧ B.l b = m ∧ a ≤ x)) → MRt t' A B K a b := by
  have hU := FU_gt
  have hA12 := hA.1
  have hB12 := hB.1
  intro n
  induction n with
  | zero => intro j s h1 h2 h3; omega
  | succ n ih =>
    intro i t h1 h2 h3 hW hI hC hR
    by_cases e : i = x + 1
    · subst e
      refine ⟨t, ?_, FG.rfl, fun a b a1 a2 a3 => hR a b a1 a2 (a3.imp id (fun z => ⟨z.1, z.2.1, z.2.2.1, z.2.2.2.1, z.2.2.2.2.1, by omega⟩))⟩
      rw [X9_laysForest_124]
      simp (disch := omega) only [cLt_t, cLt_f, cEq_t, cEq_f, rdR_ok, rd_ok, wr_ok, put_eq, jn_eq, cl_some, Int.toNat_natCast]
    · obtain ⟨t1, e1, e2, e3, e4, e5, e6⟩ := l_lay134 hA hB hK r1 r2 hX hY h1 (by omega) G hG (fun s1 => X9_laysForest_124 (x : Int) (y : Int) (l : Int) (m : Int) 13 k n ((i : Int) + 1) s1) FU m t (Nat.le_refl _) hm (by omega) hW ⟨hI, fun j' a1 a2 => by
        have q : j' = m := by omega
        subst q
        rw [Nat.sub_self, Nat.add_zero]
        exact hC (i + 1) (by omega) (by omega), hC, fun a b a1 a2 a3 => hR a b a1 a2 (a3.imp id (fun z => ⟨z.1, z.2.1, z.2.2.1, z.2.2.2.1, z.2.2.2.2.1, by omega⟩))⟩
      obtain ⟨t', f1, f2, f3⟩ := ih (i + 1) t1 (by omega) (by omega) (by omega) (hW.of e2) (fun i' j' a1 a2 a3 a4 => by
        by_cases q : i' = i + 1
        · subst q
          exact e4 j' a3 a4
        · exact e3 i' j' a1 (by omega) a3 a4) e5 (fun a b a1 a2 a3 => e6 a b a1 a2 (a3.imp id (fun z => ⟨z.1, z.2.1, z.2.2.1, z.2.2.2.1, z.2.2.2.2.1, by omega⟩)))
      refine ⟨t', ?_, e2.trans f2, f3⟩
      rw [← f1, X9_laysForest_124]
      simp (disch := omega) only [cLt_t, cLt_f, cEq_t, cEq_f, rdR_ok, rd_ok, wr_ok, put_eq, jn_eq, cl_some, Int.toNat_natCast]
      exact e1
theorem q_laysForest {A B : Doc} {K : Prc} (hA : Fst A) (hB : Fst B) (hK : K.ok) {x y : Nat} (hX : x < A.n) (hY : y < B.n) (G : Nat → Nat → Prop) (hG : ∀ a b, A.l x ≤ a → a ≤ x → B.l y ≤ b → b ≤ y → ¬(A.l a = A.l x ∧ B.l b = B.l y) → G a b) {t : St} (hW : MW t A B K) (hR : ∀ a b, a < A.n → b < B.n → G a b → MRt t A B K a b) : ∃ t', X9_laysForest (x : Int) (y : Int) t = some (0, t') ∧ FG t t' ∧ ∀ a b, a < A.n → b < B.n → (G a b ∨ (A.l x ≤ a ∧ B.l y ≤ b ∧ b ≤ y ∧ A.l a = A.l x ∧ B.l b = B.l y ∧ a ≤ x)) → MRt t' A B K a b := by
  have hA12 := hA.1
  have hB12 := hB.1
  have hU := FU_gt
  have r1 := fst_rgx hA hX
  have r2 := fst_rgx hB hY
  have lx := (hA.2.1 x hX).2
  have ly := (hB.2.1 y hY).2
  have l0 := q_left0 hW.1 hA12 hX
  have l1 := q_left1 hW.2.1 hB12 hY
  generalize A.l x = l at *
  generalize B.l y = m at *
  obtain ⟨t1, e1, e2, e3⟩ := l_lay29 (A := A) (B := B) (K := K) (l := l) (m := m) (y := y) hA r1 hX (fun s6 => X9_laysForest_79 (x : Int) (y : Int) (l : Int) (m : Int) 13 (fun s7 => X9_laysForest_124 (x : Int) (y : Int) (l : Int) (m : Int) 13 (fun s8 => some (0, s8)) FU (l : Int) s7) FU (m : Int) s6) FU l (up t 21 0 0) (Nat.le_refl _) (by omega) (by omega) (fun i hi => by rw [up_o (by omega)]; exact hW.2.2.1 i hi) (fun i' a1 a2 => by
    have q : i' = l := by omega
    subst q
    rw [Nat.sub_self, Nat.mul_zero, up_eq, F_nil])
  obtain ⟨t2, f1, f2, f3⟩ := l_lay79 (A := A) (B := B) (K := K) (l := l) (m := m) (x := x) hB r2 hY (fun s7 => X9_laysForest_124 (x : Int) (y : Int) (l : Int) (m : Int) 13 (fun s8 => some (0, s8)) FU (l : Int) s7) FU m t1 (Nat.le_refl _) (by omega) (by omega) (fun j hj => by rw [e2 18 (by omega), up_o (by omega)]; exact hW.2.2.2.1 j hj) (fun j' a1 a2 => by
    have q : j' = m := by omega
    subst q
    have := e3 l (Nat.le_refl _) (by omega)
    rw [Nat.sub_self] at this ⊢
    exact this)
  have g1 : FG t t1 := fun b h1 h2 => by rw [e2 b h2, up_b h2]
  have g2 : FG t1 t2 := fun b h1 h2 => by funext i; exact f2 b i (Or.inl h2)
  obtain ⟨t3, h1, h2, h3⟩ := l_lay124 hA hB hK r1 r2 hX hY (by omega) G hG (fun s8 => some (0, s8)) FU l t2 (Nat.le_refl _) (by omega) (by omega) ((hW.of g1).of g2) (fun i' j' a1 a2 a3 a4 => by
    have q : i' = l := by omega
    subst q
    rw [Nat.sub_self, Nat.mul_zero, Nat.zero_add]
    exact f3 j' a3 a4) (fun i' a1 a2 => by
    by_cases q : i' = l
    · subst q
      have := f3 m (Nat.le_refl _) (by omega)
      rw [Nat.sub_self] at this ⊢
      exact this
    · rw [f2 21 _ (Or.inr (by omega))]
      exact e3 i' a1 a2) (fun a b a1 a2 a3 => by
    have := hR a b a1 a2 (a3.resolve_right (fun z => by omega))
    unfold MRt at this ⊢
    rw [f2 20 _ (Or.inl (by omega)), e2 20 (by omega), up_o (by omega)]
    exact this)
  refine ⟨t3, ?_, (g1.trans g2).trans h2, h3⟩
  unfold X9_laysForest
  simp (disch := omega) only [cLt_t, cLt_f, cEq_t, cEq_f, rdR_ok, rd_ok, wr_ok, put_eq, jn_eq, cl_some, Int.toNat_natCast, l0, l1]
  exact e1.trans (f1.trans h1)
theorem l_costs13 {A B : Doc} {K : Prc} (hA : Fst A) (hB : Fst B) (hK : K.ok) {x : Nat} (hx : x < A.n) (k : St → Rs) : ∀ (n y : Nat) (t : St), y ≤ B.n → B.n < y + n → MW t A B K → (∀ a b, a < A.n → b < B.n → (Dn A x a ∨ (keyOf A 0 x = 1 ∧ A.l a = A.l x ∧ a ≤ x ∧ Dn B y b)) → MRt t A B K a b) → ∃ t', X9_laysCosts_13 (x : Int) k n (y : Int) t = k t' ∧ FG t t' ∧ ∀ a b, a < A.n → b < B.n → Dn A (x + 1) a → MRt t' A B K a b := by
  have hA12 := hA.1
  have hB12 := hB.1
  intro n
  induction n with
  | zero => intro y s h1 h2; omega
  | succ n ih =>
    intro y t h1 h2 hW hI
    have hm := q_many1 hW.2.1
    by_cases e : y = B.n
    · subst e
      refine ⟨t, ?_, FG.rfl, fun a b a1 a2 a3 => hI a b a1 a2 ((Dn_step a3).imp id (fun z => ⟨z.1, z.2.1.symm, z.2.2, Dn_all hB a2⟩))⟩
      rw [X9_laysCosts_13]
      simp (disch := omega) only [cLt_t, cLt_f, cEq_t, cEq_f, rdR_ok, rd_ok, wr_ok, put_eq, jn_eq, cl_some, Int.toNat_natCast, hm]
    · have k0 := q_key0 hW.1 hA hx
      have k1 := q_key1 hW.2.1 hB (x := y) (by omega)
      rcases keyOf_r A 0 x with qx | qx
      · obtain ⟨t', f1, f2, f3⟩ := ih (y + 1) t (by omega) (by omega) hW (fun a b a1 a2 a3 => hI a b a1 a2 (a3.imp id (fun z => by omega)))
        refine ⟨t', ?_, f2, f3⟩
        rw [← f1, X9_laysCosts_13]
        simp (disch := omega) only [cLt_t, cLt_f, cEq_t, cEq_f, rdR_ok, rd_ok, wr_ok, put_eq, jn_eq, cl_some, Int.toNat_natCast, hm, k0, qx]
        rfl
      · rcases keyOf_r B 0 y with q | q
        · obtain ⟨t', f1, f2, f3⟩ := ih (y + 1) t (by omega) (by omega) hW (fun a b a1 a2 a3 => hI a b a1 a2 (a3.imp id (fun z => ⟨z.1, z.2.1, z.2.2.1, (Dn_step z.2.2.2).resolve_right (fun w => by omega)⟩)))
          refine ⟨t', ?_, f2, f3⟩
          rw [← f1, X9_laysCosts_13]
          simp (disch := omega) only [cLt_t, cLt_f, cEq_t, cEq_f, rdR_ok, rd_ok, wr_ok, put_eq, jn_eq, cl_some, Int.toNat_natCast, hm, k0, k1, qx, q]
          rfl
        · obtain ⟨t1, g1, g2, g3⟩ := q_laysForest hA hB hK hx (y := y) (by omega) (fun a b => Dn A x a ∨ (keyOf A 0 x = 1 ∧ A.l a = A.l x ∧ a ≤ x ∧ Dn B y b)) (fun a b a1 a2 a3 a4 a5 => by
            by_cases w : A.l a = A.l x
            · exact Or.inr ⟨qx, w, by omega, Dn_in hB (by omega) a3 (by omega) (fun z => a5 ⟨w, z⟩)⟩
            · exact Or.inl (Dn_in hA hx a1 (by omega) w)) hW hI
          obtain ⟨t', f1, f2, f3⟩ := ih (y + 1) t1 (by omega) (by omega) (hW.of g2) (fun a b a1 a2 a3 => g3 a b a1 a2 (by
            rcases a3 with z | z
            · exact Or.inl (Or.inl z)
            · rcases Dn_step z.2.2.2 with w | w
              · exact Or.inl (Or.inr ⟨z.1, z.2.1, z.2.2.1, w⟩)
              · have := (hA.2.1 a a1).2
                have := (hB.2.1 b a2).2
                exact Or.inr ⟨by omega, by omega, by omega, z.2.1, by omega, by omega⟩))
          refine ⟨t', ?_, g2.trans f2, f3⟩
          rw [← f1, X9_laysCosts_13]
          simp (disch := omega) only [cLt_t, cLt_f, cEq_t, cEq_f, rdR_ok, rd_ok, wr_ok, put_eq, jn_eq, cl_some, Int.toNat_natCast, hm, k0, k1, qx, q, g1]
          rfl
theorem l_costs2 {A B : Doc} {K : Prc} (hA : Fst A) (hB : Fst B) (hK : K.ok) (k : St → Rs) : ∀ (n x : Nat) (t : St), x ≤ A.n → A.n < x + n → MW t A B K → (∀ a b, a < A.n → b < B.n → Dn A x a → MRt t A B K a b) → ∃ t', X9_laysCosts_2 k n (x : Int) t = k t' ∧ FG t t' ∧ ∀ a b, a < A.n → b < B.n → MRt t' A B K a b := by
  have hA12 := hA.1
  have hB12 := hB.1
  have hU := FU_gt
  intro n
  induction n with
  | zero => intro y s h1 h2; omega
  | succ n ih =>
    intro x t h1 h2 hW hI
    have hm := q_many0 hW.1
    by_cases e : x = A.n
    · subst e
      refine ⟨t, ?_, FG.rfl, fun a b a1 a2 => hI a b a1 a2 (Dn_all hA a1)⟩
      rw [X9_laysCosts_2]
      simp (disch := omega) only [cLt_t, cLt_f, cEq_t, cEq_f, rdR_ok, rd_ok, wr_ok, put_eq, jn_eq, cl_some, Int.toNat_natCast, hm]
    · obtain ⟨t1, g1, g2, g3⟩ := l_costs13 hA hB hK (x := x) (by omega) (fun s3 => X9_laysCosts_2 k n ((x : Int) + 1) s3) FU 0 t (by omega) (by omega) hW (fun a b a1 a2 a3 => hI a b a1 a2 (a3.resolve_right (fun w => by
        obtain ⟨_, _, _, k, z, _⟩ := w
        omega)))
      obtain ⟨t', f1, f2, f3⟩ := ih (x + 1) t1 (by omega) (by omega) (hW.of g2) g3
      refine ⟨t', ?_, g2.trans f2, f3⟩
      rw [← f1, X9_laysCosts_2]
      simp (disch := omega) only [cLt_t, cLt_f, cEq_t, cEq_f, rdR_ok, rd_ok, wr_ok, put_eq, jn_eq, cl_some, Int.toNat_natCast, hm]
      exact g1
/-- all costs are laid: that of the roots is the least -/
theorem q_laysCosts {A B : Doc} {K : Prc} (hA : WF A) (hB : WF B) (h0 : 0 < A.n) (h1 : 0 < B.n) (hK : K.ok) {t : St} (hW : MW t A B K) : ∃ t', X9_laysCosts t = some (dF K (Tl A B) 0 A.n 0 B.n, t') ∧ FG t t' ∧ ∀ a b, a < A.n → b < B.n → MRt t' A B K a b := by
  have hA12 := hA.1.1
  have hB12 := hB.1.1
  have hU := FU_gt
  obtain ⟨t1, g1, g2, g3⟩ := l_costs2 hA.1 hB.1 hK (fun s1 => cl (X9_many 0 s1) (fun v2 s3 => cl (X9_many 1 s3) (fun v4 s5 => rd s5 20 144 (((12 * (v2 - 1)) + v4) - 1) (fun v6 => some (v6, s5))))) FU 0 t (by omega) (by omega) hW (fun a b a1 a2 a3 => by
    obtain ⟨k, z, _⟩ := a3
    omega)
  have hW1 := hW.of g2
  refine ⟨t1, ?_, g2, g3⟩
  have q := g3 (A.n - 1) (B.n - 1) (by omega) (by omega)
  unfold MRt at q
  rw [hA.2 h0, hB.2 h1, show A.n - 1 + 1 = A.n by omega, show B.n - 1 + 1 = B.n by omega] at q
  have i1 : (12 * ((A.n : Int) - 1) + (B.n : Int) - 1).toNat = 12 * (A.n - 1) + (B.n - 1) := by omega
  refine g1.trans ?_
  simp (disch := omega) only [cLt_t, cLt_f, cEq_t, cEq_f, rdR_ok, rd_ok, wr_ok, put_eq, jn_eq, cl_some, Int.toNat_natCast, q_many0 hW1.1, q_many1 hW1.2.1, i1, q]
