/-! the class measures -/
abbrev Tl (A B : Doc) : Lft := (A.l, B.l)
theorem mMin_ok {x y : Int} {k : Int → Rs} (h1 : -2147483648 ≤ x) (h2 : x ≤ 2147483647) (h3 : -2147483648 ≤ y) (h4 : y ≤ 2147483647) : mMin x y k = k (min x y) := by
  unfold mMin
  rw [if_pos ⟨⟨h1, by omega⟩, h3, by omega⟩]
  congr 1
  split <;> omega
theorem fst_rg {d : Doc} (h : Fst d) : Rg d.l 0 d.n := ⟨by omega, fun x _ b => ⟨by omega, (h.2.1 x b).2, fun y c e => h.2.2 x y b e c⟩⟩
theorem fst_rgx {d : Doc} (h : Fst d) {x : Nat} (hx : x < d.n) : Rg d.l (d.l x) (x + 1) := by
  have r := fst_rg h
  refine ⟨by have := (h.2.1 x hx).2; omega, fun y a b => ?_⟩
  by_cases e : y = x
  · subst e
    exact ⟨Nat.le_refl _, (r.2 y (by omega) hx).2⟩
  · exact (r.in (x := x) (by omega) hx).2 y a (by omega)
theorem dF_r {K : Prc} {T : Lft} {l i m j : Nat} (hK : K.ok) (h1 : Rg T.1 l i) (h2 : Rg T.2 m j) (hi : i ≤ 12) (hj : j ≤ 12) : 0 ≤ dF K T l i m j ∧ dF K T l i m j ≤ 2400000 := by
  have q := F_most (K := K) (T := T) (M := 100000) (fun x => (hK.1 x).2) (fun x => (hK.2.1 x).2) _ l i m j h1 h2 rfl
  exact ⟨F_0 h1 h2 (fun x => (hK.1 x).1) (fun x => (hK.2.1 x).1) (fun x y => (hK.2.2 x y).1), by omega⟩
def FF (s s' : St) : Prop := ∀ b, ¬(63 ≤ b ∧ b ≤ 74) → ¬(87 ≤ b) → s' b = s b
theorem FF.rfl {s : St} : FF s s := fun _ _ _ => Eq.refl _
theorem FF.trans {a b c : St} (h : FF a b) (g : FF b c) : FF a c := fun x h1 h2 => (g x h1 h2).trans (h x h1 h2)
theorem FF.up {s s' : St} {a i : Nat} {v : Int} (h : FF s s') (ha : (63 ≤ a ∧ a ≤ 74) ∨ 87 ≤ a) : FF s (up s' a i v) := fun b h1 h2 => by rw [up_b (by omega)]; exact h b h1 h2
def WE (s : St) (A B : Doc) (K : Prc) : Prop := TreeAt s 38 A ∧ TreeAt s 41 B ∧ (∀ i, i < A.n → s 55 i = K.1 i) ∧ (∀ j, j < B.n → s 56 j = K.2.1 j) ∧ ∀ i j, i < A.n → j < B.n → s (75 + i) j = K.2.2 i j
theorem WE.of {s s' : St} {A B : Doc} {K : Prc} (h : WE s A B K) (hA : A.n ≤ 12) (f : FF s s') : WE s' A B K := by
  obtain ⟨h1, h2, h3, h4, h5⟩ := h
  refine ⟨h1.congr (fun b hb => f b (by omega) (by omega)), h2.congr (fun b hb => f b (by omega) (by omega)), fun i hi => ?_, fun j hj => ?_, fun i j hi hj => ?_⟩
  · rw [f 55 (by omega) (by omega)]; exact h3 i hi
  · rw [f 56 (by omega) (by omega)]; exact h4 j hj
  · rw [f (75 + i) (by omega) (by omega)]; exact h5 i j hi hj
/-- what is measured of two nodes is right -/
def Rt (s : St) (A B : Doc) (K : Prc) (i j : Nat) : Prop := s (87 + i) j = dF K (Tl A B) (A.l i) i (B.l j) j + K.2.2 i j ∧ s (63 + i) j = dF K (Tl A B) (A.l i) (i + 1) (B.l j) (j + 1)
def FInv (A B : Doc) (K : Prc) (l m Y : Nat) (G : Nat → Nat → Prop) (s : St) (i j : Nat) : Prop :=
  (∀ i' j', l ≤ i' → i' ≤ i → m ≤ j' → j' ≤ Y → s (99 + i') j' = dF K (Tl A B) l i' m j') ∧
  (∀ j', m ≤ j' → j' ≤ j → s (99 + (i + 1)) j' = dF K (Tl A B) l (i + 1) m j') ∧
  ∀ a b, a < A.n → b < B.n → (G a b ∨ (l ≤ a ∧ m ≤ b ∧ b < Y ∧ A.l a = l ∧ B.l b = m ∧ (a < i ∨ (a = i ∧ b < j)))) → Rt s A B K a b
theorem l_fill104 {A B : Doc} {K : Prc} (hA : Fst A) (hB : Fst B) (hK : K.ok) {l X m Y : Nat} (r1 : Rg A.l l X) (r2 : Rg B.l m Y) (hX : X ≤ A.n) (hY : Y ≤ B.n) {i : Nat} (hi : l ≤ i) (hi2 : i < X) (G : Nat → Nat → Prop) (hG : ∀ a b, l ≤ a → a < X → m ≤ b → b < Y → ¬(A.l a = l ∧ B.l b = m) → G a b) (k : St → Rs) : ∀ (n j : Nat) (s : St), m ≤ j → j ≤ Y → Y < j + n → WE s A B K → FInv A B K l m Y G s i j → ∃ s', X7_fill_104 (l : Int) ((X : Int) - 1) (m : Int) ((Y : Int) - 1) (i : Int) (A.l i : Int) k n (j : Int) s = k s' ∧ FF s s' ∧ FInv A B K l m Y G s' i Y := by
  have hA12 := hA.1
  have hB12 := hB.1
  intro n
  induction n with
  | zero => intro j s h1 h2 h3; omega
  | succ n ih =>
    intro j s h1 h2 h3 hW hI
    by_cases e : j = Y
    · subst e
      refine ⟨s, ?_, FF.rfl, hI⟩
      rw [X7_fill_104]
      simp (disch := omega) only [cLt_t, cLt_f, cEq_t, cEq_f, rdR_ok, rd_ok, wr_ok, put_eq, jn_eq, cl_some, Int.toNat_natCast]
    · have hl := p_leftmost hW.2.1 hB12 (x := j) (by omega)
      have li := r1.at hi hi2
      have lj := r2.at (x := j) h1 (by omega)
      have v1 := hI.1 i (j + 1) hi (by omega) (by omega) (by omega)
      have v2 := hW.2.2.1 i (by omega)
      have v3 := hI.2.1 j h1 (by omega)
      have v4 := hW.2.2.2.1 j (by omega)
      have v5 := hI.1 (A.l i) (B.l j) li.1 li.2 lj.1 (by omega)
      have v7 := hW.2.2.2.2 i j (by omega) (by omega)
      have ri := r1.le (x := i) hi (by omega)
      have ri1 := r1.le (x := i + 1) (by omega) (by omega)
      have rj := r2.le (x := j) h1 (by omega)
      have rj1 := r2.le (x := j + 1) (by omega) (by omega)
      have b1 := dF_r (T := Tl A B) hK ri rj1 (by omega) (by omega)
      have b2 := dF_r (T := Tl A B) hK ri1 rj (by omega) (by omega)
      have b3 := dF_r (T := Tl A B) hK (r1.left hi hi2) (r2.left (x := j) h1 (by omega)) (by omega) (by omega)
      have b4 := dF_r (T := Tl A B) hK (r1.in hi hi2) (r2.in (x := j) h1 (by omega)) (by omega) (by omega)
      have k1 := hK.1 i
      have k2 := hK.2.1 j
      have k3 := hK.2.2 i j
      have eq := (F_both (K := K) (T := Tl A B) ri1 rj1 hi h1).symm
      have ei : ((i : Int) + 1).toNat = i + 1 := by omega
      have ej : ((j : Int) + 1).toNat = j + 1 := by omega
      by_cases hw : A.l i = l ∧ B.l j = m
      · obtain ⟨w1, w2⟩ := hw
        have v6 : s (99 + i) j = dF K (Tl A B) (A.l i) i (B.l j) j := by
          rw [w1, w2]
          exact hI.1 i j hi (by omega) h1 (by omega)
        have hf : FF s (up (up (up s (87 + i) j (dF K (Tl A B) (A.l i) i (B.l j) j + K.2.2 i j)) (99 + (i + 1)) (j + 1) (dF K (Tl A B) l (i + 1) m (j + 1))) (63 + i) j (dF K (Tl A B) l (i + 1) m (j + 1))) := ((FF.rfl.up (by omega)).up (by omega)).up (by omega)
        obtain ⟨s', e1, e2, e3⟩ := ih (j + 1) _ (by omega) (by omega) (by omega) (hW.of hA12 hf) ⟨fun i' j' a1 a2 a3 a4 => by simp (disch := omega) only [fil_o, up_o, fil_out, fil_in, up_i, up_eq]; exact hI.1 i' j' a1 a2 a3 a4, fun j' a1 a2 => by
          by_cases q : j' = j + 1
          · subst q
            simp (disch := omega) only [fil_o, up_o, fil_out, fil_in, up_i, up_eq]
          · simp (disch := omega) only [fil_o, up_o, fil_out, fil_in, up_i, up_eq]
            exact hI.2.1 j' a1 (by omega), fun a b a1 a2 a3 => by
          by_cases q : a = i ∧ b = j
          · obtain ⟨rfl, rfl⟩ := q
            unfold Rt
            simp (disch := omega) only [fil_o, up_o, fil_out, fil_in, up_i, up_eq]
            refine ⟨trivial, ?_⟩
            rw [w1, w2]
          · have := hI.2.2 a b a1 a2 (a3.imp id (fun z => ⟨z.1, z.2.1, z.2.2.1, z.2.2.2.1, z.2.2.2.2.1, by omega⟩))
            unfold Rt at this ⊢
            rw [up_o (by omega), up_o (by omega), up_at, if_neg (by omega), up_at, if_neg (by omega), up_o (by omega), up_o (by omega)]
            exact this⟩
        refine ⟨s', ?_, hf.trans e2, e3⟩
        rw [← e1, X7_fill_104]
        simp (disch := omega) only [cLt_t, cLt_f, cEq_t, cEq_f, rdR_ok, rd_ok, wr_ok, put_eq, jn_eq, cl_some, Int.toNat_natCast, hl, ei, ej, v1, v2, v3, v4, v5, v6, v7, mMin_ok, up_o, up_i, up_eq, eq]
        rfl
      · have gd := (hI.2.2 i j (by omega) (by omega) (Or.inl (hG i j hi hi2 h1 (by omega) hw))).1
        have hf : FF s (up s (99 + (i + 1)) (j + 1) (dF K (Tl A B) l (i + 1) m (j + 1))) := FF.rfl.up (by omega)
        obtain ⟨s', e1, e2, e3⟩ := ih (j + 1) _ (by omega) (by omega) (by omega) (hW.of hA12 hf) ⟨fun i' j' a1 a2 a3 a4 => by simp (disch := omega) only [fil_o, up_o, fil_out, fil_in, up_i, up_eq]; exact hI.1 i' j' a1 a2 a3 a4, fun j' a1 a2 => by
          by_cases q : j' = j + 1
          · subst q
            simp (disch := omega) only [fil_o, up_o, fil_out, fil_in, up_i, up_eq]
          · simp (disch := omega) only [fil_o, up_o, fil_out, fil_in, up_i, up_eq]
            exact hI.2.1 j' a1 (by omega), fun a b a1 a2 a3 => by
          have : Rt s A B K a b := by
            rcases a3 with z | z
            · exact hI.2.2 a b a1 a2 (Or.inl z)
            · refine hI.2.2 a b a1 a2 (Or.inr ⟨z.1, z.2.1, z.2.2.1, z.2.2.2.1, z.2.2.2.2.1, ?_⟩)
              rcases z.2.2.2.2.2 with y | y
              · exact Or.inl y
              · refine Or.inr ⟨y.1, ?_⟩
                have : b ≠ j := fun q => hw ⟨by rw [← y.1]; exact z.2.2.2.1, by rw [← q]; exact z.2.2.2.2.1⟩
                omega
          unfold Rt at this ⊢
          simp (disch := omega) only [fil_o, up_o, fil_out, fil_in, up_i, up_eq]
          exact this⟩
        refine ⟨s', ?_, hf.trans e2, e3⟩
        rw [← e1, X7_fill_104]
        by_cases w1 : A.l i = l
        · have w2 : B.l j ≠ m := fun q => hw ⟨w1, q⟩
          simp (disch := omega) only [cLt_t, cLt_f, cEq_t, cEq_f, rdR_ok, rd_ok, wr_ok, put_eq, jn_eq, cl_some, Int.toNat_natCast, hl, ei, ej, v1, v2, v3, v4, v5, v7, gd, mMin_ok, eq]
          rfl
        · simp (disch := omega) only [cLt_t, cLt_f, cEq_t, cEq_f, rdR_ok, rd_ok, wr_ok, put_eq, jn_eq, cl_some, Int.toNat_natCast, hl, ei, ej, v1, v2, v3, v4, v5, v7, gd, mMin_ok, eq]
          rfl
theorem l_fill12 {A B : Doc} {K : Prc} (hB : Fst B) {l X m Y : Nat} (hl : l ≤ 12) (r2 : Rg B.l m Y) (hY : Y ≤ B.n) (k : St → Rs) : ∀ (n j : Nat) (s : St), m ≤ j → j ≤ Y → Y < j + n → (∀ j, j < B.n → s 56 j = K.2.1 j) → (∀ j', m ≤ j' → j' ≤ j → s (99 + l) j' = dF K (Tl A B) l l m j') → ∃ s', X7_fill_12 (l : Int) ((X : Int) - 1) (m : Int) ((Y : Int) - 1) k n (j : Int) s = k s' ∧ (∀ b, b ≠ 99 + l → s' b = s b) ∧ ∀ j', m ≤ j' → j' ≤ Y → s' (99 + l) j' = dF K (Tl A B) l l m j' := by
  have hB12 := hB.1
  intro n
  induction n with
  | zero => intro j s h1 h2 h3; omega
  | succ n ih =>
    intro j s h1 h2 h3 hW hI
    by_cases e : j = Y
    · subst e
      refine ⟨s, ?_, fun _ _ => rfl, hI⟩
      rw [X7_fill_12]
      simp (disch := omega) only [cLt_t, cLt_f, cEq_t, cEq_f, rdR_ok, rd_ok, wr_ok, put_eq, jn_eq, cl_some, Int.toNat_natCast]
    · have v1 := hI j h1 (by omega)
      have v2 := hW j (by omega)
      have eq := (F_ins0 (K := K) (T := Tl A B) (l := l) (r2.le (x := j + 1) (by omega) (by omega)) h1).symm
      have ej : ((j : Int) + 1).toNat = j + 1 := by omega
      obtain ⟨s', e1, e2, e3⟩ := ih (j + 1) (up s (99 + l) (j + 1) (dF K (Tl A B) l l m (j + 1))) (by omega) (by omega) (by omega) (fun j hj => by rw [up_o (by omega)]; exact hW j hj) (fun j' a1 a2 => by
        by_cases q : j' = j + 1
        · subst q
          simp (disch := omega) only [fil_o, up_o, fil_out, fil_in, up_i, up_eq]
        · simp (disch := omega) only [fil_o, up_o, fil_out, fil_in, up_i, up_eq]
          exact hI j' a1 (by omega))
      refine ⟨s', ?_, fun b hb => by rw [e2 b hb, up_b (by omega)], e3⟩
      rw [← e1, X7_fill_12]
      simp (disch := omega) only [cLt_t, cLt_f, cEq_t, cEq_f, rdR_ok, rd_ok, wr_ok, put_eq, jn_eq, cl_some, Int.toNat_natCast, ej, v1, v2, eq]
      rfl
theorem l_fill56 {A B : Doc} {K : Prc} (hA : Fst A) (hB : Fst B) (hK : K.ok) {l X m Y : Nat} (r1 : Rg A.l l X) (r2 : Rg B.l m Y) (hX : X ≤ A.n) (hY : Y ≤ B.n) (G : Nat → Nat → Prop) (hG : ∀ a b, l ≤ a → a < X → m ≤ b → b < Y → ¬(A.l a = l ∧ B.l b = m) → G a b) (k : St → Rs) : ∀ (n i : Nat) (s : St), l ≤ i → i ≤ X → X < i + n → WE s A B K → (∀ i' j', l ≤ i' → i' ≤ i → m ≤ j' → j' ≤ Y → s (99 + i') j' = dF K (Tl A B) l i' m j') → (∀ a b, a < A.n → b < B.n → (G a b ∨ (l ≤ a ∧ m ≤ b ∧ b < Y ∧ A.l a = l ∧ B.l b = m ∧ a < i)) → Rt s A B K a b) → ∃ s', X7_fill_56 (l : Int) ((X : Int) - 1) (m : Int) ((Y : Int) - 1) k n (i : Int) s = k s' ∧ FF s s' ∧ (∀ i' j', l ≤ i' → i' ≤ X → m ≤ j' → j' ≤ Y → s' (99 + i') j' = dF K (Tl A B) l i' m j') ∧ (∀ a b, a < A.n → b < B.n → (G a b ∨ (l ≤ a ∧ m ≤ b ∧ b < Y ∧ A.l a = l ∧ B.l b = m ∧ a < X)) → Rt s' A B K a b) := by
  have hA12 := hA.1
  have hB12 := hB.1
  have hU := FU_gt
  have hm := r2.1
  intro n
  induction n with
  | zero => intro j s h1 h2 h3; omega
  | succ n ih =>
    intro i s h1 h2 h3 hW hI hR
    by_cases e : i = X
    · subst e
      refine ⟨s, ?_, FF.rfl, hI, hR⟩
      rw [X7_fill_56]
      simp (disch := omega) only [cLt_t, cLt_f, cEq_t, cEq_f, rdR_ok, rd_ok, wr_ok, put_eq, jn_eq, cl_some, Int.toNat_natCast]
    · have hl := p_leftmost hW.1 hA12 (x := i) (by omega)
      have v1 := hI i m h1 (by omega) (by omega) hm
      have v2 := hW.2.2.1 i (by omega)
      have ei : ((i : Int) + 1).toNat = i + 1 := by omega
      have eq := (F_del0 (K := K) (T := Tl A B) (m := m) (r1.le (x := i + 1) (by omega) (by omega)) h1).symm
      have hf : FF s (up s (99 + (i + 1)) m (dF K (Tl A B) l (i + 1) m m)) := FF.rfl.up (by omega)
      obtain ⟨s1, e1, e2, e3, e4, e5⟩ := l_fill104 hA hB hK r1 r2 hX hY h1 (by omega) G hG (fun s8 => X7_fill_56 (l : Int) ((X : Int) - 1) (m : Int) ((Y : Int) - 1) k n ((i : Int) + 1) s8) FU m _ (Nat.le_refl _) hm (by omega) (hW.of hA12 hf) ⟨fun i' j' a1 a2 a3 a4 => by simp (disch := omega) only [fil_o, up_o, fil_out, fil_in, up_i, up_eq]; exact hI i' j' a1 a2 a3 a4, fun j' a1 a2 => by
        have q : j' = m := by omega
        subst q
        simp (disch := omega) only [fil_o, up_o, fil_out, fil_in, up_i, up_eq], fun a b a1 a2 a3 => by
        have := hR a b a1 a2 (a3.imp id (fun z => ⟨z.1, z.2.1, z.2.2.1, z.2.2.2.1, z.2.2.2.2.1, by omega⟩))
        unfold Rt at this ⊢
        simp (disch := omega) only [fil_o, up_o, fil_out, fil_in, up_i, up_eq]
        exact this⟩
      obtain ⟨s', f1, f2, f3, f4⟩ := ih (i + 1) s1 (by omega) (by omega) (by omega) ((hW.of hA12 hf).of hA12 e2) (fun i' j' a1 a2 a3 a4 => by
        by_cases q : i' = i + 1
        · subst q
          exact e4 j' a3 a4
        · exact e3 i' j' a1 (by omega) a3 a4) (fun a b a1 a2 a3 => e5 a b a1 a2 (a3.imp id (fun z => ⟨z.1, z.2.1, z.2.2.1, z.2.2.2.1, z.2.2.2.2.1, by omega⟩)))
      refine ⟨s', ?_, (hf.trans e2).trans f2, f3, f4⟩
      rw [← f1, X7_fill_56]
      simp (disch := omega) only [cLt_t, cLt_f, cEq_t, cEq_f, rdR_ok, rd_ok, wr_ok, put_eq, jn_eq, cl_some, Int.toNat_natCast, hl, ei, v1, v2, eq]
      exact e1
/-- two forests are measured -/
theorem p_fill {A B : Doc} {K : Prc} (hA : Fst A) (hB : Fst B) (hK : K.ok) {l X m Y : Nat} (r1 : Rg A.l l X) (r2 : Rg B.l m Y) (hX : X ≤ A.n) (hY : Y ≤ B.n) (G : Nat → Nat → Prop) (hG : ∀ a b, l ≤ a → a < X → m ≤ b → b < Y → ¬(A.l a = l ∧ B.l b = m) → G a b) {s : St} (hW : WE s A B K) (hR : ∀ a b, a < A.n → b < B.n → G a b → Rt s A B K a b) : ∃ s', X7_fill (l : Int) ((X : Int) - 1) (m : Int) ((Y : Int) - 1) s = some (0, s') ∧ FF s s' ∧ (∀ i' j', l ≤ i' → i' ≤ X → m ≤ j' → j' ≤ Y → s' (99 + i') j' = dF K (Tl A B) l i' m j') ∧ (∀ a b, a < A.n → b < B.n → (G a b ∨ (l ≤ a ∧ m ≤ b ∧ b < Y ∧ A.l a = l ∧ B.l b = m ∧ a < X)) → Rt s' A B K a b) := by
  have hA12 := hA.1
  have hB12 := hB.1
  have hU := FU_gt
  have hm := r2.1
  have hl := r1.1
  have hf : FF s (up s (99 + l) m 0) := FF.rfl.up (by omega)
  obtain ⟨s1, e1, e2, e3⟩ := l_fill12 (A := A) (K := K) (X := X) (l := l) hB (by omega) r2 hY (fun s3 => X7_fill_56 (l : Int) ((X : Int) - 1) (m : Int) ((Y : Int) - 1) (fun s4 => some (0, s4)) FU l s3) FU m (up s (99 + l) m 0) (Nat.le_refl _) hm (by omega) (hW.of hA12 hf).2.2.2.1 (fun j' a1 a2 => by
    have q : j' = m := by omega
    subst q
    rw [up_eq, F_nil])
  have g : FF (up s (99 + l) m 0) s1 := fun b h1 h2 => e2 b (by omega)
  obtain ⟨s', f1, f2, f3, f4⟩ := l_fill56 hA hB hK r1 r2 hX hY G hG (fun s4 => some (0, s4)) FU l s1 (Nat.le_refl _) hl (by omega) ((hW.of hA12 hf).of hA12 g) (fun i' j' a1 a2 a3 a4 => by
    have q : i' = l := by omega
    subst q
    exact e3 j' a3 a4) (fun a b a1 a2 a3 => by
    have := hR a b a1 a2 (a3.resolve_right (fun z => by omega))
    unfold Rt at this ⊢
    rw [e2 _ (by omega), e2 _ (by omega)]
    simp (disch := omega) only [fil_o, up_o, fil_out, fil_in, up_i, up_eq]
    exact this)
  refine ⟨s', ?_, (hf.trans g).trans f2, f3, f4⟩
  rw [← f1, X7_fill]
  simp (disch := omega) only [cLt_t, cLt_f, cEq_t, cEq_f, rdR_ok, rd_ok, wr_ok, put_eq, jn_eq, cl_some, Int.toNat_natCast]
  exact e1
