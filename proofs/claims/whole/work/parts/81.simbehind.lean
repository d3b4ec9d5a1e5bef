/-! behind -/
section SB
variable {L : List Sstp} {v : Vec} {G O : Nat → Int}
theorem b_eq {a b : Bool} (h : a = true ↔ b = true) : a = b := by
  cases a <;> cases b <;> simp_all
theorem relc_fst {A B E : Doc} (hA : Fst A) (hB : Fst B) {c : Nat} (h : RelC A B G L c E) (hg : ∀ x, x < A.n → nodeIn L 0 c 1 x → 0 ≤ G x ∧ G x < B.n) : Fst E := by
  obtain ⟨h1, h2, h3⟩ := h
  refine ⟨by rw [h1]; exact hA.1, fun x hx => ?_, fun x y hx => ?_⟩
  · rw [h1] at hx
    rw [h2]
    refine ⟨?_, (hA.2.1 x hx).2⟩
    by_cases w : nodeIn L 0 c 1 x
    · have := hg x hx w
      rw [(h3 x hx).1 w]
      exact (hB.2.1 _ (by omega)).1
    · rw [(h3 x hx).2 w]
      exact (hA.2.1 x hx).1
  · rw [h1] at hx
    rw [h2]
    exact hA.2.2 x y hx
theorem relc_eq {A B E E' : Doc} (hA : Fst A) {c : Nat} (h : RelC A B G L c E) (h' : RelC A B G L c E') {P Q : Nat → Bool} (hP : ∀ y, y < A.n → (P y = true ↔ Q y = true)) : str E P 0 A.n = str E' Q 0 A.n := by
  refine str_congr A.n A.n 0 (Nat.le_refl _) (fun y hy => ⟨b_eq (hP y hy), by rw [h.2.1, h'.2.1], by rw [h.2.1]; exact (hA.2.1 y hy).2, fun _ => ?_⟩)
  by_cases w : nodeIn L 0 c 1 y
  · rw [(h.2.2 y hy).1 w, (h'.2.2 y hy).1 w]
  · rw [(h.2.2 y hy).2 w, (h'.2.2 y hy).2 w]
/-- the class, not all relabelled yet -/
theorem p_growA {s : St} (hv : VecOK v) (hC : CSt s v) (hL : SpC s L) (h24 : L.length ≤ 24) (hG : ∀ x, x < v.1.n → s 57 x = G x) {kk : Nat} (hkk : kk < L.length) (hk2 : (atS L kk).1 = 0 ∨ (atS L kk).1 = 1) (hs : ∀ s, s < kk → ∃ y : Nat, ((atS L s).1 = 0 ∨ (atS L s).1 = 1) ∧ (atS L s).2.1 = (y : Int) ∧ y < v.1.n ∧ ((atS L s).1 = 1 → 0 ≤ G y ∧ G y < v.2.1.n)) (hinc : ∀ s s', s < s' → s' < kk → (atS L s).1 = 0 → (atS L s').1 = 0 → (atS L s).2.1 < (atS L s').2.1) : ∃ s2 E D S, X7_grow (kk : Int) 44 s = some (0, s2) ∧ F44 s s2 ∧ TreeAt s2 44 E ∧ Fst E ∧ RelC v.1 v.2.1 G L kk D ∧ (∀ y, S y = true ↔ ¬nodeIn L 0 kk 0 y) ∧ str E (fun _ => true) 0 E.n = str D S 0 v.1.n := by
  have hA := hv.1.1
  have hB := hv.2.1.1
  have n0 := hA.1
  have n1 := hB.1
  have hU := FU_gt
  obtain ⟨s1, a1, a2, a3⟩ := p_take (a := 44) (b := 38) hC.1 n0 (by omega)
  have f1 : F44 s s1 := fun b hb => a2 b (by omega) (by omega) (by omega)
  obtain ⟨s2, D, b1, b2, b3, b4⟩ := l_relab (A := v.1) (B := v.2.1) (G := G) n0 n1 h24 (kk := kk) (by omega) (fun s hs1 => by
    obtain ⟨y, y1, y2, y3, y4⟩ := hs s hs1
    exact ⟨y, by omega, by omega, y2, fun q => ⟨y3, y4 q⟩⟩) (fun s hs1 => by
    obtain ⟨y, y1, y2, y3, y4⟩ := hs s hs1
    omega) (fun s hs1 => by
    obtain ⟨y, y1, y2, y3, y4⟩ := hs s hs1
    omega) (fun s1 => some (0, s1)) FU 0 s1 v.1 (by omega) (by omega) (f1.sp hL) a3 (hC.2.1.congr (fun b hb => f1 b (by omega))) (fun x hx => by rw [f1 57 (by omega)]; exact hG x hx) ⟨rfl, rfl, fun x hx => ⟨fun ⟨s, _, w, _⟩ => by omega, fun _ => rfl⟩⟩
  have fD : Fst D := relc_fst hA hB b4 (fun x hx ⟨s, _, w1, w2, w3⟩ => by
    obtain ⟨y, y1, y2, y3, y4⟩ := hs s w1
    have : y = x := by omega
    subst this
    exact y4 w2)
  have f2 := f1.trans b2
  have dn : D.n = v.1.n := b4.1
  obtain ⟨s3, E, b', S, c1, c2, c3, c4, c5⟩ := l_grow42 (D := D) fD h24 (kk := kk) (by omega) (fun s hs1 => by
    obtain ⟨y, y1, y2, y3, y4⟩ := hs s hs1
    exact ⟨y, by omega, by omega, y2⟩) hinc (fun s11 => some (0, s11)) FU kk D.n s2 D (fun _ => true) (Nat.le_refl _) (by omega) (f2.sp hL) b3 (kep_0 fD) (fun s hs1 _ => by
    obtain ⟨y, y1, y2, y3, y4⟩ := hs s hs1
    rw [y2, dn]
    omega) (fun y => ⟨fun _ ⟨s, w1, w2, _⟩ => by omega, fun _ => rfl⟩)
  refine ⟨s3, E, D, S, ?_, f2.trans c2, c3, c4.1, b4, c5, ?_⟩
  · have e1 := (hL.2 kk hkk).1
    have b1' : X7_relabelUpTo (kk : Int) 44 s1 = some (0, s2) := b1
    unfold X7_grow
    have hL1 := hL.1
    simp (disch := omega) only [cLt_t, cLt_f, cEq_t, cEq_f, rdR_ok, rd_ok, wr_ok, put_eq, jn_eq, cl_some, Int.toNat_natCast, hL1, e1, a1, b1']
    exact c1
  · have := c4.2.2 (fun _ => true) (fun _ _ => rfl)
    rw [this, dn]
    exact str_congr _ _ 0 (Nat.le_refl _) (fun y hy => ⟨by simp, rfl, (fD.2.1 y (by omega)).2, fun _ => rfl⟩)
/-- the class, insertions alone are left -/
theorem p_growB {s : St} (hv : VecOK v) (hC : CSt s v) (hL : SpC s L) (h24 : L.length ≤ 24) {kk : Nat} (hkk : kk ≤ L.length) (hs : ∀ s, kk ≤ s → s < L.length → ∃ y : Nat, (atS L s).1 = 2 ∧ (atS L s).2.1 = (y : Int) ∧ y < v.2.1.n) (hdec : ∀ s s', kk ≤ s → s < s' → s' < L.length → (atS L s').2.1 < (atS L s).2.1) : ∃ s2 E S, X7_grow (kk : Int) 44 s = some (0, s2) ∧ F44 s s2 ∧ TreeAt s2 44 E ∧ Fst E ∧ (∀ y, S y = true ↔ ¬nodeIn L kk L.length 2 y) ∧ str E (fun _ => true) 0 E.n = str v.2.1 S 0 v.2.1.n := by
  have hB := hv.2.1.1
  have n1 := hB.1
  have hU := FU_gt
  obtain ⟨s1, a1, a2, a3⟩ := p_take (a := 44) (b := 41) hC.2.1 n1 (by omega)
  have f1 : F44 s s1 := fun b hb => a2 b (by omega) (by omega) (by omega)
  obtain ⟨s3, E, b', S, c1, c2, c3, c4, c5⟩ := l_grow72 (D := v.2.1) hB h24 (kk := kk) hkk (fun s h1 h2 => by
    obtain ⟨y, y1, y2, y3⟩ := hs s h1 h2
    exact ⟨y, y1, y2⟩) hdec (fun s5 => some (0, s5)) FU kk v.2.1.n s1 v.2.1 (fun _ => true) (Nat.le_refl _) hkk (by omega) (f1.sp hL) a3 (kep_0 hB) (fun s h1 h2 => by
    obtain ⟨y, y1, y2, y3⟩ := hs s h1 h2
    rw [y2]
    omega) (fun y => ⟨fun _ ⟨s, w1, w2, _⟩ => by omega, fun _ => rfl⟩)
  refine ⟨s3, E, S, ?_, f1.trans c2, c3, c4.1, c5, ?_⟩
  · have hL1 := hL.1
    unfold X7_grow
    by_cases w : kk = L.length
    · simp (disch := omega) only [cLt_t, cLt_f, cEq_t, cEq_f, rdR_ok, rd_ok, wr_ok, put_eq, jn_eq, cl_some, Int.toNat_natCast, hL1, a1]
      exact c1
    · have e1 := (hL.2 kk (by omega)).1
      obtain ⟨y, y1, y2, y3⟩ := hs kk (Nat.le_refl _) (by omega)
      rw [y1] at e1
      simp (disch := omega) only [cLt_t, cLt_f, cEq_t, cEq_f, rdR_ok, rd_ok, wr_ok, put_eq, jn_eq, cl_some, Int.toNat_natCast, hL1, e1, a1]
      exact c1
  · have := c4.2.2 (fun _ => true) (fun _ _ => rfl)
    rw [this]
    exact str_congr _ _ 0 (Nat.le_refl _) (fun y hy => ⟨by simp, rfl, (hB.2.1 y hy).2, fun _ => rfl⟩)
def wEnd (d r : Int) : Int → St → Rs := fun x16 s17 => cl (X9_writesAll d x16 s17) (fun _ s19 => cl (X9_toText r s19) (fun v20 s21 => some (v20, s21)))
/-- how a text stands in the model behind -/
def TxO (t t' : St) (r : Nat) (T : List Int) : Prop := (∀ b, 1 ≤ b → b ≤ 9 → b ≠ 3 → b ≠ 4 → t' b = t b) ∧ (∀ i, i = 6 ∨ i = 9 ∨ i = 10 → t' 0 i = t 0 i) ∧ t' 3 r = T.length ∧ (∀ j, j ≠ r → t' 3 j = t 3 j) ∧ (∀ i, i < T.length → t' 4 (60 * r + i) = atL T i) ∧ (∀ j, ¬(60 * r ≤ j ∧ j < 60 * r + 60) → t' 4 j = t 4 j) ∧ T.length ≤ 60 ∧ ∀ c ∈ T, 0 ≤ c ∧ c ≤ 127
theorem q_wEnd {t : St} {k r m : Nat} {d : Doc} (hk : k < 2) (hr : r < 4) (hD : DocLk (t 5) (25 * k) d) (hF : Fst d) (hm : m < 4096) (hs : ∀ x, x < d.n → tb m x = true → t 15 x = d.c x) : ∃ t', wEnd (k : Int) (r : Int) (m : Int) t = some (((str d (tb m) 0 d.n).length : Int), t') ∧ TxO t t' r (str d (tb m) 0 d.n) := by
  obtain ⟨t2, c1, c2, c3, c4⟩ := q_writesAll hk hD hF hm hs
  obtain ⟨t3, d1, d2, d3, d4, d5, d6⟩ := q_toText hr c3 (by omega)
  refine ⟨t3, ?_, fun b e1 e2 e3 e4 => by rw [d2 b e3 e4, c2.1 b (by omega) (by omega) (by omega)], fun i hi => by rw [d2 0 (by omega) (by omega), c2.2 i (by omega)], d3, fun j hj => by rw [d4 j hj, c2.1 3 (by omega) (by omega) (by omega)], d5, fun j hj => by rw [d6 j hj, c2.1 4 (by omega) (by omega) (by omega)], by omega, str_all hF _ _ 0 (Nat.le_refl _) (Nat.le_refl _)⟩
  unfold wEnd
  rw [c1, cl_some, d1, cl_some]
theorem q_behA {t : St} (hv : VecOK v) (hM : MSt (t 5) v) (hL : SpM t L) (h24 : L.length ≤ 24) (hG : ∀ x, x < v.1.n → t 22 x = G x) {kk r : Nat} (hr : r < 4) (hkk : kk ≤ L.length) (hs : ∀ s, s < kk → ∃ y : Nat, ((atS L s).1 = 0 ∨ (atS L s).1 = 1) ∧ (atS L s).2.1 = (y : Int) ∧ y < v.1.n ∧ ((atS L s).1 = 1 → 0 ≤ G y ∧ G y < v.2.1.n)) {z : Int} : ∃ (m : Nat) (D : Doc) (t' : St), X9_behind_128 (kk : Int) (r : Int) 0 z (fun s15 => X9_behind_161 (kk : Int) (r : Int) 0 (wEnd 0 (r : Int)) FU ((oShl 1 (v.1.n : Int)) - 1) 0 s15) FU 0 t = some (((str D (tb m) 0 v.1.n).length : Int), t') ∧ TxO t t' r (str D (tb m) 0 v.1.n) ∧ RelC v.1 v.2.1 G L kk D ∧ ∀ y, y < v.1.n → (tb m y = true ↔ ¬nodeIn L 0 kk 0 y) := by
  have hA := hv.1.1
  have hB := hv.2.1.1
  have n0 := hA.1
  have n1 := hB.1
  have hU := FU_gt
  obtain ⟨t1, a1, a2, a3⟩ := l_show2 (k := 0) (by omega) hA (z1 := (kk : Int)) (z2 := (r : Int)) (z3 := z) (fun s15 => X9_behind_161 (kk : Int) (r : Int) 0 (wEnd 0 (r : Int)) FU ((oShl 1 (v.1.n : Int)) - 1) 0 s15) FU 0 t (by omega) (by omega) hM.1 (fun y hy => by omega)
  obtain ⟨m, t2, D, b1, b2, b3, b4, b5, b6⟩ := l_b161a (A := v.1) (B := v.2.1) (G := G) (L := L) n0 n1 h24 hkk hs (z2 := (r : Int)) (wEnd 0 (r : Int)) FU 0 (2 ^ v.1.n - 1) t1 v.1 (by omega) (by omega) (one_lt n0) ⟨by rw [a2 0 (by omega)]; exact hL.1, fun i hi => by rw [a2 24 (by omega)]; exact hL.2 i hi⟩ (by rw [a2 5 (by omega)]; exact hM.2.1) (fun x hx => by rw [a2 22 (by omega)]; exact hG x hx) ⟨rfl, rfl, fun x hx => ⟨fun ⟨s, _, w, _⟩ => by omega, fun _ => rfl⟩⟩ a3 (fun y hy => by
    rw [tb_one, decide_eq_true_iff]
    exact ⟨fun _ ⟨s, _, w, _⟩ => by omega, fun _ => hy⟩)
  have fD : Fst D := relc_fst hA hB b4 (fun x hx ⟨s, _, w1, w2, w3⟩ => by
    obtain ⟨y, y1, y2, y3, y4⟩ := hs s w1
    have : y = x := by omega
    subst this
    exact y4 w2)
  have dn : D.n = v.1.n := b4.1
  have hD2 : DocLk (t2 5) (25 * 0) D := ⟨v.1, by rw [b3 5 (by omega), a2 5 (by omega)]; exact hM.1, b4.1.symm, b4.2.1.symm⟩
  obtain ⟨t3, c1, c2⟩ := q_wEnd (k := 0) (r := r) (m := m) (by omega) hr hD2 fD b2 (fun x hx _ => b5 x (by omega))
  rw [dn] at c1 c2
  obtain ⟨o1, o2, o3, o4, o5, o6, o7⟩ := c2
  refine ⟨m, D, t3, ?_, ⟨fun b e1 e2 e3 e4 => by rw [o1 b e1 e2 e3 e4, b3 b (by omega), a2 b (by omega)], fun i hi => by rw [o2 i hi, b3 0 (by omega), a2 0 (by omega)], o3, fun j hj => by rw [o4 j hj, b3 3 (by omega), a2 3 (by omega)], o5, fun j hj => by rw [o6 j hj, b3 4 (by omega), a2 4 (by omega)], o7⟩, b4, b6⟩
  refine a1.trans ?_
  have e1 := bt_one (k := v.1.n) n0
  rw [e1]
  exact b1.trans c1
theorem q_behB {t : St} (hv : VecOK v) (hM : MSt (t 5) v) (hL : SpM t L) (h24 : L.length ≤ 24) (hO : ∀ b, b < v.2.1.n → t 23 b = O b ∧ -9 ≤ O b ∧ O b ≤ 12) {kk r : Nat} (hr : r < 4) (hkk : kk ≤ L.length) (hs : ∀ s, s < kk → ∃ y : Nat, 0 ≤ (atS L s).1 ∧ (atS L s).1 ≤ 2 ∧ (atS L s).2.1 = (y : Int) ∧ y < 12) : ∃ (m : Nat) (t' : St), X9_behind_84 (kk : Int) (r : Int) 1 (fun x22 s23 => X9_behind_128 (kk : Int) (r : Int) 1 x22 (fun s15 => X9_behind_161 (kk : Int) (r : Int) 1 (wEnd 1 (r : Int)) FU x22 0 s15) FU 0 s23) FU 0 0 t = some (((str v.2.1 (tb m) 0 v.2.1.n).length : Int), t') ∧ TxO t t' r (str v.2.1 (tb m) 0 v.2.1.n) ∧ ∀ y, y < v.2.1.n → (tb m y = true ↔ O y ≠ -9 ∨ nodeIn L 0 kk 2 y) := by
  have hB := hv.2.1.1
  have n1 := hB.1
  have hU := FU_gt
  obtain ⟨m0, a1, a2, a3⟩ := l_b84 (O := O) hB hM.2.1 hO (z1 := (kk : Int)) (z2 := (r : Int)) (z3 := 1) (fun x22 s23 => X9_behind_128 (kk : Int) (r : Int) 1 x22 (fun s15 => X9_behind_161 (kk : Int) (r : Int) 1 (wEnd 1 (r : Int)) FU x22 0 s15) FU 0 s23) FU 0 0 (by omega) (by omega) (by omega) (fun y hy => by
    rw [Nat.zero_testBit]
    simp)
  obtain ⟨t1, b1, b2, b3⟩ := l_show2 (k := 1) (by omega) hB (z1 := (kk : Int)) (z2 := (r : Int)) (z3 := (m0 : Int)) (fun s15 => X9_behind_161 (kk : Int) (r : Int) 1 (wEnd 1 (r : Int)) FU (m0 : Int) 0 s15) FU 0 t (by omega) (by omega) hM.2.1 (fun y hy => by omega)
  obtain ⟨m, c1, c2, c3⟩ := l_b161b (L := L) (O := O) h24 (kk := kk) (n1 := v.2.1.n) hkk n1 hs (t := t1) ⟨by rw [b2 0 (by omega)]; exact hL.1, fun i hi => by rw [b2 24 (by omega)]; exact hL.2 i hi⟩ (z2 := (r : Int)) (wEnd 1 (r : Int)) FU 0 m0 (by omega) (by omega) a2 (fun y hy => by
    rw [a3 y hy]
    exact ⟨fun z => Or.inl z, fun z => z.resolve_right (fun ⟨s, _, w, _⟩ => by omega)⟩)
  have hD1 : DocLk (t1 5) (25 * 1) v.2.1 := DocAt.lk (by rw [b2 5 (by omega)]; exact hM.2.1)
  obtain ⟨t3, d1, o1, o2, o3, o4, o5, o6, o7⟩ := q_wEnd (k := 1) (r := r) (m := m) (by omega) hr hD1 hB c2 (fun x hx _ => b3 x hx)
  refine ⟨m, t3, ?_, ⟨fun b e1 e2 e3 e4 => by rw [o1 b e1 e2 e3 e4, b2 b (by omega)], fun i hi => by rw [o2 i hi, b2 0 (by omega)], o3, fun j hj => by rw [o4 j hj, b2 3 (by omega)], o5, fun j hj => by rw [o6 j hj, b2 4 (by omega)], o7⟩, c3⟩
  exact a1.trans (b1.trans (c1.trans d1))
end SB
