/-! the model's way -/
theorem MW.prc {t : St} {A B : Doc} {K K' : Prc} (h : MW t A B K) (e1 : ∀ a, a < A.n → K'.1 a = K.1 a) (e2 : ∀ b, b < B.n → K'.2.1 b = K.2.1 b) (e3 : ∀ a b, a < A.n → b < B.n → K'.2.2 a b = K.2.2 a b) : MW t A B K' :=
  ⟨h.1, h.2.1, fun i hi => by rw [e1 i hi]; exact h.2.2.1 i hi, fun j hj => by rw [e2 j hj]; exact h.2.2.2.1 j hj, fun i j hi hj => by rw [e3 i j hi hj]; exact h.2.2.2.2 i j hi hj⟩
theorem shK_top {t : St} {A B : Doc} {K : Prc} {p : Nat → Int} (h : MW t A B K) : MW t A B (shK K A.n A.n p) := by
  refine h.prc (fun a ha => sh1_f (fun z => by omega)) (fun b hb => sh2_f (fun ⟨k, k1, k2, _⟩ => by omega)) (fun a b ha hb => sh3_f ?_)
  rintro (z | ⟨k, k1, k2, _⟩)
  · omega
  · omega
theorem shK_p {t : St} {A B : Doc} {K : Prc} {x0 : Nat} {p q : Nat → Int} (h : MW t A B (shK K x0 A.n p)) (e : ∀ k, x0 ≤ k → k < A.n → q k = p k) : MW t A B (shK K x0 A.n q) := by
  refine h.prc (fun a ha => ?_) (fun b hb => ?_) (fun a b ha hb => ?_)
  · by_cases g : x0 ≤ a ∧ p a ≠ -9
    · rw [sh1_t g, sh1_t ⟨g.1, by rw [e a g.1 ha]; exact g.2⟩]
    · rw [sh1_f g, sh1_f (fun z => g ⟨z.1, by rw [← e a z.1 ha]; exact z.2⟩)]
  · by_cases g : ∃ k, x0 ≤ k ∧ k < A.n ∧ p k = (b : Int)
    · obtain ⟨k, k1, k2, k3⟩ := g
      rw [sh2_t ⟨k, k1, k2, k3⟩, sh2_t ⟨k, k1, k2, by rw [e k k1 k2]; exact k3⟩]
    · rw [sh2_f g, sh2_f (fun ⟨k, k1, k2, k3⟩ => g ⟨k, k1, k2, by rw [← e k k1 k2]; exact k3⟩)]
  · by_cases g : (x0 ≤ a ∧ p a ≠ (b : Int)) ∨ ∃ k, x0 ≤ k ∧ k < A.n ∧ k ≠ a ∧ p k = (b : Int)
    · rw [sh3_t g, sh3_t]
      rcases g with z | ⟨k, k1, k2, k3, k4⟩
      · exact Or.inl ⟨z.1, by rw [e a z.1 ha]; exact z.2⟩
      · exact Or.inr ⟨k, k1, k2, k3, by rw [e k k1 k2]; exact k4⟩
    · rw [sh3_f g, sh3_f]
      rintro (z | ⟨k, k1, k2, k3, k4⟩)
      · exact g (Or.inl ⟨z.1, by rw [← e a z.1 ha]; exact z.2⟩)
      · exact g (Or.inr ⟨k, k1, k2, k3, by rw [← e k k1 k2]; exact k4⟩)
theorem l_known {A B : Doc} {K : Prc} (hA12 : A.n ≤ 12) (hB12 : B.n ≤ 12) {x : Nat} (k : St → Rs) : ∀ (n c : Nat) (t : St), x + 1 ≤ c → c ≤ A.n → c < x + n → (∀ a, x < a → a < A.n → t 22 a = -9 ∨ (0 ≤ t 22 a ∧ t 22 a < B.n)) → MW t A B (shK K c A.n (t 22)) → ∃ t', X9_laysKnown_12 (x : Int) k n ((c : Int) - 1) t = k t' ∧ FL t t' ∧ MW t' A B (shK K (x + 1) A.n (t 22)) := by
  intro n
  induction n with
  | zero => intro c t h1 h2 h3; omega
  | succ n ih =>
    intro c t h1 h2 h3 hp hW
    rw [X9_laysKnown_12]
    by_cases e : c = x + 1
    · subst e
      refine ⟨t, ?_, FL.rfl, hW⟩
      simp (disch := omega) only [cLt_t, cLt_f, cEq_t, cEq_f, rdR_ok, rd_ok, wr_ok, put_eq, jn_eq, cl_some, Int.toNat_natCast]
    · obtain ⟨c, rfl⟩ : ∃ w, c = w + 1 := ⟨c - 1, by omega⟩
      have e1 : ((c + 1 : Nat) : Int) - 1 = c := by omega
      have e2 : (c : Int) + -1 = (c : Int) - 1 := by omega
      obtain ⟨t1, g1, g2, g3⟩ := q_shuts hA12 hB12 (x := c) (by omega) (p := t 22) rfl (hp c (by omega) (by omega)) hW
      have e22 : t1 22 = t 22 := g2 22 (by omega)
      obtain ⟨t', f1, f2, f3⟩ := ih c t1 (by omega) (by omega) (by omega) (fun a a1 a2 => by rw [e22]; exact hp a a1 a2) (by rw [e22]; exact g3)
      rw [e22] at f3
      refine ⟨t', ?_, g2.trans f2, f3⟩
      rw [e1]
      simp (disch := omega) only [cLt_t, cLt_f, cEq_t, cEq_f, rdR_ok, rd_ok, wr_ok, put_eq, jn_eq, cl_some, Int.toNat_natCast, e2, g1]
      exact f1
theorem q_laysKnown {v : Vec} (hv : VecOK v) {x : Nat} (hx : x < v.1.n) {t : St} (hM : MSt (t 5) v) (hp : ∀ a, x < a → a < v.1.n → t 22 a = -9 ∨ (0 ≤ t 22 a ∧ t 22 a < v.2.1.n)) : ∃ t', X9_laysKnown (x : Int) t = some (0, t') ∧ FL t t' ∧ MW t' v.1 v.2.1 (shK (Kv v) (x + 1) v.1.n (t 22)) := by
  have hA12 := hv.1.1.1
  have hB12 := hv.2.1.1.1
  have hU := FU_gt
  obtain ⟨t1, e1, e2, e3⟩ := q_laysPrices hv (by omega) hM
  have e22 : t1 22 = t 22 := e2 22 (by omega)
  obtain ⟨t', f1, f2, f3⟩ := l_known (K := Kv v) hA12 hB12 (x := x) (fun s5 => some (0, s5)) FU v.1.n t1 (by omega) (Nat.le_refl _) (by omega) (fun a a1 a2 => by rw [e22]; exact hp a a1 a2) (shK_top e3)
  rw [e22] at f3
  refine ⟨t', ?_, e2.trans f2, f3⟩
  unfold X9_laysKnown
  simp (disch := omega) only [cLt_t, cLt_f, cEq_t, cEq_f, rdR_ok, rd_ok, wr_ok, put_eq, jn_eq, cl_some, Int.toNat_natCast, e1, q_many0 e3.1]
  exact f1
theorem least_r {v : Vec} (hv : VecOK v) : 0 ≤ dF (Kv v) (Tl v.1 v.2.1) 0 v.1.n 0 v.2.1.n ∧ dF (Kv v) (Tl v.1 v.2.1) 0 v.1.n 0 v.2.1.n ≤ 648 := by
  have h1 := fst_rg hv.1.1
  have h2 := fst_rg hv.2.1.1
  have n0 := hv.1.1.1
  have n1 := hv.2.1.1.1
  have r := Kv_r hv
  have q := F_most (K := Kv v) (T := Tl v.1 v.2.1) (M := 27) (fun x => (r.1 x).2) (fun x => (r.2.1 x).2) _ 0 v.1.n 0 v.2.1.n h1 h2 rfl
  exact ⟨F_0 h1 h2 (fun x => (r.1 x).1) (fun x => (r.2.1 x).1) (fun x y => (r.2.2 x y).1), by omega⟩
/-- what the model holds of others: those known from c on -/
def Oth (G : Nat → Int) (c n0 n1 : Nat) (o : Nat → Int) : Prop := ∀ b : Nat, b < n1 → (o b = -9 ∧ ∀ k, c ≤ k → k < n0 → G k ≠ (b : Int)) ∨ ∃ k : Nat, c ≤ k ∧ k < n0 ∧ G k = (b : Int) ∧ o b = (k : Int)
def FW (t t' : St) : Prop := ∀ b, b < 17 ∨ 23 < b → t' b = t b
theorem l_way55 {v : Vec} (hv : VecOK v) (h1 : 0 < v.2.1.n) {G : Nat → Int} (hG : LX (Kv v) (Tl v.1 v.2.1) 0 v.1.n 0 v.2.1.n G) {x : Nat} (hx : x < v.1.n) (k : St → Rs) : ∀ (n c : Nat) (t : St), c ≤ v.2.1.n → c < n → MSt (t 5) v → (∀ a, x < a → a < v.1.n → t 22 a = G a) → t 22 x = -9 → Oth G (x + 1) v.1.n v.2.1.n (t 23) → G x < c → ∃ t', X9_laysWay_55 (dF (Kv v) (Tl v.1 v.2.1) 0 v.1.n 0 v.2.1.n) (x : Int) k n ((c : Int) - 1) t = k t' ∧ FW t t' ∧ (∀ a, x ≤ a → a < v.1.n → t' 22 a = G a) ∧ Oth G x v.1.n v.2.1.n (t' 23) := by
  have hA12 := hv.1.1.1
  have hB12 := hv.2.1.1.1
  have r1 := fst_rg hv.1.1
  have r2 := fst_rg hv.2.1.1
  have hl := least_r hv
  have rng : ∀ a, a < v.1.n → G a = -9 ∨ (0 ≤ G a ∧ G a < v.2.1.n) := fun a ha => by
    have := hG.1.range a (by omega) ha
    omega
  intro n
  induction n with
  | zero => intro c t h1 h2; omega
  | succ n ih =>
    intro c t h2 h3 hM hk hx0 hO hc
    rw [X9_laysWay_55]
    by_cases e : c = 0
    · subst e
      have gx : G x = -9 := by
        have := rng x hx
        omega
      refine ⟨t, ?_, fun _ _ => rfl, fun a a1 a2 => ?_, fun b hb => ?_⟩
      · simp (disch := omega) only [cLt_t, cLt_f, cEq_t, cEq_f, rdR_ok, rd_ok, wr_ok, put_eq, jn_eq, cl_some, Int.toNat_natCast]
      · by_cases q : a = x
        · subst q; rw [hx0, gx]
        · exact hk a (by omega) a2
      · rcases hO b hb with ⟨o1, o2⟩ | ⟨k, o1, o2, o3, o4⟩
        · refine Or.inl ⟨o1, fun k k1 k2 => ?_⟩
          by_cases q : k = x
          · subst q; omega
          · exact o2 k (by omega) k2
        · exact Or.inr ⟨k, by omega, o2, o3, o4⟩
    · obtain ⟨y, rfl⟩ : ∃ w, c = w + 1 := ⟨c - 1, by omega⟩
      have e1 : ((y + 1 : Nat) : Int) - 1 = y := by omega
      have e2 : (y : Int) + -1 = (y : Int) - 1 := by omega
      rw [e1]
      rcases hO y (by omega) with ⟨o1, o2⟩ | ⟨k', o1, o2, o3, o4⟩
      · obtain ⟨t1, a1, a2, a3⟩ := q_laysKnown hv hx hM (fun a a1 a2 => by rw [hk a a1 a2]; exact rng a a2)
        have a3' : MW t1 v.1 v.2.1 (shK (Kv v) (x + 1) v.1.n (fun a => if a = x then (y : Int) else t 22 a)) := shK_p a3 (fun a q1 q2 => if_neg (by omega))
        obtain ⟨t2, b1, b2, b3⟩ := q_shuts hA12 hB12 hx (p := fun a => if a = x then (y : Int) else t 22 a) (y := (y : Int)) (if_pos rfl) (Or.inr ⟨by omega, by omega⟩) a3'
        have hK' : (shK (Kv v) x v.1.n (fun a => if a = x then (y : Int) else t 22 a)).ok := shK_ok (Kv_ok hv)
        obtain ⟨t3, c1, c2, c3⟩ := q_laysCosts hv.1 hv.2.1 (by omega) h1 hK' b3
        have fl : FL t t3 := (a2.trans b2).trans c2.fl
        have dr := dF_r (T := Tl v.1 v.2.1) hK' r1 r2 hA12 hB12
        have tr := trial (K := Kv v) (T := Tl v.1 v.2.1) (x0 := x) (n0 := v.1.n) (n1 := v.2.1.n) (p := fun a => if a = x then (y : Int) else t 22 a) (Kv_ok hv) r1 r2 (fun a q1 q2 => by
          by_cases q : a = x
          · rw [if_pos q]; omega
          · rw [if_neg q, hk a (by omega) q2]
            have := rng a q2
            omega) (by omega)
        by_cases g : dF (shK (Kv v) x v.1.n (fun a => if a = x then (y : Int) else t 22 a)) (Tl v.1 v.2.1) 0 v.1.n 0 v.2.1.n = dF (Kv v) (Tl v.1 v.2.1) 0 v.1.n 0 v.2.1.n
        · obtain ⟨P, hP, hP2⟩ := tr.mp g
          have px : P x = (y : Int) := (hP2 x (Nat.le_refl _) hx).trans (if_pos rfl)
          have le := hG.2 P hP x (by omega) hx (fun a q1 q2 => by
            rw [hP2 a (by omega) q2, if_neg (by omega)]
            exact hk a q1 q2)
          have gx : G x = y := by omega
          refine ⟨up (up t3 22 x y) 23 y x, ?_, fun b hb => by rw [up_b (by omega), up_b (by omega), fl b (by omega)], fun a q1 q2 => ?_, fun b hb => ?_⟩
          · obtain ⟨n, rfl⟩ : ∃ w, n = w + 1 := ⟨n - 1, by omega⟩
            simp (disch := omega) only [cLt_t, cLt_f, cEq_t, cEq_f, rdR_ok, rd_ok, wr_ok, put_eq, jn_eq, cl_some, Int.toNat_natCast, hx0, o1, a1, b1, c1, e2]
            rw [X9_laysWay_55]
            have z : up (up t3 22 x y) 23 y x 22 x = y := by simp (disch := omega) only [fil_o, up_o, fil_out, fil_in, up_i, up_eq]
            by_cases y0 : y = 0
            · simp (disch := omega) only [cLt_t, cLt_f, cEq_t, cEq_f, rdR_ok, rd_ok, wr_ok, put_eq, jn_eq, cl_some, Int.toNat_natCast]
            · simp (disch := omega) only [cLt_t, cLt_f, cEq_t, cEq_f, rdR_ok, rd_ok, wr_ok, put_eq, jn_eq, cl_some, Int.toNat_natCast, z]
          · by_cases q : a = x
            · subst q
              simp (disch := omega) only [fil_o, up_o, fil_out, fil_in, up_i, up_eq]
              exact gx.symm
            · simp (disch := omega) only [fil_o, up_o, fil_out, fil_in, up_i, up_eq]
              rw [fl 22 (by omega)]
              exact hk a (by omega) q2
          · by_cases q : b = y
            · subst q
              exact Or.inr ⟨x, Nat.le_refl _, hx, gx, by simp (disch := omega) only [fil_o, up_o, fil_out, fil_in, up_i, up_eq]⟩
            · rw [up_i q, up_o (by omega), fl 23 (by omega)]
              rcases hO b hb with ⟨w1, w2⟩ | ⟨k, w1, w2, w3, w4⟩
              · refine Or.inl ⟨w1, fun k k1 k2 => ?_⟩
                by_cases q : k = x
                · subst q; omega
                · exact w2 k (by omega) k2
              · exact Or.inr ⟨k, by omega, w2, w3, w4⟩
        · have gx : G x ≠ y := fun q => g (tr.mpr ⟨G, hG.1, fun a q1 q2 => by
            by_cases w : a = x
            · subst w; rw [if_pos rfl]; exact q
            · rw [if_neg w]; exact (hk a (by omega) q2).symm⟩)
          obtain ⟨t', f1, f2, f3⟩ := ih y t3 (by omega) (by omega) (fl.mst hM) (fun a q1 q2 => by rw [fl 22 (by omega)]; exact hk a q1 q2) (by rw [fl 22 (by omega)]; exact hx0) (by rw [fl 23 (by omega)]; exact hO) (by omega)
          refine ⟨t', ?_, fun b hb => by rw [f2 b hb, fl b (by omega)], f3⟩
          simp (disch := omega) only [cLt_t, cLt_f, cEq_t, cEq_f, rdR_ok, rd_ok, wr_ok, put_eq, jn_eq, cl_some, Int.toNat_natCast, hx0, o1, a1, b1, c1, e2]
          exact f1
      · have gx : G x ≠ y := fun q => by
          have := hG.1.inj x k' (by omega) hx (by omega) o2 (by omega) (by omega)
          omega
        obtain ⟨t', f1, f2⟩ := ih y t (by omega) (by omega) hM hk hx0 hO (by omega)
        refine ⟨t', ?_, f2⟩
        simp (disch := omega) only [cLt_t, cLt_f, cEq_t, cEq_f, rdR_ok, rd_ok, wr_ok, put_eq, jn_eq, cl_some, Int.toNat_natCast, hx0, o4, e2]
        exact f1
theorem l_way35 {v : Vec} (hv : VecOK v) (h1 : 0 < v.2.1.n) {G : Nat → Int} (hG : LX (Kv v) (Tl v.1 v.2.1) 0 v.1.n 0 v.2.1.n G) (k : St → Rs) : ∀ (n c : Nat) (t : St), c ≤ v.1.n → c < n → MSt (t 5) v → (∀ a, c ≤ a → a < v.1.n → t 22 a = G a) → Oth G c v.1.n v.2.1.n (t 23) → ∃ t', X9_laysWay_35 (dF (Kv v) (Tl v.1 v.2.1) 0 v.1.n 0 v.2.1.n) k n ((c : Int) - 1) t = k t' ∧ FW t t' ∧ (∀ a, a < v.1.n → t' 22 a = G a) ∧ Oth G 0 v.1.n v.2.1.n (t' 23) := by
  have hA12 := hv.1.1.1
  have hB12 := hv.2.1.1.1
  have hU := FU_gt
  intro n
  induction n with
  | zero => intro c t h1 h2; omega
  | succ n ih =>
    intro c t h2 h3 hM hk hO
    rw [X9_laysWay_35]
    by_cases e : c = 0
    · subst e
      refine ⟨t, ?_, fun _ _ => rfl, fun a a2 => hk a (by omega) a2, hO⟩
      simp (disch := omega) only [cLt_t, cLt_f, cEq_t, cEq_f, rdR_ok, rd_ok, wr_ok, put_eq, jn_eq, cl_some, Int.toNat_natCast]
    · obtain ⟨x, rfl⟩ : ∃ w, c = w + 1 := ⟨c - 1, by omega⟩
      have e1 : ((x + 1 : Nat) : Int) - 1 = x := by omega
      have e2 : (x : Int) + -1 = (x : Int) - 1 := by omega
      rw [e1]
      have hM1 : MSt (up t 22 x (-9) 5) v := by rw [up_b (by omega)]; exact hM
      have gr : G x < v.2.1.n := by
        have := hG.1.range x (by omega) (by omega)
        omega
      obtain ⟨t1, g1, g2, g3, g4⟩ := l_way55 hv h1 hG (x := x) (by omega) (fun s4 => X9_laysWay_35 (dF (Kv v) (Tl v.1 v.2.1) 0 v.1.n 0 v.2.1.n) k n ((x : Int) - 1) s4) FU v.2.1.n (up t 22 x (-9)) (Nat.le_refl _) (by omega) hM1 (fun a a1 a2 => by rw [up_i (by omega)]; exact hk a (by omega) a2) up_eq (by rw [up_b (by omega)]; exact hO) gr
      have hM2 : MSt (t1 5) v := by rw [g2 5 (by omega)]; exact hM1
      obtain ⟨t', f1, f2, f3⟩ := ih x t1 (by omega) (by omega) hM2 g3 g4
      refine ⟨t', ?_, fun b hb => by rw [f2 b hb, g2 b hb, up_b (by omega)], f3⟩
      simp (disch := omega) only [cLt_t, cLt_f, cEq_t, cEq_f, rdR_ok, rd_ok, wr_ok, put_eq, jn_eq, cl_some, Int.toNat_natCast, q_many1 hM1.2.1, e2]
      exact g1.trans f1
theorem l_way7 {z : Int} (k : St → Rs) : ∀ (n i : Nat) (s : St), i ≤ 12 → 12 < i + n → (∀ a, a < i → s 23 a = -9) → ∃ s', X9_laysWay_7 z k n (i : Int) s = k s' ∧ (∀ b, b ≠ 23 → s' b = s b) ∧ ∀ a, a < 12 → s' 23 a = -9 := by
  intro n
  induction n with
  | zero => intro i s h1 h2; omega
  | succ n ih =>
    intro i s h1 h2 hI
    rw [X9_laysWay_7]
    by_cases e : i = 12
    · subst e
      refine ⟨s, ?_, fun _ _ => rfl, hI⟩
      simp (disch := omega) only [cLt_t, cLt_f, cEq_t, cEq_f, rdR_ok, rd_ok, wr_ok, put_eq, jn_eq, cl_some, Int.toNat_natCast]
    · obtain ⟨s', f1, f2, f3⟩ := ih (i + 1) (up s 23 i (-9)) (by omega) (by omega) (fun a ha => by
        by_cases q : a = i
        · subst q
          simp (disch := omega) only [fil_o, up_o, fil_out, fil_in, up_i, up_eq]
        · simp (disch := omega) only [fil_o, up_o, fil_out, fil_in, up_i, up_eq]
          exact hI a (by omega))
      refine ⟨s', ?_, fun b b1 => by rw [f2 b b1, up_b (by omega)], f3⟩
      simp (disch := omega) only [cLt_t, cLt_f, cEq_t, cEq_f, rdR_ok, rd_ok, wr_ok, put_eq, jn_eq, cl_some, Int.toNat_natCast]
      exact f1
/-- the model's way is G, the prices and costs are those of the documents -/
theorem q_laysWay {v : Vec} (hv : VecOK v) (h0 : 0 < v.1.n) (h1 : 0 < v.2.1.n) {G : Nat → Int} (hG : LX (Kv v) (Tl v.1 v.2.1) 0 v.1.n 0 v.2.1.n G) {t : St} (hM : MSt (t 5) v) : ∃ t', X9_laysWay t = some (0, t') ∧ FW t t' ∧ (∀ a, a < v.1.n → t' 22 a = G a) ∧ Oth G 0 v.1.n v.2.1.n (t' 23) ∧ MW t' v.1 v.2.1 (Kv v) := by
  have hA12 := hv.1.1.1
  have hB12 := hv.2.1.1.1
  have hU := FU_gt
  obtain ⟨t1, a1, a2, a3, a4⟩ := q_leastOf hv h0 h1 hM
  have hM1 := a2.mst hM
  obtain ⟨t2, b1, b2, b3⟩ := l_way7 (z := dF (Kv v) (Tl v.1 v.2.1) 0 v.1.n 0 v.2.1.n) (fun s3 => cl (X9_many 0 s3) (fun v4 s5 => X9_laysWay_35 (dF (Kv v) (Tl v.1 v.2.1) 0 v.1.n 0 v.2.1.n) (fun s6 => cl (X9_leastOf s6) (fun v7 s8 => some (0, s8))) FU (v4 - 1) s5)) FU 0 t1 (by omega) (by omega) (fun a ha => by omega)
  have hM2 : MSt (t2 5) v := by rw [b2 5 (by omega)]; exact hM1
  obtain ⟨t3, c1, c2, c3, c4⟩ := l_way35 hv h1 hG (fun s6 => cl (X9_leastOf s6) (fun v7 s8 => some (0, s8))) FU v.1.n t2 (Nat.le_refl _) (by omega) hM2 (fun a q1 q2 => by omega) (fun b hb => Or.inl ⟨b3 b (by omega), fun k k1 k2 => by omega⟩)
  have hM3 : MSt (t3 5) v := by rw [c2 5 (by omega)]; exact hM2
  obtain ⟨t4, d1, d2, d3, d4⟩ := q_leastOf hv h0 h1 hM3
  refine ⟨t4, ?_, fun b hb => by rw [d2 b (by omega), c2 b hb, b2 b (by omega), a2 b (by omega)], fun a ha => by rw [d2 22 (by omega)]; exact c3 a ha, by rw [d2 23 (by omega)]; exact c4, d3⟩
  unfold X9_laysWay
  simp (disch := omega) only [cLt_t, cLt_f, cEq_t, cEq_f, rdR_ok, rd_ok, wr_ok, put_eq, jn_eq, cl_some, Int.toNat_natCast, a1]
  refine b1.trans ?_
  simp (disch := omega) only [cLt_t, cLt_f, cEq_t, cEq_f, rdR_ok, rd_ok, wr_ok, put_eq, jn_eq, cl_some, Int.toNat_natCast, q_many0 hM2.1]
  refine c1.trans ?_
  simp (disch := omega) only [cLt_t, cLt_f, cEq_t, cEq_f, rdR_ok, rd_ok, wr_ok, put_eq, jn_eq, cl_some, Int.toNat_natCast, d1]
