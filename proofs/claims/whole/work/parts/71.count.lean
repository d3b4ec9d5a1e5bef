/-! counts -/
def thr (f : Nat → Int) (m : Nat) : Int := sm (fun r => if f r < 0 then 0 else 1) 0 m
theorem thr_s {f : Nat → Int} {m : Nat} : thr f (m + 1) = thr f m + (if f m < 0 then 0 else 1) := by
  unfold thr
  rw [sm, Nat.zero_add]
theorem thr_congr {f g : Nat → Int} {m : Nat} (h : ∀ r, r < m → f r = g r) : thr f m = thr g m := sm_congr 0 m (fun i _ b => by rw [h i (by omega)])
theorem l_rows {s : St} (hb : ∀ r, r < 6 → -1 ≤ s (10 + 2 * r) 0 ∧ s (10 + 2 * r) 0 ≤ 60) (k : Int → St → Rs) : ∀ (n m : Nat), m ≤ 6 → 6 < m + n → X8_rowsThere_4 k n (thr (fun r => s (10 + 2 * r) 0) m) (m : Int) s = k (thr (fun r => s (10 + 2 * r) 0) 6) s := by
  intro n
  induction n with
  | zero => intro m h1 h2; omega
  | succ n ih =>
    intro m h1 h2
    rw [X8_rowsThere_4]
    by_cases e : m = 6
    · subst e
      simp (disch := omega) only [cLt_t, cLt_f, cEq_t, cEq_f, rdR_ok, rd_ok, wr_ok, put_eq, jn_eq, cl_some, Int.toNat_natCast]
    · have ih' := ih (m + 1) (by omega) (by omega)
      rw [thr_s] at ih'
      have b := hb m (by omega)
      by_cases q : s (10 + 2 * m) 0 < 0
      · rw [if_pos q, Int.add_zero] at ih'
        simp (disch := omega) only [cLt_t, cLt_f, cEq_t, cEq_f, rdR_ok, rd_ok, wr_ok, put_eq, jn_eq, cl_some, Int.toNat_natCast]
        exact ih'
      · rw [if_neg q] at ih'
        simp (disch := omega) only [cLt_t, cLt_f, cEq_t, cEq_f, rdR_ok, rd_ok, wr_ok, put_eq, jn_eq, cl_some, Int.toNat_natCast]
        exact ih'
theorem l_texts {s : St} (hb : ∀ r, r < 4 → -1 ≤ s (22 + 2 * r) 0 ∧ s (22 + 2 * r) 0 ≤ 60) (k : Int → St → Rs) : ∀ (n m : Nat), m ≤ 4 → 4 < m + n → X8_textsThere_4 k n (thr (fun r => s (22 + 2 * r) 0) m) (m : Int) s = k (thr (fun r => s (22 + 2 * r) 0) 4) s := by
  intro n
  induction n with
  | zero => intro m h1 h2; omega
  | succ n ih =>
    intro m h1 h2
    rw [X8_textsThere_4]
    by_cases e : m = 4
    · subst e
      simp (disch := omega) only [cLt_t, cLt_f, cEq_t, cEq_f, rdR_ok, rd_ok, wr_ok, put_eq, jn_eq, cl_some, Int.toNat_natCast]
    · have ih' := ih (m + 1) (by omega) (by omega)
      rw [thr_s] at ih'
      have b := hb m (by omega)
      by_cases q : s (22 + 2 * m) 0 < 0
      · rw [if_pos q, Int.add_zero] at ih'
        simp (disch := omega) only [cLt_t, cLt_f, cEq_t, cEq_f, rdR_ok, rd_ok, wr_ok, put_eq, jn_eq, cl_some, Int.toNat_natCast]
        exact ih'
      · rw [if_neg q] at ih'
        simp (disch := omega) only [cLt_t, cLt_f, cEq_t, cEq_f, rdR_ok, rd_ok, wr_ok, put_eq, jn_eq, cl_some, Int.toNat_natCast]
        exact ih'
theorem l_places {s : St} (hb : ∀ r, r < 3 → -1 ≤ s (32 + 2 * r) 0 ∧ s (32 + 2 * r) 0 ≤ 60) (k : Int → St → Rs) : ∀ (n m : Nat), m ≤ 3 → 3 < m + n → X8_placesTaken_4 k n (thr (fun r => s (32 + 2 * r) 0) m) (m : Int) s = k (thr (fun r => s (32 + 2 * r) 0) 3) s := by
  intro n
  induction n with
  | zero => intro m h1 h2; omega
  | succ n ih =>
    intro m h1 h2
    rw [X8_placesTaken_4]
    by_cases e : m = 3
    · subst e
      simp (disch := omega) only [cLt_t, cLt_f, cEq_t, cEq_f, rdR_ok, rd_ok, wr_ok, put_eq, jn_eq, cl_some, Int.toNat_natCast]
    · have ih' := ih (m + 1) (by omega) (by omega)
      rw [thr_s] at ih'
      have b := hb m (by omega)
      by_cases q : s (32 + 2 * m) 0 < 0
      · rw [if_pos q, Int.add_zero] at ih'
        simp (disch := omega) only [cLt_t, cLt_f, cEq_t, cEq_f, rdR_ok, rd_ok, wr_ok, put_eq, jn_eq, cl_some, Int.toNat_natCast]
        exact ih'
      · rw [if_neg q] at ih'
        simp (disch := omega) only [cLt_t, cLt_f, cEq_t, cEq_f, rdR_ok, rd_ok, wr_ok, put_eq, jn_eq, cl_some, Int.toNat_natCast]
        exact ih'
theorem l_there {t : St} {a N : Nat} (hN : ln LM a = N) (hN2 : N ≤ 6) (hb : ∀ r, r < N → -1 ≤ t a r ∧ t a r ≤ 60) (k : Int → St → Rs) : ∀ (n m : Nat), m ≤ N → N < m + n → X9_there_4 a k n (thr (t a) m) (m : Int) t = k (thr (t a) N) t := by
  intro n
  induction n with
  | zero => intro m h1 h2; omega
  | succ n ih =>
    intro m h1 h2
    rw [X9_there_4, hN]
    by_cases e : m = N
    · subst e
      simp (disch := omega) only [cLt_t, cLt_f, cEq_t, cEq_f, rdR_ok, rd_ok, wr_ok, put_eq, jn_eq, cl_some, Int.toNat_natCast]
    · have ih' := ih (m + 1) (by omega) (by omega)
      rw [thr_s] at ih'
      have b := hb m (by omega)
      by_cases q : t a m < 0
      · rw [if_pos q] at ih'
        simp (disch := omega) only [cLt_t, cLt_f, cEq_t, cEq_f, rdR_ok, rd_ok, wr_ok, put_eq, jn_eq, cl_some, Int.toNat_natCast]
        exact ih'
      · rw [if_neg q] at ih'
        simp (disch := omega) only [cLt_t, cLt_f, cEq_t, cEq_f, rdR_ok, rd_ok, wr_ok, put_eq, jn_eq, cl_some, Int.toNat_natCast]
        exact ih'
theorem l_kept {t : St} {f : Nat → Int} (hb : ∀ r, r < 3 → (t 8 r = 0 ∧ f r < 0) ∨ (t 8 r = 1 ∧ 0 ≤ f r)) (k : Int → St → Rs) : ∀ (n m : Nat), m ≤ 3 → 3 < m + n → X9_keptMany_4 k n (thr f m) (m : Int) t = k (thr f 3) t := by
  intro n
  induction n with
  | zero => intro m h1 h2; omega
  | succ n ih =>
    intro m h1 h2
    rw [X9_keptMany_4]
    by_cases e : m = 3
    · subst e
      simp (disch := omega) only [cLt_t, cLt_f, cEq_t, cEq_f, rdR_ok, rd_ok, wr_ok, put_eq, jn_eq, cl_some, Int.toNat_natCast]
    · have ih' := ih (m + 1) (by omega) (by omega)
      rw [thr_s] at ih'
      rcases hb m (by omega) with ⟨q1, q2⟩ | ⟨q1, q2⟩
      · rw [if_pos q2] at ih'
        simp (disch := omega) only [cLt_t, cLt_f, cEq_t, cEq_f, rdR_ok, rd_ok, wr_ok, put_eq, jn_eq, cl_some, Int.toNat_natCast, q1]
        exact ih'
      · rw [if_neg (by omega)] at ih'
        simp (disch := omega) only [cLt_t, cLt_f, cEq_t, cEq_f, rdR_ok, rd_ok, wr_ok, put_eq, jn_eq, cl_some, Int.toNat_natCast, q1]
        exact ih'
theorem l_pairs {t : St} {d : Doc} (hD : DocAt (t 5) 0 d) (hn : d.n ≤ 12) {G : Nat → Int} (hG : ∀ a, a < d.n → t 22 a = G a ∧ -9 ≤ G a ∧ G a ≤ 12) (k : Int → St → Rs) : ∀ (n m : Nat), m ≤ d.n → d.n < m + n → X9_pairs_8 k n (cntP G m) (m : Int) t = k (cntP G d.n) t := by
  intro n
  induction n with
  | zero => intro m h1 h2; omega
  | succ n ih =>
    intro m h1 h2
    rw [X9_pairs_8]
    have m0 := q_many0 hD
    by_cases e : m = d.n
    · subst e
      simp (disch := omega) only [cLt_t, cLt_f, cEq_t, cEq_f, rdR_ok, rd_ok, wr_ok, put_eq, jn_eq, cl_some, Int.toNat_natCast, m0]
    · have ih' := ih (m + 1) (by omega) (by omega)
      have cs : cntP G (m + 1) = cntP G m + (if G m = -9 then 0 else 1) := by
        unfold cntP
        rw [sm, Nat.zero_add]
      rw [cs] at ih'
      have g := hG m (by omega)
      by_cases q : G m = -9
      · rw [if_pos q] at ih'
        simp (disch := omega) only [cLt_t, cLt_f, cEq_t, cEq_f, rdR_ok, rd_ok, wr_ok, put_eq, jn_eq, cl_some, Int.toNat_natCast, m0, g.1, q]
        exact ih'
      · rw [if_neg q] at ih'
        simp (disch := omega) only [cLt_t, cLt_f, cEq_t, cEq_f, rdR_ok, rd_ok, wr_ok, put_eq, jn_eq, cl_some, Int.toNat_natCast, m0, g.1]
        exact ih'
theorem pl_r {s t : St} {k : Nat} (h : PlR s t k) : -1 ≤ s (32 + 2 * k) 0 ∧ s (32 + 2 * k) 0 ≤ 60 ∧ ((t 8 k = 0 ∧ s (32 + 2 * k) 0 < 0) ∨ (t 8 k = 1 ∧ 0 ≤ s (32 + 2 * k) 0)) := by
  rcases h with ⟨h1, h2⟩ | ⟨h1, n, lg, v, h2, h3, _⟩
  · exact ⟨by omega, by omega, Or.inl ⟨h1, by omega⟩⟩
  · exact ⟨by omega, by omega, Or.inr ⟨h1, by omega⟩⟩
theorem lnM13 : ln LM 1 = 6 ∧ ln LM 3 = 4 := by decide +kernel
theorem scr_of {s t t' : St} {v : Vec} (h : Cor s t v) (hm : ScrM t t') : Cor s t' v := h.frame (fun _ _ _ _ _ => rfl) hm
/-- the number w, when the ways are right -/
theorem num_sim {s t : St} {v : Vec} (hc : Cor s t v) (hs : SolX s v) {w : Int} (h0 : 0 ≤ w) (h13 : w ≤ 13) : ∃ r t', X8_number w s = some (r, s) ∧ X9_count w t = some (r, t') ∧ ScrM t t' := by
  obtain ⟨hv, hC, hM⟩ := hc.ok
  obtain ⟨n, lg, a4, a5⟩ := hc.lg
  have n0 := hv.1.1.1
  have n1 := hv.2.1.1.1
  have hU := FU_gt
  unfold X8_number X9_count
  rw [gR_ok (by omega) (by omega), gR_ok (by omega) (by omega)]
  rcases (show w = 0 ∨ w = 1 ∨ w = 2 ∨ w = 3 ∨ w = 4 ∨ w = 5 ∨ w = 6 ∨ w = 7 ∨ w = 8 ∨ w = 9 ∨ w = 10 ∨ w = 11 ∨ w = 12 ∨ w = 13 by omega) with rfl | rfl | rfl | rfl | rfl | rfl | rfl | rfl | rfl | rfl | rfl | rfl | rfl | rfl
  · rw [if_pos rfl, if_pos rfl, hC.1.1, q_many0 hM.1]
    exact ⟨_, t, rfl, rfl, ScrM.rfl⟩
  · rw [if_neg (by decide), if_pos rfl, if_neg (by decide), if_pos rfl, hC.2.1.1, q_many1 hM.2.1]
    exact ⟨_, t, rfl, rfl, ScrM.rfl⟩
  · rw [if_neg (by decide), if_neg (by decide), if_pos rfl, if_neg (by decide), if_neg (by decide), if_pos rfl, p_isWhole hv hC, q_areBoth hv hM]
    by_cases g : 0 < v.1.n ∧ 0 < v.2.1.n
    · rw [if_pos g]
      obtain ⟨t', m1, m2, m3, m4⟩ := q_leastOf hv g.1 g.2 hM
      have d := p_distance hv g.1 g.2 hC.1.1 hC.2.1.1 ((hs g).1 (v.1.n - 1) (v.2.1.n - 1) (by omega) (by omega)).2
      simp (disch := omega) only [cLt_t, cLt_f, cEq_t, cEq_f, rdR_ok, rd_ok, wr_ok, put_eq, jn_eq, cl_some, Int.toNat_natCast, d, m1]
      exact ⟨_, t', rfl, rfl, m2.scr⟩
    · rw [if_neg g]
      simp (disch := omega) only [cLt_t, cLt_f, cEq_t, cEq_f, rdR_ok, rd_ok, wr_ok, put_eq, jn_eq, cl_some, Int.toNat_natCast]
      exact ⟨_, t, rfl, rfl, ScrM.rfl⟩
  · rw [if_neg (by decide), if_neg (by decide), if_neg (by decide), if_pos rfl, if_neg (by decide), if_neg (by decide), if_neg (by decide), if_pos rfl, p_isWhole hv hC, q_areBoth hv hM]
    by_cases g : 0 < v.1.n ∧ 0 < v.2.1.n
    · rw [if_pos g]
      have sol := hs g
      obtain ⟨t', m1, m2, m3, m4, m5, m6⟩ := q_laysSteps hv g.1 g.2 sol.2.1 (oth_eq sol) hM
      unfold X9_stepsOf
      simp (disch := omega) only [cLt_t, cLt_f, cEq_t, cEq_f, rdR_ok, rd_ok, wr_ok, put_eq, jn_eq, cl_some, Int.toNat_natCast, m1, sol.2.2.2.1, m6.1]
      exact ⟨_, t', rfl, rfl, m2.scr⟩
    · rw [if_neg g]
      simp (disch := omega) only [cLt_t, cLt_f, cEq_t, cEq_f, rdR_ok, rd_ok, wr_ok, put_eq, jn_eq, cl_some, Int.toNat_natCast]
      exact ⟨_, t, rfl, rfl, ScrM.rfl⟩
  · rw [if_neg (by decide), if_neg (by decide), if_neg (by decide), if_neg (by decide), if_pos rfl, if_neg (by decide), if_neg (by decide), if_neg (by decide), if_neg (by decide), if_pos rfl, p_isWhole hv hC, q_areBoth hv hM]
    by_cases g : 0 < v.1.n ∧ 0 < v.2.1.n
    · rw [if_pos g]
      have sol := hs g
      obtain ⟨t', m1, m2, m3, m4, m5⟩ := q_laysWay hv g.1 g.2 sol.2.1 hM
      have lp := l_pairs (t := t') m5.1 n0 (G := s 57) (fun a ha => ⟨m3 a ha, by
        have := sol.2.1.1.range a (by omega) ha
        omega, by
        have := sol.2.1.1.range a (by omega) ha
        omega⟩) (fun x3 s4 => some (x3, s4)) FU 0 (by omega) (by omega)
      have lp' : X9_pairs_8 (fun x3 s4 => some (x3, s4)) FU 0 0 t' = some (cntP (s 57) v.1.n, t') := lp
      unfold X9_pairs
      simp (disch := omega) only [cLt_t, cLt_f, cEq_t, cEq_f, rdR_ok, rd_ok, wr_ok, put_eq, jn_eq, cl_some, Int.toNat_natCast, m1, sol.2.2.1.2.2, lp']
      exact ⟨_, t', rfl, rfl, m2.scr⟩
    · rw [if_neg g]
      simp (disch := omega) only [cLt_t, cLt_f, cEq_t, cEq_f, rdR_ok, rd_ok, wr_ok, put_eq, jn_eq, cl_some, Int.toNat_natCast]
      exact ⟨_, t, rfl, rfl, ScrM.rfl⟩
  · rw [if_neg (by decide), if_neg (by decide), if_neg (by decide), if_neg (by decide), if_neg (by decide), if_pos rfl, if_neg (by decide), if_neg (by decide), if_neg (by decide), if_neg (by decide), if_neg (by decide), if_pos rfl, p_keys hC.1 hv.1.1 (Or.inl rfl)]
    have e : X9_keys (5 - 5) 0 t = some (keysN v.1 0, t) := q_keys (k := 0) (by omega) hM.1 hv.1.1 (Or.inl rfl)
    rw [e]
    exact ⟨_, t, rfl, rfl, ScrM.rfl⟩
  · rw [if_neg (by decide), if_neg (by decide), if_neg (by decide), if_neg (by decide), if_neg (by decide), if_neg (by decide), if_pos rfl, if_neg (by decide), if_neg (by decide), if_neg (by decide), if_neg (by decide), if_neg (by decide), if_neg (by decide), if_pos rfl, p_keys hC.2.1 hv.2.1.1 (Or.inl rfl)]
    have e : X9_keys (6 - 5) 0 t = some (keysN v.2.1 0, t) := q_keys (k := 1) (by omega) hM.2.1 hv.2.1.1 (Or.inl rfl)
    rw [e]
    exact ⟨_, t, rfl, rfl, ScrM.rfl⟩
  · have p1 : s 7 0 = v.2.2 0 := hC.2.2 0 (by omega)
    have p2 : t 5 50 = v.2.2 0 := hM.2.2 0 (by omega)
    refine ⟨v.2.2 0, t, ?_, ?_, ScrM.rfl⟩
    · rw [← p1]; rfl
    · rw [← p2]; rfl
  · have p1 : s 7 1 = v.2.2 1 := hC.2.2 1 (by omega)
    have p2 : t 5 51 = v.2.2 1 := hM.2.2 1 (by omega)
    refine ⟨v.2.2 1, t, ?_, ?_, ScrM.rfl⟩
    · rw [← p1]; rfl
    · rw [← p2]; rfl
  · have p1 : s 7 2 = v.2.2 2 := hC.2.2 2 (by omega)
    have p2 : t 5 52 = v.2.2 2 := hM.2.2 2 (by omega)
    refine ⟨v.2.2 2, t, ?_, ?_, ScrM.rfl⟩
    · rw [← p1]; rfl
    · rw [← p2]; rfl
  · refine ⟨(n : Int), t, ?_, ?_, ScrM.rfl⟩
    · rw [← a4.2.1]; rfl
    · rw [← a4.2.2.1]; rfl
  · have l1 := l_rows (s := s) (fun r hr => by
      have := hc.1 r hr
      omega) (fun x1 s2 => some (x1, s2)) FU 0 (by omega) (by omega)
    have l2 := l_there (t := t) (a := 1) lnM13.1 (by omega) (fun r hr => by
      have := hc.1 r hr
      omega) (fun x1 s2 => some (x1, s2)) FU 0 (by omega) (by omega)
    have e : thr (fun r => s (10 + 2 * r) 0) 6 = thr (t 1) 6 := thr_congr (fun r hr => (hc.1 r hr).1)
    rw [e] at l1
    have l1' : X8_rowsThere s = some (thr (t 1) 6, s) := l1
    have l2' : X9_there 1 t = some (thr (t 1) 6, t) := l2
    rw [if_neg (by decide), if_neg (by decide), if_neg (by decide), if_neg (by decide), if_neg (by decide), if_neg (by decide), if_neg (by decide), if_neg (by decide), if_neg (by decide), if_neg (by decide), if_neg (by decide), if_pos rfl, l1', if_neg (by decide), if_neg (by decide), if_neg (by decide), if_neg (by decide), if_neg (by decide), if_neg (by decide), if_neg (by decide), if_neg (by decide), if_neg (by decide), if_neg (by decide), if_neg (by decide), if_pos rfl, l2']
    exact ⟨_, t, rfl, rfl, ScrM.rfl⟩
  · have l1 := l_texts (s := s) (fun r hr => by
      have := hc.2.1 r hr
      omega) (fun x1 s2 => some (x1, s2)) FU 0 (by omega) (by omega)
    have l2 := l_there (t := t) (a := 3) lnM13.2 (by omega) (fun r hr => by
      have := hc.2.1 r hr
      omega) (fun x1 s2 => some (x1, s2)) FU 0 (by omega) (by omega)
    have e : thr (fun r => s (22 + 2 * r) 0) 4 = thr (t 3) 4 := thr_congr (fun r hr => (hc.2.1 r hr).1)
    rw [e] at l1
    have l1' : X8_textsThere s = some (thr (t 3) 4, s) := l1
    have l2' : X9_there 3 t = some (thr (t 3) 4, t) := l2
    rw [if_neg (by decide), if_neg (by decide), if_neg (by decide), if_neg (by decide), if_neg (by decide), if_neg (by decide), if_neg (by decide), if_neg (by decide), if_neg (by decide), if_neg (by decide), if_neg (by decide), if_neg (by decide), if_pos rfl, l1', if_neg (by decide), if_neg (by decide), if_neg (by decide), if_neg (by decide), if_neg (by decide), if_neg (by decide), if_neg (by decide), if_neg (by decide), if_neg (by decide), if_neg (by decide), if_neg (by decide), if_neg (by decide), if_pos rfl, l2']
    exact ⟨_, t, rfl, rfl, ScrM.rfl⟩
  · have l1 := l_places (s := s) (fun r hr => by
      have := pl_r (a5 r hr)
      exact ⟨this.1, this.2.1⟩) (fun x1 s2 => some (x1, s2)) FU 0 (by omega) (by omega)
    have l2 := l_kept (t := t) (f := fun r => s (32 + 2 * r) 0) (fun r hr => (pl_r (a5 r hr)).2.2) (fun x1 s2 => some (x1, s2)) FU 0 (by omega) (by omega)
    have l1' : X8_placesTaken s = some (thr (fun r => s (32 + 2 * r) 0) 3, s) := l1
    have l2' : X9_keptMany t = some (thr (fun r => s (32 + 2 * r) 0) 3, t) := l2
    rw [if_neg (by decide), if_neg (by decide), if_neg (by decide), if_neg (by decide), if_neg (by decide), if_neg (by decide), if_neg (by decide), if_neg (by decide), if_neg (by decide), if_neg (by decide), if_neg (by decide), if_neg (by decide), if_neg (by decide), l1', if_neg (by decide), if_neg (by decide), if_neg (by decide), if_neg (by decide), if_neg (by decide), if_neg (by decide), if_neg (by decide), if_neg (by decide), if_neg (by decide), if_neg (by decide), if_neg (by decide), if_neg (by decide), if_neg (by decide), if_pos rfl, l2']
    exact ⟨_, t, rfl, rfl, ScrM.rfl⟩
theorem sim_count : ∀ s t : St, InvS SolX s t → ∀ a1 : Int, inR a1 → Ok2 (InvS SolX) (X8_count a1 s) (X9_count a1 t) := by
  intro s t hI a1 r1
  obtain ⟨v, hc, hs⟩ := cor_of hI
  obtain ⟨hv, hC, hM⟩ := hc.ok
  by_cases h : 0 ≤ a1 ∧ a1 ≤ 13
  · obtain ⟨s', q1, q2, q3, q4⟩ := p_refresh hv hC hs
    have hc' : Cor s' t v := hc.frame (fun b w1 w2 w3 w4 => q2 b w1 w2 (by omega)) ScrM.rfl
    obtain ⟨r, t', b1, b2, b3⟩ := num_sim hc' q4 h.1 h.2
    unfold X8_count
    rw [b2]
    simp (disch := omega) only [cLt_t, cLt_f, cEq_t, cEq_f, rdR_ok, rd_ok, wr_ok, put_eq, jn_eq, cl_some, Int.toNat_natCast, q1, b1]
    exact ⟨r, s', t', rfl, rfl, (scr_of hc' b3).inv q3⟩
  · have e : X9_count a1 t = some (-1, t) := by
      unfold X9_count
      rw [gR_ok (by omega) (by omega)]
      repeat rw [if_neg (by omega)]
    rw [e]
    unfold X8_count
    by_cases g : a1 < 0
    · simp (disch := omega) only [cLt_t, cLt_f, cEq_t, cEq_f, rdR_ok, rd_ok, wr_ok, put_eq, jn_eq, cl_some, Int.toNat_natCast]
      exact ok_same _ hI
    · simp (disch := omega) only [cLt_t, cLt_f, cEq_t, cEq_f, rdR_ok, rd_ok, wr_ok, put_eq, jn_eq, cl_some, Int.toNat_natCast]
      exact ok_same _ hI
