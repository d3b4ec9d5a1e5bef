/-! least, cost, partner, step -/
theorem p_distance {v : Vec} (hv : VecOK v) (h0 : 0 < v.1.n) (h1 : 0 < v.2.1.n) {s : St} (e0 : s 38 0 = v.1.n) (e1 : s 41 0 = v.2.1.n) (ha : s (63 + (v.1.n - 1)) (v.2.1.n - 1) = dF (Kv v) (Tl v.1 v.2.1) (v.1.l (v.1.n - 1)) (v.1.n - 1 + 1) (v.2.1.l (v.2.1.n - 1)) (v.2.1.n - 1 + 1)) : X7_distance s = some (dF (Kv v) (Tl v.1 v.2.1) 0 v.1.n 0 v.2.1.n, s) := by
  have n0 := hv.1.1.1
  have n1 := hv.2.1.1.1
  rw [hv.1.2 h0, hv.2.1.2 h1, show v.1.n - 1 + 1 = v.1.n by omega, show v.2.1.n - 1 + 1 = v.2.1.n by omega] at ha
  unfold X7_distance
  rw [e0, e1]
  have i0 : ((v.1.n : Int) - 1).toNat = v.1.n - 1 := by omega
  have i1 : ((v.2.1.n : Int) - 1).toNat = v.2.1.n - 1 := by omega
  simp (disch := omega) only [cLt_t, cLt_f, cEq_t, cEq_f, rdR_ok, rd_ok, wr_ok, put_eq, jn_eq, cl_some, Int.toNat_natCast, i0, i1, ha]
theorem cong : CongS (RSg SolX) := congS_RSg congW.sol
theorem sim_least : ∀ s t : St, InvS SolX s t → Ok2 (InvS SolX) (X8_least s) (X9_least t) := by
  intro s t hI
  obtain ⟨v, hc, hs⟩ := cor_of hI
  obtain ⟨hv, hC, hM⟩ := hc.ok
  unfold X8_least X9_least
  rw [p_isWhole hv hC, q_areBoth hv hM]
  by_cases g : 0 < v.1.n ∧ 0 < v.2.1.n
  · rw [if_pos g]
    obtain ⟨s', r1, r2, r3, r4⟩ := p_refresh hv hC hs
    obtain ⟨t', m1, m2, m3, m4⟩ := q_leastOf hv g.1 g.2 hM
    have hc' : Cor s' t' v := hc.frame (fun b q1 q2 q3 q4 => r2 b q1 q2 (by omega)) m2.scr
    have hC' := hc'.ok.2.1
    have d := p_distance hv g.1 g.2 hC'.1.1 hC'.2.1.1 ((r4 g).1 (v.1.n - 1) (v.2.1.n - 1) (by omega) (by omega)).2
    simp (disch := omega) only [cLt_t, cLt_f, cEq_t, cEq_f, rdR_ok, rd_ok, wr_ok, put_eq, jn_eq, cl_some, Int.toNat_natCast, r1, d, m1]
    exact ⟨_, s', t', rfl, rfl, hc'.inv r3⟩
  · rw [if_neg g]
    simp (disch := omega) only [cLt_t, cLt_f, cEq_t, cEq_f, rdR_ok, rd_ok, wr_ok, put_eq, jn_eq, cl_some, Int.toNat_natCast]
    exact ok_same _ hI
theorem sim_cost : ∀ s t : St, InvS SolX s t → ∀ a1 : Int, inR a1 → ∀ a2 : Int, inR a2 → Ok2 (InvS SolX) (X8_cost a1 a2 s) (X9_cost a1 a2 t) := by
  intro s t hI a1 r1 a2 r2
  obtain ⟨v, hc, hs⟩ := cor_of hI
  obtain ⟨hv, hC, hM⟩ := hc.ok
  unfold X8_cost X9_cost
  rw [p_noNode hv hC ⟨by decide, by decide⟩ r1, q_isNode hv hM ⟨by decide, by decide⟩ r1]
  have n0 := hv.1.1.1
  have n1 := hv.2.1.1.1
  by_cases h : ((0 : Int) ≤ 0 ∧ (0 : Int) < 2) ∧ 0 ≤ a1 ∧ a1 < (v.doc (0 : Int).toNat).n
  · rw [if_pos h, if_pos h]
    obtain ⟨x, rfl⟩ : ∃ r : Nat, a1 = r := ⟨a1.toNat, by omega⟩
    have hx : x < v.1.n := by
      have h2 : (x : Int) < ((v.doc (0 : Int).toNat).n : Int) := h.2.2
      have : (v.doc (0 : Int).toNat).n = v.1.n := rfl
      omega
    simp (disch := omega) only [cLt_t, cLt_f, cEq_t, cEq_f, rdR_ok, rd_ok, wr_ok, put_eq, jn_eq, cl_some, Int.toNat_natCast]
    rw [p_noNode hv hC ⟨by decide, by decide⟩ r2, q_isNode hv hM ⟨by decide, by decide⟩ r2]
    by_cases k : ((0 : Int) ≤ 1 ∧ (1 : Int) < 2) ∧ 0 ≤ a2 ∧ a2 < (v.doc (1 : Int).toNat).n
    · rw [if_pos k, if_pos k]
      obtain ⟨y, rfl⟩ : ∃ r : Nat, a2 = r := ⟨a2.toNat, by omega⟩
      have hy : y < v.2.1.n := by
        have h2 : (y : Int) < ((v.doc (1 : Int).toNat).n : Int) := k.2.2
        have : (v.doc (1 : Int).toNat).n = v.2.1.n := rfl
        omega
      obtain ⟨s', q1, q2, q3, q4⟩ := p_refresh hv hC hs
      obtain ⟨t', m1, m2, m3, m4⟩ := q_leastOf hv (by omega) (by omega) hM
      have hc' : Cor s' t' v := hc.frame (fun b w1 w2 w3 w4 => q2 b w1 w2 (by omega)) m2.scr
      have sol := (q4 ⟨by omega, by omega⟩).1 x y hx hy
      have c1 := m3.2.2.2.2 x y hx hy
      have c2 := m4 x y hx hy
      unfold MRt at c2
      have i6 : Hid ((12 * (x : Int) + (y : Int)).toNat = 12 * x + y) := Hid.mk (by omega)
      have z : ∀ w, up s' 0 10 w (63 + x) y = s' (63 + x) y := fun w => by simp (disch := omega) only [fil_o, up_o, fil_out, fil_in, up_i, up_eq]
      simp (disch := omega) only [cLt_t, cLt_f, cEq_t, cEq_f, rdR_ok, rd_ok, wr_ok, put_eq, jn_eq, cl_some, Int.toNat_natCast, q1, m1, sol.1, z, sol.2, i6.out, c1, c2]
      unfold X9_tells
      simp (disch := omega) only [cLt_t, cLt_f, cEq_t, cEq_f, rdR_ok, rd_ok, wr_ok, put_eq, jn_eq, cl_some, Int.toNat_natCast]
      exact ⟨_, _, _, rfl, rfl, inv_tell cong (hc'.inv q3) _⟩
    · rw [if_neg k, if_neg k]
      simp (disch := omega) only [cLt_t, cLt_f, cEq_t, cEq_f, rdR_ok, rd_ok, wr_ok, put_eq, jn_eq, cl_some, Int.toNat_natCast]
      exact ok_same _ hI
  · rw [if_neg h, if_neg h]
    simp (disch := omega) only [cLt_t, cLt_f, cEq_t, cEq_f, rdR_ok, rd_ok, wr_ok, put_eq, jn_eq, cl_some, Int.toNat_natCast]
    exact ok_same _ hI
theorem sim_partner : ∀ s t : St, InvS SolX s t → ∀ a1 : Int, inR a1 → ∀ a2 : Int, inR a2 → Ok2 (InvS SolX) (X8_partner a1 a2 s) (X9_partner a1 a2 t) := by
  intro s t hI a1 r1 a2 r2
  obtain ⟨v, hc, hs⟩ := cor_of hI
  obtain ⟨hv, hC, hM⟩ := hc.ok
  unfold X8_partner X9_partner
  rw [p_noNode hv hC r1 r2, q_isNode hv hM r1 r2]
  have n0 := hv.1.1.1
  have n1 := hv.2.1.1.1
  by_cases h : (0 ≤ a1 ∧ a1 < 2) ∧ 0 ≤ a2 ∧ a2 < (v.doc a1.toNat).n
  · rw [if_pos h, if_pos h]
    obtain ⟨k, rfl⟩ : ∃ r : Nat, a1 = r := ⟨a1.toNat, by omega⟩
    obtain ⟨x, rfl⟩ : ∃ r : Nat, a2 = r := ⟨a2.toNat, by omega⟩
    rw [Int.toNat_natCast] at h
    have hn := (doc_ok hv k).1.1
    simp (disch := omega) only [cLt_t, cLt_f, cEq_t, cEq_f, rdR_ok, rd_ok, wr_ok, put_eq, jn_eq, cl_some, Int.toNat_natCast]
    rw [p_isWhole hv hC, q_areBoth hv hM]
    by_cases g : 0 < v.1.n ∧ 0 < v.2.1.n
    · rw [if_pos g]
      obtain ⟨s', q1, q2, q3, q4⟩ := p_refresh hv hC hs
      have sol := q4 g
      obtain ⟨t', m1, m2, m3, m4, m5⟩ := q_laysWay hv g.1 g.2 sol.2.1 hM
      have hc' : Cor s' t' v := hc.frame (fun b w1 w2 w3 w4 => q2 b w1 w2 (by omega)) m2.scr
      unfold X7_partnerOf
      by_cases k0 : k = 0
      · subst k0
        have hx : x < v.1.n := by
          have : (v.doc 0).n = v.1.n := rfl
          omega
        simp (disch := omega) only [cLt_t, cLt_f, cEq_t, cEq_f, rdR_ok, rd_ok, wr_ok, put_eq, jn_eq, cl_some, Int.toNat_natCast, q1, m1, m3 x hx]
        exact ⟨_, s', t', rfl, rfl, hc'.inv q3⟩
      · have k1 : k = 1 := by omega
        subst k1
        have hx : x < v.2.1.n := by
          have : (v.doc 1).n = v.2.1.n := rfl
          omega
        simp (disch := omega) only [cLt_t, cLt_f, cEq_t, cEq_f, rdR_ok, rd_ok, wr_ok, put_eq, jn_eq, cl_some, Int.toNat_natCast, q1, m1, oth_eq sol _ m4 x hx]
        exact ⟨_, s', t', rfl, rfl, hc'.inv q3⟩
    · rw [if_neg g]
      simp (disch := omega) only [cLt_t, cLt_f, cEq_t, cEq_f, rdR_ok, rd_ok, wr_ok, put_eq, jn_eq, cl_some, Int.toNat_natCast]
      exact ok_same _ hI
  · rw [if_neg h, if_neg h]
    simp (disch := omega) only [cLt_t, cLt_f, cEq_t, cEq_f, rdR_ok, rd_ok, wr_ok, put_eq, jn_eq, cl_some, Int.toNat_natCast]
    exact ok_same _ hI
theorem stps_len {v : Vec} (hv : VecOK v) (G O : Nat → Int) : (stps v G O).length ≤ 24 := by
  have n0 := hv.1.1.1
  have n1 := hv.2.1.1.1
  have := stDR_len v G v.1.n
  have := stI_len v O v.2.1.n
  unfold stps
  rw [List.length_append, List.length_append]
  omega
theorem sim_step : ∀ s t : St, InvS SolX s t → ∀ a1 : Int, inR a1 → ∀ a2 : Int, inR a2 → Ok2 (InvS SolX) (X8_step a1 a2 s) (X9_step a1 a2 t) := by
  intro s t hI a1 r1 a2 r2
  obtain ⟨v, hc, hs⟩ := cor_of hI
  obtain ⟨hv, hC, hM⟩ := hc.ok
  unfold X8_step X9_step
  rw [q_in _ _ _ r2 ⟨by omega, by omega⟩ ⟨by omega, by omega⟩, p_isWhole hv hC]
  by_cases h : a1 < 0
  · simp (disch := omega) only [cLt_t, cLt_f, cEq_t, cEq_f, rdR_ok, rd_ok, wr_ok, put_eq, jn_eq, cl_some, Int.toNat_natCast]
    exact ok_same _ hI
  · by_cases g : 0 ≤ a2 ∧ a2 ≤ 2
    · rw [if_pos g]
      simp (disch := omega) only [cLt_t, cLt_f, cEq_t, cEq_f, rdR_ok, rd_ok, wr_ok, put_eq, jn_eq, cl_some, Int.toNat_natCast]
      rw [q_areBoth hv hM]
      by_cases w : 0 < v.1.n ∧ 0 < v.2.1.n
      · rw [if_pos w]
        obtain ⟨s', q1, q2, q3, q4⟩ := p_refresh hv hC hs
        have sol := q4 w
        obtain ⟨t', m1, m2, m3, m4, m5, m6⟩ := q_laysSteps hv w.1 w.2 sol.2.1 (oth_eq sol) hM
        have hc' : Cor s' t' v := hc.frame (fun b w1 w2 w3 w4 => q2 b w1 w2 (by omega)) m2.scr
        have hI' := hc'.inv q3
        have ln := stps_len hv (s' 57) (s' 58)
        have sp := sol.2.2.2
        simp (disch := omega) only [cLt_t, cLt_f, cEq_t, cEq_f, rdR_ok, rd_ok, wr_ok, put_eq, jn_eq, cl_some, Int.toNat_natCast, q1, m1, sp.1, m6.1]
        by_cases kl : a1 < (stps v (s' 57) (s' 58)).length
        · obtain ⟨k, rfl⟩ : ∃ r : Nat, a1 = r := ⟨a1.toNat, by omega⟩
          have e1 := sp.2 k (by omega)
          have e2 := m6.2 k (by omega)
          rw [gR_ok (by omega) (by omega)]
          unfold X9_tells
          rcases (show a2 = 0 ∨ a2 = 1 ∨ a2 = 2 by omega) with rfl | rfl | rfl
          · rw [if_pos rfl]
            have i6 : (3 * (k : Int) + 0).toNat = 3 * k := by omega
            simp (disch := omega) only [cLt_t, cLt_f, cEq_t, cEq_f, rdR_ok, rd_ok, wr_ok, put_eq, jn_eq, cl_some, Int.toNat_natCast, e1.1, i6, e2.1, p_tell]
            exact ⟨1, _, _, rfl, rfl, inv_tell cong hI' _⟩
          · rw [if_neg (by decide), if_pos rfl]
            have i6 : (3 * (k : Int) + 1).toNat = 3 * k + 1 := by omega
            simp (disch := omega) only [cLt_t, cLt_f, cEq_t, cEq_f, rdR_ok, rd_ok, wr_ok, put_eq, jn_eq, cl_some, Int.toNat_natCast, e1.2.1, i6, e2.2.1, p_tell]
            exact ⟨1, _, _, rfl, rfl, inv_tell cong hI' _⟩
          · rw [if_neg (by decide), if_neg (by decide)]
            have i6 : (3 * (k : Int) + 2).toNat = 3 * k + 2 := by omega
            simp (disch := omega) only [cLt_t, cLt_f, cEq_t, cEq_f, rdR_ok, rd_ok, wr_ok, put_eq, jn_eq, cl_some, Int.toNat_natCast, e1.2.2, i6, e2.2.2, p_tell]
            exact ⟨1, _, _, rfl, rfl, inv_tell cong hI' _⟩
        · simp (disch := omega) only [cLt_t, cLt_f, cEq_t, cEq_f, rdR_ok, rd_ok, wr_ok, put_eq, jn_eq, cl_some, Int.toNat_natCast]
          exact ok_same _ hI'
      · rw [if_neg w]
        simp (disch := omega) only [cLt_t, cLt_f, cEq_t, cEq_f, rdR_ok, rd_ok, wr_ok, put_eq, jn_eq, cl_some, Int.toNat_natCast]
        exact ok_same _ hI
    · rw [if_neg g]
      by_cases g0 : a2 < 0
      · simp (disch := omega) only [cLt_t, cLt_f, cEq_t, cEq_f, rdR_ok, rd_ok, wr_ok, put_eq, jn_eq, cl_some, Int.toNat_natCast]
        exact ok_same _ hI
      · simp (disch := omega) only [cLt_t, cLt_f, cEq_t, cEq_f, rdR_ok, rd_ok, wr_ok, put_eq, jn_eq, cl_some, Int.toNat_natCast]
        exact ok_same _ hI
/-! nearest -/
def amn (f : Nat → Int) : Nat → Nat
  | 0 => 0
  | m + 1 => if f m < f (amn f m) then m else amn f m
theorem amn_lt (f : Nat → Int) : ∀ m, 0 < m → amn f m < m
  | 0, h => by omega
  | m + 1, _ => by
    rw [amn]
    split
    · omega
    · by_cases e : m = 0
      · subst e; rw [amn]; omega
      · have := amn_lt f m (by omega)
        omega
theorem l_near {s : St} {k x N : Nat} {d : Doc} (hk : k < 2) (hT : s (38 + 3 * (1 - k)) 0 = N) (hN : N ≤ 12) {f : Nat → Int} (hb : ∀ y, y < N → 0 ≤ f y ∧ f y < 100000) (hf : ∀ y, y < N → X7_between (k : Int) (x : Int) (y : Int) s = some (f y, s)) (g : Int → St → Rs) : ∀ (n y : Nat), 1 ≤ y → y ≤ N → N < y + n → X8_nearest_36 (k : Int) (x : Int) g n (amn f y : Int) (y : Int) s = g (amn f N : Int) s := by
  intro n
  induction n with
  | zero => intro y h1 h2 h3; omega
  | succ n ih =>
    intro y h1 h2 h3
    have e1 : (1 : Int) - (k : Int) = ((1 - k : Nat) : Int) := by omega
    rw [X8_nearest_36, e1, p_tree (by omega)]
    simp (disch := omega) only [cLt_t, cLt_f, cEq_t, cEq_f, rdR_ok, rd_ok, wr_ok, put_eq, jn_eq, cl_some, Int.toNat_natCast, gK_tree (show 1 - k < 2 by omega), hT]
    by_cases e : y = N
    · subst e
      simp (disch := omega) only [cLt_t, cLt_f, cEq_t, cEq_f, rdR_ok, rd_ok, wr_ok, put_eq, jn_eq, cl_some, Int.toNat_natCast]
    · have al := amn_lt f y (by omega)
      have b1 := hb y (by omega)
      have b2 := hb (amn f y) (by omega)
      have ih' := ih (y + 1) (by omega) (by omega) (by omega)
      rw [amn] at ih'
      simp (disch := omega) only [cLt_t, cLt_f, cEq_t, cEq_f, rdR_ok, rd_ok, wr_ok, put_eq, jn_eq, cl_some, Int.toNat_natCast, hf y (by omega), hf (amn f y) (by omega)]
      by_cases q : f y < f (amn f y)
      · rw [if_pos q] at ih'
        simp (disch := omega) only [cLt_t, cLt_f, cEq_t, cEq_f, rdR_ok, rd_ok, wr_ok, put_eq, jn_eq, cl_some, Int.toNat_natCast]
        exact ih'
      · rw [if_neg q] at ih'
        simp (disch := omega) only [cLt_t, cLt_f, cEq_t, cEq_f, rdR_ok, rd_ok, wr_ok, put_eq, jn_eq, cl_some, Int.toNat_natCast]
        exact ih'
theorem l_qnear {t : St} {k x N : Nat} (hk : k < 2) (hT : X9_many (1 - (k : Int)) t = some ((N : Int), t)) (hN : N ≤ 12) (hx : x < 12) {f : Nat → Int} (hb : ∀ y, y < N → 0 ≤ f y ∧ f y < 100000) (hf : ∀ y, y < N → (if k = 0 then t 20 (12 * x + y) else t 20 (12 * y + x)) = f y) (g : Int → Int → St → Rs) : ∀ (n y : Nat), 1 ≤ y → y ≤ N → N < y + n → X9_nearest_36 (k : Int) (x : Int) g n (amn f y : Int) (f (amn f y)) (y : Int) t = g (amn f N : Int) (f (amn f N)) t := by
  intro n
  induction n with
  | zero => intro y h1 h2 h3; omega
  | succ n ih =>
    intro y h1 h2 h3
    rw [X9_nearest_36]
    simp (disch := omega) only [cLt_t, cLt_f, cEq_t, cEq_f, rdR_ok, rd_ok, wr_ok, put_eq, jn_eq, cl_some, Int.toNat_natCast, hT]
    by_cases e : y = N
    · subst e
      simp (disch := omega) only [cLt_t, cLt_f, cEq_t, cEq_f, rdR_ok, rd_ok, wr_ok, put_eq, jn_eq, cl_some, Int.toNat_natCast]
    · have al := amn_lt f y (by omega)
      have b1 := hb y (by omega)
      have b2 := hb (amn f y) (by omega)
      have ih' := ih (y + 1) (by omega) (by omega) (by omega)
      have hf' := hf y (by omega)
      rw [amn] at ih'
      have i6 : Hid ((12 * (x : Int) + (y : Int)).toNat = 12 * x + y) := Hid.mk (by omega)
      have i7 : Hid ((12 * (y : Int) + (x : Int)).toNat = 12 * y + x) := Hid.mk (by omega)
      by_cases k0 : k = 0
      · rw [if_pos k0] at hf'
        by_cases q : f y < f (amn f y)
        · rw [if_pos q] at ih'
          simp (disch := omega) only [cLt_t, cLt_f, cEq_t, cEq_f, rdR_ok, rd_ok, wr_ok, put_eq, jn_eq, cl_some, Int.toNat_natCast, i6.out, hf', q_lesser]
          rw [show min (f y) (f (amn f y)) = f y by omega]
          exact ih'
        · rw [if_neg q] at ih'
          simp (disch := omega) only [cLt_t, cLt_f, cEq_t, cEq_f, rdR_ok, rd_ok, wr_ok, put_eq, jn_eq, cl_some, Int.toNat_natCast, i6.out, hf', q_lesser]
          rw [show min (f y) (f (amn f y)) = f (amn f y) by omega]
          exact ih'
      · rw [if_neg k0] at hf'
        by_cases q : f y < f (amn f y)
        · rw [if_pos q] at ih'
          simp (disch := omega) only [cLt_t, cLt_f, cEq_t, cEq_f, rdR_ok, rd_ok, wr_ok, put_eq, jn_eq, cl_some, Int.toNat_natCast, i7.out, hf', q_lesser]
          rw [show min (f y) (f (amn f y)) = f y by omega]
          exact ih'
        · rw [if_neg q] at ih'
          simp (disch := omega) only [cLt_t, cLt_f, cEq_t, cEq_f, rdR_ok, rd_ok, wr_ok, put_eq, jn_eq, cl_some, Int.toNat_natCast, i7.out, hf', q_lesser]
          rw [show min (f y) (f (amn f y)) = f (amn f y) by omega]
          exact ih'
theorem l_qnear0 {t : St} {k x N : Nat} (hk : k < 2) (hT : X9_many (1 - (k : Int)) t = some ((N : Int), t)) (hN : N ≤ 12) (h0 : 0 < N) (hx : x < 12) {f : Nat → Int} (hb : ∀ y, y < N → 0 ≤ f y ∧ f y < 100000) (hf : ∀ y, y < N → (if k = 0 then t 20 (12 * x + y) else t 20 (12 * y + x)) = f y) (g : Int → Int → St → Rs) : X9_nearest_36 (k : Int) (x : Int) g FU (-9) 100000 0 t = g (amn f N : Int) (f (amn f N)) t := by
  have hU := FU_gt
  obtain ⟨F, hF⟩ : ∃ F, FU = F + 1 := ⟨FU - 1, by omega⟩
  have ih' := l_qnear hk hT hN hx hb hf g F 1 (by omega) (by omega) (by omega)
  rw [amn, show amn f 0 = 0 from rfl, if_neg (by omega)] at ih'
  have b1 := hb 0 h0
  have hf' := hf 0 h0
  rw [hF, X9_nearest_36]
  simp (disch := omega) only [cLt_t, cLt_f, cEq_t, cEq_f, rdR_ok, rd_ok, wr_ok, put_eq, jn_eq, cl_some, Int.toNat_natCast, hT]
  have i6 : Hid ((12 * (x : Int) + 0).toNat = 12 * x + 0) := Hid.mk (by omega)
  have i7 : Hid ((12 * (0 : Int) + (x : Int)).toNat = 12 * 0 + x) := Hid.mk (by omega)
  by_cases k0 : k = 0
  · rw [if_pos k0] at hf'
    simp (disch := omega) only [cLt_t, cLt_f, cEq_t, cEq_f, rdR_ok, rd_ok, wr_ok, put_eq, jn_eq, cl_some, Int.toNat_natCast, i6.out, hf', q_lesser]
    rw [show min (f 0) 100000 = f 0 by omega]
    exact ih'
  · rw [if_neg k0] at hf'
    simp (disch := omega) only [cLt_t, cLt_f, cEq_t, cEq_f, rdR_ok, rd_ok, wr_ok, put_eq, jn_eq, cl_some, Int.toNat_natCast, i7.out, hf', q_lesser]
    rw [show min (f 0) 100000 = f 0 by omega]
    exact ih'
theorem apart_r {v : Vec} (hv : VecOK v) {x y : Nat} (hx : x < v.1.n) (hy : y < v.2.1.n) : 0 ≤ dF (Kv v) (Tl v.1 v.2.1) (v.1.l x) (x + 1) (v.2.1.l y) (y + 1) ∧ dF (Kv v) (Tl v.1 v.2.1) (v.1.l x) (x + 1) (v.2.1.l y) (y + 1) < 100000 := by
  have h1 := fst_rgx hv.1.1 hx
  have h2 := fst_rgx hv.2.1.1 hy
  have n0 := hv.1.1.1
  have n1 := hv.2.1.1.1
  have r := Kv_r hv
  have q := F_most (K := Kv v) (T := Tl v.1 v.2.1) (M := 27) (fun x => (r.1 x).2) (fun x => (r.2.1 x).2) _ (v.1.l x) (x + 1) (v.2.1.l y) (y + 1) h1 h2 rfl
  exact ⟨F_0 h1 h2 (fun x => (r.1 x).1) (fun x => (r.2.1 x).1) (fun x y => (r.2.2 x y).1), by omega⟩
theorem sim_nearest : ∀ s t : St, InvS SolX s t → ∀ a1 : Int, inR a1 → ∀ a2 : Int, inR a2 → Ok2 (InvS SolX) (X8_nearest a1 a2 s) (X9_nearest a1 a2 t) := by
  intro s t hI a1 r1 a2 r2
  obtain ⟨v, hc, hs⟩ := cor_of hI
  obtain ⟨hv, hC, hM⟩ := hc.ok
  have hU := FU_gt
  unfold X8_nearest X9_nearest
  rw [p_noNode hv hC r1 r2, q_isNode hv hM r1 r2]
  have n0 := hv.1.1.1
  have n1 := hv.2.1.1.1
  by_cases h : (0 ≤ a1 ∧ a1 < 2) ∧ 0 ≤ a2 ∧ a2 < (v.doc a1.toNat).n
  · rw [if_pos h, if_pos h]
    obtain ⟨k, rfl⟩ : ∃ r : Nat, a1 = r := ⟨a1.toNat, by omega⟩
    obtain ⟨x, rfl⟩ : ∃ r : Nat, a2 = r := ⟨a2.toNat, by omega⟩
    rw [Int.toNat_natCast] at h
    have hn := (doc_ok hv k).1.1
    have hk : k < 2 := by omega
    simp (disch := omega) only [cLt_t, cLt_f, cEq_t, cEq_f, rdR_ok, rd_ok, wr_ok, put_eq, jn_eq, cl_some, Int.toNat_natCast]
    rw [p_isWhole hv hC, q_areBoth hv hM]
    by_cases g : 0 < v.1.n ∧ 0 < v.2.1.n
    · rw [if_pos g]
      obtain ⟨s', q1, q2, q3, q4⟩ := p_refresh hv hC hs
      have sol := (q4 g).1
      obtain ⟨t', m1, m2, m3, m4⟩ := q_leastOf hv g.1 g.2 hM
      have hc' : Cor s' t' v := hc.frame (fun b w1 w2 w3 w4 => q2 b w1 w2 (by omega)) m2.scr
      obtain ⟨-, hC', hM'⟩ := hc'.ok
      have e1 : (1 : Int) - (k : Int) = ((1 - k : Nat) : Int) := by omega
      have key : ∃ f : Nat → Int, (∀ y, y < (v.doc (1 - k)).n → 0 ≤ f y ∧ f y < 100000) ∧ (∀ y, y < (v.doc (1 - k)).n → X7_between (k : Int) (x : Int) (y : Int) s' = some (f y, s')) ∧ (∀ y, y < (v.doc (1 - k)).n → (if k = 0 then t' 20 (12 * x + y) else t' 20 (12 * y + x)) = f y) ∧ 0 < (v.doc (1 - k)).n ∧ (v.doc (1 - k)).n ≤ 12 := by
        by_cases k0 : k = 0
        · subst k0
          have hx : x < v.1.n := by
            have : (v.doc 0).n = v.1.n := rfl
            omega
          refine ⟨fun y => dF (Kv v) (Tl v.1 v.2.1) (v.1.l x) (x + 1) (v.2.1.l y) (y + 1), fun y hy => apart_r hv hx hy, fun y hy => ?_, fun y hy => ?_, g.2, n1⟩
          · have hy' : y < v.2.1.n := hy
            unfold X7_between
            simp (disch := omega) only [cLt_t, cLt_f, cEq_t, cEq_f, rdR_ok, rd_ok, wr_ok, put_eq, jn_eq, cl_some, Int.toNat_natCast, (sol x y hx hy').2]
          · rw [if_pos rfl]
            exact m4 x y hx hy
        · have k1 : k = 1 := by omega
          subst k1
          have hx : x < v.2.1.n := by
            have : (v.doc 1).n = v.2.1.n := rfl
            omega
          refine ⟨fun y => dF (Kv v) (Tl v.1 v.2.1) (v.1.l y) (y + 1) (v.2.1.l x) (x + 1), fun y hy => apart_r hv hy hx, fun y hy => ?_, fun y hy => ?_, g.1, n0⟩
          · have hy' : y < v.1.n := hy
            unfold X7_between
            simp (disch := omega) only [cLt_t, cLt_f, cEq_t, cEq_f, rdR_ok, rd_ok, wr_ok, put_eq, jn_eq, cl_some, Int.toNat_natCast, (sol y x hy' hx).2]
          · rw [if_neg (by decide)]
            exact m4 y x hy hx
      obtain ⟨f, f1, f2, f3, f4, f5⟩ := key
      have al := amn_lt f _ f4
      have c1 := l_near (d := v.1) (x := x) hk (doc_C hC' (show 1 - k < 2 by omega)).1 f5 f1 f2 (fun x7 s8 => cl (X7_between (k : Int) (x : Int) x7 s8) (fun v9 s10 => put s10 0 10 v9 (fun s11 => some (x7, s11)))) FU 1 (by omega) (by omega) (by omega)
      rw [amn, show amn f 0 = 0 from rfl, if_neg (by omega)] at c1
      have c2 := l_qnear0 (x := x) hk (by rw [e1]; exact q_many (by omega) (doc_M hM' (show 1 - k < 2 by omega))) f5 f4 (by omega) f1 f3 (fun x7 x8 s9 => cl (X9_tells x8 x7 s9) (fun v10 s11 => some (v10, s11)))
      simp (disch := omega) only [cLt_t, cLt_f, cEq_t, cEq_f, rdR_ok, rd_ok, wr_ok, put_eq, jn_eq, cl_some, Int.toNat_natCast, q1, m1]
      have c1' : X8_nearest_36 (k : Int) (x : Int) (fun x7 s8 => cl (X7_between (k : Int) (x : Int) x7 s8) (fun v9 s10 => put s10 0 10 v9 (fun s11 => some (x7, s11)))) FU 0 1 s' = cl (X7_between (k : Int) (x : Int) (amn f (v.doc (1 - k)).n : Int) s') (fun v9 s10 => put s10 0 10 v9 (fun s11 => some ((amn f (v.doc (1 - k)).n : Int), s11))) := c1
      simp only [put_eq] at c1'
      rw [c1', c2, f2 _ al]
      unfold X9_tells
      simp (disch := omega) only [cLt_t, cLt_f, cEq_t, cEq_f, rdR_ok, rd_ok, wr_ok, put_eq, jn_eq, cl_some, Int.toNat_natCast]
      exact ⟨_, _, _, rfl, rfl, inv_tell cong (hc'.inv q3) _⟩
    · rw [if_neg g]
      simp (disch := omega) only [cLt_t, cLt_f, cEq_t, cEq_f, rdR_ok, rd_ok, wr_ok, put_eq, jn_eq, cl_some, Int.toNat_natCast]
      exact ok_same _ hI
  · rw [if_neg h, if_neg h]
    simp (disch := omega) only [cLt_t, cLt_f, cEq_t, cEq_f, rdR_ok, rd_ok, wr_ok, put_eq, jn_eq, cl_some, Int.toNat_natCast]
    exact ok_same _ hI
