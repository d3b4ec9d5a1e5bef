/-! the steps -/
abbrev Sstp : Type := Int × Int × Int
def stD (v : Vec) (G : Nat → Int) : Nat → List Sstp
  | 0 => []
  | x + 1 => stD v G x ++ (if G x = -9 then [(0, (x : Int), (Kv v).1 x)] else [])
def stR (v : Vec) (G : Nat → Int) : Nat → List Sstp
  | 0 => []
  | x + 1 => stR v G x ++ (if G x ≠ -9 ∧ v.1.c x ≠ v.2.1.c (G x).toNat then [(1, (x : Int), (Kv v).2.2 x (G x).toNat)] else [])
def stI (v : Vec) (O : Nat → Int) : Nat → List Sstp
  | 0 => []
  | m + 1 => stI v O m ++ (if O (v.2.1.n - 1 - m) = -9 then [(2, ((v.2.1.n - 1 - m : Nat) : Int), (Kv v).2.1 (v.2.1.n - 1 - m))] else [])
def stps (v : Vec) (G O : Nat → Int) : List Sstp := stD v G v.1.n ++ stR v G v.1.n ++ stI v O v.2.1.n
theorem stDR_len (v : Vec) (G : Nat → Int) : ∀ x, (stD v G x).length + (stR v G x).length ≤ x
  | 0 => by simp [stD, stR]
  | x + 1 => by
    have := stDR_len v G x
    rw [stD, stR, List.length_append, List.length_append]
    by_cases h : G x = -9
    · rw [if_pos h, if_neg (fun z => z.1 h)]
      simp only [List.length_cons, List.length_nil]
      omega
    · rw [if_neg h]
      split
      · simp only [List.length_cons, List.length_nil]
        omega
      · simp only [List.length_nil]
        omega
theorem stI_len (v : Vec) (O : Nat → Int) : ∀ m, (stI v O m).length ≤ m
  | 0 => by simp [stI]
  | m + 1 => by
    have := stI_len v O m
    rw [stI, List.length_append]
    split
    · simp only [List.length_cons, List.length_nil]
      omega
    · simp only [List.length_nil]
      omega
def atS (L : List Sstp) (k : Nat) : Sstp := (L[k]?).getD (0, 0, 0)
theorem atS_l {L M : List Sstp} {k : Nat} (h : k < L.length) : atS (L ++ M) k = atS L k := by
  unfold atS
  rw [List.getElem?_append_left h]
theorem atS_e {L : List Sstp} {e : Sstp} : atS (L ++ [e]) L.length = e := by
  unfold atS
  rw [List.getElem?_append_right (Nat.le_refl _), Nat.sub_self]
  rfl
def SpC (s : St) (L : List Sstp) : Prop := s 8 0 = L.length ∧ ∀ k, k < L.length → s 52 k = (atS L k).1 ∧ s 53 k = (atS L k).2.1 ∧ s 54 k = (atS L k).2.2
def SpM (t : St) (L : List Sstp) : Prop := t 0 30 = L.length ∧ ∀ k, k < L.length → t 24 (3 * k) = (atS L k).1 ∧ t 24 (3 * k + 1) = (atS L k).2.1 ∧ t 24 (3 * k + 2) = (atS L k).2.2
theorem p_step {s : St} {L : List Sstp} (h : SpC s L) (hl : L.length < 24) (a b c : Int) : ∃ s', X4_append a b c s = some (0, s') ∧ (∀ d, d ≠ 8 → ¬(52 ≤ d ∧ d ≤ 54) → s' d = s d) ∧ SpC s' (L ++ [(a, b, c)]) := by
  refine ⟨up (up (up (up s 52 L.length a) 53 L.length b) 54 L.length c) 8 0 ((L.length : Int) + 1), ?_, fun d d1 d2 => by rw [up_b (by omega), up_b (by omega), up_b (by omega), up_b (by omega)], ?_, fun k hk => ?_⟩
  · unfold X4_append
    have := h.1
    simp (disch := omega) only [cLt_t, cLt_f, cEq_t, cEq_f, rdR_ok, rd_ok, wr_ok, put_eq, jn_eq, cl_some, Int.toNat_natCast, this, up_o, up_i, up_eq]
  · rw [up_eq, List.length_append]
    rfl
  · rw [List.length_append] at hk
    simp only [List.length_cons, List.length_nil] at hk
    by_cases e : k = L.length
    · subst e
      rw [atS_e]
      simp (disch := omega) only [fil_o, up_o, fil_out, fil_in, up_i, up_eq]
      exact ⟨trivial, trivial, trivial⟩
    · rw [atS_l (by omega)]
      simp (disch := omega) only [fil_o, up_o, fil_out, fil_in, up_i, up_eq]
      exact h.2 k (by omega)
theorem q_step {t : St} {L : List Sstp} (h : SpM t L) (hl : L.length < 24) (a b c : Int) : ∃ t', X9_steps a b c t = some (0, t') ∧ (∀ d, d ≠ 24 → d ≠ 0 → t' d = t d) ∧ (∀ i, i ≠ 30 → t' 0 i = t 0 i) ∧ SpM t' (L ++ [(a, b, c)]) := by
  refine ⟨up (up (up (up t 24 (3 * L.length) a) 24 (3 * L.length + 1) b) 24 (3 * L.length + 2) c) 0 30 ((L.length : Int) + 1), ?_, fun d d1 d2 => by rw [up_b (by omega), up_b (by omega), up_b (by omega), up_b (by omega)], fun i hi => by simp (disch := omega) only [fil_o, up_o, fil_out, fil_in, up_i, up_eq], ?_, fun k hk => ?_⟩
  · unfold X9_steps
    have := h.1
    have i0 : Hid ((3 * (L.length : Int)).toNat = 3 * L.length) := Hid.mk (by omega)
    have i1 : Hid ((3 * (L.length : Int) + 1).toNat = 3 * L.length + 1) := Hid.mk (by omega)
    have i2 : Hid ((3 * (L.length : Int) + 2).toNat = 3 * L.length + 2) := Hid.mk (by omega)
    simp (disch := omega) only [cLt_t, cLt_f, cEq_t, cEq_f, rdR_ok, rd_ok, wr_ok, put_eq, jn_eq, cl_some, Int.toNat_natCast, this, up_o, up_i, up_eq, i0.out, i1.out, i2.out]
  · rw [up_eq, List.length_append]
    rfl
  · rw [List.length_append] at hk
    simp only [List.length_cons, List.length_nil] at hk
    by_cases e : k = L.length
    · subst e
      rw [atS_e]
      simp (disch := omega) only [fil_o, up_o, fil_out, fil_in, up_i, up_eq]
      exact ⟨trivial, trivial, trivial⟩
    · rw [atS_l (by omega)]
      simp (disch := omega) only [fil_o, up_o, fil_out, fil_in, up_i, up_eq]
      exact h.2 k (by omega)
/-! the class lists them -/
def FS (s s' : St) : Prop := ∀ d, d ≠ 8 → ¬(52 ≤ d ∧ d ≤ 54) → s' d = s d
theorem FS.rfl {s : St} : FS s s := fun _ _ _ => Eq.refl _
theorem FS.trans {a b c : St} (h : FS a b) (g : FS b c) : FS a c := fun x h1 h2 => (g x h1 h2).trans (h x h1 h2)
section LIST
variable {v : Vec} {G O : Nat → Int}
theorem l_list10 (hv : VecOK v) (k : St → Rs) : ∀ (n x : Nat) (s : St), x ≤ v.1.n → v.1.n < x + n → WE s v.1 v.2.1 (Kv v) → (∀ a, a < v.1.n → s 57 a = G a ∧ -9 ≤ G a ∧ G a < 12) → SpC s (stD v G x) → ∃ s', X7_listSteps_10 k n (x : Int) s = k s' ∧ FS s s' ∧ SpC s' (stD v G v.1.n) := by
  have hA12 := hv.1.1.1
  intro n
  induction n with
  | zero => intro x s h1 h2; omega
  | succ n ih =>
    intro x s h1 h2 hW hG hS
    rw [X7_listSteps_10, hW.1.1]
    by_cases e : x = v.1.n
    · subst e
      refine ⟨s, ?_, FS.rfl, hS⟩
      simp (disch := omega) only [cLt_t, cLt_f, cEq_t, cEq_f, rdR_ok, rd_ok, wr_ok, put_eq, jn_eq, cl_some, Int.toNat_natCast]
    · have g := hG x (by omega)
      have dl := stDR_len v G x
      have d := hW.2.2.1 x (by omega)
      by_cases q : G x = -9
      · obtain ⟨s1, a1, a2, a3⟩ := p_step hS (by omega) 0 (x : Int) ((Kv v).1 x)
        obtain ⟨s', f1, f2, f3⟩ := ih (x + 1) s1 (by omega) (by omega) (hW.congr hA12 (fun b hb => a2 b (by omega) (by omega))) (fun a ha => by rw [a2 57 (by omega) (by omega)]; exact hG a ha) (by rw [stD, if_pos q]; exact a3)
        refine ⟨s', ?_, FS.trans a2 f2, f3⟩
        simp (disch := omega) only [cLt_t, cLt_f, cEq_t, cEq_f, rdR_ok, rd_ok, wr_ok, put_eq, jn_eq, cl_some, Int.toNat_natCast, g.1, q, d, a1]
        exact f1
      · obtain ⟨s', f1, f2, f3⟩ := ih (x + 1) s (by omega) (by omega) hW hG (by rw [stD, if_neg q, List.append_nil]; exact hS)
        refine ⟨s', ?_, f2, f3⟩
        simp (disch := omega) only [cLt_t, cLt_f, cEq_t, cEq_f, rdR_ok, rd_ok, wr_ok, put_eq, jn_eq, cl_some, Int.toNat_natCast, g.1]
        exact f1
theorem l_list55 (hv : VecOK v) (k : St → Rs) : ∀ (n x : Nat) (s : St), x ≤ v.1.n → v.1.n < x + n → WE s v.1 v.2.1 (Kv v) → (∀ a, a < v.1.n → s 57 a = G a ∧ (G a = -9 ∨ (0 ≤ G a ∧ G a < v.2.1.n))) → SpC s (stD v G v.1.n ++ stR v G x) → ∃ s', X7_listSteps_55 k n (x : Int) s = k s' ∧ FS s s' ∧ SpC s' (stD v G v.1.n ++ stR v G v.1.n) := by
  have hA := hv.1.1
  have hB := hv.2.1.1
  have hA12 := hA.1
  have hB12 := hB.1
  intro n
  induction n with
  | zero => intro x s h1 h2; omega
  | succ n ih =>
    intro x s h1 h2 hW hG hS
    rw [X7_listSteps_55, hW.1.1]
    by_cases e : x = v.1.n
    · subst e
      refine ⟨s, ?_, FS.rfl, hS⟩
      simp (disch := omega) only [cLt_t, cLt_f, cEq_t, cEq_f, rdR_ok, rd_ok, wr_ok, put_eq, jn_eq, cl_some, Int.toNat_natCast]
    · have g := hG x (by omega)
      by_cases q : G x = -9
      · obtain ⟨s', f1, f2, f3⟩ := ih (x + 1) s (by omega) (by omega) hW hG (by rw [stR, if_neg (fun z => z.1 q), List.append_nil]; exact hS)
        refine ⟨s', ?_, f2, f3⟩
        simp (disch := omega) only [cLt_t, cLt_f, cEq_t, cEq_f, rdR_ok, rd_ok, wr_ok, put_eq, jn_eq, cl_some, Int.toNat_natCast, g.1, q]
        exact f1
      · obtain ⟨y, hy⟩ : ∃ y : Nat, G x = y := ⟨(G x).toNat, by omega⟩
        have c0 := (hW.1.2 x (by omega)).1
        have c1 := (hW.2.1.2 y (by omega)).1
        have lb0 := (hA.2.1 x (by omega)).1
        have lb1 := (hB.2.1 y (by omega)).1
        have sw := hW.2.2.2.2 x y (by omega) (by omega)
        by_cases r : v.1.c x = v.2.1.c y
        · obtain ⟨s', f1, f2, f3⟩ := ih (x + 1) s (by omega) (by omega) hW hG (by rw [stR, if_neg (fun z => z.2 (by rw [hy, Int.toNat_natCast]; exact r)), List.append_nil]; exact hS)
          refine ⟨s', ?_, f2, f3⟩
          simp (disch := omega) only [cLt_t, cLt_f, cEq_t, cEq_f, rdR_ok, rd_ok, wr_ok, put_eq, jn_eq, cl_some, Int.toNat_natCast, g.1, hy, c0, c1]
          exact f1
        · have := stDR_len v G x
          have := stDR_len v G v.1.n
          obtain ⟨s1, a1, a2, a3⟩ := p_step hS (by rw [List.length_append]; omega) 1 (x : Int) ((Kv v).2.2 x y)
          obtain ⟨s', f1, f2, f3⟩ := ih (x + 1) s1 (by omega) (by omega) (hW.congr hA12 (fun b hb => a2 b (by omega) (by omega))) (fun a ha => by rw [a2 57 (by omega) (by omega)]; exact hG a ha) (by rw [stR, if_pos ⟨q, by rw [hy, Int.toNat_natCast]; exact r⟩, hy, Int.toNat_natCast, ← List.append_assoc]; exact a3)
          refine ⟨s', ?_, FS.trans a2 f2, f3⟩
          simp (disch := omega) only [cLt_t, cLt_f, cEq_t, cEq_f, rdR_ok, rd_ok, wr_ok, put_eq, jn_eq, cl_some, Int.toNat_natCast, g.1, hy, c0, c1, sw, a1]
          exact f1
theorem l_list133 (hv : VecOK v) (L : List Sstp) (hL : L.length ≤ 12) (k : St → Rs) : ∀ (n m : Nat) (s : St), m ≤ v.2.1.n → v.2.1.n < m + n → WE s v.1 v.2.1 (Kv v) → (∀ b, b < v.2.1.n → s 58 b = O b ∧ -9 ≤ O b ∧ O b < 12) → SpC s (L ++ stI v O m) → ∃ s', X7_listSteps_133 k n ((v.2.1.n : Int) - 1 - m) s = k s' ∧ FS s s' ∧ SpC s' (L ++ stI v O v.2.1.n) := by
  have hA12 := hv.1.1.1
  have hB12 := hv.2.1.1.1
  intro n
  induction n with
  | zero => intro x s h1 h2; omega
  | succ n ih =>
    intro m s h1 h2 hW hO hS
    rw [X7_listSteps_133]
    by_cases e : m = v.2.1.n
    · subst e
      refine ⟨s, ?_, FS.rfl, hS⟩
      simp (disch := omega) only [cLt_t, cLt_f, cEq_t, cEq_f, rdR_ok, rd_ok, wr_ok, put_eq, jn_eq, cl_some, Int.toNat_natCast]
    · have e1 : (v.2.1.n : Int) - 1 - m = ((v.2.1.n - 1 - m : Nat) : Int) := by omega
      have e2 : ((v.2.1.n - 1 - m : Nat) : Int) + -1 = (v.2.1.n : Int) - 1 - ((m + 1 : Nat) : Int) := by omega
      have g := hO (v.2.1.n - 1 - m) (by omega)
      have d := hW.2.2.2.1 (v.2.1.n - 1 - m) (by omega)
      have il := stI_len v O m
      rw [e1]
      have st : stI v O (m + 1) = stI v O m ++ (if O (v.2.1.n - 1 - m) = -9 then [(2, ((v.2.1.n - 1 - m : Nat) : Int), (Kv v).2.1 (v.2.1.n - 1 - m))] else []) := rfl
      by_cases q : O (v.2.1.n - 1 - m) = -9
      · rw [if_pos q] at st
        obtain ⟨s1, a1, a2, a3⟩ := p_step hS (by rw [List.length_append]; omega) 2 ((v.2.1.n - 1 - m : Nat) : Int) ((Kv v).2.1 (v.2.1.n - 1 - m))
        obtain ⟨s', f1, f2, f3⟩ := ih (m + 1) s1 (by omega) (by omega) (hW.congr hA12 (fun b hb => a2 b (by omega) (by omega))) (fun a ha => by rw [a2 58 (by omega) (by omega)]; exact hO a ha) (by rw [st, ← List.append_assoc]; exact a3)
        refine ⟨s', ?_, FS.trans a2 f2, f3⟩
        rw [← e2] at f1
        generalize v.2.1.n - 1 - m = y at *
        simp (disch := omega) only [cLt_t, cLt_f, cEq_t, cEq_f, rdR_ok, rd_ok, wr_ok, put_eq, jn_eq, cl_some, Int.toNat_natCast, g.1, q, d, a1]
        exact f1
      · rw [if_neg q] at st
        obtain ⟨s', f1, f2, f3⟩ := ih (m + 1) s (by omega) (by omega) hW hO (by rw [st, List.append_nil]; exact hS)
        refine ⟨s', ?_, f2, f3⟩
        rw [← e2] at f1
        generalize v.2.1.n - 1 - m = y at *
        simp (disch := omega) only [cLt_t, cLt_f, cEq_t, cEq_f, rdR_ok, rd_ok, wr_ok, put_eq, jn_eq, cl_some, Int.toNat_natCast, g.1]
        exact f1
theorem p_listSteps (hv : VecOK v) {s : St} (hW : WE s v.1 v.2.1 (Kv v)) (hG : ∀ a, a < v.1.n → s 57 a = -9 ∨ (0 ≤ s 57 a ∧ s 57 a < v.2.1.n)) (hO : ∀ b, b < v.2.1.n → s 58 b = -9 ∨ (0 ≤ s 58 b ∧ s 58 b < v.1.n)) : ∃ s', X7_listSteps s = some (0, s') ∧ FS s s' ∧ SpC s' (stps v (s 57) (s 58)) := by
  have hA12 := hv.1.1.1
  have hB12 := hv.2.1.1.1
  have hU := FU_gt
  unfold X7_listSteps
  rw [put_eq]
  have f0 : FS s (up s 8 0 0) := fun d d1 d2 => up_b d1
  have dr := stDR_len v (s 57) v.1.n
  have w0 := hW.congr hA12 (s' := up s 8 0 0) (fun b hb => f0 b (by omega) (by omega))
  obtain ⟨s1, a1, a2, a3⟩ := l_list10 (v := v) (G := s 57) hv (fun s2 => X7_listSteps_55  (fun s3 => X7_listSteps_133  (fun s4 => some (0, s4)) FU ((s3 41 0) - 1) s3) FU 0 s2) FU 0 (up s 8 0 0) (by omega) (by omega) w0 (fun a ha => by
    rw [up_b (by omega)]
    have := hG a ha
    exact ⟨rfl, by omega, by omega⟩) ⟨up_eq, fun k hk => absurd hk (Nat.not_lt_zero k)⟩
  have w1 := w0.congr hA12 (s' := s1) (fun b hb => a2 b (by omega) (by omega))
  obtain ⟨s2, b1, b2, b3⟩ := l_list55 (v := v) (G := s 57) hv (fun s3 => X7_listSteps_133  (fun s4 => some (0, s4)) FU ((s3 41 0) - 1) s3) FU 0 s1 (by omega) (by omega) w1 (fun a ha => by
    rw [a2 57 (by omega) (by omega), up_b (by omega)]
    exact ⟨rfl, hG a ha⟩) (by rw [stR, List.append_nil]; exact a3)
  have w2 := w1.congr hA12 (s' := s2) (fun b hb => b2 b (by omega) (by omega))
  obtain ⟨s3, c1, c2, c3⟩ := l_list133 (v := v) (O := s 58) hv (stD v (s 57) v.1.n ++ stR v (s 57) v.1.n) (by rw [List.length_append]; omega) (fun s4 => some (0, s4)) FU 0 s2 (by omega) (by omega) w2 (fun b hb => by
    rw [b2 58 (by omega) (by omega), a2 58 (by omega) (by omega), up_b (by omega)]
    have := hO b hb
    exact ⟨rfl, by omega, by omega⟩) (by rw [stI, List.append_nil]; exact b3)
  refine ⟨s3, ?_, ((f0.trans a2).trans b2).trans c2, c3⟩
  refine a1.trans (b1.trans ?_)
  simp only [w2.2.1.1]
  rw [show (v.2.1.n : Int) - 1 = (v.2.1.n : Int) - 1 - ((0 : Nat) : Int) by omega]
  exact c1
end LIST
