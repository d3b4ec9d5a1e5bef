/-! ancestors: counted, and climbed to -/
theorem sm_split (f : Nat → Int) (lo : Nat) : ∀ (a b : Nat), sm f lo (a + b) = sm f lo a + sm f (lo + a) b
  | a, 0 => by simp [sm]
  | a, b + 1 => by
    rw [← Nat.add_assoc, sm, sm, sm_split f lo a b, Nat.add_assoc]
    omega
theorem sm_zero {f : Nat → Int} (lo : Nat) : ∀ n, (∀ i, lo ≤ i → i < lo + n → f i = 0) → sm f lo n = 0
  | 0, _ => rfl
  | n + 1, h => by rw [sm, sm_zero lo n (fun i a b => h i a (by omega)), h (lo + n) (by omega) (by omega)]; rfl
def anc (d : Doc) (x : Nat) : Int := sm (fun y => if d.l y ≤ x then 1 else 0) (x + 1) (d.n - (x + 1))
theorem anc_root {d : Doc} (hn : d.n ≤ 12) {x : Nat} (h : par d x = -9) : anc d x = 0 := by
  rcases par_spec d hn x with ⟨z, e, -⟩ | ⟨-, a1⟩
  · rw [e] at h; omega
  · unfold anc
    refine sm_zero _ _ (fun i b1 b2 => ?_)
    rw [if_neg (by have := a1 i (by omega) (by omega); omega)]
theorem anc_up {d : Doc} (hF : Fst d) {x z : Nat} (hx : x < d.n) (h : par d x = (z : Int)) : anc d x = anc d z + 1 := by
  have hn := hF.1
  rcases par_spec d hn x with ⟨w, e, a1, a2, a3, a4⟩ | ⟨e, -⟩
  · have hw : w = z := by omega
    subst hw
    unfold anc
    have e1 : d.n - (x + 1) = (w - x) + (d.n - (w + 1)) := by omega
    rw [e1, sm_split, show x + 1 + (w - x) = w + 1 by omega]
    have e2 : sm (fun y => if d.l y ≤ x then 1 else 0) (w + 1) (d.n - (w + 1)) = sm (fun y => if d.l y ≤ w then 1 else 0) (w + 1) (d.n - (w + 1)) := by
      refine sm_congr _ _ (fun i b1 b2 => ?_)
      by_cases c : d.l i ≤ x
      · rw [if_pos c, if_pos (by omega)]
      · rw [if_neg c, if_neg]
        intro c2
        have := hF.2.2 i w (by omega) (by omega) c2
        omega
    have e3 : sm (fun y => if d.l y ≤ x then 1 else 0) (x + 1) (w - x) = 1 := by
      rw [show w - x = (w - x - 1) + 1 by omega, sm, sm_zero _ _ (fun i b1 b2 => ?_), show x + 1 + (w - x - 1) = w by omega, if_pos a3]
      · rfl
      · rw [if_neg (by have := a4 i (by omega) (by omega); omega)]
    rw [e2, e3]
    omega
  · omega
theorem anc_r (d : Doc) (x : Nat) : 0 ≤ anc d x ∧ anc d x ≤ d.n := by
  have := sm_01 (f := fun y => if d.l y ≤ x then 1 else 0) (x + 1) (fun i => by split <;> omega) (d.n - (x + 1))
  unfold anc
  omega
theorem l_anc {s : St} {a : Nat} {d : Doc} (hT : TreeAt s a d) (hF : Fst d) (x : Nat) (hx : x < d.n) (k : Int → St → Rs) : ∀ (n m : Nat), x + 1 + m ≤ d.n → d.n < x + 1 + m + n → X6_ancestors_6 a (x : Int) k n (sm (fun y => if d.l y ≤ x then 1 else 0) (x + 1) m) ((x + 1 + m : Nat) : Int) s = k (anc d x) s := by
  have hn := hF.1
  intro n
  induction n with
  | zero => intro m h1 h2; omega
  | succ n ih =>
    intro m h1 h2
    rw [X6_ancestors_6, hT.1]
    by_cases h : x + 1 + m = d.n
    · simp (disch := omega) only [cLt_t, cLt_f, cEq_t, cEq_f, rdR_ok, rd_ok, wr_ok, put_eq, jn_eq, cl_some, Int.toNat_natCast]
      unfold anc
      rw [show d.n - (x + 1) = m by omega]
    · have h3 := ih (m + 1) (by omega) (by omega)
      rw [sm, show ((x + 1 + (m + 1) : Nat) : Int) = ((x + 1 + m : Nat) : Int) + 1 by omega] at h3
      have hp := p_leftmost hT hn (x := x + 1 + m) (by omega)
      have hl := (hF.2.1 (x + 1 + m) (by omega)).2
      simp (disch := omega) only [cLt_t, cLt_f, cEq_t, cEq_f, rdR_ok, rd_ok, wr_ok, put_eq, jn_eq, cl_some, Int.toNat_natCast, hp]
      by_cases e : d.l (x + 1 + m) ≤ x
      · rw [if_pos e] at h3
        simp (disch := omega) only [cLt_t, cLt_f, cEq_t, cEq_f, rdR_ok, rd_ok, wr_ok, put_eq, jn_eq, cl_some, Int.toNat_natCast]
        exact h3
      · rw [if_neg e, Int.add_zero] at h3
        simp (disch := omega) only [cLt_t, cLt_f, cEq_t, cEq_f, rdR_ok, rd_ok, wr_ok, put_eq, jn_eq, cl_some, Int.toNat_natCast]
        exact h3
theorem p_anc {s : St} {a : Nat} {d : Doc} (hT : TreeAt s a d) (hF : Fst d) {x : Nat} (hx : x < d.n) : X6_ancestors a (x : Int) s = some (anc d x, s) := by
  have hn := hF.1
  have hU := FU_gt
  exact l_anc hT hF x hx (fun x1 s2 => some (x1, s2)) FU 0 (by omega) (by omega)
theorem l_deep {t : St} {k : Nat} {d : Doc} (hk : k < 2) (hD : DocAt (t 5) (25 * k) d) (hF : Fst d) (g : Int → St → Rs) : ∀ (n x : Nat) (acc : Int), x < d.n → d.n < x + n → X9_deepOf_10 (k : Int) g n (acc + 1) (x : Int) t = g (acc + 1 + 1 + anc d x) t := by
  have hn := hF.1
  intro n
  induction n with
  | zero => intro x acc h1 h2; omega
  | succ n ih =>
    intro x acc h1 h2
    rw [X9_deepOf_10]
    have hp := q_above hk hD hF h1
    have hr := par_r d hn x
    simp (disch := omega) only [cLt_t, cLt_f, cEq_t, cEq_f, rdR_ok, rd_ok, wr_ok, put_eq, jn_eq, cl_some, Int.toNat_natCast, hp]
    rcases par_spec d hn x with ⟨z, e, a1, a2, a3, a4⟩ | ⟨e, a1⟩
    · rw [e, ih z (acc + 1) a2 (by omega), anc_up hF h1 e, show acc + 1 + 1 + 1 + anc d z = acc + 1 + 1 + (anc d z + 1) by omega]
    · rw [e, anc_root hn e]
      cases n with
      | zero => omega
      | succ n =>
        rw [X9_deepOf_10]
        simp (disch := omega) only [cLt_t, cLt_f, cEq_t, cEq_f, rdR_ok, rd_ok, wr_ok, put_eq, jn_eq, cl_some, Int.toNat_natCast]
        rw [Int.add_zero]
theorem q_deep {t : St} {k : Nat} {d : Doc} (hk : k < 2) (hD : DocAt (t 5) (25 * k) d) (hF : Fst d) {x : Nat} (hx : x < d.n) : X9_deepOf (k : Int) (x : Int) t = some (anc d x, t) := by
  have hn := hF.1
  have hU := FU_gt
  unfold X9_deepOf
  generalize FU = F at hU ⊢
  have hp := q_above hk hD hF hx
  simp (disch := omega) only [cLt_t, cLt_f, cEq_t, cEq_f, rdR_ok, rd_ok, wr_ok, put_eq, jn_eq, cl_some, Int.toNat_natCast, hp]
  rcases par_spec d hn x with ⟨z, e, a1, a2, a3, a4⟩ | ⟨e, a1⟩
  · have := l_deep hk hD hF (fun x3 s4 => some (x3, s4)) F z (-1) a2 (by omega)
    rw [show (-1 : Int) + 1 = 0 from rfl] at this
    rw [e, this, anc_up hF hx e, show 0 + 1 + anc d z = anc d z + 1 by omega]
  · rw [e, anc_root hn e]
    obtain ⟨F, rfl⟩ : ∃ G, F = G + 1 := ⟨F - 1, by omega⟩
    rw [X9_deepOf_10]
    simp (disch := omega) only [cLt_t, cLt_f, cEq_t, cEq_f, rdR_ok, rd_ok, wr_ok, put_eq, jn_eq, cl_some, Int.toNat_natCast]
