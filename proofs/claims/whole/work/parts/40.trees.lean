/-! documents: how many nodes, their codes, their leftmost nodes; as the class holds one (at a cell a), as the model does (in its vector A, from place o on) -/
abbrev lab (c : Int) : Prop := (97 ≤ c ∧ c ≤ 114) ∨ (65 ≤ c ∧ c ≤ 82) ∨ (48 ≤ c ∧ c ≤ 57)
abbrev Doc : Type := Nat × (Nat → Int) × (Nat → Nat)
abbrev Doc.n (d : Doc) : Nat := d.1
abbrev Doc.c (d : Doc) : Nat → Int := d.2.1
abbrev Doc.l (d : Doc) : Nat → Nat := d.2.2
def TreeAt (s : St) (a : Nat) (d : Doc) : Prop := s a 0 = d.n ∧ ∀ x, x < d.n → s (a + 1) x = d.c x ∧ s (a + 2) x = (x : Int) - (d.l x : Int) + 1
def DocAt (A : Nat → Int) (o : Nat) (d : Doc) : Prop := A o = d.n ∧ ∀ x, x < d.n → A (o + 1 + x) = d.c x ∧ A (o + 13 + x) = d.l x
/-- nodes in postorder: labels, leftmost nodes that nest -/
def Fst (d : Doc) : Prop := d.n ≤ 12 ∧ (∀ x, x < d.n → lab (d.c x) ∧ d.l x ≤ x) ∧ ∀ x y, x < d.n → y < x → d.l x ≤ y → d.l x ≤ d.l y
def WF (d : Doc) : Prop := Fst d ∧ (0 < d.n → d.l (d.n - 1) = 0)
/-- the parent of x, sought from y on -/
def parG (d : Doc) (x : Nat) : Nat → Nat → Int
  | 0, _ => -9
  | f + 1, y => if y < d.n then (if d.l y ≤ x then (y : Int) else parG d x f (y + 1)) else -9
def par (d : Doc) (x : Nat) : Int := parG d x 13 (x + 1)
theorem parG_spec (d : Doc) (x : Nat) : ∀ (f y : Nat), d.n < y + f → (∃ z : Nat, parG d x f y = (z : Int) ∧ y ≤ z ∧ z < d.n ∧ d.l z ≤ x ∧ ∀ w, y ≤ w → w < z → x < d.l w) ∨ (parG d x f y = -9 ∧ ∀ w, y ≤ w → w < d.n → x < d.l w) := by
  intro f
  induction f with
  | zero => intro y h; exact Or.inr ⟨rfl, fun w h1 h2 => by omega⟩
  | succ f ih =>
    intro y h
    rw [parG]
    by_cases h1 : y < d.n
    · rw [if_pos h1]
      by_cases h2 : d.l y ≤ x
      · rw [if_pos h2]
        exact Or.inl ⟨y, rfl, by omega, h1, h2, fun w a b => by omega⟩
      · rw [if_neg h2]
        rcases ih (y + 1) (by omega) with ⟨z, e, a1, a2, a3, a4⟩ | ⟨e, a1⟩
        · refine Or.inl ⟨z, e, by omega, a2, a3, fun w b1 b2 => ?_⟩
          by_cases hw : w = y
          · subst hw; omega
          · exact a4 w (by omega) b2
        · refine Or.inr ⟨e, fun w b1 b2 => ?_⟩
          by_cases hw : w = y
          · subst hw; omega
          · exact a1 w (by omega) b2
    · rw [if_neg h1]
      exact Or.inr ⟨rfl, fun w a b => by omega⟩
theorem par_spec (d : Doc) (h : d.n ≤ 12) (x : Nat) : (∃ z : Nat, par d x = (z : Int) ∧ x < z ∧ z < d.n ∧ d.l z ≤ x ∧ ∀ w, x < w → w < z → x < d.l w) ∨ (par d x = -9 ∧ ∀ w, x < w → w < d.n → x < d.l w) := by
  rcases parG_spec d x 13 (x + 1) (by omega) with ⟨z, e, a1, a2, a3, a4⟩ | ⟨e, a1⟩
  · exact Or.inl ⟨z, e, by omega, a2, a3, fun w b1 b2 => a4 w (by omega) b2⟩
  · exact Or.inr ⟨e, fun w b1 b2 => a1 w (by omega) b2⟩
theorem parG_f (d : Doc) (x : Nat) : ∀ (f g y : Nat), d.n < y + f → d.n < y + g → parG d x f y = parG d x g y := by
  intro f
  induction f with
  | zero =>
    intro g y h1 h2
    cases g with
    | zero => rfl
    | succ g => rw [parG, parG, if_neg (by omega)]
  | succ f ih =>
    intro g y h1 h2
    cases g with
    | zero => rw [parG, parG, if_neg (by omega)]
    | succ g =>
      rw [parG, parG]
      by_cases h3 : y < d.n
      · rw [if_pos h3, if_pos h3]
        by_cases h4 : d.l y ≤ x
        · rw [if_pos h4, if_pos h4]
        · rw [if_neg h4, if_neg h4, ih g (y + 1) (by omega) (by omega)]
      · rw [if_neg h3, if_neg h3]
theorem par_r (d : Doc) (h : d.n ≤ 12) (x : Nat) : -9 ≤ par d x ∧ par d x ≤ 12 := by
  rcases par_spec d h x with ⟨z, e, a1, a2, -⟩ | ⟨e, -⟩
  · rw [e]; omega
  · rw [e]; omega
/-! the class's side -/
theorem p_leftmost {s : St} {a : Nat} {d : Doc} (hT : TreeAt s a d) (hn : d.n ≤ 12) {x : Nat} (hx : x < d.n) : X6_leftmost a (x : Int) s = some ((d.l x : Int), s) := by
  unfold X6_leftmost
  simp (disch := omega) only [cLt_t, cLt_f, cEq_t, cEq_f, rdR_ok, rd_ok, wr_ok, put_eq, jn_eq, cl_some, Int.toNat_natCast]
  rw [(hT.2 x hx).2]
  congr 2
  omega
theorem l_parent {s : St} {a : Nat} {d : Doc} (hT : TreeAt s a d) (hF : Fst d) (x : Nat) (hx : x < d.n) : ∀ (n y : Nat), d.n < y + n → y ≤ d.n → X6_parent_4 a (x : Int) (fun s1 => some ((-9), s1)) n (y : Int) s = some (parG d x n y, s) := by
  have hn := hF.1
  intro n
  induction n with
  | zero => intro y h hy; omega
  | succ n ih =>
    intro y h hy
    rw [X6_parent_4, parG, hT.1]
    by_cases h1 : y < d.n
    · have hl := (hF.2.1 y h1).2
      simp (disch := omega) only [cLt_t, cLt_f, cEq_t, cEq_f, rdR_ok, rd_ok, wr_ok, put_eq, jn_eq, cl_some, Int.toNat_natCast, p_leftmost hT hn h1]
      rw [if_pos h1]
      by_cases h2 : d.l y ≤ x
      · rw [if_pos h2]
        simp (disch := omega) only [cLt_t, cLt_f, cEq_t, cEq_f, rdR_ok, rd_ok, wr_ok, put_eq, jn_eq, cl_some, Int.toNat_natCast]
      · rw [if_neg h2]
        simp (disch := omega) only [cLt_t, cLt_f, cEq_t, cEq_f, rdR_ok, rd_ok, wr_ok, put_eq, jn_eq, cl_some, Int.toNat_natCast]
        exact ih (y + 1) (by omega) (by omega)
    · rw [if_neg h1]
      simp (disch := omega) only [cLt_t, cLt_f, cEq_t, cEq_f, rdR_ok, rd_ok, wr_ok, put_eq, jn_eq, cl_some, Int.toNat_natCast]
theorem p_parent {s : St} {a : Nat} {d : Doc} (hT : TreeAt s a d) (hF : Fst d) {x : Nat} (hx : x < d.n) : X6_parent a (x : Int) s = some (par d x, s) := by
  have hn := hF.1
  have hU := FU_gt
  unfold X6_parent
  have := l_parent hT hF x hx FU (x + 1) (by omega) (by omega)
  rw [show ((x : Int) + 1) = ((x + 1 : Nat) : Int) by omega, this, par, parG_f d x FU 13 (x + 1) (by omega) (by omega)]
/-! the model's side: document k (0 or 1), at place 25 * k -/
theorem q_many {t : St} {k : Nat} {d : Doc} (hk : k < 2) (hD : DocAt (t 5) (25 * k) d) : X9_many (k : Int) t = some ((d.n : Int), t) := by
  unfold X9_many
  simp (disch := omega) only [cLt_t, cLt_f, cEq_t, cEq_f, rdR_ok, rd_ok, wr_ok, put_eq, jn_eq, cl_some, Int.toNat_natCast]
  rw [show (25 * (k : Int)).toNat = 25 * k by omega, hD.1]
theorem q_codeOf {t : St} {k : Nat} {d : Doc} (hk : k < 2) (hD : DocAt (t 5) (25 * k) d) (hn : d.n ≤ 12) {x : Nat} (hx : x < d.n) : X9_codeOf (k : Int) (x : Int) t = some (d.c x, t) := by
  unfold X9_codeOf
  simp (disch := omega) only [cLt_t, cLt_f, cEq_t, cEq_f, rdR_ok, rd_ok, wr_ok, put_eq, jn_eq, cl_some, Int.toNat_natCast]
  rw [show (25 * (k : Int) + 1 + (x : Int)).toNat = 25 * k + 1 + x by omega, (hD.2 x hx).1]
theorem q_leftOf {t : St} {k : Nat} {d : Doc} (hk : k < 2) (hD : DocAt (t 5) (25 * k) d) (hn : d.n ≤ 12) {x : Nat} (hx : x < d.n) : X9_leftOf (k : Int) (x : Int) t = some ((d.l x : Int), t) := by
  unfold X9_leftOf
  simp (disch := omega) only [cLt_t, cLt_f, cEq_t, cEq_f, rdR_ok, rd_ok, wr_ok, put_eq, jn_eq, cl_some, Int.toNat_natCast]
  rw [show (25 * (k : Int) + 13 + (x : Int)).toNat = 25 * k + 13 + x by omega, (hD.2 x hx).2]
theorem l_above {t : St} {k : Nat} {d : Doc} (hk : k < 2) (hD : DocAt (t 5) (25 * k) d) (hF : Fst d) (x : Nat) (hx : x < d.n) : ∀ (n y : Nat), d.n < y + n → y ≤ d.n → X9_above_4 (k : Int) (x : Int) (fun x1 s2 => cl (X9_many (k : Int) s2) (fun v3 s4 => cLt x1 v3 (some (x1, s4)) (some ((-9), s4)))) n (y : Int) t = some (parG d x n y, t) := by
  have hn := hF.1
  intro n
  induction n with
  | zero => intro y h hy; omega
  | succ n ih =>
    intro y h hy
    rw [X9_above_4, parG]
    simp (disch := omega) only [cLt_t, cLt_f, cEq_t, cEq_f, rdR_ok, rd_ok, wr_ok, put_eq, jn_eq, cl_some, Int.toNat_natCast, q_many hk hD]
    by_cases h1 : y < d.n
    · have hl := (hF.2.1 y h1).2
      simp (disch := omega) only [cLt_t, cLt_f, cEq_t, cEq_f, rdR_ok, rd_ok, wr_ok, put_eq, jn_eq, cl_some, Int.toNat_natCast, q_leftOf hk hD hn h1]
      rw [if_pos h1]
      by_cases h2 : d.l y ≤ x
      · rw [if_pos h2]
        simp (disch := omega) only [cLt_t, cLt_f, cEq_t, cEq_f, rdR_ok, rd_ok, wr_ok, put_eq, jn_eq, cl_some, Int.toNat_natCast, q_many hk hD]
      · rw [if_neg h2]
        simp (disch := omega) only [cLt_t, cLt_f, cEq_t, cEq_f, rdR_ok, rd_ok, wr_ok, put_eq, jn_eq, cl_some, Int.toNat_natCast]
        exact ih (y + 1) (by omega) (by omega)
    · rw [if_neg h1]
      simp (disch := omega) only [cLt_t, cLt_f, cEq_t, cEq_f, rdR_ok, rd_ok, wr_ok, put_eq, jn_eq, cl_some, Int.toNat_natCast, q_many hk hD]
theorem q_above {t : St} {k : Nat} {d : Doc} (hk : k < 2) (hD : DocAt (t 5) (25 * k) d) (hF : Fst d) {x : Nat} (hx : x < d.n) : X9_above (k : Int) (x : Int) t = some (par d x, t) := by
  have hn := hF.1
  have hU := FU_gt
  unfold X9_above
  have := l_above hk hD hF x hx FU (x + 1) (by omega) (by omega)
  rw [show ((x : Int) + 1) = ((x + 1 : Nat) : Int) by omega, this, par, parG_f d x FU 13 (x + 1) (by omega) (by omega)]
