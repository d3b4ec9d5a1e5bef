/-! kinds, weights; counts over nodes -/
def kdOf (c : Int) : Int := if c ≤ 57 then 2 else if c ≤ 82 then (if c ≤ 73 then 1 else 3) else (if c ≤ 105 then 0 else 4)
def wgt (c : Int) : Int := if kdOf c = 3 then 3 else if kdOf c = 1 then 2 else 1
def isOf (k o : Int) : Int := if k = o ∨ (k = 3 ∧ o = 1) ∨ (k = 4 ∧ o = 2) then 1 else 0
theorem kdOf_r (c : Int) : 0 ≤ kdOf c ∧ kdOf c ≤ 4 := by
  unfold kdOf
  repeat' split
  all_goals omega
theorem wgt_r (c : Int) : 1 ≤ wgt c ∧ wgt c ≤ 3 := by
  unfold wgt
  repeat' split
  all_goals omega
theorem p_kindOf {c : Int} (h : inR c) (s : St) : X8_kindOf c s = some (if lab c then kdOf c else -1, s) := by
  unfold X8_kindOf kdOf
  simp only [jn_eq]
  simp (disch := omega) only [cLt_if]
  repeat' split
  all_goals first | rfl | omega
theorem q_kindOf {c : Int} (h : lab c) (s : St) : X9_kindOf c s = some (kdOf c, s) := by
  unfold X9_kindOf kdOf
  simp (disch := omega) only [cLt_if]
  repeat' split
  all_goals first | rfl | omega
theorem p_kindL {c : Int} (h : lab c) (s : St) : X8_kindOf c s = some (kdOf c, s) := by
  rw [p_kindOf ⟨by omega, by omega⟩, if_pos h]
theorem p_weightOf {c : Int} (h : lab c) (s : St) : X8_weightOf c s = some (wgt c, s) := by
  have := kdOf_r c
  unfold X8_weightOf wgt
  simp (disch := omega) only [cLt_t, cLt_f, cEq_t, cEq_f, rdR_ok, rd_ok, wr_ok, put_eq, jn_eq, cl_some, Int.toNat_natCast, p_kindL h]
  simp (disch := omega) only [cEq_if]
  repeat' split
  all_goals rfl
theorem q_weight {c : Int} (h : lab c) (s : St) : X9_weight c s = some (wgt c, s) := by
  have := kdOf_r c
  unfold X9_weight wgt
  simp (disch := omega) only [cLt_t, cLt_f, cEq_t, cEq_f, rdR_ok, rd_ok, wr_ok, put_eq, jn_eq, cl_some, Int.toNat_natCast, q_kindOf h]
  simp (disch := omega) only [cEq_if]
  repeat' split
  all_goals rfl
theorem p_isOf {k o : Int} (h1 : 0 ≤ k) (h2 : k ≤ 4) (h3 : 0 ≤ o) (h4 : o ≤ 4) (s : St) : X8_isOf k o s = some (isOf k o, s) := by
  unfold X8_isOf isOf
  simp only [jn_eq]
  simp (disch := omega) only [cEq_if]
  repeat' split
  all_goals first | rfl | omega
theorem q_isA {k o : Int} (h1 : 0 ≤ k) (h2 : k ≤ 4) (h3 : 0 ≤ o) (h4 : o ≤ 4) (s : St) : X9_isA k o s = some (isOf k o, s) := by
  unfold X9_isA isOf
  simp only [jn_eq]
  simp (disch := omega) only [cEq_if]
  repeat' split
  all_goals first | rfl | omega
theorem q_isMark {c : Int} (h : inR c) (s : St) : X9_isMark c s = some (if lab c then 1 else 0, s) := by
  unfold X9_isMark
  have e1 := fun s => q_in c 97 114 h ⟨by decide, by decide⟩ ⟨by decide, by decide⟩ s
  have e2 := fun s => q_in c 65 82 h ⟨by decide, by decide⟩ ⟨by decide, by decide⟩ s
  have e3 := fun s => q_in c 48 57 h ⟨by decide, by decide⟩ ⟨by decide, by decide⟩ s
  by_cases h1 : 97 ≤ c ∧ c ≤ 114
  · simp only [if_pos h1] at e1
    simp (disch := omega) only [cLt_t, cLt_f, cEq_t, cEq_f, rdR_ok, rd_ok, wr_ok, put_eq, jn_eq, cl_some, Int.toNat_natCast, e1]
    rw [if_pos (Or.inl h1)]
  · simp only [if_neg h1] at e1
    by_cases h2 : 65 ≤ c ∧ c ≤ 82
    · simp only [if_pos h2] at e2
      simp (disch := omega) only [cLt_t, cLt_f, cEq_t, cEq_f, rdR_ok, rd_ok, wr_ok, put_eq, jn_eq, cl_some, Int.toNat_natCast, e1, e2]
      rw [if_pos (Or.inr (Or.inl h2))]
    · simp only [if_neg h2] at e2
      by_cases h3 : 48 ≤ c ∧ c ≤ 57
      · simp only [if_pos h3] at e3
        simp (disch := omega) only [cLt_t, cLt_f, cEq_t, cEq_f, rdR_ok, rd_ok, wr_ok, put_eq, jn_eq, cl_some, Int.toNat_natCast, e1, e2, e3]
        rw [if_pos (Or.inr (Or.inr h3))]
      · simp only [if_neg h3] at e3
        simp (disch := omega) only [cLt_t, cLt_f, cEq_t, cEq_f, rdR_ok, rd_ok, wr_ok, put_eq, jn_eq, cl_some, Int.toNat_natCast, e1, e2, e3]
        rw [if_neg (by omega)]
/-- a sum over n places from lo on -/
def sm (f : Nat → Int) (lo : Nat) : Nat → Int
  | 0 => 0
  | n + 1 => sm f lo n + f (lo + n)
theorem sm_congr {f g : Nat → Int} (lo : Nat) : ∀ n, (∀ i, lo ≤ i → i < lo + n → f i = g i) → sm f lo n = sm g lo n
  | 0, _ => rfl
  | n + 1, h => by rw [sm, sm, sm_congr lo n (fun i a b => h i a (by omega)), h (lo + n) (by omega) (by omega)]
theorem sm_01 {f : Nat → Int} (lo : Nat) (h : ∀ i, 0 ≤ f i ∧ f i ≤ 1) : ∀ n : Nat, 0 ≤ sm f lo n ∧ sm f lo n ≤ n
  | 0 => by simp [sm]
  | n + 1 => by
    have h1 := sm_01 lo h n
    have h2 := h (lo + n)
    rw [sm]
    omega
/-- how many children a node has -/
def chn (d : Doc) (x : Nat) : Int := sm (fun c => if par d c = x then 1 else 0) (d.l x) (x - d.l x)
theorem chn_r (d : Doc) (x : Nat) : 0 ≤ chn d x ∧ chn d x ≤ x := by
  have := sm_01 (f := fun c => if par d c = x then 1 else 0) (d.l x) (fun i => by split <;> omega) (x - d.l x)
  unfold chn
  omega
theorem l_children {s : St} {a : Nat} {d : Doc} (hT : TreeAt s a d) (hF : Fst d) (x : Nat) (hx : x < d.n) (k : Int → St → Rs) : ∀ (n m : Nat), d.l x + m ≤ x → x < d.l x + m + n → X6_children_8 a (x : Int) k n (sm (fun c => if par d c = x then 1 else 0) (d.l x) m) ((d.l x + m : Nat) : Int) s = k (chn d x) s := by
  have hn := hF.1
  intro n
  induction n with
  | zero => intro m h1 h2; omega
  | succ n ih =>
    intro m h1 h2
    rw [X6_children_8]
    by_cases h : d.l x + m = x
    · simp (disch := omega) only [cLt_t, cLt_f, cEq_t, cEq_f, rdR_ok, rd_ok, wr_ok, put_eq, jn_eq, cl_some, Int.toNat_natCast]
      unfold chn
      rw [show x - d.l x = m by omega]
    · have hp := p_parent hT hF (x := d.l x + m) (by omega)
      have hr := par_r d hn (d.l x + m)
      have h3 := ih (m + 1) (by omega) (by omega)
      rw [sm, show ((d.l x + (m + 1) : Nat) : Int) = ((d.l x + m : Nat) : Int) + 1 by omega] at h3
      by_cases e : par d (d.l x + m) = x
      · rw [if_pos e] at h3
        simp (disch := omega) only [cLt_t, cLt_f, cEq_t, cEq_f, rdR_ok, rd_ok, wr_ok, put_eq, jn_eq, cl_some, Int.toNat_natCast, hp]
        exact h3
      · rw [if_neg e, Int.add_zero] at h3
        simp (disch := omega) only [cLt_t, cLt_f, cEq_t, cEq_f, rdR_ok, rd_ok, wr_ok, put_eq, jn_eq, cl_some, Int.toNat_natCast, hp]
        exact h3
theorem p_children {s : St} {a : Nat} {d : Doc} (hT : TreeAt s a d) (hF : Fst d) {x : Nat} (hx : x < d.n) : X6_children a (x : Int) s = some (chn d x, s) := by
  have hn := hF.1
  have hU := FU_gt
  have hl := (hF.2.1 x hx).2
  unfold X6_children
  have := l_children hT hF x hx (fun x3 s4 => some (x3, s4)) FU 0 (by omega) (by omega)
  rw [sm] at this
  simp (disch := omega) only [cLt_t, cLt_f, cEq_t, cEq_f, rdR_ok, rd_ok, wr_ok, put_eq, jn_eq, cl_some, Int.toNat_natCast, p_leftmost hT hn hx]
  exact this
theorem l_rightB {t : St} {k : Nat} {d : Doc} (hk : k < 2) (hD : DocAt (t 5) (25 * k) d) (hF : Fst d) (x : Nat) (hx : x < d.n) (g : Int → St → Rs) : ∀ (n m : Nat), d.l x + m ≤ x → x < d.l x + m + n → X9_rightBeneath_10 (k : Int) (x : Int) g n (sm (fun c => if par d c = x then 1 else 0) (d.l x) m) ((d.l x + m : Nat) : Int) t = g (chn d x) t := by
  have hn := hF.1
  intro n
  induction n with
  | zero => intro m h1 h2; omega
  | succ n ih =>
    intro m h1 h2
    rw [X9_rightBeneath_10]
    by_cases h : d.l x + m = x
    · simp (disch := omega) only [cLt_t, cLt_f, cEq_t, cEq_f, rdR_ok, rd_ok, wr_ok, put_eq, jn_eq, cl_some, Int.toNat_natCast]
      unfold chn
      rw [show x - d.l x = m by omega]
    · have hp := q_above hk hD hF (x := d.l x + m) (by omega)
      have hr := par_r d hn (d.l x + m)
      have h3 := ih (m + 1) (by omega) (by omega)
      rw [sm, show ((d.l x + (m + 1) : Nat) : Int) = ((d.l x + m : Nat) : Int) + 1 by omega] at h3
      by_cases e : par d (d.l x + m) = x
      · rw [if_pos e] at h3
        simp (disch := omega) only [cLt_t, cLt_f, cEq_t, cEq_f, rdR_ok, rd_ok, wr_ok, put_eq, jn_eq, cl_some, Int.toNat_natCast, hp]
        exact h3
      · rw [if_neg e] at h3
        simp (disch := omega) only [cLt_t, cLt_f, cEq_t, cEq_f, rdR_ok, rd_ok, wr_ok, put_eq, jn_eq, cl_some, Int.toNat_natCast, hp]
        exact h3
theorem q_rightB {t : St} {k : Nat} {d : Doc} (hk : k < 2) (hD : DocAt (t 5) (25 * k) d) (hF : Fst d) {x : Nat} (hx : x < d.n) : X9_rightBeneath (k : Int) (x : Int) t = some (chn d x, t) := by
  have hn := hF.1
  have hU := FU_gt
  have hl := (hF.2.1 x hx).2
  unfold X9_rightBeneath
  have := l_rightB hk hD hF x hx (fun x3 s4 => some (x3, s4)) FU 0 (by omega) (by omega)
  rw [sm] at this
  simp (disch := omega) only [cLt_t, cLt_f, cEq_t, cEq_f, rdR_ok, rd_ok, wr_ok, put_eq, jn_eq, cl_some, Int.toNat_natCast, q_leftOf hk hD hn hx]
  exact this
