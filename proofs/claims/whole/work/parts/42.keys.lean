/-! keys, sizes, heads beneath, alike, ancestors -/
/-- whether a node is a key: from the left (side 0), from the right (side 1) -/
def keyOf (d : Doc) (side : Int) (x : Nat) : Int := if par d x = -9 then 1 else if side = 0 then (if d.l (par d x).toNat = d.l x then 0 else 1) else (if par d x = (x : Int) + 1 then 0 else 1)
theorem keyOf_r (d : Doc) (side : Int) (x : Nat) : keyOf d side x = 0 ∨ keyOf d side x = 1 := by
  unfold keyOf
  repeat' split
  all_goals omega
theorem p_isKey {s : St} {a : Nat} {d : Doc} (hT : TreeAt s a d) (hF : Fst d) {x : Nat} (hx : x < d.n) {side : Int} (hs : side = 0 ∨ side = 1) : X6_isKey a (x : Int) side s = some (keyOf d side x, s) := by
  have hn := hF.1
  have hr := par_r d hn x
  unfold X6_isKey keyOf
  simp (disch := omega) only [cLt_t, cLt_f, cEq_t, cEq_f, rdR_ok, rd_ok, wr_ok, put_eq, jn_eq, cl_some, Int.toNat_natCast, p_parent hT hF hx]
  rcases par_spec d hn x with ⟨z, e, a1, a2, a3, a4⟩ | ⟨e, -⟩
  · have hlz := (hF.2.1 z a2).2
    have hlx := (hF.2.1 x hx).2
    rw [e, if_neg (by omega)]
    rcases hs with rfl | rfl
    · simp (disch := omega) only [cLt_t, cLt_f, cEq_t, cEq_f, rdR_ok, rd_ok, wr_ok, put_eq, jn_eq, cl_some, Int.toNat_natCast, p_leftmost hT hn a2, p_leftmost hT hn hx]
      rw [if_pos trivial]
      by_cases h : d.l z = d.l x
      · rw [if_pos h]
        simp (disch := omega) only [cLt_t, cLt_f, cEq_t, cEq_f, rdR_ok, rd_ok, wr_ok, put_eq, jn_eq, cl_some, Int.toNat_natCast]
      · rw [if_neg h]
        simp (disch := omega) only [cLt_t, cLt_f, cEq_t, cEq_f, rdR_ok, rd_ok, wr_ok, put_eq, jn_eq, cl_some, Int.toNat_natCast]
    · rw [if_neg (by decide)]
      by_cases h : (z : Int) = (x : Int) + 1
      · rw [if_pos h]
        simp (disch := omega) only [cLt_t, cLt_f, cEq_t, cEq_f, rdR_ok, rd_ok, wr_ok, put_eq, jn_eq, cl_some, Int.toNat_natCast]
      · rw [if_neg h]
        simp (disch := omega) only [cLt_t, cLt_f, cEq_t, cEq_f, rdR_ok, rd_ok, wr_ok, put_eq, jn_eq, cl_some, Int.toNat_natCast]
  · rw [e, if_pos rfl]
    simp (disch := omega) only [cLt_t, cLt_f, cEq_t, cEq_f, rdR_ok, rd_ok, wr_ok, put_eq, jn_eq, cl_some, Int.toNat_natCast]
theorem q_isKey {t : St} {k : Nat} {d : Doc} (hk : k < 2) (hD : DocAt (t 5) (25 * k) d) (hF : Fst d) {x : Nat} (hx : x < d.n) {side : Int} (hs : side = 0 ∨ side = 1) : X9_isKey (k : Int) (x : Int) side t = some (keyOf d side x, t) := by
  have hn := hF.1
  have hr := par_r d hn x
  unfold X9_isKey keyOf
  simp (disch := omega) only [cLt_t, cLt_f, cEq_t, cEq_f, rdR_ok, rd_ok, wr_ok, put_eq, jn_eq, cl_some, Int.toNat_natCast, q_above hk hD hF hx]
  rcases par_spec d hn x with ⟨z, e, a1, a2, a3, a4⟩ | ⟨e, -⟩
  · have hlz := (hF.2.1 z a2).2
    have hlx := (hF.2.1 x hx).2
    have hle := hF.2.2 z x a2 a1 a3
    rw [e, if_neg (by omega)]
    rcases hs with rfl | rfl
    · simp (disch := omega) only [cLt_t, cLt_f, cEq_t, cEq_f, rdR_ok, rd_ok, wr_ok, put_eq, jn_eq, cl_some, Int.toNat_natCast, q_leftOf hk hD hn a2, q_leftOf hk hD hn hx]
      rw [if_pos trivial]
      by_cases h : d.l z = d.l x
      · rw [if_pos h]
        simp (disch := omega) only [cLt_t, cLt_f, cEq_t, cEq_f, rdR_ok, rd_ok, wr_ok, put_eq, jn_eq, cl_some, Int.toNat_natCast]
      · rw [if_neg h]
        simp (disch := omega) only [cLt_t, cLt_f, cEq_t, cEq_f, rdR_ok, rd_ok, wr_ok, put_eq, jn_eq, cl_some, Int.toNat_natCast]
    · rw [if_neg (by decide)]
      by_cases h : (z : Int) = (x : Int) + 1
      · rw [if_pos h]
        simp (disch := omega) only [cLt_t, cLt_f, cEq_t, cEq_f, rdR_ok, rd_ok, wr_ok, put_eq, jn_eq, cl_some, Int.toNat_natCast]
      · rw [if_neg h]
        simp (disch := omega) only [cLt_t, cLt_f, cEq_t, cEq_f, rdR_ok, rd_ok, wr_ok, put_eq, jn_eq, cl_some, Int.toNat_natCast]
  · rw [e, if_pos rfl]
    simp (disch := omega) only [cLt_t, cLt_f, cEq_t, cEq_f, rdR_ok, rd_ok, wr_ok, put_eq, jn_eq, cl_some, Int.toNat_natCast]
def keysN (d : Doc) (side : Int) : Int := sm (keyOf d side) 0 d.n
def keyZ (d : Doc) (side : Int) : Int := sm (fun x => if keyOf d side x = 0 then 0 else (x : Int) - (d.l x : Int) + 1) 0 d.n
theorem l_keys {s : St} {a : Nat} {d : Doc} (hT : TreeAt s a d) (hF : Fst d) {side : Int} (hs : side = 0 ∨ side = 1) (k : Int → St → Rs) : ∀ (n m : Nat), m ≤ d.n → d.n < m + n → X6_keys_4 a side k n (sm (keyOf d side) 0 m) (m : Int) s = k (keysN d side) s := by
  have hn := hF.1
  intro n
  induction n with
  | zero => intro m h1 h2; omega
  | succ n ih =>
    intro m h1 h2
    rw [X6_keys_4, hT.1]
    by_cases h : m = d.n
    · subst h
      simp (disch := omega) only [cLt_t, cLt_f, cEq_t, cEq_f, rdR_ok, rd_ok, wr_ok, put_eq, jn_eq, cl_some, Int.toNat_natCast]
      rfl
    · have hp := p_isKey hT hF (x := m) (by omega) hs
      have h3 := ih (m + 1) (by omega) (by omega)
      rw [sm, Nat.zero_add, show ((m + 1 : Nat) : Int) = (m : Int) + 1 by omega] at h3
      rcases keyOf_r d side m with e | e
      · rw [e] at hp h3
        rw [Int.add_zero] at h3
        simp (disch := omega) only [cLt_t, cLt_f, cEq_t, cEq_f, rdR_ok, rd_ok, wr_ok, put_eq, jn_eq, cl_some, Int.toNat_natCast, hp]
        exact h3
      · rw [e] at hp h3
        simp (disch := omega) only [cLt_t, cLt_f, cEq_t, cEq_f, rdR_ok, rd_ok, wr_ok, put_eq, jn_eq, cl_some, Int.toNat_natCast, hp]
        exact h3
theorem p_keys {s : St} {a : Nat} {d : Doc} (hT : TreeAt s a d) (hF : Fst d) {side : Int} (hs : side = 0 ∨ side = 1) : X6_keys a side s = some (keysN d side, s) := by
  have hn := hF.1
  have hU := FU_gt
  exact l_keys hT hF hs (fun x1 s2 => some (x1, s2)) FU 0 (by omega) (by omega)
theorem l_qkeys {t : St} {k : Nat} {d : Doc} (hk : k < 2) (hD : DocAt (t 5) (25 * k) d) (hF : Fst d) {side : Int} (hs : side = 0 ∨ side = 1) (g : Int → St → Rs) : ∀ (n m : Nat), m ≤ d.n → d.n < m + n → X9_keys_5 (k : Int) side g n (sm (keyOf d side) 0 m) (m : Int) t = g (keysN d side) t := by
  have hn := hF.1
  intro n
  induction n with
  | zero => intro m h1 h2; omega
  | succ n ih =>
    intro m h1 h2
    rw [X9_keys_5]
    simp (disch := omega) only [cLt_t, cLt_f, cEq_t, cEq_f, rdR_ok, rd_ok, wr_ok, put_eq, jn_eq, cl_some, Int.toNat_natCast, q_many hk hD]
    by_cases h : m = d.n
    · subst h
      simp (disch := omega) only [cLt_t, cLt_f, cEq_t, cEq_f, rdR_ok, rd_ok, wr_ok, put_eq, jn_eq, cl_some, Int.toNat_natCast]
      rfl
    · have hp := q_isKey hk hD hF (x := m) (by omega) hs
      have h3 := ih (m + 1) (by omega) (by omega)
      rw [sm, Nat.zero_add, show ((m + 1 : Nat) : Int) = (m : Int) + 1 by omega] at h3
      rcases keyOf_r d side m with e | e
      · rw [e] at hp h3
        simp (disch := omega) only [cLt_t, cLt_f, cEq_t, cEq_f, rdR_ok, rd_ok, wr_ok, put_eq, jn_eq, cl_some, Int.toNat_natCast, hp]
        exact h3
      · rw [e] at hp h3
        simp (disch := omega) only [cLt_t, cLt_f, cEq_t, cEq_f, rdR_ok, rd_ok, wr_ok, put_eq, jn_eq, cl_some, Int.toNat_natCast, hp]
        exact h3
theorem q_keys {t : St} {k : Nat} {d : Doc} (hk : k < 2) (hD : DocAt (t 5) (25 * k) d) (hF : Fst d) {side : Int} (hs : side = 0 ∨ side = 1) : X9_keys (k : Int) side t = some (keysN d side, t) := by
  have hn := hF.1
  have hU := FU_gt
  exact l_qkeys hk hD hF hs (fun x1 s2 => some (x1, s2)) FU 0 (by omega) (by omega)
theorem l_keyZ {s : St} {a : Nat} {d : Doc} (hT : TreeAt s a d) (hF : Fst d) {side : Int} (hs : side = 0 ∨ side = 1) (k : Int → St → Rs) : ∀ (n m : Nat), m ≤ d.n → d.n < m + n → X6_keySizes_4 a side k n (sm (fun x => if keyOf d side x = 0 then 0 else (x : Int) - (d.l x : Int) + 1) 0 m) (m : Int) s = k (keyZ d side) s := by
  have hn := hF.1
  intro n
  induction n with
  | zero => intro m h1 h2; omega
  | succ n ih =>
    intro m h1 h2
    rw [X6_keySizes_4, hT.1]
    by_cases h : m = d.n
    · subst h
      simp (disch := omega) only [cLt_t, cLt_f, cEq_t, cEq_f, rdR_ok, rd_ok, wr_ok, put_eq, jn_eq, cl_some, Int.toNat_natCast]
      rfl
    · have hp := p_isKey hT hF (x := m) (by omega) hs
      have h3 := ih (m + 1) (by omega) (by omega)
      have hv := (hT.2 m (by omega)).2
      rw [sm, Nat.zero_add, show ((m + 1 : Nat) : Int) = (m : Int) + 1 by omega] at h3
      rcases keyOf_r d side m with e | e
      · rw [e] at hp
        rw [if_pos e, Int.add_zero] at h3
        simp (disch := omega) only [cLt_t, cLt_f, cEq_t, cEq_f, rdR_ok, rd_ok, wr_ok, put_eq, jn_eq, cl_some, Int.toNat_natCast, hp]
        exact h3
      · rw [e] at hp
        rw [if_neg (by omega)] at h3
        simp (disch := omega) only [cLt_t, cLt_f, cEq_t, cEq_f, rdR_ok, rd_ok, wr_ok, put_eq, jn_eq, cl_some, Int.toNat_natCast, hp]
        rw [hv]
        exact h3
theorem p_keyZ {s : St} {a : Nat} {d : Doc} (hT : TreeAt s a d) (hF : Fst d) {side : Int} (hs : side = 0 ∨ side = 1) : X6_keySizes a side s = some (keyZ d side, s) := by
  have hn := hF.1
  have hU := FU_gt
  exact l_keyZ hT hF hs (fun x1 s2 => some (x1, s2)) FU 0 (by omega) (by omega)
theorem l_qkeyZ {t : St} {k : Nat} {d : Doc} (hk : k < 2) (hD : DocAt (t 5) (25 * k) d) (hF : Fst d) {side : Int} (hs : side = 0 ∨ side = 1) (g : Int → St → Rs) : ∀ (n m : Nat), m ≤ d.n → d.n < m + n → X9_keySizes_5 (k : Int) side g n (sm (fun x => if keyOf d side x = 0 then 0 else (x : Int) - (d.l x : Int) + 1) 0 m) (m : Int) t = g (keyZ d side) t := by
  have hn := hF.1
  intro n
  induction n with
  | zero => intro m h1 h2; omega
  | succ n ih =>
    intro m h1 h2
    rw [X9_keySizes_5]
    simp (disch := omega) only [cLt_t, cLt_f, cEq_t, cEq_f, rdR_ok, rd_ok, wr_ok, put_eq, jn_eq, cl_some, Int.toNat_natCast, q_many hk hD]
    by_cases h : m = d.n
    · subst h
      simp (disch := omega) only [cLt_t, cLt_f, cEq_t, cEq_f, rdR_ok, rd_ok, wr_ok, put_eq, jn_eq, cl_some, Int.toNat_natCast]
      rfl
    · have hp := q_isKey hk hD hF (x := m) (by omega) hs
      have hv := q_leftOf hk hD hn (x := m) (by omega)
      have h3 := ih (m + 1) (by omega) (by omega)
      rw [sm, Nat.zero_add, show ((m + 1 : Nat) : Int) = (m : Int) + 1 by omega] at h3
      rcases keyOf_r d side m with e | e
      · rw [e] at hp
        rw [if_pos e] at h3
        simp (disch := omega) only [cLt_t, cLt_f, cEq_t, cEq_f, rdR_ok, rd_ok, wr_ok, put_eq, jn_eq, cl_some, Int.toNat_natCast, hp]
        exact h3
      · rw [e] at hp
        rw [if_neg (by omega)] at h3
        simp (disch := omega) only [cLt_t, cLt_f, cEq_t, cEq_f, rdR_ok, rd_ok, wr_ok, put_eq, jn_eq, cl_some, Int.toNat_natCast, hp, hv]
        exact h3
theorem q_keyZ {t : St} {k : Nat} {d : Doc} (hk : k < 2) (hD : DocAt (t 5) (25 * k) d) (hF : Fst d) {side : Int} (hs : side = 0 ∨ side = 1) : X9_keySizes (k : Int) side t = some (keyZ d side, t) := by
  have hn := hF.1
  have hU := FU_gt
  exact l_qkeyZ hk hD hF hs (fun x1 s2 => some (x1, s2)) FU 0 (by omega) (by omega)
