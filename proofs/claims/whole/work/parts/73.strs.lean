/-! documents as texts: those nodes of a forest that are there (P), in their order -/
def bI (P : Nat → Bool) (y : Nat) : Int := if P y = true then 1 else 0
def strF (d : Doc) (P : Nat → Bool) : Nat → Nat → Nat → List Int
  | 0, _, _ => []
  | _ + 1, _, 0 => []
  | f + 1, a, i + 1 => if a ≤ i then (if P i = true then strF d P f a (min (d.l i) i) ++ (d.c i :: (if sm (bI P) (d.l i) (i - d.l i) = 0 then [] else 40 :: (strF d P f (d.l i) i ++ [41]))) else strF d P f a i) else []
theorem strF_f (d : Doc) (P : Nat → Bool) : ∀ (f g a i : Nat), i < f → i < g → strF d P f a i = strF d P g a i := by
  intro f
  induction f with
  | zero => intro g a i h; omega
  | succ f ih =>
    intro g a i h1 h2
    cases g with
    | zero => omega
    | succ g =>
      cases i with
      | zero => rfl
      | succ i =>
        rw [strF, strF, ih g a (min (d.l i) i) (by omega) (by omega), ih g (d.l i) i (by omega) (by omega), ih g a i (by omega) (by omega)]
def str (d : Doc) (P : Nat → Bool) (a i : Nat) : List Int := strF d P (i + 1) a i
section STR
variable {d : Doc} {P : Nat → Bool}
theorem str_s {a i : Nat} : str d P a (i + 1) = if a ≤ i then (if P i = true then str d P a (min (d.l i) i) ++ (d.c i :: (if sm (bI P) (d.l i) (i - d.l i) = 0 then [] else 40 :: (str d P (d.l i) i ++ [41]))) else str d P a i) else [] := by
  unfold str
  rw [strF, strF_f d P (i + 1) (min (d.l i) i + 1) a (min (d.l i) i) (by omega) (by omega)]
theorem str_e {a i : Nat} (h : i ≤ a) : str d P a i = [] := by
  cases i with
  | zero => rfl
  | succ i => rw [str_s, if_neg (by omega)]
theorem str_p {a i : Nat} (h : a ≤ i) (hp : P i = true) (hl : d.l i ≤ i) : str d P a (i + 1) = str d P a (d.l i) ++ (d.c i :: (if sm (bI P) (d.l i) (i - d.l i) = 0 then [] else 40 :: (str d P (d.l i) i ++ [41]))) := by
  rw [str_s, if_pos h, if_pos hp, show min (d.l i) i = d.l i by omega]
theorem str_n {a i : Nat} (hp : P i = false) : str d P a (i + 1) = str d P a i := by
  by_cases h : a ≤ i
  · rw [str_s, if_pos h, if_neg (by rw [hp]; decide)]
  · rw [str_e (by omega), str_e (by omega)]
theorem str_none : ∀ (i a : Nat), (∀ y, a ≤ y → y < i → P y = false) → str d P a i = [] := by
  intro i
  induction i with
  | zero => intro a _; rfl
  | succ i ih =>
    intro a h
    by_cases q : a ≤ i
    · rw [str_n (h i q (by omega))]
      exact ih a (fun y a1 a2 => h y a1 (by omega))
    · exact str_e (by omega)
theorem str_split : ∀ (n i a q : Nat), i ≤ n → a ≤ q → q ≤ i → (∀ y, q ≤ y → y < i → P y = true → q ≤ d.l y ∧ d.l y ≤ y) → str d P a i = str d P a q ++ str d P q i := by
  intro n
  induction n with
  | zero =>
    intro i a q h1 h2 h3 _
    have : i = q := by omega
    subst this
    rw [str_e (Nat.le_refl i), List.append_nil]
  | succ n ih =>
    intro i a q h1 h2 h3 h
    by_cases e : i = q
    · subst e
      rw [str_e (Nat.le_refl i), List.append_nil]
    · obtain ⟨i, rfl⟩ : ∃ w, i = w + 1 := ⟨i - 1, by omega⟩
      by_cases p : P i = true
      · have hl := h i (by omega) (by omega) p
        rw [str_p (by omega) p hl.2, str_p (by omega) p hl.2, ih (d.l i) a q (by omega) h2 hl.1 (fun y a1 a2 a3 => h y a1 (by omega) a3), List.append_assoc]
      · have p' : P i = false := by
          cases hb : P i
          · rfl
          · exact absurd hb p
        rw [str_n p', str_n p']
        exact ih i a q (by omega) h2 (by omega) (fun y a1 a2 a3 => h y a1 (by omega) a3)
theorem str_len (hF : Fst d) : ∀ (n i a : Nat), i ≤ n → i ≤ d.n → (∀ y, a ≤ y → y < i → P y = true → a ≤ d.l y) → (str d P a i).length ≤ 3 * (i - a) := by
  intro n
  induction n with
  | zero =>
    intro i a h1 h2 _
    rw [str_e (by omega)]
    exact Nat.zero_le _
  | succ n ih =>
    intro i a h1 h2 h
    by_cases e : i ≤ a
    · rw [str_e e]
      exact Nat.zero_le _
    · obtain ⟨i, rfl⟩ : ∃ w, i = w + 1 := ⟨i - 1, by omega⟩
      by_cases p : P i = true
      · have hl := (hF.2.1 i (by omega)).2
        have ha := h i (by omega) (by omega) p
        have l1 := ih (d.l i) a (by omega) (by omega) (fun y a1 a2 a3 => h y a1 (by omega) a3)
        have l2 := ih i (d.l i) (by omega) (by omega) (fun y a1 a2 a3 => hF.2.2 i y (by omega) a2 a1)
        rw [str_p (by omega) p hl, List.length_append]
        split
        · simp only [List.length_cons, List.length_nil]
          omega
        · simp only [List.length_cons, List.length_append, List.length_nil]
          omega
      · have p' : P i = false := by
          cases hb : P i
          · rfl
          · exact absurd hb p
        have := ih i a (by omega) (by omega) (fun y a1 a2 a3 => h y a1 (by omega) a3)
        rw [str_n p']
        omega
/-- only what is there counts -/
theorem str_congr {d' : Doc} {Q : Nat → Bool} : ∀ (n i a : Nat), i ≤ n → (∀ y, y < i → P y = Q y ∧ d.l y = d'.l y ∧ d.l y ≤ y ∧ (P y = true → d.c y = d'.c y)) → str d P a i = str d' Q a i := by
  intro n
  induction n with
  | zero =>
    intro i a h1 _
    rw [str_e (by omega), str_e (by omega)]
  | succ n ih =>
    intro i a h1 h
    by_cases e : i ≤ a
    · rw [str_e e, str_e e]
    · obtain ⟨i, rfl⟩ : ∃ w, i = w + 1 := ⟨i - 1, by omega⟩
      obtain ⟨e1, e2, e3, e4⟩ := h i (by omega)
      by_cases p : P i = true
      · have q : Q i = true := by rw [← e1]; exact p
        rw [str_p (by omega) p e3, str_p (by omega) q (by omega), e4 p, ← e2, ih (d.l i) a (by omega) (fun y hy => h y (by omega)), ih i (d.l i) (by omega) (fun y hy => h y (by omega)), sm_congr (f := bI P) (g := bI Q) (d.l i) (i - d.l i) (fun y a1 a2 => by unfold bI; rw [(h y (by omega)).1])]
      · have p' : P i = false := by
          cases hb : P i
          · rfl
          · exact absurd hb p
        have q' : Q i = false := by rw [← e1]; exact p'
        rw [str_n p', str_n q']
        exact ih i a (by omega) (fun y hy => h y (by omega))
end STR
/-! a node that isn't there may be cut -/
def rk (x a : Nat) : Nat := if a ≤ x then a else a - 1
theorem rk_1 {x a : Nat} (h : a ≤ x) : rk x a = a := if_pos h
theorem rk_2 {x a : Nat} (h : x < a) : rk x a = a - 1 := if_neg (by omega)
def Pm (P : Nat → Bool) (x : Nat) : Nat → Bool := fun y => P (if y < x then y else y + 1)
theorem Pm_1 {P : Nat → Bool} {x y : Nat} (h : y < x) : Pm P x y = P y := by
  unfold Pm
  rw [if_pos h]
theorem Pm_2 {P : Nat → Bool} {x y : Nat} (h : x ≤ y) : Pm P x y = P (y + 1) := by
  unfold Pm
  rw [if_neg (by omega)]
theorem sm_rk {P : Nat → Bool} {x : Nat} (hx : P x = false) : ∀ (n a : Nat), sm (bI (Pm P x)) (rk x a) (rk x (a + n) - rk x a) = sm (bI P) a n := by
  intro n
  induction n with
  | zero =>
    intro a
    rw [Nat.add_zero, Nat.sub_self, sm, sm]
  | succ n ih =>
    intro a
    have ih' := ih a
    rw [sm, ← ih']
    by_cases e : a + n = x
    · rw [rk_2 (a := a + (n + 1)) (by omega), rk_1 (a := a + n) (by omega), show a + (n + 1) - 1 = a + n by omega, e]
      unfold bI
      rw [if_neg (by rw [hx]; decide), Int.add_zero]
    · by_cases q : a + n < x
      · rw [rk_1 (a := a + (n + 1)) (by omega), rk_1 (a := a + n) (by omega), rk_1 (a := a) (by omega), show a + (n + 1) - a = n + 1 by omega, show a + n - a = n by omega, sm]
        unfold bI
        rw [Pm_1 q]
      · by_cases r : a ≤ x
        · rw [rk_2 (a := a + (n + 1)) (by omega), rk_2 (a := a + n) (by omega), rk_1 r, show a + (n + 1) - 1 - a = (a + n - 1 - a) + 1 by omega, sm, show a + (a + n - 1 - a) = a + n - 1 by omega]
          unfold bI
          rw [Pm_2 (y := a + n - 1) (by omega), show a + n - 1 + 1 = a + n by omega]
        · rw [rk_2 (a := a + (n + 1)) (by omega), rk_2 (a := a + n) (by omega), rk_2 (a := a) (by omega), show a + (n + 1) - 1 - (a - 1) = (a + n - 1 - (a - 1)) + 1 by omega, sm, show a - 1 + (a + n - 1 - (a - 1)) = a + n - 1 by omega]
          unfold bI
          rw [Pm_2 (y := a + n - 1) (by omega), show a + n - 1 + 1 = a + n by omega]
theorem str_rem {d : Doc} (hF : Fst d) {P : Nat → Bool} {x : Nat} (hx : P x = false) : ∀ (n i a : Nat), i ≤ n → i ≤ d.n → str (d.rem x) (Pm P x) (rk x a) (rk x i) = str d P a i := by
  intro n
  induction n with
  | zero =>
    intro i a h1 h2
    have : i = 0 := by omega
    subst this
    rw [rk_1 (a := 0) (by omega)]
    rfl
  | succ n ih =>
    intro i a h1 h2
    by_cases e0 : i = 0
    · subst e0
      rw [rk_1 (a := 0) (by omega)]
      rfl
    · obtain ⟨i, rfl⟩ : ∃ w, i = w + 1 := ⟨i - 1, by omega⟩
      have hl := (hF.2.1 i (by omega)).2
      by_cases ea : i + 1 ≤ a
      · rw [str_e ea, str_e (by unfold rk; split <;> split <;> omega)]
      · by_cases e : i = x
        · subst e
          rw [str_n hx, rk_2 (a := i + 1) (by omega), Nat.add_sub_cancel, ← ih i a (by omega) (by omega), rk_1 (a := i) (by omega)]
        · by_cases p : P i = true
          · rw [str_p (by omega) p hl]
            have i1 := ih (d.l i) a (by omega) (by omega)
            have i2 := ih i (d.l i) (by omega) (by omega)
            have s1 := sm_rk hx (i - d.l i) (d.l i)
            rw [show d.l i + (i - d.l i) = i by omega] at s1
            by_cases q : i < x
            · rw [rk_1 (a := i + 1) (by omega), rk_1 (a := a) (by omega), str_p (d := d.rem x) (by omega) (by rw [Pm_1 q]; exact p) (by rw [rem_l1 q hl]; exact hl), rem_l1 q hl, rem_c1 q]
              rw [rk_1 (a := a) (by omega), rk_1 (a := d.l i) (by omega)] at i1
              rw [rk_1 (a := d.l i) (by omega), rk_1 (a := i) (by omega)] at i2 s1
              rw [i1, i2, s1]
            · obtain ⟨j, rfl⟩ : ∃ w, i = w + 1 := ⟨i - 1, by omega⟩
              have lj : (d.rem x).l j = rk x (d.l (j + 1)) := by
                rw [rem_l2 (by omega)]
                rfl
              have rj : rk x (d.l (j + 1)) ≤ j := by
                unfold rk
                split <;> omega
              have ra : rk x a ≤ j := by
                unfold rk
                split <;> omega
              rw [rk_2 (a := j + 1 + 1) (by omega), Nat.add_sub_cancel, str_p (d := d.rem x) ra (by rw [Pm_2 (by omega)]; exact p) (by rw [lj]; exact rj), lj, rem_c2 (by omega)]
              rw [rk_2 (a := j + 1) (by omega), Nat.add_sub_cancel] at i2 s1
              rw [i1, i2, s1]
          · have p' : P i = false := by
              cases hb : P i
              · rfl
              · exact absurd hb p
            rw [str_n p', ← ih i a (by omega) (by omega)]
            by_cases q : i < x
            · rw [rk_1 (a := i + 1) (by omega), rk_1 (a := i) (by omega), str_n (d := d.rem x) (by rw [Pm_1 q]; exact p')]
            · obtain ⟨j, rfl⟩ : ∃ w, i = w + 1 := ⟨i - 1, by omega⟩
              rw [rk_2 (a := j + 1 + 1) (by omega), rk_2 (a := j + 1) (by omega), Nat.add_sub_cancel, Nat.add_sub_cancel, str_n (d := d.rem x) (by rw [Pm_2 (by omega)]; exact p')]
/-! the class's order: what opens at a leaf, what closes -/
def opn (d : Doc) (lo j : Nat) : Nat → List Int
  | 0 => []
  | h + 1 => if j ≤ h then (if d.l h = lo then [d.c h, 40] else []) ++ opn d lo j h else []
theorem opn_nil {d : Doc} {lo j : Nat} : ∀ h, (∀ y, j ≤ y → y < h → d.l y ≠ lo) → opn d lo j h = []
  | 0, _ => rfl
  | h + 1, e => by
    rw [opn]
    by_cases q : j ≤ h
    · rw [if_pos q, if_neg (e h q (by omega)), opn_nil h (fun y a b => e y a (by omega))]
      rfl
    · rw [if_neg q]
theorem opn_low {d : Doc} {lo j : Nat} : ∀ h, opn d lo j h = opn d lo (j + 1) h ++ (if j < h ∧ d.l j = lo then [d.c j, 40] else [])
  | 0 => by rw [opn, opn, if_neg (by omega)]; rfl
  | h + 1 => by
    rw [opn, opn, opn_low h]
    by_cases q : j + 1 ≤ h
    · rw [if_pos (c := j ≤ h) (by omega), if_pos (c := j + 1 ≤ h) q]
      by_cases r : d.l j = lo
      · rw [if_pos (c := j < h ∧ d.l j = lo) ⟨by omega, r⟩, if_pos (c := j < h + 1 ∧ d.l j = lo) ⟨by omega, r⟩, List.append_assoc]
      · rw [if_neg (c := j < h ∧ d.l j = lo) (fun z => r z.2), if_neg (c := j < h + 1 ∧ d.l j = lo) (fun z => r z.2), List.append_nil, List.append_nil]
    · by_cases q2 : j = h
      · subst q2
        have e1 : opn d lo (j + 1) j = [] := opn_nil j (fun y a b => by omega)
        rw [e1, if_pos (c := j ≤ j) (Nat.le_refl _), if_neg (c := j + 1 ≤ j) (by omega), if_neg (c := j < j ∧ d.l j = lo) (by omega)]
        by_cases r : d.l j = lo
        · rw [if_pos (c := d.l j = lo) r, if_pos (c := j < j + 1 ∧ d.l j = lo) ⟨by omega, r⟩]
          rfl
        · rw [if_neg (c := d.l j = lo) r, if_neg (c := j < j + 1 ∧ d.l j = lo) (fun z => r z.2)]
          rfl
      · rw [if_neg (c := j ≤ h) (by omega), if_neg (c := j + 1 ≤ h) (by omega), if_neg (c := j < h + 1 ∧ d.l j = lo) (by omega)]
        rfl
def clsO (d : Doc) : Nat → List Int
  | 0 => []
  | x + 1 => clsO d x ++ (if d.l x < x then [41] else opn d x (x + 1) d.n ++ [d.c x])
theorem bI_full {lo n : Nat} : sm (bI (fun _ => true)) lo n = n := by
  induction n with
  | zero => rfl
  | succ n ih =>
    rw [sm, ih]
    unfold bI
    rw [if_pos rfl]
    rfl
theorem cls_main {d : Doc} (hF : Fst d) : ∀ (n l i : Nat), i - l ≤ n → l < i → i ≤ d.n → (∀ y, l ≤ y → y < i → l ≤ d.l y) → (∀ y, i ≤ y → y < d.n → d.l y ≤ l ∨ i ≤ d.l y) → clsO d i = clsO d l ++ (opn d l i d.n ++ str d (fun _ => true) l i) := by
  intro n
  induction n with
  | zero => intro l i h1 h2; omega
  | succ n ih =>
    intro l i h1 h2 h3 h4 h5
    obtain ⟨i, rfl⟩ : ∃ w, i = w + 1 := ⟨i - 1, by omega⟩
    have li := hF.2.1 i (by omega)
    have ll := h4 i (by omega) (by omega)
    rw [clsO, str_p (by omega) rfl li.2, bI_full]
    by_cases q : d.l i < i
    · rw [if_pos q, if_neg (by omega)]
      have c2 := ih (d.l i) i (by omega) q (by omega) (fun y a b => hF.2.2 i y (by omega) b a) (fun y a b => by
        by_cases e : y = i
        · subst e; omega
        · have := h5 y (by omega) b
          omega)
      have o1 := opn_low (d := d) (lo := d.l i) (j := i) d.n
      rw [if_pos ⟨by omega, rfl⟩] at o1
      rw [c2, o1]
      by_cases e : l = d.l i
      · subst e
        rw [str_e (Nat.le_refl _)]
        simp only [List.append_assoc, List.cons_append, List.nil_append]
      · have c1 := ih l (d.l i) (by omega) (by omega) (by omega) (fun y a b => h4 y a (by omega)) (fun y a b => by
          by_cases e2 : y ≤ i
          · by_cases e3 : y = i
            · subst e3; omega
            · have := hF.2.2 i y (by omega) (by omega) a
              omega
          · have := h5 y (by omega) b
            omega)
        have n1 : opn d (d.l i) (i + 1) d.n = [] := opn_nil _ (fun y a b => by
          have := h5 y a b
          omega)
        have n2 : ∀ m, d.l i + m ≤ i + 1 → opn d l (d.l i) d.n = opn d l (d.l i + m) d.n := by
          intro m
          induction m with
          | zero => intro _; rfl
          | succ m ihm =>
            intro hm
            rw [ihm (by omega), opn_low (j := d.l i + m), if_neg, List.append_nil]
            · rfl
            · intro z
              by_cases e3 : d.l i + m = i
              · rw [e3] at z; omega
              · have := hF.2.2 i (d.l i + m) (by omega) (by omega) (by omega)
                omega
        have n3 := n2 (i + 1 - d.l i) (by omega)
        rw [show d.l i + (i + 1 - d.l i) = i + 1 by omega] at n3
        rw [c1, n1, n3]
        simp only [List.append_assoc, List.cons_append, List.nil_append]
    · have e : d.l i = i := by omega
      rw [if_neg q, e, Nat.sub_self, if_pos (show ((0 : Nat) : Int) = 0 from rfl)]
      by_cases e2 : l = i
      · subst e2
        rw [str_e (Nat.le_refl _)]
        rfl
      · have c1 := ih l i (by omega) (by omega) (by omega) (fun y a b => h4 y a (by omega)) (fun y a b => by
          by_cases e3 : y = i
          · subst e3; omega
          · have := h5 y (by omega) b
            omega)
        have n1 : opn d i (i + 1) d.n = [] := opn_nil _ (fun y a b => by
          have := h5 y a b
          omega)
        have o1 := opn_low (d := d) (lo := l) (j := i) d.n
        rw [if_neg (by omega), List.append_nil] at o1
        rw [c1, n1, o1]
        simp only [List.append_assoc, List.nil_append]
theorem cls_str {d : Doc} (hF : Fst d) : clsO d d.n = str d (fun _ => true) 0 d.n := by
  by_cases h : d.n = 0
  · rw [h]
    rfl
  · have := cls_main hF d.n 0 d.n (by omega) (by omega) (Nat.le_refl _) (fun y _ _ => by omega) (fun y a b => by omega)
    rw [this, opn_nil d.n (fun y a b => by omega)]
    rfl
