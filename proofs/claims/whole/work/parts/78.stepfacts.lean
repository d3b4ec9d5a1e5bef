/-! facts of the steps; partners keep the form -/
theorem atS_r {L M : List Sstp} {k : Nat} : atS (L ++ M) (L.length + k) = atS M k := by
  unfold atS
  rw [List.getElem?_append_right (by omega), show L.length + k - L.length = k by omega]
def nodeIn (L : List Sstp) (lo hi : Nat) (q : Int) (y : Nat) : Prop := ∃ s, lo ≤ s ∧ s < hi ∧ (atS L s).1 = q ∧ (atS L s).2.1 = (y : Int)
theorem stD_f (v : Vec) (G : Nat → Int) : ∀ x, (∀ s, s < (stD v G x).length → ∃ y : Nat, (atS (stD v G x) s).1 = 0 ∧ (atS (stD v G x) s).2.1 = (y : Int) ∧ y < x ∧ G y = -9) ∧ (∀ s s', s < s' → s' < (stD v G x).length → (atS (stD v G x) s).2.1 < (atS (stD v G x) s').2.1) ∧ (∀ y, y < x → G y = -9 → ∃ s, s < (stD v G x).length ∧ (atS (stD v G x) s).2.1 = (y : Int))
  | 0 => ⟨fun s h => absurd h (Nat.not_lt_zero s), fun s s' _ h => absurd h (Nat.not_lt_zero s'), fun y h => by omega⟩
  | x + 1 => by
    obtain ⟨h1, h2, h3⟩ := stD_f v G x
    rw [stD]
    by_cases q : G x = -9
    · rw [if_pos q]
      have le : (stD v G x ++ [((0 : Int), (x : Int), (Kv v).1 x)]).length = (stD v G x).length + 1 := by rw [List.length_append]; rfl
      rw [le]
      refine ⟨fun s hs => ?_, fun s s' h hs => ?_, fun y hy hg => ?_⟩
      · by_cases e : s = (stD v G x).length
        · subst e
          rw [atS_e]
          exact ⟨x, rfl, rfl, by omega, q⟩
        · rw [atS_l (by omega)]
          obtain ⟨y, a, b, c, d⟩ := h1 s (by omega)
          exact ⟨y, a, b, by omega, d⟩
      · rw [atS_l (by omega)]
        by_cases e : s' = (stD v G x).length
        · subst e
          rw [atS_e]
          obtain ⟨y, a, b, c, d⟩ := h1 s (by omega)
          rw [b]
          show (y : Int) < (x : Int)
          omega
        · rw [atS_l (by omega)]
          exact h2 s s' h (by omega)
      · by_cases e : y = x
        · subst e
          exact ⟨(stD v G y).length, by omega, by rw [atS_e]⟩
        · obtain ⟨s, a, b⟩ := h3 y (by omega) hg
          exact ⟨s, by omega, by rw [atS_l a]; exact b⟩
    · rw [if_neg q, List.append_nil]
      refine ⟨fun s hs => ?_, h2, fun y hy hg => ?_⟩
      · obtain ⟨y, a, b, c, d⟩ := h1 s hs
        exact ⟨y, a, b, by omega, d⟩
      · refine h3 y ?_ hg
        by_cases e : y = x
        · subst e; exact absurd hg q
        · omega
theorem stR_f (v : Vec) (G : Nat → Int) : ∀ x, (∀ s, s < (stR v G x).length → ∃ y : Nat, (atS (stR v G x) s).1 = 1 ∧ (atS (stR v G x) s).2.1 = (y : Int) ∧ y < x ∧ G y ≠ -9) ∧ (∀ y, y < x → G y ≠ -9 → v.1.c y ≠ v.2.1.c (G y).toNat → ∃ s, s < (stR v G x).length ∧ (atS (stR v G x) s).2.1 = (y : Int))
  | 0 => ⟨fun s h => absurd h (Nat.not_lt_zero s), fun y h => by omega⟩
  | x + 1 => by
    obtain ⟨h1, h3⟩ := stR_f v G x
    rw [stR]
    by_cases q : G x ≠ -9 ∧ v.1.c x ≠ v.2.1.c (G x).toNat
    · rw [if_pos q]
      have le : (stR v G x ++ [((1 : Int), (x : Int), (Kv v).2.2 x (G x).toNat)]).length = (stR v G x).length + 1 := by rw [List.length_append]; rfl
      rw [le]
      refine ⟨fun s hs => ?_, fun y hy hg hc => ?_⟩
      · by_cases e : s = (stR v G x).length
        · subst e
          rw [atS_e]
          exact ⟨x, rfl, rfl, by omega, q.1⟩
        · rw [atS_l (by omega)]
          obtain ⟨y, a, b, c, d⟩ := h1 s (by omega)
          exact ⟨y, a, b, by omega, d⟩
      · by_cases e : y = x
        · subst e
          exact ⟨(stR v G y).length, by omega, by rw [atS_e]⟩
        · obtain ⟨s, a, b⟩ := h3 y (by omega) hg hc
          exact ⟨s, by omega, by rw [atS_l a]; exact b⟩
    · rw [if_neg q, List.append_nil]
      refine ⟨fun s hs => ?_, fun y hy hg hc => ?_⟩
      · obtain ⟨y, a, b, c, d⟩ := h1 s hs
        exact ⟨y, a, b, by omega, d⟩
      · refine h3 y ?_ hg hc
        by_cases e : y = x
        · subst e; exact absurd ⟨hg, hc⟩ q
        · omega
theorem stI_f (v : Vec) (O : Nat → Int) : ∀ m, m ≤ v.2.1.n → (∀ s, s < (stI v O m).length → ∃ y : Nat, (atS (stI v O m) s).1 = 2 ∧ (atS (stI v O m) s).2.1 = (y : Int) ∧ v.2.1.n - m ≤ y ∧ y < v.2.1.n ∧ O y = -9) ∧ (∀ s s', s < s' → s' < (stI v O m).length → (atS (stI v O m) s').2.1 < (atS (stI v O m) s).2.1) ∧ (∀ y, v.2.1.n - m ≤ y → y < v.2.1.n → O y = -9 → ∃ s, s < (stI v O m).length ∧ (atS (stI v O m) s).2.1 = (y : Int))
  | 0, _ => ⟨fun s h => absurd h (Nat.not_lt_zero s), fun s s' _ h => absurd h (Nat.not_lt_zero s'), fun y h => by omega⟩
  | m + 1, hm => by
    obtain ⟨h1, h2, h3⟩ := stI_f v O m (by omega)
    rw [stI]
    by_cases q : O (v.2.1.n - 1 - m) = -9
    · rw [if_pos q]
      have le : (stI v O m ++ [((2 : Int), ((v.2.1.n - 1 - m : Nat) : Int), (Kv v).2.1 (v.2.1.n - 1 - m))]).length = (stI v O m).length + 1 := by rw [List.length_append]; rfl
      rw [le]
      refine ⟨fun s hs => ?_, fun s s' h hs => ?_, fun y hy hy2 hg => ?_⟩
      · by_cases e : s = (stI v O m).length
        · subst e
          rw [atS_e]
          exact ⟨v.2.1.n - 1 - m, rfl, rfl, by omega, by omega, q⟩
        · rw [atS_l (by omega)]
          obtain ⟨y, a, b, c, d, e⟩ := h1 s (by omega)
          exact ⟨y, a, b, by omega, d, e⟩
      · rw [atS_l (k := s) (by omega)]
        by_cases e : s' = (stI v O m).length
        · subst e
          rw [atS_e]
          obtain ⟨y, a, b, c, d, e⟩ := h1 s (by omega)
          rw [b]
          show ((v.2.1.n - 1 - m : Nat) : Int) < (y : Int)
          omega
        · rw [atS_l (by omega)]
          exact h2 s s' h (by omega)
      · by_cases e : y = v.2.1.n - 1 - m
        · subst e
          exact ⟨(stI v O m).length, by omega, by rw [atS_e]⟩
        · obtain ⟨s, a, b⟩ := h3 y (by omega) hy2 hg
          exact ⟨s, by omega, by rw [atS_l a]; exact b⟩
    · rw [if_neg q, List.append_nil]
      refine ⟨fun s hs => ?_, h2, fun y hy hy2 hg => ?_⟩
      · obtain ⟨y, a, b, c, d, e⟩ := h1 s hs
        exact ⟨y, a, b, by omega, d, e⟩
      · refine h3 y ?_ hy2 hg
        by_cases e : y = v.2.1.n - 1 - m
        · subst e; exact absurd hg q
        · omega
/-- a step of the list, by its place -/
theorem stps_f (v : Vec) (G O : Nat → Int) : ∃ a b : Nat, a ≤ b ∧ b ≤ (stps v G O).length ∧
    (∀ s, s < a → ∃ y : Nat, (atS (stps v G O) s).1 = 0 ∧ (atS (stps v G O) s).2.1 = (y : Int) ∧ y < v.1.n ∧ G y = -9) ∧
    (∀ s, a ≤ s → s < b → ∃ y : Nat, (atS (stps v G O) s).1 = 1 ∧ (atS (stps v G O) s).2.1 = (y : Int) ∧ y < v.1.n ∧ G y ≠ -9) ∧
    (∀ s, b ≤ s → s < (stps v G O).length → ∃ y : Nat, (atS (stps v G O) s).1 = 2 ∧ (atS (stps v G O) s).2.1 = (y : Int) ∧ y < v.2.1.n ∧ O y = -9) ∧
    (∀ s s', s < s' → s' < a → (atS (stps v G O) s).2.1 < (atS (stps v G O) s').2.1) ∧
    (∀ s s', b ≤ s → s < s' → s' < (stps v G O).length → (atS (stps v G O) s').2.1 < (atS (stps v G O) s).2.1) ∧
    (∀ y, y < v.1.n → G y = -9 → ∃ s, s < a ∧ (atS (stps v G O) s).2.1 = (y : Int)) ∧
    (∀ y, y < v.1.n → G y ≠ -9 → v.1.c y ≠ v.2.1.c (G y).toNat → ∃ s, a ≤ s ∧ s < b ∧ (atS (stps v G O) s).2.1 = (y : Int)) ∧
    (∀ y, y < v.2.1.n → O y = -9 → ∃ s, b ≤ s ∧ s < (stps v G O).length ∧ (atS (stps v G O) s).2.1 = (y : Int)) := by
  obtain ⟨d1, d2, d3⟩ := stD_f v G v.1.n
  obtain ⟨r1, r3⟩ := stR_f v G v.1.n
  obtain ⟨i1, i2, i3⟩ := stI_f v O v.2.1.n (Nat.le_refl _)
  have le : (stps v G O).length = (stD v G v.1.n).length + (stR v G v.1.n).length + (stI v O v.2.1.n).length := by
    unfold stps
    rw [List.length_append, List.length_append]
  have e1 : ∀ s, s < (stD v G v.1.n).length → atS (stps v G O) s = atS (stD v G v.1.n) s := fun s hs => by
    unfold stps
    rw [List.append_assoc, atS_l hs]
  have e2 : ∀ s, s < (stR v G v.1.n).length → atS (stps v G O) ((stD v G v.1.n).length + s) = atS (stR v G v.1.n) s := fun s hs => by
    unfold stps
    rw [List.append_assoc, atS_r, atS_l hs]
  have e3 : ∀ s, atS (stps v G O) ((stD v G v.1.n).length + (stR v G v.1.n).length + s) = atS (stI v O v.2.1.n) s := fun s => by
    unfold stps
    rw [← List.length_append, atS_r]
  have e2' : ∀ s, (stD v G v.1.n).length ≤ s → s < (stD v G v.1.n).length + (stR v G v.1.n).length → atS (stps v G O) s = atS (stR v G v.1.n) (s - (stD v G v.1.n).length) := fun s h1 h2 => by
    have := e2 (s - (stD v G v.1.n).length) (by omega)
    rw [show (stD v G v.1.n).length + (s - (stD v G v.1.n).length) = s by omega] at this
    exact this
  have e3' : ∀ s, (stD v G v.1.n).length + (stR v G v.1.n).length ≤ s → atS (stps v G O) s = atS (stI v O v.2.1.n) (s - ((stD v G v.1.n).length + (stR v G v.1.n).length)) := fun s h1 => by
    have := e3 (s - ((stD v G v.1.n).length + (stR v G v.1.n).length))
    rw [show (stD v G v.1.n).length + (stR v G v.1.n).length + (s - ((stD v G v.1.n).length + (stR v G v.1.n).length)) = s by omega] at this
    exact this
  refine ⟨(stD v G v.1.n).length, (stD v G v.1.n).length + (stR v G v.1.n).length, by omega, by omega, fun s hs => ?_, fun s h1 h2 => ?_, fun s h1 h2 => ?_, fun s s' h hs => ?_, fun s s' h0 h hs => ?_, fun y hy hg => ?_, fun y hy hg hc => ?_, fun y hy hg => ?_⟩
  · rw [e1 s hs]
    exact d1 s hs
  · rw [e2' s h1 h2]
    exact r1 _ (by omega)
  · rw [e3' s h1]
    obtain ⟨y, a, b, c, d, e⟩ := i1 (s - ((stD v G v.1.n).length + (stR v G v.1.n).length)) (by omega)
    exact ⟨y, a, b, d, e⟩
  · rw [e1 s (by omega), e1 s' hs]
    exact d2 s s' h hs
  · rw [e3' s h0, e3' s' (by omega)]
    exact i2 _ _ (by omega) (by omega)
  · obtain ⟨s, a, b⟩ := d3 y hy hg
    exact ⟨s, a, by rw [e1 s a]; exact b⟩
  · obtain ⟨s, a, b⟩ := r3 y hy hg hc
    exact ⟨(stD v G v.1.n).length + s, by omega, by omega, by rw [e2 s a]; exact b⟩
  · obtain ⟨s, a, b⟩ := i3 y (by omega) hy hg
    exact ⟨(stD v G v.1.n).length + (stR v G v.1.n).length + s, by omega, by omega, by rw [e3 s]; exact b⟩
/-- the nodes that have partners, in both documents: one text -/
theorem iso_str {K : Prc} {A B : Doc} {P : Nat → Int} {PA : Nat → Bool} {E : Doc} (hE : E.l = A.l) {l i m j : Nat} {c : Int} (h : Der K (Tl A B) l i m j P c) (hP : ∀ x, l ≤ x → x < i → (PA x = true ↔ P x ≠ -9) ∧ (P x ≠ -9 → E.c x = B.c (P x).toNat)) : ∀ PB : Nat → Bool, (∀ y, m ≤ y → y < j → (PB y = true ↔ ∃ x, l ≤ x ∧ x < i ∧ P x = (y : Int))) → str E PA l i = str B PB m j ∧ sm (bI PA) l (i - l) = sm (bI PB) m (j - m) := by
  refine Der.ind (M := fun l i m j _ => (∀ x, l ≤ x → x < i → (PA x = true ↔ P x ≠ -9) ∧ (P x ≠ -9 → E.c x = B.c (P x).toNat)) → ∀ PB : Nat → Bool, (∀ y, m ≤ y → y < j → (PB y = true ↔ ∃ x, l ≤ x ∧ x < i ∧ P x = (y : Int))) → str E PA l i = str B PB m j ∧ sm (bI PA) l (i - l) = sm (bI PB) m (j - m)) ?_ ?_ ?_ ?_ h hP
  · intro l m _ PB _
    rw [str_e (Nat.le_refl _), str_e (Nat.le_refl _), Nat.sub_self, Nat.sub_self]
    exact ⟨rfl, rfl⟩
  · intro l i m j c h1 h2 g hM hP PB hB
    have pi : PA i = false := by
      cases hb : PA i
      · rfl
      · exact absurd h2 ((hP i h1 (by omega)).1.mp hb)
    have bi : bI PA i = 0 := if_neg (by rw [pi]; decide)
    obtain ⟨m1, m2⟩ := hM (fun x a b => hP x a (by omega)) PB (fun y a b => by
      rw [hB y a b]
      constructor
      · rintro ⟨x, x1, x2, x3⟩
        by_cases e : x = i
        · subst e; omega
        · exact ⟨x, x1, by omega, x3⟩
      · rintro ⟨x, x1, x2, x3⟩
        exact ⟨x, x1, by omega, x3⟩)
    refine ⟨by rw [str_n pi]; exact m1, ?_⟩
    rw [show i + 1 - l = (i - l) + 1 by omega, sm, show l + (i - l) = i by omega, bi, Int.add_zero]
    exact m2
  · intro l i m j c h1 g hM hP PB hB
    have pj : PB j = false := by
      cases hb : PB j
      · rfl
      · obtain ⟨x, x1, x2, x3⟩ := (hB j h1 (by omega)).mp hb
        have := g.range x x1 x2
        omega
    have bj : bI PB j = 0 := if_neg (by rw [pj]; decide)
    obtain ⟨m1, m2⟩ := hM hP PB (fun y a b => hB y a (by omega))
    refine ⟨by rw [str_n pj]; exact m1, ?_⟩
    rw [show j + 1 - m = (j - m) + 1 by omega, sm, show m + (j - m) = j by omega, bj, Int.add_zero]
    exact m2
  · intro l i m j c c' h1 h2 h3 h4 h5 g g' hM hM' hP PB hB
    have h1' : l ≤ A.l i := h1
    have h2' : A.l i ≤ i := h2
    have h3' : m ≤ B.l j := h3
    have h4' : B.l j ≤ j := h4
    have pi := hP i (by omega) (by omega)
    have pit : PA i = true := pi.1.mpr (by omega)
    have pjt : PB j = true := (hB j (by omega) (by omega)).mpr ⟨i, by omega, by omega, h5⟩
    have ci : E.c i = B.c j := by
      rw [pi.2 (by omega), h5, Int.toNat_natCast]
    have rg : ∀ x, l ≤ x → x < A.l i → P x = -9 ∨ ((m : Int) ≤ P x ∧ P x < B.l j) := g.range
    have rg' : ∀ x, A.l i ≤ x → x < i → P x = -9 ∨ ((B.l j : Int) ≤ P x ∧ P x < j) := g'.range
    obtain ⟨m1, m2⟩ := hM (fun x a b => hP x a (by have : x < A.l i := b; omega)) PB (fun y a b => by
      have b' : y < B.l j := b
      rw [hB y a (by omega)]
      constructor
      · rintro ⟨x, x1, x2, x3⟩
        by_cases e : x < A.l i
        · exact ⟨x, x1, e, x3⟩
        · by_cases e2 : x = i
          · subst e2; omega
          · have := rg' x (by omega) (by omega)
            omega
      · rintro ⟨x, x1, x2, x3⟩
        have x2' : x < A.l i := x2
        exact ⟨x, x1, by omega, x3⟩)
    obtain ⟨n1, n2⟩ := hM' (fun x a b => hP x (by have : A.l i ≤ x := a; omega) (by omega)) PB (fun y a b => by
      have a' : B.l j ≤ y := a
      rw [hB y (by omega) (by omega)]
      constructor
      · rintro ⟨x, x1, x2, x3⟩
        by_cases e : x < A.l i
        · have := rg x x1 e
          omega
        · by_cases e2 : x = i
          · subst e2; omega
          · exact ⟨x, by show A.l i ≤ x; omega, by omega, x3⟩
      · rintro ⟨x, x1, x2, x3⟩
        have x1' : A.l i ≤ x := x1
        exact ⟨x, by omega, by omega, x3⟩)
    have m1' : str E PA l (A.l i) = str B PB m (B.l j) := m1
    have m2' : sm (bI PA) l (A.l i - l) = sm (bI PB) m (B.l j - m) := m2
    have n1' : str E PA (A.l i) i = str B PB (B.l j) j := n1
    have n2' : sm (bI PA) (A.l i) (i - A.l i) = sm (bI PB) (B.l j) (j - B.l j) := n2
    have el : E.l i = A.l i := by rw [hE]
    refine ⟨?_, ?_⟩
    · rw [str_p (by omega) pit (by omega), str_p (by omega) pjt h4', el, ci, m1', n1', n2']
    · have s1 := sm_split (bI PA) l (A.l i - l) (i - A.l i)
      have s2 := sm_split (bI PB) m (B.l j - m) (j - B.l j)
      rw [show A.l i - l + (i - A.l i) = i - l by omega, show l + (A.l i - l) = A.l i by omega] at s1
      rw [show B.l j - m + (j - B.l j) = j - m by omega, show m + (B.l j - m) = B.l j by omega] at s2
      have bi : bI PA i = 1 := if_pos pit
      have bj : bI PB j = 1 := if_pos pjt
      rw [show i + 1 - l = (i - l) + 1 by omega, show j + 1 - m = (j - m) + 1 by omega, sm, sm, show l + (i - l) = i by omega, show m + (j - m) = j by omega, bi, bj]
      omega
