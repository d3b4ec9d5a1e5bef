/-! ways between two forests, by their last nodes: a row of deletions, insertions and partners; P tells the partner of a node of the first (or -9) -/
abbrev Prc : Type := (Nat → Int) × (Nat → Int) × (Nat → Nat → Int)
abbrev Lft : Type := (Nat → Nat) × (Nat → Nat)
def DerF (K : Prc) (T : Lft) : Nat → Nat → Nat → Nat → Nat → (Nat → Int) → Int → Prop
  | 0, l, i, m, j, _, c => i = l ∧ j = m ∧ c = 0
  | f + 1, l, i, m, j, P, c => (i = l ∧ j = m ∧ c = 0) ∨ (∃ i', i = i' + 1 ∧ l ≤ i' ∧ P i' = -9 ∧ DerF K T f l i' m j P (c - K.1 i')) ∨ (∃ j', j = j' + 1 ∧ m ≤ j' ∧ DerF K T f l i m j' P (c - K.2.1 j')) ∨ (∃ i' j' c1, i = i' + 1 ∧ j = j' + 1 ∧ l ≤ T.1 i' ∧ T.1 i' ≤ i' ∧ m ≤ T.2 j' ∧ T.2 j' ≤ j' ∧ P i' = (j' : Int) ∧ DerF K T f l (T.1 i') m (T.2 j') P c1 ∧ DerF K T f (T.1 i') i' (T.2 j') j' P (c - c1 - K.2.2 i' j'))
def Der (K : Prc) (T : Lft) (l i m j : Nat) (P : Nat → Int) (c : Int) : Prop := ∃ f, DerF K T f l i m j P c
section DER
variable {K : Prc} {T : Lft}
theorem DerF.succ : ∀ (f l i m j : Nat) (P : Nat → Int) (c : Int), DerF K T f l i m j P c → DerF K T (f + 1) l i m j P c := by
  intro f
  induction f with
  | zero => intro l i m j P c h; exact Or.inl h
  | succ f ih =>
    intro l i m j P c h
    rcases h with h | ⟨i', a1, a2, a3, a4⟩ | ⟨j', a1, a2, a3⟩ | ⟨i', j', c1, a1, a2, a3, a4, a5, a6, a7, a8, a9⟩
    · exact Or.inl h
    · exact Or.inr (Or.inl ⟨i', a1, a2, a3, ih _ _ _ _ _ _ a4⟩)
    · exact Or.inr (Or.inr (Or.inl ⟨j', a1, a2, ih _ _ _ _ _ _ a3⟩))
    · exact Or.inr (Or.inr (Or.inr ⟨i', j', c1, a1, a2, a3, a4, a5, a6, a7, ih _ _ _ _ _ _ a8, ih _ _ _ _ _ _ a9⟩))
theorem DerF.mono {f g l i m j : Nat} {P : Nat → Int} {c : Int} (h : DerF K T f l i m j P c) (hg : f ≤ g) : DerF K T g l i m j P c := by
  obtain ⟨k, rfl⟩ : ∃ k, g = f + k := ⟨g - f, by omega⟩
  induction k with
  | zero => exact h
  | succ k ih => exact DerF.succ _ _ _ _ _ _ _ (ih (by omega))
theorem Der.nil {l m : Nat} {P : Nat → Int} : Der K T l l m m P 0 := ⟨0, rfl, rfl, rfl⟩
theorem Der.del {l i m j : Nat} {P : Nat → Int} {c : Int} (h : Der K T l i m j P c) (hl : l ≤ i) (hp : P i = -9) : Der K T l (i + 1) m j P (c + K.1 i) := by
  obtain ⟨f, h⟩ := h
  exact ⟨f + 1, Or.inr (Or.inl ⟨i, rfl, hl, hp, by rw [Int.add_sub_cancel]; exact h⟩)⟩
theorem Der.ins {l i m j : Nat} {P : Nat → Int} {c : Int} (h : Der K T l i m j P c) (hl : m ≤ j) : Der K T l i m (j + 1) P (c + K.2.1 j) := by
  obtain ⟨f, h⟩ := h
  exact ⟨f + 1, Or.inr (Or.inr (Or.inl ⟨j, rfl, hl, by rw [Int.add_sub_cancel]; exact h⟩))⟩
theorem Der.mat {l i m j : Nat} {P : Nat → Int} {c c' : Int} (h : Der K T l (T.1 i) m (T.2 j) P c) (h' : Der K T (T.1 i) i (T.2 j) j P c') (a1 : l ≤ T.1 i) (a2 : T.1 i ≤ i) (a3 : m ≤ T.2 j) (a4 : T.2 j ≤ j) (hp : P i = (j : Int)) : Der K T l (i + 1) m (j + 1) P (c + (c' + K.2.2 i j)) := by
  obtain ⟨f, h⟩ := h
  obtain ⟨g, h'⟩ := h'
  refine ⟨f + g + 1, Or.inr (Or.inr (Or.inr ⟨i, j, c, rfl, rfl, a1, a2, a3, a4, hp, h.mono (by omega), ?_⟩))⟩
  rw [show c + (c' + K.2.2 i j) - c - K.2.2 i j = c' by omega]
  exact h'.mono (by omega)
theorem Der.ind {P : Nat → Int} {M : Nat → Nat → Nat → Nat → Int → Prop} (hnil : ∀ l m, M l l m m 0) (hdel : ∀ l i m j c, l ≤ i → P i = -9 → Der K T l i m j P c → M l i m j c → M l (i + 1) m j (c + K.1 i)) (hins : ∀ l i m j c, m ≤ j → Der K T l i m j P c → M l i m j c → M l i m (j + 1) (c + K.2.1 j)) (hmat : ∀ l i m j c c', l ≤ T.1 i → T.1 i ≤ i → m ≤ T.2 j → T.2 j ≤ j → P i = (j : Int) → Der K T l (T.1 i) m (T.2 j) P c → Der K T (T.1 i) i (T.2 j) j P c' → M l (T.1 i) m (T.2 j) c → M (T.1 i) i (T.2 j) j c' → M l (i + 1) m (j + 1) (c + (c' + K.2.2 i j))) {l i m j : Nat} {c : Int} (h : Der K T l i m j P c) : M l i m j c := by
  obtain ⟨f, h⟩ := h
  induction f generalizing l i m j c with
  | zero =>
    obtain ⟨rfl, rfl, rfl⟩ := h
    exact hnil _ _
  | succ f ih =>
    rcases h with ⟨rfl, rfl, rfl⟩ | ⟨i', rfl, a2, a3, a4⟩ | ⟨j', rfl, a2, a3⟩ | ⟨i', j', c1, rfl, rfl, a3, a4, a5, a6, a7, a8, a9⟩
    · exact hnil _ _
    · have := hdel _ _ _ _ _ a2 a3 ⟨f, a4⟩ (ih a4)
      rw [Int.sub_add_cancel] at this
      exact this
    · have := hins _ _ _ _ _ a2 ⟨f, a3⟩ (ih a3)
      rw [Int.sub_add_cancel] at this
      exact this
    · have := hmat _ _ _ _ _ _ a3 a4 a5 a6 a7 ⟨f, a8⟩ ⟨f, a9⟩ (ih a8) (ih a9)
      rw [show c1 + (c - c1 - K.2.2 i' j' + K.2.2 i' j') = c by omega] at this
      exact this
theorem Der.le {l i m j : Nat} {P : Nat → Int} {c : Int} (h : Der K T l i m j P c) : l ≤ i ∧ m ≤ j := by
  refine Der.ind (M := fun l i m j _ => l ≤ i ∧ m ≤ j) ?_ ?_ ?_ ?_ h
  · intro l m; omega
  · intro l i m j c _ _ _ h; omega
  · intro l i m j c _ _ h; omega
  · intro l i m j c c' _ _ _ _ _ _ _ h h'; omega
theorem Der.range {l i m j : Nat} {P : Nat → Int} {c : Int} (h : Der K T l i m j P c) : ∀ x, l ≤ x → x < i → P x = -9 ∨ ((m : Int) ≤ P x ∧ P x < j) := by
  refine Der.ind (M := fun l i m j _ => ∀ x, l ≤ x → x < i → P x = -9 ∨ ((m : Int) ≤ P x ∧ P x < j)) ?_ ?_ ?_ ?_ h
  · intro l m x h1 h2; omega
  · intro l i m j c h1 h2 _ h x a b
    by_cases e : x = i
    · subst e; exact Or.inl h2
    · exact h x a (by omega)
  · intro l i m j c h1 _ h x a b
    have := h x a b
    omega
  · intro l i m j c c' h1 h2 h3 h4 h5 _ _ h h' x a b
    by_cases e : x = i
    · subst e; omega
    · by_cases e2 : x < T.1 i
      · have := h x a e2
        omega
      · have := h' x (by omega) (by omega)
        omega
theorem Der.congr {l i m j : Nat} {P Q : Nat → Int} {c : Int} (h : Der K T l i m j P c) (hq : ∀ x, l ≤ x → x < i → Q x = P x) : Der K T l i m j Q c := by
  refine Der.ind (M := fun l i m j c => (∀ x, l ≤ x → x < i → Q x = P x) → Der K T l i m j Q c) ?_ ?_ ?_ ?_ h hq
  · intro l m _; exact Der.nil
  · intro l i m j c h1 h2 _ h hq
    exact (h (fun x a b => hq x a (by omega))).del h1 (by rw [hq i h1 (by omega)]; exact h2)
  · intro l i m j c h1 _ h hq
    exact (h hq).ins h1
  · intro l i m j c c' h1 h2 h3 h4 h5 _ _ h h' hq
    exact Der.mat (h (fun x a b => hq x a (by omega))) (h' (fun x a b => hq x (by omega) (by omega))) h1 h2 h3 h4 (by rw [hq i (by omega) (by omega)]; exact h5)
theorem Der.cost {l i m j : Nat} {P : Nat → Int} {c : Int} (h : Der K T l i m j P c) (h1 : ∀ x, 0 ≤ K.1 x) (h2 : ∀ x, 0 ≤ K.2.1 x) (h3 : ∀ x y, 0 ≤ K.2.2 x y) : 0 ≤ c := by
  refine Der.ind (M := fun l i m j c => 0 ≤ c) ?_ ?_ ?_ ?_ h
  · intro l m; omega
  · intro l i m j c _ _ _ h; have := h1 i; omega
  · intro l i m j c _ _ h; have := h2 j; omega
  · intro l i m j c c' _ _ _ _ _ _ _ h h'; have := h3 i j; omega
/-- one behind the other -/
theorem Der.cat {l p m q i j : Nat} {P Q : Nat → Int} {c e : Int} (h : Der K T l p m q P c) (g : Der K T p i q j Q e) : Der K T l i m j (fun x => if x < p then P x else Q x) (c + e) := by
  have hlp := h.le
  refine Der.ind (M := fun p' i q' j e => p' = p → q' = q → Der K T l i m j (fun x => if x < p then P x else Q x) (c + e)) ?_ ?_ ?_ ?_ g rfl rfl
  · intro a b e1 e2
    subst e1 e2
    rw [Int.add_zero]
    exact h.congr (fun x _ hx => if_pos hx)
  · intro a i b j e h1 h2 _ hM e1 e2
    subst e1 e2
    have := (hM rfl rfl).del (by omega) (show (fun x => if x < a then P x else Q x) i = -9 by simp only [if_neg (show ¬ i < a by omega)]; exact h2)
    rw [Int.add_assoc] at this
    exact this
  · intro a i b j e h1 _ hM e1 e2
    subst e1 e2
    have := (hM rfl rfl).ins (by omega)
    rw [Int.add_assoc] at this
    exact this
  · intro a i b j e e' h1 h2 h3 h4 h5 g1 g2 hM _ e1 e2
    subst e1 e2
    have := Der.mat (hM rfl rfl) (g2.congr (Q := fun x => if x < a then P x else Q x) (fun x a1 b1 => if_neg (by omega))) (by omega) h2 (by omega) h4 (show (fun x => if x < a then P x else Q x) i = (j : Int) by simp only [if_neg (show ¬ i < a by omega)]; exact h5)
    rw [Int.add_assoc] at this
    exact this
/-- insertions alone -/
theorem Der.more {l i m j : Nat} {P : Nat → Int} {c : Int} (h : Der K T l i m j P c) : ∀ n, Der K T l i m (j + n) P (c + sm K.2.1 j n) := by
  intro n
  have hm := h.le
  induction n with
  | zero => rw [sm, Int.add_zero]; exact h
  | succ n ih =>
    have := ih.ins (by omega)
    rw [sm, ← Int.add_assoc]
    exact this
/-- the last node of the first has a partner, or none -/
theorem Der.top {l i m j : Nat} {P : Nat → Int} {c : Int} (h : Der K T l (i + 1) m j P c) (hl : l ≤ i) : (P i = -9 ∧ Der K T l i m j P (c - K.1 i)) ∨ (∃ y : Nat, P i = (y : Int) ∧ y < j ∧ l ≤ T.1 i ∧ T.1 i ≤ i ∧ m ≤ T.2 y ∧ T.2 y ≤ y ∧ ∃ c1 c2, Der K T l (T.1 i) m (T.2 y) P c1 ∧ Der K T (T.1 i) i (T.2 y) y P c2 ∧ c = c1 + (c2 + K.2.2 i y) + sm K.2.1 (y + 1) (j - (y + 1))) := by
  refine Der.ind (M := fun l i' m j c => i' = i + 1 → l ≤ i → (P i = -9 ∧ Der K T l i m j P (c - K.1 i)) ∨ (∃ y : Nat, P i = (y : Int) ∧ y < j ∧ l ≤ T.1 i ∧ T.1 i ≤ i ∧ m ≤ T.2 y ∧ T.2 y ≤ y ∧ ∃ c1 c2, Der K T l (T.1 i) m (T.2 y) P c1 ∧ Der K T (T.1 i) i (T.2 y) y P c2 ∧ c = c1 + (c2 + K.2.2 i y) + sm K.2.1 (y + 1) (j - (y + 1)))) ?_ ?_ ?_ ?_ h rfl hl
  · intro l m e1 e2; omega
  · intro l i' m j c h1 h2 g _ e1 e2
    have e : i' = i := by omega
    subst e
    rw [Int.add_sub_cancel]
    exact Or.inl ⟨h2, g⟩
  · intro l i' m j c h1 g hM e1 e2
    rcases hM e1 e2 with ⟨a, b⟩ | ⟨y, a1, a2, a3, a4, a5, a6, c1, c2, a7, a8, a9⟩
    · refine Or.inl ⟨a, ?_⟩
      have := b.ins h1
      rw [show c - K.1 i + K.2.1 j = c + K.2.1 j - K.1 i by omega] at this
      exact this
    · refine Or.inr ⟨y, a1, by omega, a3, a4, a5, a6, c1, c2, a7, a8, ?_⟩
      rw [a9, show j + 1 - (y + 1) = (j - (y + 1)) + 1 by omega, sm, show y + 1 + (j - (y + 1)) = j by omega]
      omega
  · intro l i' m j c c' h1 h2 h3 h4 h5 g1 g2 _ _ e1 e2
    have e : i' = i := by omega
    subst e
    refine Or.inr ⟨j, h5, by omega, h1, h2, h3, h4, c, c', g1, g2, ?_⟩
    rw [Nat.sub_self, sm, Int.add_zero]
end DER
