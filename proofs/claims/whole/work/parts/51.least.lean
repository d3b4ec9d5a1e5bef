/-! the least cost of a way -/
def IsF (K : Prc) (T : Lft) (l i m j : Nat) (c : Int) : Prop := (∃ P, Der K T l i m j P c) ∧ ∀ P c', Der K T l i m j P c' → c ≤ c'
noncomputable def dF (K : Prc) (T : Lft) (l i m j : Nat) : Int := Classical.epsilon (fun c => IsF K T l i m j c)
def Rg (f : Nat → Nat) (l i : Nat) : Prop := l ≤ i ∧ ∀ x, l ≤ x → x < i → l ≤ f x ∧ f x ≤ x ∧ ∀ y, f x ≤ y → y < x → f x ≤ f y
theorem Rg.sub {f : Nat → Nat} {l i : Nat} (h : Rg f l (i + 1)) (hl : l ≤ i) : Rg f l i := ⟨hl, fun x a b => h.2 x a (by omega)⟩
theorem Rg.at {f : Nat → Nat} {l i x : Nat} (h : Rg f l i) (a : l ≤ x) (b : x < i) : l ≤ f x ∧ f x ≤ x := ⟨(h.2 x a b).1, (h.2 x a b).2.1⟩
theorem Rg.left {f : Nat → Nat} {l i x : Nat} (h : Rg f l i) (a : l ≤ x) (b : x < i) : Rg f l (f x) := ⟨(h.at a b).1, fun y c d => h.2 y c (by have := h.at a b; omega)⟩
theorem Rg.in {f : Nat → Nat} {l i x : Nat} (h : Rg f l i) (a : l ≤ x) (b : x < i) : Rg f (f x) x := ⟨(h.at a b).2, fun y c d => ⟨(h.2 x a b).2.2 y c d, (h.2 y (by have := h.at a b; omega) (by omega)).2⟩⟩
theorem Rg.le {f : Nat → Nat} {l i x : Nat} (h : Rg f l i) (a : l ≤ x) (b : x ≤ i) : Rg f l x := ⟨a, fun y c d => h.2 y c (by omega)⟩
section LEAST
variable {K : Prc} {T : Lft}
theorem isF_dF {l i m j : Nat} (h : ∃ c, IsF K T l i m j c) : IsF K T l i m j (dF K T l i m j) := Classical.epsilon_spec h
theorem IsF.uniq {l i m j : Nat} {c e : Int} (h : IsF K T l i m j c) (g : IsF K T l i m j e) : c = e := by
  obtain ⟨P, hP⟩ := h.1
  obtain ⟨Q, hQ⟩ := g.1
  have := h.2 Q e hQ
  have := g.2 P c hP
  omega
theorem Der.inv {l i m j : Nat} {P : Nat → Int} {c : Int} (h : Der K T l i m j P c) : (i = l ∧ j = m ∧ c = 0) ∨ (∃ i', i = i' + 1 ∧ l ≤ i' ∧ P i' = -9 ∧ Der K T l i' m j P (c - K.1 i')) ∨ (∃ j', j = j' + 1 ∧ m ≤ j' ∧ Der K T l i m j' P (c - K.2.1 j')) ∨ (∃ i' j' c1, i = i' + 1 ∧ j = j' + 1 ∧ l ≤ T.1 i' ∧ T.1 i' ≤ i' ∧ m ≤ T.2 j' ∧ T.2 j' ≤ j' ∧ P i' = (j' : Int) ∧ Der K T l (T.1 i') m (T.2 j') P c1 ∧ Der K T (T.1 i') i' (T.2 j') j' P (c - c1 - K.2.2 i' j')) := by
  obtain ⟨f, h⟩ := h
  cases f with
  | zero => exact Or.inl h
  | succ f =>
    rcases h with h | ⟨i', a1, a2, a3, a4⟩ | ⟨j', a1, a2, a3⟩ | ⟨i', j', c1, a1, a2, a3, a4, a5, a6, a7, a8, a9⟩
    · exact Or.inl h
    · exact Or.inr (Or.inl ⟨i', a1, a2, a3, f, a4⟩)
    · exact Or.inr (Or.inr (Or.inl ⟨j', a1, a2, f, a3⟩))
    · exact Or.inr (Or.inr (Or.inr ⟨i', j', c1, a1, a2, a3, a4, a5, a6, a7, ⟨f, a8⟩, f, a9⟩))
theorem isF_nil {l m : Nat} : IsF K T l l m m 0 := by
  refine ⟨⟨fun _ => 0, Der.nil⟩, fun P c h => ?_⟩
  rcases h.inv with ⟨_, _, e⟩ | ⟨i', a1, a2, _⟩ | ⟨j', a1, a2, _⟩ | ⟨i', j', c1, a1, a2, a3, a4, _⟩
  · omega
  · omega
  · omega
  · omega
theorem isF_del0 {l i m : Nat} {c : Int} (hl : l ≤ i) (h : IsF K T l i m m c) : IsF K T l (i + 1) m m (c + K.1 i) := by
  obtain ⟨⟨P, hP⟩, hm⟩ := h
  refine ⟨⟨fun x => if x = i then -9 else P x, (hP.congr (Q := fun x => if x = i then -9 else P x) (fun x a b => if_neg (by omega))).del hl (if_pos rfl)⟩, fun Q e hQ => ?_⟩
  rcases hQ.inv with ⟨_, _, e⟩ | ⟨i', a1, a2, a3, a4⟩ | ⟨j', a1, a2, _⟩ | ⟨i', j', c1, a1, a2, a3, a4, a5, a6, _⟩
  · omega
  · have e1 : i' = i := by omega
    subst e1
    have := hm _ _ a4
    omega
  · omega
  · omega
theorem isF_ins0 {l m j : Nat} {c : Int} (hl : m ≤ j) (h : IsF K T l l m j c) : IsF K T l l m (j + 1) (c + K.2.1 j) := by
  obtain ⟨⟨P, hP⟩, hm⟩ := h
  refine ⟨⟨P, hP.ins hl⟩, fun Q e hQ => ?_⟩
  rcases hQ.inv with ⟨_, _, e⟩ | ⟨i', a1, a2, a3, a4⟩ | ⟨j', a1, a2, a3⟩ | ⟨i', j', c1, a1, a2, a3, a4, a5, a6, _⟩
  · omega
  · omega
  · have e1 : j' = j := by omega
    subst e1
    have := hm _ _ a3
    omega
  · omega
theorem isF_both {l i m j : Nat} {a b c e : Int} (h1 : l ≤ T.1 i) (h2 : T.1 i ≤ i) (h3 : m ≤ T.2 j) (h4 : T.2 j ≤ j) (ha : IsF K T l i m (j + 1) a) (hb : IsF K T l (i + 1) m j b) (hc : IsF K T l (T.1 i) m (T.2 j) c) (he : IsF K T (T.1 i) i (T.2 j) j e) : IsF K T l (i + 1) m (j + 1) (min (min (a + K.1 i) (b + K.2.1 j)) (c + (e + K.2.2 i j))) := by
  obtain ⟨⟨Pa, hPa⟩, ma⟩ := ha
  obtain ⟨⟨Pb, hPb⟩, mb⟩ := hb
  obtain ⟨⟨Pc, hPc⟩, mc⟩ := hc
  obtain ⟨⟨Pe, hPe⟩, me⟩ := he
  have d1 : Der K T l (i + 1) m (j + 1) (fun x => if x = i then -9 else Pa x) (a + K.1 i) := (hPa.congr (Q := fun x => if x = i then -9 else Pa x) (fun x a b => if_neg (by omega))).del (by omega) (if_pos rfl)
  have d2 : Der K T l (i + 1) m (j + 1) Pb (b + K.2.1 j) := hPb.ins (by omega)
  have d3 : Der K T l (i + 1) m (j + 1) (fun x => if x = i then (j : Int) else if x < T.1 i then Pc x else Pe x) (c + (e + K.2.2 i j)) := Der.mat (hPc.congr (fun x a b => by rw [if_neg (by omega), if_pos b])) (hPe.congr (fun x a b => by rw [if_neg (by omega), if_neg (by omega)])) h1 h2 h3 h4 (if_pos rfl)
  refine ⟨?_, fun Q g hQ => ?_⟩
  · rcases (show min (min (a + K.1 i) (b + K.2.1 j)) (c + (e + K.2.2 i j)) = a + K.1 i ∨ min (min (a + K.1 i) (b + K.2.1 j)) (c + (e + K.2.2 i j)) = b + K.2.1 j ∨ min (min (a + K.1 i) (b + K.2.1 j)) (c + (e + K.2.2 i j)) = c + (e + K.2.2 i j) by omega) with q | q | q
    · rw [q]; exact ⟨_, d1⟩
    · rw [q]; exact ⟨_, d2⟩
    · rw [q]; exact ⟨_, d3⟩
  · rcases hQ.inv with ⟨q, _, _⟩ | ⟨i', a1, a2, a3, a4⟩ | ⟨j', a1, a2, a3⟩ | ⟨i', j', c1, a1, a2, a3, a4, a5, a6, a7, a8, a9⟩
    · omega
    · have e1 : i' = i := by omega
      subst e1
      have := ma _ _ a4
      omega
    · have e1 : j' = j := by omega
      subst e1
      have := mb _ _ a3
      omega
    · have e1 : i' = i := by omega
      have e2 : j' = j := by omega
      subst e1 e2
      have := mc _ _ a8
      have := me _ _ a9
      omega
theorem F_ex : ∀ (n l i m j : Nat), Rg T.1 l i → Rg T.2 m j → (i - l) + (j - m) ≤ n → ∃ c, IsF K T l i m j c := by
  intro n
  induction n with
  | zero =>
    intro l i m j h1 h2 h3
    have := h1.1
    have := h2.1
    have e1 : i = l := by omega
    have e2 : j = m := by omega
    subst e1 e2
    exact ⟨0, isF_nil⟩
  | succ n ih =>
    intro l i m j h1 h2 h3
    have g1 := h1.1
    have g2 := h2.1
    by_cases e1 : i = l
    · subst e1
      by_cases e2 : j = m
      · subst e2
        exact ⟨0, isF_nil⟩
      · obtain ⟨j, rfl⟩ : ∃ q, j = q + 1 := ⟨j - 1, by omega⟩
        obtain ⟨c, hc⟩ := ih i i m j h1 (h2.sub (by omega)) (by omega)
        exact ⟨_, isF_ins0 (by omega) hc⟩
    · obtain ⟨i, rfl⟩ : ∃ q, i = q + 1 := ⟨i - 1, by omega⟩
      by_cases e2 : j = m
      · subst e2
        obtain ⟨c, hc⟩ := ih l i j j (h1.sub (by omega)) h2 (by omega)
        exact ⟨_, isF_del0 (by omega) hc⟩
      · obtain ⟨j, rfl⟩ : ∃ q, j = q + 1 := ⟨j - 1, by omega⟩
        have a1 := h1.at (x := i) (by omega) (by omega)
        have a2 := h2.at (x := j) (by omega) (by omega)
        obtain ⟨a, ha⟩ := ih l i m (j + 1) (h1.sub (by omega)) h2 (by omega)
        obtain ⟨b, hb⟩ := ih l (i + 1) m j h1 (h2.sub (by omega)) (by omega)
        obtain ⟨c, hc⟩ := ih l (T.1 i) m (T.2 j) (h1.left (by omega) (by omega)) (h2.left (by omega) (by omega)) (by omega)
        obtain ⟨e, he⟩ := ih (T.1 i) i (T.2 j) j (h1.in (by omega) (by omega)) (h2.in (by omega) (by omega)) (by omega)
        exact ⟨_, isF_both a1.1 a1.2 a2.1 a2.2 ha hb hc he⟩
theorem F_ok {l i m j : Nat} (h1 : Rg T.1 l i) (h2 : Rg T.2 m j) : IsF K T l i m j (dF K T l i m j) := isF_dF (F_ex _ l i m j h1 h2 (Nat.le_refl _))
theorem F_le {l i m j : Nat} {P : Nat → Int} {c : Int} (h1 : Rg T.1 l i) (h2 : Rg T.2 m j) (h : Der K T l i m j P c) : dF K T l i m j ≤ c := (F_ok h1 h2).2 P c h
theorem F_way {l i m j : Nat} (h1 : Rg T.1 l i) (h2 : Rg T.2 m j) : ∃ P, Der K T l i m j P (dF K T l i m j) := (F_ok h1 h2).1
theorem F_nil {l m : Nat} : dF K T l l m m = 0 := (isF_dF ⟨0, isF_nil⟩).uniq isF_nil
theorem F_del0 {l i m : Nat} (h1 : Rg T.1 l (i + 1)) (hl : l ≤ i) : dF K T l (i + 1) m m = dF K T l i m m + K.1 i := by
  have h2 : Rg T.2 m m := ⟨Nat.le_refl _, fun x a b => by omega⟩
  exact (F_ok h1 h2).uniq (isF_del0 hl (F_ok (h1.sub hl) h2))
theorem F_ins0 {l m j : Nat} (h2 : Rg T.2 m (j + 1)) (hl : m ≤ j) : dF K T l l m (j + 1) = dF K T l l m j + K.2.1 j := by
  have h1 : Rg T.1 l l := ⟨Nat.le_refl _, fun x a b => by omega⟩
  exact (F_ok h1 h2).uniq (isF_ins0 hl (F_ok h1 (h2.sub hl)))
theorem F_both {l i m j : Nat} (h1 : Rg T.1 l (i + 1)) (h2 : Rg T.2 m (j + 1)) (hl : l ≤ i) (hm : m ≤ j) : dF K T l (i + 1) m (j + 1) = min (min (dF K T l i m (j + 1) + K.1 i) (dF K T l (i + 1) m j + K.2.1 j)) (dF K T l (T.1 i) m (T.2 j) + (dF K T (T.1 i) i (T.2 j) j + K.2.2 i j)) := by
  have a1 := h1.at (x := i) (by omega) (by omega)
  have a2 := h2.at (x := j) (by omega) (by omega)
  exact (F_ok h1 h2).uniq (isF_both a1.1 a1.2 a2.1 a2.2 (F_ok (h1.sub hl) h2) (F_ok h1 (h2.sub hm)) (F_ok (h1.left (by omega) (by omega)) (h2.left (by omega) (by omega))) (F_ok (h1.in (by omega) (by omega)) (h2.in (by omega) (by omega))))
/-- the same by whole trees -/
theorem F_tree {l i m j : Nat} (h1 : Rg T.1 l (i + 1)) (h2 : Rg T.2 m (j + 1)) (hl : l ≤ i) (hm : m ≤ j) : dF K T l (i + 1) m (j + 1) = min (min (dF K T l i m (j + 1) + K.1 i) (dF K T l (i + 1) m j + K.2.1 j)) (dF K T l (T.1 i) m (T.2 j) + dF K T (T.1 i) (i + 1) (T.2 j) (j + 1)) := by
  have a1 := h1.at (x := i) (by omega) (by omega)
  have a2 := h2.at (x := j) (by omega) (by omega)
  have r1 : Rg T.1 (T.1 i) (i + 1) := ⟨by omega, fun x a b => by
    by_cases e : x = i
    · subst e; exact ⟨Nat.le_refl _, h1.2 x (by omega) (by omega) |>.2⟩
    · exact (h1.in (x := i) (by omega) (by omega)).2 x a (by omega)⟩
  have r2 : Rg T.2 (T.2 j) (j + 1) := ⟨by omega, fun x a b => by
    by_cases e : x = j
    · subst e; exact ⟨Nat.le_refl _, h2.2 x (by omega) (by omega) |>.2⟩
    · exact (h2.in (x := j) (by omega) (by omega)).2 x a (by omega)⟩
  have q1 := F_both (K := K) h1 h2 hl hm
  have q2 := F_both (K := K) r1 r2 (by omega) (by omega)
  rw [F_nil] at q2
  obtain ⟨P, hP⟩ := F_way (K := K) (h1.left (x := i) (by omega) (by omega)) (h2.left (x := j) (by omega) (by omega))
  obtain ⟨Q, hQ⟩ := F_way (K := K) r1 r2
  have q3 := F_le h1 h2 (hP.cat hQ)
  omega
theorem F_0 {l i m j : Nat} (h1 : Rg T.1 l i) (h2 : Rg T.2 m j) (k1 : ∀ x, 0 ≤ K.1 x) (k2 : ∀ x, 0 ≤ K.2.1 x) (k3 : ∀ x y, 0 ≤ K.2.2 x y) : 0 ≤ dF K T l i m j := by
  obtain ⟨P, hP⟩ := F_way (K := K) h1 h2
  exact hP.cost k1 k2 k3
theorem F_most {M : Int} (k1 : ∀ x, K.1 x ≤ M) (k2 : ∀ x, K.2.1 x ≤ M) : ∀ (n l i m j : Nat), Rg T.1 l i → Rg T.2 m j → (i - l) + (j - m) = n → dF K T l i m j ≤ M * n := by
  intro n
  induction n with
  | zero =>
    intro l i m j h1 h2 h3
    have := h1.1
    have := h2.1
    have e1 : i = l := by omega
    have e2 : j = m := by omega
    subst e1 e2
    rw [F_nil]
    simp
  | succ n ih =>
    intro l i m j h1 h2 h3
    have g1 := h1.1
    have g2 := h2.1
    have e0 : M * ((n + 1 : Nat) : Int) = M * (n : Int) + M := by
      rw [Int.natCast_add, Int.mul_add]
      simp
    rw [e0]
    by_cases e1 : i = l
    · subst e1
      obtain ⟨j, rfl⟩ : ∃ q, j = q + 1 := ⟨j - 1, by omega⟩
      have := ih i i m j h1 (h2.sub (by omega)) (by omega)
      have := k2 j
      rw [F_ins0 h2 (by omega)]
      omega
    · obtain ⟨i, rfl⟩ : ∃ q, i = q + 1 := ⟨i - 1, by omega⟩
      have q1 := ih l i m j (h1.sub (by omega)) h2 (by omega)
      have q2 := k1 i
      obtain ⟨P, hP⟩ := F_way (K := K) (h1.sub (i := i) (by omega)) h2
      have q3 := F_le h1 h2 ((hP.congr (Q := fun x => if x = i then -9 else P x) (fun x a b => if_neg (by omega))).del (by omega) (if_pos rfl))
      omega
/-! the way with the greatest partners, the last nodes first -/
def LX (K : Prc) (T : Lft) (l i m j : Nat) (P : Nat → Int) : Prop := Der K T l i m j P (dF K T l i m j) ∧ ∀ Q, Der K T l i m j Q (dF K T l i m j) → ∀ x, l ≤ x → x < i → (∀ k, x < k → k < i → Q k = P k) → Q x ≤ P x
/-- what it costs if i and y are partners and all nodes behind y are inserted -/
noncomputable def viaOf (K : Prc) (T : Lft) (l i m j y : Nat) : Int := dF K T l (T.1 i) m (T.2 y) + (dF K T (T.1 i) i (T.2 y) y + K.2.2 i y) + sm K.2.1 (y + 1) (j - (y + 1))
theorem LX.congr {l i m j : Nat} {P P' : Nat → Int} (h : LX K T l i m j P) (e : ∀ x, l ≤ x → x < i → P' x = P x) : LX K T l i m j P' := by
  refine ⟨h.1.congr e, fun Q hQ x a b hk => ?_⟩
  rw [e x a b]
  exact h.2 Q hQ x a b (fun k c d => by rw [hk k c d, e k (by omega) d])
theorem LX_nil {l m j : Nat} {P : Nat → Int} (h2 : Rg T.2 m j) : LX K T l l m j P := by
  obtain ⟨Q, hQ⟩ := F_way (K := K) (T := T) (l := l) (i := l) ⟨Nat.le_refl _, fun x a b => by omega⟩ h2
  exact ⟨hQ.congr (fun x a b => by omega), fun Q hQ x a b => by omega⟩
theorem via_ge {l i m j y : Nat} (h1 : Rg T.1 l (i + 1)) (h2 : Rg T.2 m j) (hl : l ≤ i) (hy : m ≤ y) (hy2 : y < j) : dF K T l (i + 1) m j ≤ viaOf K T l i m j y := by
  have a1 := h1.at (x := i) (by omega) (by omega)
  have a2 := h2.at (x := y) hy hy2
  obtain ⟨P, hP⟩ := F_way (K := K) (h1.left (x := i) (by omega) (by omega)) (h2.left hy hy2)
  obtain ⟨Q, hQ⟩ := F_way (K := K) (h1.in (x := i) (by omega) (by omega)) (h2.in hy hy2)
  have d3 := Der.mat (P := fun x => if x = i then (y : Int) else if x < T.1 i then P x else Q x) (hP.congr (fun x a b => by rw [if_neg (by omega), if_pos b])) (hQ.congr (fun x a b => by rw [if_neg (by omega), if_neg (by omega)])) a1.1 a1.2 a2.1 a2.2 (if_pos rfl)
  have d4 := d3.more (j - (y + 1))
  rw [show y + 1 + (j - (y + 1)) = j by omega] at d4
  exact F_le h1 h2 d4
/-- an optimal way at its last node -/
theorem opt_top {l i m j : Nat} {Q : Nat → Int} (h1 : Rg T.1 l (i + 1)) (h2 : Rg T.2 m j) (hl : l ≤ i) (h : Der K T l (i + 1) m j Q (dF K T l (i + 1) m j)) : (Q i = -9 ∧ dF K T l (i + 1) m j = dF K T l i m j + K.1 i ∧ Der K T l i m j Q (dF K T l i m j)) ∨ (∃ y : Nat, Q i = (y : Int) ∧ m ≤ y ∧ y < j ∧ viaOf K T l i m j y = dF K T l (i + 1) m j ∧ Der K T l (T.1 i) m (T.2 y) Q (dF K T l (T.1 i) m (T.2 y)) ∧ Der K T (T.1 i) i (T.2 y) y Q (dF K T (T.1 i) i (T.2 y) y)) := by
  rcases h.top hl with ⟨a, b⟩ | ⟨y, a1, a2, a3, a4, a5, a6, c1, c2, a7, a8, a9⟩
  · have q1 := F_le (h1.sub hl) h2 b
    obtain ⟨P, hP⟩ := F_way (K := K) (h1.sub hl) h2
    have q3 := F_le h1 h2 ((hP.congr (Q := fun x => if x = i then -9 else P x) (fun x a b => if_neg (by omega))).del hl (if_pos rfl))
    refine Or.inl ⟨a, by omega, ?_⟩
    rw [show dF K T l i m j = dF K T l (i + 1) m j - K.1 i by omega]
    exact b
  · have hy : m ≤ y := by omega
    have q1 := F_le (h1.left (x := i) (by omega) (by omega)) (h2.left hy a2) a7
    have q2 := F_le (h1.in (x := i) (by omega) (by omega)) (h2.in hy a2) a8
    have q3 := via_ge (K := K) h1 h2 hl hy a2
    have q4 : viaOf K T l i m j y = dF K T l (T.1 i) m (T.2 y) + (dF K T (T.1 i) i (T.2 y) y + K.2.2 i y) + sm K.2.1 (y + 1) (j - (y + 1)) := rfl
    have e1 : c1 = dF K T l (T.1 i) m (T.2 y) := by omega
    have e2 : c2 = dF K T (T.1 i) i (T.2 y) y := by omega
    subst e1 e2
    exact Or.inr ⟨y, a1, hy, a2, by omega, a7, a8⟩
theorem LX_none {l i m j : Nat} {P : Nat → Int} (h1 : Rg T.1 l (i + 1)) (h2 : Rg T.2 m j) (hl : l ≤ i) (hno : ∀ y, m ≤ y → y < j → viaOf K T l i m j y ≠ dF K T l (i + 1) m j) (hp : P i = -9) (h : LX K T l i m j P) : LX K T l (i + 1) m j P := by
  obtain ⟨W, hW⟩ := F_way (K := K) h1 h2
  have e : dF K T l (i + 1) m j = dF K T l i m j + K.1 i := by
    rcases opt_top h1 h2 hl hW with ⟨_, b, _⟩ | ⟨y, _, a2, a3, a4, _⟩
    · exact b
    · exact absurd a4 (hno y a2 a3)
  refine ⟨by rw [e]; exact h.1.del hl hp, fun Q hQ x a b hk => ?_⟩
  rcases opt_top h1 h2 hl hQ with ⟨c1, _, c2⟩ | ⟨y, _, a2, a3, a4, _⟩
  · by_cases ex : x = i
    · subst ex
      omega
    · exact h.2 Q c2 x a (by omega) (fun k d1 d2 => hk k d1 (by omega))
  · exact absurd a4 (hno y a2 a3)
theorem LX_some {l i m j y : Nat} {P : Nat → Int} (h1 : Rg T.1 l (i + 1)) (h2 : Rg T.2 m j) (hl : l ≤ i) (hy : m ≤ y) (hy2 : y < j) (he : viaOf K T l i m j y = dF K T l (i + 1) m j) (hno : ∀ z, y < z → z < j → viaOf K T l i m j z ≠ dF K T l (i + 1) m j) (hp : P i = (y : Int)) (hL : LX K T l (T.1 i) m (T.2 y) P) (hR : LX K T (T.1 i) i (T.2 y) y P) : LX K T l (i + 1) m j P := by
  have a1 := h1.at (x := i) (by omega) (by omega)
  have a2 := h2.at (x := y) hy hy2
  refine ⟨?_, fun Q hQ x a b hk => ?_⟩
  · have d := (Der.mat hL.1 hR.1 a1.1 a1.2 a2.1 a2.2 hp).more (j - (y + 1))
    rw [show y + 1 + (j - (y + 1)) = j by omega] at d
    rw [← he]
    exact d
  · rcases opt_top h1 h2 hl hQ with ⟨c1, _, c2⟩ | ⟨z, b1, b2, b3, b4, b5, b6⟩
    · by_cases ex : x = i
      · subst ex
        omega
      · have := hk i (by omega) (by omega)
        omega
    · have hz : z ≤ y := by
        by_cases hz : z ≤ y
        · exact hz
        · exact absurd b4 (hno z (by omega) b3)
      by_cases ex : x = i
      · subst ex
        omega
      · have := hk i (by omega) (by omega)
        have ez : z = y := by omega
        subst ez
        by_cases ep : x < T.1 i
        · exact hL.2 Q b5 x a ep (fun k d1 d2 => hk k d1 (by omega))
        · exact hR.2 Q b6 x (by omega) (by omega) (fun k d1 d2 => hk k d1 (by omega))
end LEAST
