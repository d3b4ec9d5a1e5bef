/-! all but what is known of partners is shut -/
noncomputable def shK (K : Prc) (x0 n0 : Nat) (p : Nat → Int) : Prc :=
  (fun a => if x0 ≤ a ∧ p a ≠ -9 then 100000 else K.1 a,
   fun b => @ite _ (∃ k, x0 ≤ k ∧ k < n0 ∧ p k = (b : Int)) (Classical.propDecidable _) 100000 (K.2.1 b),
   fun a b => @ite _ ((x0 ≤ a ∧ p a ≠ (b : Int)) ∨ ∃ k, x0 ≤ k ∧ k < n0 ∧ k ≠ a ∧ p k = (b : Int)) (Classical.propDecidable _) 100000 (K.2.2 a b))
def Prc.ok (K : Prc) : Prop := (∀ x, 0 ≤ K.1 x ∧ K.1 x ≤ 100000) ∧ (∀ x, 0 ≤ K.2.1 x ∧ K.2.1 x ≤ 100000) ∧ ∀ x y, 0 ≤ K.2.2 x y ∧ K.2.2 x y ≤ 100000
section SHUT
variable {K : Prc} {T : Lft} {x0 n0 n1 : Nat} {p : Nat → Int}
theorem sh1_t {a : Nat} (h : x0 ≤ a ∧ p a ≠ -9) : (shK K x0 n0 p).1 a = 100000 := if_pos h
theorem sh1_f {a : Nat} (h : ¬(x0 ≤ a ∧ p a ≠ -9)) : (shK K x0 n0 p).1 a = K.1 a := if_neg h
theorem sh2_t {b : Nat} (h : ∃ k, x0 ≤ k ∧ k < n0 ∧ p k = (b : Int)) : (shK K x0 n0 p).2.1 b = 100000 := if_pos h
theorem sh2_f {b : Nat} (h : ¬∃ k, x0 ≤ k ∧ k < n0 ∧ p k = (b : Int)) : (shK K x0 n0 p).2.1 b = K.2.1 b := if_neg h
theorem sh3_t {a b : Nat} (h : (x0 ≤ a ∧ p a ≠ (b : Int)) ∨ ∃ k, x0 ≤ k ∧ k < n0 ∧ k ≠ a ∧ p k = (b : Int)) : (shK K x0 n0 p).2.2 a b = 100000 := if_pos h
theorem sh3_f {a b : Nat} (h : ¬((x0 ≤ a ∧ p a ≠ (b : Int)) ∨ ∃ k, x0 ≤ k ∧ k < n0 ∧ k ≠ a ∧ p k = (b : Int))) : (shK K x0 n0 p).2.2 a b = K.2.2 a b := if_neg h
theorem shK_ok (h : K.ok) : (shK K x0 n0 p).ok := by
  refine ⟨fun x => ?_, fun x => ?_, fun x y => ?_⟩
  · by_cases e : x0 ≤ x ∧ p x ≠ -9
    · rw [sh1_t e]; omega
    · rw [sh1_f e]; exact h.1 x
  · by_cases e : ∃ k, x0 ≤ k ∧ k < n0 ∧ p k = (x : Int)
    · rw [sh2_t e]; omega
    · rw [sh2_f e]; exact h.2.1 x
  · by_cases e : (x0 ≤ x ∧ p x ≠ (y : Int)) ∨ ∃ k, x0 ≤ k ∧ k < n0 ∧ k ≠ x ∧ p k = (y : Int)
    · rw [sh3_t e]; omega
    · rw [sh3_f e]; exact h.2.2 x y
theorem shut_out (hK : K.ok) {l i m j : Nat} {P : Nat → Int} {c : Int} (h : Der (shK K x0 n0 p) T l i m j P c) (hc : c < 100000) : Der K T l i m j P c ∧ ∀ x, l ≤ x → x < i → x0 ≤ x → P x = p x := by
  have ok := shK_ok (x0 := x0) (n0 := n0) (p := p) hK
  have nn : ∀ {l i m j : Nat} {c : Int}, Der (shK K x0 n0 p) T l i m j P c → 0 ≤ c := fun h => h.cost (fun x => (ok.1 x).1) (fun x => (ok.2.1 x).1) (fun x y => (ok.2.2 x y).1)
  refine Der.ind (M := fun l i m j c => c < 100000 → Der K T l i m j P c ∧ ∀ x, l ≤ x → x < i → x0 ≤ x → P x = p x) ?_ ?_ ?_ ?_ h hc
  · intro l m _; exact ⟨Der.nil, fun x a b => by omega⟩
  · intro l i m j c h1 h2 g hM hc
    have := nn g
    by_cases e : x0 ≤ i ∧ p i ≠ -9
    · rw [sh1_t e] at hc; omega
    · rw [sh1_f e] at hc ⊢
      have := hK.1 i
      obtain ⟨m1, m2⟩ := hM (by omega)
      refine ⟨m1.del h1 h2, fun x a b d => ?_⟩
      by_cases ex : x = i
      · subst ex; omega
      · exact m2 x a (by omega) d
  · intro l i m j c h1 g hM hc
    have := nn g
    by_cases e : ∃ k, x0 ≤ k ∧ k < n0 ∧ p k = (j : Int)
    · rw [sh2_t e] at hc; omega
    · rw [sh2_f e] at hc ⊢
      have := hK.2.1 j
      obtain ⟨m1, m2⟩ := hM (by omega)
      exact ⟨m1.ins h1, m2⟩
  · intro l i m j c c' h1 h2 h3 h4 h5 g g' hM hM' hc
    have := nn g
    have := nn g'
    by_cases e : (x0 ≤ i ∧ p i ≠ (j : Int)) ∨ ∃ k, x0 ≤ k ∧ k < n0 ∧ k ≠ i ∧ p k = (j : Int)
    · rw [sh3_t e] at hc; omega
    · rw [sh3_f e] at hc ⊢
      have := hK.2.2 i j
      obtain ⟨m1, m2⟩ := hM (by omega)
      obtain ⟨m3, m4⟩ := hM' (by omega)
      refine ⟨Der.mat m1 m3 h1 h2 h3 h4 h5, fun x a b d => ?_⟩
      by_cases ex : x = i
      · subst ex
        by_cases q : p x = (j : Int)
        · rw [h5, q]
        · exact absurd (Or.inl ⟨d, q⟩) e
      · by_cases ep : x < T.1 i
        · exact m2 x a ep d
        · exact m4 x (by omega) (by omega) d
theorem shut_in {l i m j : Nat} {P : Nat → Int} {c : Int} (h : Der K T l i m j P c) (hi : i ≤ n0) (ha : ∀ x, l ≤ x → x < i → x0 ≤ x → P x = p x) (hh : ∀ k, x0 ≤ k → k < n0 → (m : Int) ≤ p k → p k < j → l ≤ k ∧ k < i) : Der (shK K x0 n0 p) T l i m j P c := by
  refine Der.ind (M := fun l i m j c => i ≤ n0 → (∀ x, l ≤ x → x < i → x0 ≤ x → P x = p x) → (∀ k, x0 ≤ k → k < n0 → (m : Int) ≤ p k → p k < j → l ≤ k ∧ k < i) → Der (shK K x0 n0 p) T l i m j P c) ?_ ?_ ?_ ?_ h hi ha hh
  · intro l m _ _ _; exact Der.nil
  · intro l i m j c h1 h2 g hM hi ha hh
    have e : ¬(x0 ≤ i ∧ p i ≠ -9) := fun q => by
      have := ha i h1 (by omega) q.1
      omega
    have d := (hM (by omega) (fun x a b => ha x a (by omega)) (fun k a b c1 c2 => by
      have := hh k a b c1 c2
      by_cases ek : k = i
      · subst ek
        have := ha k h1 (by omega) a
        omega
      · omega)).del h1 h2
    rw [sh1_f e] at d
    exact d
  · intro l i m j c h1 g hM hi ha hh
    have e : ¬∃ k, x0 ≤ k ∧ k < n0 ∧ p k = (j : Int) := fun ⟨k, a, b, q⟩ => by
      have r := hh k a b (by omega) (by omega)
      have := ha k r.1 r.2 a
      have := g.range k r.1 r.2
      omega
    have d := (hM hi ha (fun k a b c1 c2 => hh k a b c1 (by omega))).ins h1
    rw [sh2_f e] at d
    exact d
  · intro l i m j c c' h1 h2 h3 h4 h5 g g' hM hM' hi ha hh
    have e : ¬((x0 ≤ i ∧ p i ≠ (j : Int)) ∨ ∃ k, x0 ≤ k ∧ k < n0 ∧ k ≠ i ∧ p k = (j : Int)) := by
      rintro (q | ⟨k, a, b, q1, q2⟩)
      · have := ha i (by omega) (by omega) q.1
        omega
      · have r := hh k a b (by omega) (by omega)
        have := ha k r.1 r.2 a
        by_cases ek : k < T.1 i
        · have := g.range k r.1 ek
          omega
        · have := g'.range k (by omega) (by omega)
          omega
    have d := Der.mat (hM (by omega) (fun x a b => ha x a (by omega)) (fun k a b c1 c2 => by
      have r := hh k a b c1 (by omega)
      by_cases ek : k < T.1 i
      · omega
      · have := ha k r.1 r.2 a
        by_cases ei : k = i
        · subst ei; omega
        · have := g'.range k (by omega) (by omega)
          omega)) (hM' (by omega) (fun x a b => ha x (by omega) (by omega)) (fun k a b c1 c2 => by
      have r := hh k a b (by omega) (by omega)
      have := ha k r.1 r.2 a
      by_cases ei : k = i
      · subst ei; omega
      · by_cases ek : k < T.1 i
        · have := g.range k r.1 ek
          omega
        · omega)) h1 h2 h3 h4 h5
    rw [sh3_f e] at d
    exact d
/-- no two have one partner -/
theorem Der.inj {l i m j : Nat} {P : Nat → Int} {c : Int} (h : Der K T l i m j P c) : ∀ x y, l ≤ x → x < i → l ≤ y → y < i → P x ≠ -9 → P x = P y → x = y := by
  refine Der.ind (M := fun l i m j _ => ∀ x y, l ≤ x → x < i → l ≤ y → y < i → P x ≠ -9 → P x = P y → x = y) ?_ ?_ ?_ ?_ h
  · intro l m x y _ _ _ _ _ _; omega
  · intro l i m j c h1 h2 g hM x y a b c1 d e f
    by_cases ex : x = i
    · subst ex; omega
    · by_cases ey : y = i
      · subst ey; omega
      · exact hM x y a (by omega) c1 (by omega) e f
  · intro l i m j c h1 g hM
    exact hM
  · intro l i m j c c' h1 h2 h3 h4 h5 g g' hM hM' x y a b c1 d e f
    have rx : x = i ∨ (x < T.1 i ∧ P x < (T.2 j : Int)) ∨ (T.1 i ≤ x ∧ x < i ∧ (T.2 j : Int) ≤ P x ∧ P x < j) := by
      by_cases ex : x = i
      · exact Or.inl ex
      · by_cases ek : x < T.1 i
        · have := g.range x a ek
          omega
        · have := g'.range x (by omega) (by omega)
          omega
    have ry : y = i ∨ (y < T.1 i ∧ P y < (T.2 j : Int)) ∨ (T.1 i ≤ y ∧ y < i ∧ (T.2 j : Int) ≤ P y ∧ P y < j) := by
      by_cases ex : y = i
      · exact Or.inl ex
      · by_cases ek : y < T.1 i
        · have := g.range y c1 ek
          omega
        · have := g'.range y (by omega) (by omega)
          omega
    rcases rx with ex | ⟨ex, ex2⟩ | ⟨ex, ex2, ex3, ex4⟩
    · subst ex
      rcases ry with ey | ⟨ey, ey2⟩ | ⟨ey, ey2, ey3, ey4⟩ <;> omega
    · rcases ry with ey | ⟨ey, ey2⟩ | ⟨ey, ey2, ey3, ey4⟩
      · subst ey; omega
      · exact hM x y a ex c1 ey e f
      · omega
    · rcases ry with ey | ⟨ey, ey2⟩ | ⟨ey, ey2, ey3, ey4⟩
      · subst ey; omega
      · omega
      · exact hM' x y ex ex2 ey ey2 e f
/-- a partner of x is tried: the least cost with all else shut is the least cost at all just if there is such a way -/
theorem trial (hK : K.ok) (h1 : Rg T.1 0 n0) (h2 : Rg T.2 0 n1) (hp : ∀ k, x0 ≤ k → k < n0 → p k < n1) (hl : dF K T 0 n0 0 n1 < 100000) : dF (shK K x0 n0 p) T 0 n0 0 n1 = dF K T 0 n0 0 n1 ↔ ∃ P, Der K T 0 n0 0 n1 P (dF K T 0 n0 0 n1) ∧ ∀ k, x0 ≤ k → k < n0 → P k = p k := by
  constructor
  · intro e
    obtain ⟨P, hP⟩ := F_way (K := shK K x0 n0 p) h1 h2
    rw [e] at hP
    have := shut_out hK hP hl
    exact ⟨P, this.1, fun k a b => this.2 k (by omega) b a⟩
  · rintro ⟨P, hP, ha⟩
    have d := shut_in (x0 := x0) (n0 := n0) (p := p) hP (by omega) (fun x _ b c => ha x c b) (fun k a b _ _ => ⟨by omega, b⟩)
    have q1 := F_le h1 h2 d
    obtain ⟨Q, hQ⟩ := F_way (K := shK K x0 n0 p) h1 h2
    have := shut_out hK hQ (by omega)
    have := F_le h1 h2 this.1
    omega
end SHUT
