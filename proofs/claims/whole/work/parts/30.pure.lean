/-! the pure part: words of values under their conditions -/
theorem cLt_if {x y : Int} {e f : Rs} (h1 : -2147483648 ≤ x) (h2 : x ≤ 2147483647) (h3 : -2147483648 ≤ y) (h4 : y ≤ 2147483647) : cLt x y e f = if x < y then e else f := by
  unfold cLt
  rw [if_pos ⟨⟨h1, by omega⟩, ⟨h3, by omega⟩⟩]
theorem cEq_if {x y : Int} {e f : Rs} (h1 : -2147483648 ≤ x) (h2 : x ≤ 2147483647) (h3 : -2147483648 ≤ y) (h4 : y ≤ 2147483647) : cEq x y e f = if x = y then e else f := by
  unfold cEq
  rw [if_pos ⟨⟨h1, by omega⟩, ⟨h3, by omega⟩⟩]
theorem cLt_t {x y : Int} {e f : Rs} (h1 : -2147483648 ≤ x) (h4 : y ≤ 2147483647) (h : x < y) : cLt x y e f = e := by
  rw [cLt_if h1 (by omega) (by omega) h4, if_pos h]
theorem cLt_f {x y : Int} {e f : Rs} (h3 : -2147483648 ≤ y) (h2 : x ≤ 2147483647) (h : y ≤ x) : cLt x y e f = f := by
  rw [cLt_if (by omega) h2 h3 (by omega), if_neg (by omega)]
theorem cEq_t {x y : Int} {e f : Rs} (h1 : -2147483648 ≤ x) (h4 : y ≤ 2147483647) (h : x = y) : cEq x y e f = e := by
  rw [cEq_if h1 (by omega) (by omega) h4, if_pos h]
theorem cEq_f {x y : Int} {e f : Rs} (h1 : -2147483648 ≤ x) (h2 : x ≤ 2147483647) (h3 : -2147483648 ≤ y) (h4 : y ≤ 2147483647) (h : x ≠ y) : cEq x y e f = f := by
  rw [cEq_if h1 h2 h3 h4, if_neg h]
theorem rd_ok {s : St} {a n : Nat} {i : Int} {k : Int → Rs} (h0 : 0 ≤ i) (h1 : i < n) : rd s a n i k = k (s a i.toNat) := by
  unfold rd
  rw [if_pos ⟨h0, h1⟩]
theorem rdR_ok {n : Nat} {i : Int} {k : Nat → Rs} (h0 : 0 ≤ i) (h1 : i < n) : rdR n i k = k i.toNat := by
  unfold rdR
  rw [if_pos ⟨h0, h1⟩]
theorem wr_ok {s : St} {a n : Nat} {i v : Int} {k : St → Rs} (h0 : 0 ≤ i) (h1 : i < n) : wr s a n i v k = k (up s a i.toNat v) := by
  unfold wr
  rw [if_pos ⟨h0, h1⟩]
theorem cl_some {v : Int} {s : St} {k : Int → St → Rs} : cl (some (v, s)) k = k v s := Eq.trans rfl rfl
theorem put_eq {s : St} {a i : Nat} {v : Int} {g : St → Rs} : put s a i v g = g (up s a i v) := Eq.trans rfl rfl
theorem jn_eq {α : Type} {k : α} {b : α → Rs} : jn k b = b k := Eq.trans rfl rfl
theorem gR_ok {x : Int} {e : Rs} (h1 : -2147483648 ≤ x) (h2 : x ≤ 2147483647) : gR x e = e := by
  unfold gR
  rw [if_pos ⟨h1, by omega⟩]
theorem gB_ok {x : Int} {e : Rs} (h : x = 0 ∨ x = 1) : gB x e = e := by
  unfold gB
  rw [if_pos h]
theorem up_eq {s : St} {a i : Nat} {v : Int} : up s a i v a i = v := by simp [up]
theorem up_at {s : St} {a i : Nat} {v : Int} (b j : Nat) : up s a i v b j = if b = a ∧ j = i then v else s b j := rfl
theorem up_o {s : St} {a i : Nat} {v : Int} {b j : Nat} (h : b ≠ a) : up s a i v b j = s b j := by simp [up, h]
theorem up_i {s : St} {a i : Nat} {v : Int} {b j : Nat} (h : j ≠ i) : up s a i v b j = s b j := by simp [up, h]
/-- places lo to hi of a cell hold v -/
def fil (s : St) (a lo hi : Nat) (v : Int) : St := fun b j => if b = a ∧ lo ≤ j ∧ j < hi then v else s b j
theorem fil_up {s : St} {a lo hi : Nat} {v : Int} (h : lo < hi) : fil (up s a lo v) a (lo + 1) hi v = fil s a lo hi v := by
  funext b j
  unfold fil up
  by_cases hb : b = a
  · subst hb
    by_cases hj : j = lo
    · subst hj; simp [h]
    · by_cases h2 : lo + 1 ≤ j ∧ j < hi
      · rw [if_pos ⟨rfl, h2⟩, if_pos ⟨rfl, by omega, h2.2⟩]
      · rw [if_neg (fun q => h2 q.2), if_neg (fun q => hj q.2), if_neg (fun q => h2 ⟨by omega, q.2.2⟩)]
  · simp [hb]
theorem fil_nil {s : St} {a lo : Nat} {v : Int} : fil s a lo lo v = s := by
  funext b j
  unfold fil
  rw [if_neg (by omega)]
theorem fil_o {s : St} {a lo hi : Nat} {v : Int} {b j : Nat} (h : b ≠ a) : fil s a lo hi v b j = s b j := by simp [fil, h]
theorem fil_in {s : St} {a lo hi : Nat} {v : Int} {j : Nat} (h : lo ≤ j) (h2 : j < hi) : fil s a lo hi v a j = v := by simp [fil, h, h2]
theorem fil_out {s : St} {a lo hi : Nat} {v : Int} {j : Nat} (h : j < lo ∨ hi ≤ j) : fil s a lo hi v a j = s a j := by
  unfold fil
  rw [if_neg (by omega)]
/-! the small ones -/
theorem p_noRow (i : Int) (hi : inR i) (s : St) : X8_noRow i s = some (if 0 ≤ i ∧ i < 6 then 0 else 1, s) := by
  unfold X8_noRow
  simp (disch := omega) only [cLt_if]
  repeat' split
  all_goals first | rfl | omega
theorem p_found {f : Int} (h0 : 0 ≤ f) (h1 : f < 6) (s : St) : X8_found f s = some (-3, up (up s 0 9 f) 1 f.toNat (s 1 f.toNat + 1)) := by
  unfold X8_found
  simp (disch := omega) only [put_eq, rd_ok, wr_ok, up_o (a := 0) (b := 1), ne_eq, not_false_eq_true]
theorem p_tell (v : Int) (s : St) : X8_tell v s = some (1, up s 0 10 v) := rfl
theorem q_in (v l h : Int) (hv : inR v) (hl : inR l) (hh : inR h) (s : St) : X9_in v l h s = some (if l ≤ v ∧ v ≤ h then 1 else 0, s) := by
  unfold X9_in
  simp (disch := omega) only [cLt_if]
  repeat' split
  all_goals first | rfl | omega
theorem q_isRow (i : Int) (hi : inR i) (s : St) : X9_isRow i s = some (if 0 ≤ i ∧ i < 6 then 1 else 0, s) := by
  unfold X9_isRow
  rw [q_in _ _ _ hi ⟨by omega, by omega⟩ ⟨by omega, by omega⟩]
  simp only [cl_some]
  repeat' split
  all_goals first | rfl | omega
