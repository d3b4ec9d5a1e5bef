/-! the class prints -/
def atL (L : List Int) (k : Nat) : Int := (L[k]?).getD 0
theorem atL_l {L M : List Int} {k : Nat} (h : k < L.length) : atL (L ++ M) k = atL L k := by
  unfold atL
  rw [List.getElem?_append_left h]
theorem atL_e {L : List Int} {e : Int} : atL (L ++ [e]) L.length = e := by
  unfold atL
  rw [List.getElem?_append_right (Nat.le_refl _), Nat.sub_self]
  rfl
def TxL (s : St) (a : Nat) (L : List Int) : Prop := s a 0 = L.length ∧ ∀ k, k < L.length → s (a + 1) k = atL L k
def FA (a : Nat) (s s' : St) : Prop := ∀ b, b ≠ a → b ≠ a + 1 → s' b = s b
theorem FA.rfl {a : Nat} {s : St} : FA a s s := fun _ _ _ => Eq.refl _
theorem FA.trans {a : Nat} {x y z : St} (h : FA a x y) (g : FA a y z) : FA a x z := fun b h1 h2 => (g b h1 h2).trans (h b h1 h2)
theorem p_put {s : St} {a : Nat} {L : List Int} (h : TxL s a L) (hl : L.length < 60) {c : Int} (h1 : 0 ≤ c) (h2 : c ≤ 127) : ∃ s', X5_append a c s = some (0, s') ∧ FA a s s' ∧ TxL s' a (L ++ [c]) := by
  have nb : nb8 c = c := by
    rw [nb8_eq, bm_256]
    split <;> omega
  refine ⟨up (up s (a + 1) L.length c) a 0 ((L.length : Int) + 1), ?_, fun b b1 b2 => by rw [up_b b1, up_b b2], ?_, fun k hk => ?_⟩
  · unfold X5_append
    have := h.1
    simp (disch := omega) only [cLt_t, cLt_f, cEq_t, cEq_f, rdR_ok, rd_ok, wr_ok, put_eq, jn_eq, cl_some, Int.toNat_natCast, this, nb, up_o]
  · rw [up_eq, List.length_append]
    rfl
  · rw [List.length_append] at hk
    simp only [List.length_cons, List.length_nil] at hk
    by_cases e : k = L.length
    · subst e
      rw [atL_e]
      simp (disch := omega) only [fil_o, up_o, fil_out, fil_in, up_i, up_eq]
    · rw [atL_l (by omega)]
      simp (disch := omega) only [fil_o, up_o, fil_out, fil_in, up_i, up_eq]
      exact h.2 k (by omega)
section PRINT
variable {d : Doc} {a b : Nat}
theorem lab_b {c : Int} (h : lab c) : 0 ≤ c ∧ c ≤ 127 := by omega
theorem opn_len : ∀ h, (opn d a b h).length ≤ 2 * h
  | 0 => by simp [opn]
  | h + 1 => by
    have := opn_len h
    rw [opn]
    split
    · rw [List.length_append]
      split
      · simp only [List.length_cons, List.length_nil]
        omega
      · simp only [List.length_nil]
        omega
    · simp only [List.length_nil]
      omega
theorem l_down (hF : Fst d) (hab : a + 1 < b) (ha : b + 2 < 50) {x : Nat} (hx : x < d.n) (hlx : d.l x = x) (k : St → Rs) (M : List Int) (hM : ∀ m, (M ++ (opn d x m d.n ++ [d.c x])).length ≤ 60) : ∀ (n y : Nat) (s : St) (L : List Int), x ≤ y + 1 → y < d.n → y + 1 < x + n → TreeAt s b d → TxL s a L → (x ≤ y → L ++ (opn d x (x + 1) (y + 1) ++ [d.c x]) = M) → (y + 1 = x → L = M) → M.length ≤ 60 → ∃ s', X5_printDownTo_7 a (x : Int) b k n (y : Int) s = k s' ∧ FA a s s' ∧ TxL s' a M := by
  sorry
end PRINT
