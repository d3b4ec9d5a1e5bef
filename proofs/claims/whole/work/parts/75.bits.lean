/-! sets of nodes as bits -/
theorem bit_has : ∀ a : Fin 64, ∀ b : Fin 64, ∀ k : Fin 12, oAnd (oShr (((64 * a.val + b.val : Nat)) : Int) (k.val : Int)) 1 = if (64 * a.val + b.val).testBit k.val = true then 1 else 0 := by decide +kernel
theorem bit_or : ∀ a : Fin 64, ∀ b : Fin 64, ∀ k : Fin 12, oOr (((64 * a.val + b.val : Nat)) : Int) (oShl 1 (k.val : Int)) = (((64 * a.val + b.val) ||| 2 ^ k.val : Nat) : Int) := by decide +kernel
theorem bit_and : ∀ a : Fin 64, ∀ b : Fin 64, ∀ k : Fin 12, oAnd (((64 * a.val + b.val : Nat)) : Int) (oXor (oShl 1 (k.val : Int)) (-1)) = (((64 * a.val + b.val) &&& (4095 - 2 ^ k.val) : Nat) : Int) := by decide +kernel
theorem bit_or0 : ∀ a : Fin 64, ∀ b : Fin 64, oOr (((64 * a.val + b.val : Nat)) : Int) 0 = (((64 * a.val + b.val : Nat)) : Int) := by decide +kernel
theorem bit_one : ∀ k : Fin 13, oShl 1 (k.val : Int) - 1 = ((2 ^ k.val - 1 : Nat) : Int) := by decide +kernel
theorem bit_not : ∀ k : Fin 12, ∀ i : Fin 12, (4095 - 2 ^ k.val).testBit i.val = !decide (i.val = k.val) := by decide +kernel
theorem bt_has {m k : Nat} (hm : m < 4096) (hk : k < 12) : oAnd (oShr (m : Int) (k : Int)) 1 = if m.testBit k = true then 1 else 0 := by
  have := bit_has ⟨m / 64, by omega⟩ ⟨m % 64, by omega⟩ ⟨k, hk⟩
  simp only [show 64 * (m / 64) + m % 64 = m by omega] at this
  exact this
theorem bt_or {m k : Nat} (hm : m < 4096) (hk : k < 12) : oOr (m : Int) (oShl 1 (k : Int)) = ((m ||| 2 ^ k : Nat) : Int) := by
  have := bit_or ⟨m / 64, by omega⟩ ⟨m % 64, by omega⟩ ⟨k, hk⟩
  simp only [show 64 * (m / 64) + m % 64 = m by omega] at this
  exact this
theorem bt_and {m k : Nat} (hm : m < 4096) (hk : k < 12) : oAnd (m : Int) (oXor (oShl 1 (k : Int)) (-1)) = ((m &&& (4095 - 2 ^ k) : Nat) : Int) := by
  have := bit_and ⟨m / 64, by omega⟩ ⟨m % 64, by omega⟩ ⟨k, hk⟩
  simp only [show 64 * (m / 64) + m % 64 = m by omega] at this
  exact this
theorem bt_or0 {m : Nat} (hm : m < 4096) : oOr (m : Int) 0 = (m : Int) := by
  have := bit_or0 ⟨m / 64, by omega⟩ ⟨m % 64, by omega⟩
  simp only [show 64 * (m / 64) + m % 64 = m by omega] at this
  exact this
theorem bt_one {k : Nat} (hk : k ≤ 12) : oShl 1 (k : Int) - 1 = ((2 ^ k - 1 : Nat) : Int) := bit_one ⟨k, by omega⟩
theorem pw_lt {k : Nat} (hk : k < 12) : 2 ^ k < 4096 := by
  have : 2 ^ k < 2 ^ 12 := Nat.pow_lt_pow_right (by omega) hk
  exact this
theorem or_lt {m k : Nat} (hm : m < 4096) (hk : k < 12) : m ||| 2 ^ k < 4096 := Nat.or_lt_two_pow (n := 12) hm (pw_lt hk)
theorem and_lt {m k : Nat} (hm : m < 4096) : m &&& (4095 - 2 ^ k) < 4096 := Nat.lt_of_le_of_lt Nat.and_le_left hm
theorem tb_or {m k i : Nat} : (m ||| 2 ^ k).testBit i = (m.testBit i || decide (k = i)) := by
  rw [Nat.testBit_or, Nat.testBit_two_pow]
theorem tb_and {m k i : Nat} (hk : k < 12) (hi : i < 12) : (m &&& (4095 - 2 ^ k)).testBit i = (m.testBit i && !decide (i = k)) := by
  rw [Nat.testBit_and, bit_not ⟨k, hk⟩ ⟨i, hi⟩]
theorem tb_one {n i : Nat} : (2 ^ n - 1).testBit i = decide (i < n) := Nat.testBit_two_pow_sub_one n i
theorem one_lt {n : Nat} (hn : n ≤ 12) : 2 ^ n - 1 < 4096 := by
  have : 2 ^ n ≤ 2 ^ 12 := Nat.pow_le_pow_right (by omega) hn
  have e : (2 : Nat) ^ 12 = 4096 := by decide
  have : 0 < 2 ^ n := Nat.pow_pos (by omega)
  omega
theorem q_has {m k : Nat} (hm : m < 4096) (hk : k < 12) (s : St) : X9_has (m : Int) (k : Int) s = some (if m.testBit k = true then 1 else 0, s) := by
  unfold X9_has
  rw [bt_has hm hk]
  by_cases h : m.testBit k = true
  · rw [if_pos h]
    simp (disch := omega) only [cLt_t, cLt_f, cEq_t, cEq_f, rdR_ok, rd_ok, wr_ok, put_eq, jn_eq, cl_some, Int.toNat_natCast]
  · rw [if_neg h]
    simp (disch := omega) only [cLt_t, cLt_f, cEq_t, cEq_f, rdR_ok, rd_ok, wr_ok, put_eq, jn_eq, cl_some, Int.toNat_natCast]
