theorem w32_in {x : Int} (h : inR x) : w32 x = x := iI_in h
theorem w32_r (x : Int) : -2147483648 ≤ w32 x ∧ w32 x ≤ 2147483647 := by
  have h1 := Int32.le_toInt (iI x)
  have h2 := Int32.toInt_lt (iI x)
  unfold w32
  omega
theorem cpy_at {s : St} {a sp b dp n : Nat} (c j : Nat) : cpy s a sp b dp n c j = if c = b ∧ dp ≤ j ∧ j < dp + n then s a (sp + (j - dp)) else s c j := rfl
theorem cpy_0 {s : St} {a sp b dp : Nat} : cpy s a sp b dp 0 = s := by
  funext c j
  rw [cpy_at, if_neg (by omega)]
theorem cpy_up {s : St} {a sp b dp m : Nat} : up (cpy s a sp b dp m) b (dp + m) (s a (sp + m)) = cpy s a sp b dp (m + 1) := by
  funext c j
  rw [up_at, cpy_at, cpy_at]
  by_cases hc : c = b
  · subst hc
    by_cases hj : j = dp + m
    · subst hj
      rw [if_pos ⟨rfl, rfl⟩, if_pos ⟨rfl, by omega, by omega⟩, show sp + (dp + m - dp) = sp + m by omega]
    · by_cases h : dp ≤ j ∧ j < dp + m
      · rw [if_neg (fun q => hj q.2), if_pos ⟨rfl, h⟩, if_pos ⟨rfl, h.1, by omega⟩]
      · rw [if_neg (fun q => hj q.2), if_neg (fun q => h q.2), if_neg (by omega)]
  · rw [if_neg (fun q => hc q.1), if_neg (fun q => hc q.1), if_neg (fun q => hc q.1)]
theorem cpy_dn {s : St} {a sp b dp m : Nat} : up (cpy s a (sp + 1) b (dp + 1) m) b dp (s a sp) = cpy s a sp b dp (m + 1) := by
  funext c j
  rw [up_at, cpy_at, cpy_at]
  by_cases hc : c = b
  · subst hc
    by_cases hj : j = dp
    · subst hj
      rw [if_pos ⟨rfl, rfl⟩, if_pos ⟨rfl, by omega, by omega⟩, show sp + (j - j) = sp by omega]
    · by_cases h : dp + 1 ≤ j ∧ j < dp + 1 + m
      · rw [if_neg (fun q => hj q.2), if_pos ⟨rfl, h⟩, if_pos ⟨rfl, by omega, by omega⟩, show sp + 1 + (j - (dp + 1)) = sp + (j - dp) by omega]
      · rw [if_neg (fun q => hj q.2), if_neg (fun q => h q.2), if_neg (by omega)]
  · rw [if_neg (fun q => hc q.1), if_neg (fun q => hc q.1), if_neg (fun q => hc q.1)]
theorem p_lacks {s : St} {a : Nat} {i n : Int} (hi : inR i) (hn : inR n) (h1 : -1 ≤ s a 0) (h2 : s a 0 ≤ 40) : X2_lacks a i n s = some (if i < 0 ∨ s a 0 < i + n then 1 else 0, s) := by
  unfold X2_lacks
  rw [w32_in hi, w32_in hn, w32_in ⟨by omega, by omega⟩]
  by_cases h : i < 0
  · simp (disch := omega) only [cLt_t, cLt_f, cEq_t, cEq_f, rdR_ok, rd_ok, wr_ok, put_eq, jn_eq, cl_some, Int.toNat_natCast]
    rw [if_pos (Or.inl h)]
  · simp (disch := omega) only [cLt_t, cLt_f, cEq_t, cEq_f, rdR_ok, rd_ok, wr_ok, put_eq, jn_eq, cl_some, Int.toNat_natCast]
    unfold lcm
    rw [if_pos ⟨⟨by omega, by omega⟩, ⟨by omega, by omega⟩⟩]
    by_cases h3 : s a 0 < i + n
    · rw [if_pos h3, if_pos (Or.inr h3)]
      simp (disch := omega) only [cLt_t, cLt_f, cEq_t, cEq_f, rdR_ok, rd_ok, wr_ok, put_eq, jn_eq, cl_some, Int.toNat_natCast]
    · rw [if_neg h3, show (if i < 0 ∨ s a 0 < i + n then (1 : Int) else 0) = 0 from if_neg (by omega)]
      split
      · simp (disch := omega) only [cLt_t, cLt_f, cEq_t, cEq_f, rdR_ok, rd_ok, wr_ok, put_eq, jn_eq, cl_some, Int.toNat_natCast]
      · simp (disch := omega) only [cLt_t, cLt_f, cEq_t, cEq_f, rdR_ok, rd_ok, wr_ok, put_eq, jn_eq, cl_some, Int.toNat_natCast]
theorem l_copyA {t0 : St} {r i q j n : Nat} (hr : r < 6) (hq : q < 6) (hi : i + n ≤ 40) (hj : j + n ≤ 40) (hd : 40 * q + j ≤ 40 * r + i ∨ 40 * r + i + n ≤ 40 * q + j ∨ 40 * q + j + n ≤ 40 * r + i) (k : St → Rs) : ∀ (f m : Nat), m ≤ n → n < m + f → X9_copy_116 (r : Int) (i : Int) (q : Int) (j : Int) (n : Int) 0 k f (m : Int) (cpy t0 2 (40 * r + i) 2 (40 * q + j) m) = k (cpy t0 2 (40 * r + i) 2 (40 * q + j) n) := by
  intro f
  induction f with
  | zero => intro m h1 h2; omega
  | succ f ih =>
    intro m h1 h2
    rw [X9_copy_116]
    by_cases h : m = n
    · subst h
      simp (disch := omega) only [cLt_t, cLt_f, cEq_t, cEq_f, rdR_ok, rd_ok, wr_ok, put_eq, jn_eq, cl_some, Int.toNat_natCast]
    · have h3 := ih (m + 1) (by omega) (by omega)
      simp (disch := omega) only [cLt_t, cLt_f, cEq_t, cEq_f, rdR_ok, rd_ok, wr_ok, put_eq, jn_eq, cl_some, Int.toNat_natCast]
      rw [show (40 * (r : Int) + (i : Int) + (m : Int)).toNat = 40 * r + i + m by omega, show (40 * (q : Int) + (j : Int) + (m : Int)).toNat = 40 * q + j + m by omega]
      rw [cpy_at 2 (40 * r + i + m), if_neg (by omega), cpy_up, show ((m : Int) + 1) = ((m + 1 : Nat) : Int) by omega]
      exact h3
theorem l_copyD {t0 : St} {r i q j n : Nat} (hr : r < 6) (hq : q < 6) (hi : i + n ≤ 40) (hj : j + n ≤ 40) (hd : 40 * r + i ≤ 40 * q + j ∨ 40 * r + i + n ≤ 40 * q + j ∨ 40 * q + j + n ≤ 40 * r + i) (k : St → Rs) : ∀ (f m : Nat), m ≤ n → n < m + f → X9_copy_116 (r : Int) (i : Int) (q : Int) (j : Int) (n : Int) 1 k f (m : Int) (cpy t0 2 (40 * r + i + (n - m)) 2 (40 * q + j + (n - m)) m) = k (cpy t0 2 (40 * r + i) 2 (40 * q + j) n) := by
  intro f
  induction f with
  | zero => intro m h1 h2; omega
  | succ f ih =>
    intro m h1 h2
    rw [X9_copy_116]
    by_cases h : m = n
    · subst h
      simp (disch := omega) only [cLt_t, cLt_f, cEq_t, cEq_f, rdR_ok, rd_ok, wr_ok, put_eq, jn_eq, cl_some, Int.toNat_natCast]
      rw [show m - m = 0 by omega, Nat.add_zero, Nat.add_zero]
    · have h3 := ih (m + 1) (by omega) (by omega)
      simp (disch := omega) only [cLt_t, cLt_f, cEq_t, cEq_f, rdR_ok, rd_ok, wr_ok, put_eq, jn_eq, cl_some, Int.toNat_natCast]
      have e1 : (40 * (r : Int) + (i : Int) + ((n : Int) - 1 - (m : Int))).toNat = 40 * r + i + (n - (m + 1)) := by omega
      have e2 : (40 * (q : Int) + (j : Int) + ((n : Int) - 1 - (m : Int))).toNat = 40 * q + j + (n - (m + 1)) := by omega
      rw [e1, e2, cpy_at 2 (40 * r + i + (n - (m + 1))), if_neg (by omega)]
      rw [show 40 * r + i + (n - m) = 40 * r + i + (n - (m + 1)) + 1 by omega, show 40 * q + j + (n - m) = 40 * q + j + (n - (m + 1)) + 1 by omega, cpy_dn, show ((m : Int) + 1) = ((m + 1 : Nat) : Int) by omega]
      exact h3
section COPY
variable {RS : St → St → Prop}
theorem inv_copy (hc : CongS RS) {s t : St} (h : InvG RS s t) {r i q j n : Nat} (hr : r < 6) (hq : q < 6) (hi : (i : Int) + n ≤ t 1 r) (hj : (j : Int) + n ≤ t 1 q) : InvG RS (cpy s (10 + 2 * r + 1) i (10 + 2 * q + 1) j n) (cpy t 2 (40 * r + i) 2 (40 * q + j) n) := by
  obtain ⟨h1, h2, h3, h4⟩ := h
  have hro := h1 r hr
  have hqo := h1 q hq
  have cs : ∀ b, b ≠ 10 + 2 * q + 1 → cpy s (10 + 2 * r + 1) i (10 + 2 * q + 1) j n b = s b := fun b hb => cpy_ne hb
  have ct : ∀ b, b ≠ 2 → cpy t 2 (40 * r + i) 2 (40 * q + j) n b = t b := fun b hb => cpy_ne hb
  refine ⟨fun x hx => ?_, fun k hk => ?_, ?_, ?_⟩
  · have := h1 x hx
    rw [cs _ (by omega), ct 1 (by decide)]
    refine ⟨this.1, this.2.1, this.2.2.1, fun y hy => ?_⟩
    rw [cpy_at, cpy_at]
    by_cases e : x = q ∧ j ≤ y ∧ y < j + n
    · obtain ⟨rfl, e1, e2⟩ := e
      rw [if_pos ⟨rfl, e1, e2⟩, if_pos ⟨rfl, by omega, by omega⟩, show 40 * r + i + (40 * x + y - (40 * x + j)) = 40 * r + (i + (y - j)) by omega]
      exact hro.2.2.2 (i + (y - j)) (by omega)
    · rw [if_neg (by omega), if_neg (by omega)]
      exact this.2.2.2 y hy
  · have := h2 k hk
    rw [cs _ (by omega), ct 3 (by decide), cs _ (by omega), ct 4 (by decide)]
    exact this
  · unfold RFnd
    rw [cs 0 (by omega), cs 1 (by omega), ct 0 (by decide), ct 9 (by decide)]
    exact h3
  · exact hc s _ t _ (fun b hb => cs b (by omega)) (fun b hb => ct b (by omega)) (by rw [ct 0 (by decide)]) h4
theorem sim_copy (hc : CongS RS) : ∀ s t : St, InvG RS s t → ∀ a1 : Int, inR a1 → ∀ a2 : Int, inR a2 → ∀ a3 : Int, inR a3 → ∀ a4 : Int, inR a4 → ∀ a5 : Int, inR a5 → Ok2 (InvG RS) (X8_copy a1 a2 a3 a4 a5 s) (X9_copy a1 a2 a3 a4 a5 t) := by
  intro s t hI a1 r1 a2 r2 a3 r3 a4 r4 a5 r5
  unfold X8_copy X9_copy
  rw [p_noRow a1 r1, q_isRow a1 r1]
  by_cases h : 0 ≤ a1 ∧ a1 < 6
  · rw [if_pos h, if_pos h]
    simp (disch := omega) only [cLt_t, cLt_f, cEq_t, cEq_f, rdR_ok, rd_ok, wr_ok, put_eq, jn_eq, cl_some, Int.toNat_natCast]
    rw [p_noRow a3 r3, q_isRow a3 r3]
    by_cases h' : 0 ≤ a3 ∧ a3 < 6
    · rw [if_pos h', if_pos h']
      by_cases hn : a5 < 0
      · simp (disch := omega) only [cLt_t, cLt_f, cEq_t, cEq_f, rdR_ok, rd_ok, wr_ok, put_eq, jn_eq, cl_some, Int.toNat_natCast]
        exact (ok_found hc hI 5 (by decide)).cl
      · obtain ⟨r, rfl⟩ : ∃ r : Nat, a1 = r := ⟨a1.toNat, by omega⟩
        obtain ⟨q, rfl⟩ : ∃ q : Nat, a3 = q := ⟨a3.toNat, by omega⟩
        obtain ⟨n, rfl⟩ : ∃ n : Nat, a5 = n := ⟨a5.toNat, by omega⟩
        have hr := hI.1 r (by omega)
        have hq := hI.1 q (by omega)
        simp (disch := omega) only [cLt_t, cLt_f, cEq_t, cEq_f, rdR_ok, rd_ok, wr_ok, put_eq, jn_eq, cl_some, Int.toNat_natCast]
        rw [hr.1, hq.1]
        by_cases hn1 : t 1 r < 0
        · simp (disch := omega) only [cLt_t, cLt_f, cEq_t, cEq_f, rdR_ok, rd_ok, wr_ok, put_eq, jn_eq, cl_some, Int.toNat_natCast]
          exact (ok_found hc hI 1 (by decide)).cl
        · by_cases hn2 : t 1 q < 0
          · simp (disch := omega) only [cLt_t, cLt_f, cEq_t, cEq_f, rdR_ok, rd_ok, wr_ok, put_eq, jn_eq, cl_some, Int.toNat_natCast]
            exact (ok_found hc hI 1 (by decide)).cl
          · simp (disch := omega) only [cLt_t, cLt_f, cEq_t, cEq_f, rdR_ok, rd_ok, wr_ok, put_eq, jn_eq, cl_some, Int.toNat_natCast]
            rw [p_lacks r2 r5 (by rw [hr.1]; omega) (by rw [hr.1]; omega), hr.1]
            by_cases l1 : a2 < 0 ∨ t 1 r < a2 + n
            · rw [if_pos l1]
              simp (disch := omega) only [cLt_t, cLt_f, cEq_t, cEq_f, rdR_ok, rd_ok, wr_ok, put_eq, jn_eq, cl_some, Int.toNat_natCast]
              have hm : Ok2 (InvG RS) (cl (X8_found 2 s) (fun v s => some (v, s))) (cl (X9_found 2 t) (fun v s => some (v, s))) := (ok_found hc hI 2 (by decide)).cl
              by_cases c1 : a2 < 0
              · simp (disch := omega) only [cLt_t, cLt_f, cEq_t, cEq_f, rdR_ok, rd_ok, wr_ok, put_eq, jn_eq, cl_some, Int.toNat_natCast]
                exact hm
              · by_cases c2 : a4 < 0
                · simp (disch := omega) only [cLt_t, cLt_f, cEq_t, cEq_f, rdR_ok, rd_ok, wr_ok, put_eq, jn_eq, cl_some, Int.toNat_natCast]
                  exact hm
                · by_cases c3 : 40 < (n : Int)
                  · simp (disch := omega) only [cLt_t, cLt_f, cEq_t, cEq_f, rdR_ok, rd_ok, wr_ok, put_eq, jn_eq, cl_some, Int.toNat_natCast]
                    exact hm
                  · simp (disch := omega) only [cLt_t, cLt_f, cEq_t, cEq_f, rdR_ok, rd_ok, wr_ok, put_eq, jn_eq, cl_some, Int.toNat_natCast]
                    exact hm
            · rw [if_neg l1]
              simp (disch := omega) only [cLt_t, cLt_f, cEq_t, cEq_f, rdR_ok, rd_ok, wr_ok, put_eq, jn_eq, cl_some, Int.toNat_natCast]
              rw [p_lacks r4 r5 (by rw [hq.1]; omega) (by rw [hq.1]; omega), hq.1]
              by_cases l2 : a4 < 0 ∨ t 1 q < a4 + n
              · rw [if_pos l2]
                simp (disch := omega) only [cLt_t, cLt_f, cEq_t, cEq_f, rdR_ok, rd_ok, wr_ok, put_eq, jn_eq, cl_some, Int.toNat_natCast]
                have hm : Ok2 (InvG RS) (cl (X8_found 2 s) (fun v s => some (v, s))) (cl (X9_found 2 t) (fun v s => some (v, s))) := (ok_found hc hI 2 (by decide)).cl
                by_cases c2 : a4 < 0
                · simp (disch := omega) only [cLt_t, cLt_f, cEq_t, cEq_f, rdR_ok, rd_ok, wr_ok, put_eq, jn_eq, cl_some, Int.toNat_natCast]
                  exact hm
                · simp (disch := omega) only [cLt_t, cLt_f, cEq_t, cEq_f, rdR_ok, rd_ok, wr_ok, put_eq, jn_eq, cl_some, Int.toNat_natCast]
                  exact hm
              · rw [if_neg l2]
                obtain ⟨i, rfl⟩ : ∃ i : Nat, a2 = i := ⟨a2.toNat, by omega⟩
                obtain ⟨j, rfl⟩ : ∃ j : Nat, a4 = j := ⟨a4.toNat, by omega⟩
                have hF := FU_gt
                simp (disch := omega) only [cLt_t, cLt_f, cEq_t, cEq_f, rdR_ok, rd_ok, wr_ok, put_eq, jn_eq, cl_some, Int.toNat_natCast]
                unfold cpA
                rw [if_pos ⟨by omega, by omega, by omega, by omega, by omega⟩]
                simp only [Int.toNat_natCast]
                by_cases c : (i : Int) < j
                · simp (disch := omega) only [cLt_t, cLt_f, cEq_t, cEq_f, rdR_ok, rd_ok, wr_ok, put_eq, jn_eq, cl_some, Int.toNat_natCast]
                  have e := l_copyD (t0 := t) (r := r) (i := i) (q := q) (j := j) (n := n) (by omega) (by omega) (by omega) (by omega) (by omega) (fun s2 => some (1, s2)) FU 0 (by omega) (by omega)
                  rw [cpy_0, show ((0 : Nat) : Int) = 0 from rfl] at e
                  rw [e]
                  exact ⟨1, _, _, rfl, rfl, inv_copy hc hI (by omega) (by omega) (by omega) (by omega)⟩
                · simp (disch := omega) only [cLt_t, cLt_f, cEq_t, cEq_f, rdR_ok, rd_ok, wr_ok, put_eq, jn_eq, cl_some, Int.toNat_natCast]
                  have e := l_copyA (t0 := t) (r := r) (i := i) (q := q) (j := j) (n := n) (by omega) (by omega) (by omega) (by omega) (by omega) (fun s2 => some (1, s2)) FU 0 (by omega) (by omega)
                  rw [cpy_0, show ((0 : Nat) : Int) = 0 from rfl] at e
                  rw [e]
                  exact ⟨1, _, _, rfl, rfl, inv_copy hc hI (by omega) (by omega) (by omega) (by omega)⟩
    · rw [if_neg h', if_neg h']
      simp (disch := omega) only [cLt_t, cLt_f, cEq_t, cEq_f, rdR_ok, rd_ok, wr_ok, put_eq, jn_eq, cl_some, Int.toNat_natCast]
      exact ok_same _ hI
  · rw [if_neg h, if_neg h]
    simp (disch := omega) only [cLt_t, cLt_f, cEq_t, cEq_f, rdR_ok, rd_ok, wr_ok, put_eq, jn_eq, cl_some, Int.toNat_natCast]
    exact ok_same _ hI
end COPY
