theorem nb8_eq (v : Int) : nb8 v = v.bmod 256 := by
  unfold nb8 iI
  rw [Int32.toInt8_ofInt, Int8.toInt_toInt32, Int8.toInt_ofInt]
theorem bm_256 (v : Int) : v.bmod 256 = if v % 256 < 128 then v % 256 else v % 256 - 256 := rfl
theorem bm_32 (v : Int) : v.bmod 4294967296 = if v % 4294967296 < 2147483648 then v % 4294967296 else v % 4294967296 - 4294967296 := rfl
theorem bmod256 (v : Int) : -128 ≤ v.bmod 256 ∧ v.bmod 256 ≤ 127 ∧ (v.bmod 256).bmod 256 = v.bmod 256 := by
  rw [bm_256 (v.bmod 256), bm_256 v]
  split <;> split <;> omega
theorem nb8_r (v : Int) : -128 ≤ nb8 v ∧ nb8 v ≤ 127 := by
  rw [nb8_eq]
  exact ⟨(bmod256 v).1, (bmod256 v).2.1⟩
theorem nb8_nb8 (v : Int) : nb8 (nb8 v) = nb8 v := by
  rw [nb8_eq, nb8_eq]
  exact (bmod256 v).2.2
theorem nb8_32 : nb8 32 = 32 := by decide +kernel
theorem shl24 (v : Int) : iI (oShl v 24) = iI (v * 16777216) := by
  unfold oShl
  rw [iI_back]
  have e1 : iI 24 &&& 31 = (24 : Int32) := by decide +kernel
  rw [e1]
  apply Int32.toBitVec_inj.mp
  have e2 : (iI (v * 16777216)) = iI v * iI 16777216 := Int32.ofInt_mul _ _
  rw [e2, Int32.toBitVec_mul]
  have e3 : (iI 16777216).toBitVec = BitVec.twoPow 32 24 := by decide +kernel
  rw [e3, ← BitVec.shiftLeft_eq_mul_twoPow, Int32.toBitVec_shiftLeft]
  have e4 : ((24 : Int32).toBitVec.smod ((32 : Nat) : BitVec 32)) = 24#32 := by decide +kernel
  first | rw [e4] | skip
  rfl
theorem sh_byte (v : Int) : oShr (oShl v 24) 24 = nb8 v := by
  rw [nb8_eq]
  unfold oShr
  rw [shl24]
  have e1 : iI 24 &&& 31 = (24 : Int32) := by decide +kernel
  rw [e1, pk_shr (iI (v * 16777216)) 24 24 (by decide +kernel)]
  have e2 : (iI (v * 16777216)).toInt = (v * 16777216).bmod 4294967296 := Int32.toInt_ofInt
  rw [e2, Int.shiftRight_eq_div_pow, bm_256, bm_32]
  split <;> split <;> omega
/-- a sum of ints, each as it stands in a long -/
def SW (f : Nat → Int) : Nat → Int
  | 0 => 0
  | n + 1 => SW f n + w32 (f n)
theorem SW_r (f : Nat → Int) : ∀ n : Nat, -(2147483648 * (n : Int)) ≤ SW f n ∧ SW f n ≤ 2147483648 * (n : Int)
  | 0 => by simp [SW]
  | n + 1 => by
    have h1 := SW_r f n
    have h2 := w32_r (f n)
    rw [SW]
    omega
theorem SW_congr {f g : Nat → Int} : ∀ n, (∀ i, i < n → f i = g i) → SW f n = SW g n
  | 0, _ => rfl
  | n + 1, h => by rw [SW, SW, SW_congr n (fun i hi => h i (by omega)), h n (by omega)]
theorem l_sum' {s : St} {a m : Nat} (h : s a 0 = m) (hm : m ≤ 40) (k : Int → St → Rs) : ∀ (n i : Nat), i ≤ m → m < i + n → X2_sum_4 a k n (SW (fun j => s (a + 1) j) i) i s = k (SW (fun j => s (a + 1) j) m) s := by
  intro n
  induction n with
  | zero => intro i h1 h2; omega
  | succ n ih =>
    intro i h1 h2
    rw [X2_sum_4, h]
    by_cases e : i = m
    · subst e
      simp (disch := omega) only [cLt_t, cLt_f, cEq_t, cEq_f, rdR_ok, rd_ok, wr_ok, put_eq, jn_eq, cl_some, Int.toNat_natCast]
    · have h3 := ih (i + 1) (by omega) (by omega)
      simp (disch := omega) only [cLt_t, cLt_f, cEq_t, cEq_f, rdR_ok, rd_ok, wr_ok, put_eq, jn_eq, cl_some, Int.toNat_natCast]
      rw [SW] at h3
      rw [show ((i : Int) + 1) = ((i + 1 : Nat) : Int) by omega]
      exact h3
theorem l_mean {t : St} {r m : Nat} (hr : r < 6) (h : t 1 r = m) (hm : m ≤ 40) (k : Int → St → Rs) : ∀ (n i : Nat), i ≤ m → m < i + n → X9_mean_44 (r : Int) k n (SW (fun j => t 2 (40 * r + j)) i) i t = k (SW (fun j => t 2 (40 * r + j)) m) t := by
  intro n
  induction n with
  | zero => intro i h1 h2; omega
  | succ n ih =>
    intro i h1 h2
    rw [X9_mean_44]
    simp (disch := omega) only [cLt_t, cLt_f, cEq_t, cEq_f, rdR_ok, rd_ok, wr_ok, put_eq, jn_eq, cl_some, Int.toNat_natCast]
    rw [h]
    by_cases e : i = m
    · subst e
      simp (disch := omega) only [cLt_t, cLt_f, cEq_t, cEq_f, rdR_ok, rd_ok, wr_ok, put_eq, jn_eq, cl_some, Int.toNat_natCast]
    · have h3 := ih (i + 1) (by omega) (by omega)
      simp (disch := omega) only [cLt_t, cLt_f, cEq_t, cEq_f, rdR_ok, rd_ok, wr_ok, put_eq, jn_eq, cl_some, Int.toNat_natCast]
      rw [SW] at h3
      rw [show (40 * (r : Int) + (i : Int)).toNat = 40 * r + i by omega, show ((i : Int) + 1) = ((i + 1 : Nat) : Int) by omega]
      exact h3
section TEXTS
variable {RS : St → St → Prop}
theorem sim_mean (hc : CongS RS) : ∀ s t : St, InvG RS s t → ∀ a1 : Int, inR a1 → Ok2 (InvG RS) (X8_mean a1 s) (X9_mean a1 t) := by
  intro s t hI a1 r1
  unfold X8_mean X9_mean
  rw [p_noRow a1 r1, q_isRow a1 r1]
  by_cases h : 0 ≤ a1 ∧ a1 < 6
  · rw [if_pos h, if_pos h]
    obtain ⟨r, rfl⟩ : ∃ r : Nat, a1 = r := ⟨a1.toNat, by omega⟩
    have hr := hI.1 r (by omega)
    simp (disch := omega) only [cLt_t, cLt_f, cEq_t, cEq_f, rdR_ok, rd_ok, wr_ok, put_eq, jn_eq, cl_some, Int.toNat_natCast]
    rw [hr.1]
    by_cases hn : t 1 r < 0
    · simp (disch := omega) only [cLt_t, cLt_f, cEq_t, cEq_f, rdR_ok, rd_ok, wr_ok, put_eq, jn_eq, cl_some, Int.toNat_natCast]
      exact (ok_found hc hI 1 (by decide)).cl
    · by_cases h0 : t 1 r = 0
      · simp (disch := omega) only [cLt_t, cLt_f, cEq_t, cEq_f, rdR_ok, rd_ok, wr_ok, put_eq, jn_eq, cl_some, Int.toNat_natCast]
        exact (ok_found hc hI 4 (by decide)).cl
      · obtain ⟨m, hm⟩ : ∃ m : Nat, t 1 r = m := ⟨(t 1 r).toNat, by omega⟩
        have hF := FU_gt
        have e1 := l_sum' (s := s) (a := 10 + 2 * r) (m := m) (by rw [hr.1, hm]) (by omega) (fun x1 s2 => some (x1, s2)) FU 0 (by omega) (by omega)
        have e2 := fun k => l_mean (t := t) (r := r) (m := m) (by omega) hm (by omega) k FU 0 (by omega) (by omega)
        rw [show ((0 : Nat) : Int) = 0 from rfl, show SW (fun j => s (10 + 2 * r + 1) j) 0 = 0 from rfl] at e1
        simp (disch := omega) only [cLt_t, cLt_f, cEq_t, cEq_f, rdR_ok, rd_ok, wr_ok, put_eq, jn_eq, cl_some, Int.toNat_natCast]
        unfold X2_sum
        rw [e1]
        have e3 : ∀ k, X9_mean_44 (r : Int) k FU 0 0 t = k (SW (fun j => t 2 (40 * r + j)) m) t := e2
        rw [e3]
        have e4 : SW (fun j => s (10 + 2 * r + 1) j) m = SW (fun j => t 2 (40 * r + j)) m := SW_congr m (fun i hi => hr.2.2.2 i (by omega))
        have b1 := SW_r (fun j => t 2 (40 * r + j)) m
        simp (disch := omega) only [cLt_t, cLt_f, cEq_t, cEq_f, rdR_ok, rd_ok, wr_ok, put_eq, jn_eq, cl_some, Int.toNat_natCast]
        rw [hr.1, e4, hm, w32_in ⟨by omega, by omega⟩]
        unfold dvL
        rw [if_pos ⟨⟨by omega, by omega⟩, ⟨by omega, by omega⟩, by omega⟩, if_pos ⟨⟨by omega, by omega⟩, ⟨by omega, by omega⟩, by omega⟩]
        exact ⟨1, _, _, rfl, rfl, inv_tell hc hI _⟩
  · rw [if_neg h, if_neg h]
    simp (disch := omega) only [cLt_t, cLt_f, cEq_t, cEq_f, rdR_ok, rd_ok, wr_ok, put_eq, jn_eq, cl_some, Int.toNat_natCast]
    exact ok_same _ hI
theorem p_noText (i : Int) (hi : inR i) (s : St) : X8_noText i s = some (if 0 ≤ i ∧ i < 4 then 0 else 1, s) := by
  unfold X8_noText
  simp (disch := omega) only [cLt_if]
  repeat' split
  all_goals first | rfl | omega
theorem q_isText (i : Int) (hi : inR i) (s : St) : X9_isText i s = some (if 0 ≤ i ∧ i < 4 then 1 else 0, s) := by
  unfold X9_isText
  rw [q_in _ _ _ hi ⟨by omega, by omega⟩ ⟨by omega, by omega⟩]
  simp only [cl_some]
  repeat' split
  all_goals first | rfl | omega
theorem l_tbegin (a : Nat) (k : St → Rs) : ∀ (n i : Nat) (s : St), i ≤ 60 → 60 < i + n → X5_begin_7 a k n i s = k (fil s (a + 1) i 60 32) := by
  intro n
  induction n with
  | zero => intro i s h1 h2; omega
  | succ n ih =>
    intro i s h1 h2
    rw [X5_begin_7, nb8_32]
    by_cases h : i = 60
    · subst h
      simp (disch := omega) only [cLt_t, cLt_f, cEq_t, cEq_f, rdR_ok, rd_ok, wr_ok, put_eq, jn_eq, cl_some, Int.toNat_natCast]
      rw [fil_nil]
    · have := ih (i + 1) (up s (a + 1) i 32) (by omega) (by omega)
      simp (disch := omega) only [cLt_t, cLt_f, cEq_t, cEq_f, rdR_ok, rd_ok, wr_ok, put_eq, jn_eq, cl_some, Int.toNat_natCast]
      rw [show ((i : Int) + 1) = ((i + 1 : Nat) : Int) by omega, this, fil_up (by omega)]
theorem l_text (r : Nat) (hr : r < 4) (n0 : Nat) (hn0 : n0 ≤ 60) (k : St → Rs) : ∀ (n i : Nat) (s : St), i ≤ n0 → n0 < i + n → X9_text_34 (r : Int) (n0 : Int) k n i s = k (fil s 4 (60 * r + i) (60 * r + n0) 32) := by
  intro n
  induction n with
  | zero => intro i s h1 h2; omega
  | succ n ih =>
    intro i s h1 h2
    rw [X9_text_34]
    by_cases h : i = n0
    · subst h
      simp (disch := omega) only [cLt_t, cLt_f, cEq_t, cEq_f, rdR_ok, rd_ok, wr_ok, put_eq, jn_eq, cl_some, Int.toNat_natCast]
      rw [fil_nil]
    · have := ih (i + 1) (up s 4 (60 * r + i) 32) (by omega) (by omega)
      simp (disch := omega) only [cLt_t, cLt_f, cEq_t, cEq_f, rdR_ok, rd_ok, wr_ok, put_eq, jn_eq, cl_some, Int.toNat_natCast]
      rw [show (60 * (r : Int) + (i : Int)).toNat = 60 * r + i by omega, show ((i : Int) + 1) = ((i + 1 : Nat) : Int) by omega, this]
      have e2 := fil_up (s := s) (a := 4) (lo := 60 * r + i) (hi := 60 * r + n0) (v := 32) (by omega)
      rw [show 60 * r + (i + 1) = 60 * r + i + 1 by omega, e2]
theorem sim_text (hc : CongS RS) : ∀ s t : St, InvG RS s t → ∀ a1 : Int, inR a1 → ∀ a2 : Int, inR a2 → Ok2 (InvG RS) (X8_text a1 a2 s) (X9_text a1 a2 t) := by
  intro s t hI a1 r1 a2 r2
  unfold X8_text X9_text
  rw [p_noText a1 r1, q_isText a1 r1]
  by_cases h : 0 ≤ a1 ∧ a1 < 4
  · rw [if_pos h, if_pos h]
    by_cases h60 : 60 < a2
    · simp (disch := omega) only [cLt_t, cLt_f, cEq_t, cEq_f, rdR_ok, rd_ok, wr_ok, put_eq, jn_eq, cl_some, Int.toNat_natCast]
      exact ok_same _ hI
    · by_cases h0 : a2 < 0
      · simp (disch := omega) only [cLt_t, cLt_f, cEq_t, cEq_f, rdR_ok, rd_ok, wr_ok, put_eq, jn_eq, cl_some, Int.toNat_natCast]
        exact (ok_found hc hI 5 (by decide)).cl
      · obtain ⟨r, rfl⟩ : ∃ r : Nat, a1 = r := ⟨a1.toNat, by omega⟩
        obtain ⟨m, rfl⟩ : ∃ m : Nat, a2 = m := ⟨a2.toNat, by omega⟩
        have hF := FU_gt
        unfold X5_begin
        generalize FU = F at hF ⊢
        have e1 := l_tbegin (22 + 2 * r) (fun s2 => some (0, s2)) F 0 (up s (22 + 2 * r) 0 m) (by omega) (by omega)
        have e2 := l_text r (by omega) m (by omega) (fun s4 => some ((m : Int), s4)) F 0 (up t 3 r m) (by omega) (by omega)
        rw [show ((0 : Nat) : Int) = 0 from rfl] at e1 e2
        simp (disch := omega) only [cLt_t, cLt_f, cEq_t, cEq_f, rdR_ok, rd_ok, wr_ok, put_eq, jn_eq, cl_some, Int.toNat_natCast]
        rw [e1, e2]
        simp only [cl_some]
        refine ⟨m, _, _, rfl, rfl, ?_⟩
        obtain ⟨h1, h2, h3, h4⟩ := hI
        refine ⟨fun q hq => ?_, fun k hk => ?_, ?_, ?_⟩
        · have := h1 q hq
          simp (disch := omega) only [fil_o, up_o, fil_out, fil_in, up_i, up_eq]
          exact this
        · by_cases e : k = r
          · subst e
            rw [fil_o (by omega), up_eq, fil_o (by omega), up_eq]
            refine ⟨rfl, by omega, by omega, fun i hi => ?_⟩
            rw [fil_in (by omega) (by omega), fil_in (by omega) (by omega)]
            omega
          · have := h2 k hk
            rw [fil_o (by omega), up_o (by omega), fil_o (by omega), up_i (by omega)]
            refine ⟨this.1, this.2.1, this.2.2.1, fun i hi => ?_⟩
            rw [fil_o (by omega), up_o (by omega), fil_out (by omega), up_o (by omega)]
            exact this.2.2.2 i hi
        · refine ⟨?_, ?_, fun f hf => ?_⟩
          · simp (disch := omega) only [fil_o, up_o, fil_out, fil_in, up_i, up_eq]; exact h3.1
          · simp (disch := omega) only [fil_o, up_o, fil_out, fil_in, up_i, up_eq]; exact h3.2.1
          · simp (disch := omega) only [fil_o, up_o, fil_out, fil_in, up_i, up_eq]; exact h3.2.2 f hf
        · refine hc s _ t _ (fun b hb => ?_) (fun b hb => ?_) ?_ h4
          · rw [fil_b (by omega), up_b (by omega)]
          · rw [fil_b (by omega), up_b (by omega)]
          · rw [fil_o (by omega), up_o (by omega)]
  · rw [if_neg h, if_neg h]
    simp (disch := omega) only [cLt_t, cLt_f, cEq_t, cEq_f, rdR_ok, rd_ok, wr_ok, put_eq, jn_eq, cl_some, Int.toNat_natCast]
    exact ok_same _ hI
theorem sim_put (hc : CongS RS) : ∀ s t : St, InvG RS s t → ∀ a1 : Int, inR a1 → ∀ a2 : Int, inR a2 → ∀ a3 : Int, inR a3 → Ok2 (InvG RS) (X8_put a1 a2 a3 s) (X9_put a1 a2 a3 t) := by
  intro s t hI a1 r1 a2 r2 a3 r3
  unfold X8_put X9_put
  rw [p_noText a1 r1, q_isText a1 r1]
  by_cases h : 0 ≤ a1 ∧ a1 < 4
  · rw [if_pos h, if_pos h]
    obtain ⟨r, rfl⟩ : ∃ r : Nat, a1 = r := ⟨a1.toNat, by omega⟩
    have hr := hI.2.1 r (by omega)
    simp (disch := omega) only [cLt_t, cLt_f, cEq_t, cEq_f, rdR_ok, rd_ok, wr_ok, put_eq, jn_eq, cl_some, Int.toNat_natCast]
    rw [hr.1]
    by_cases hn : t 3 r < 0
    · simp (disch := omega) only [cLt_t, cLt_f, cEq_t, cEq_f, rdR_ok, rd_ok, wr_ok, put_eq, jn_eq, cl_some, Int.toNat_natCast]
      exact (ok_found hc hI 1 (by decide)).cl
    · simp (disch := omega) only [cLt_t, cLt_f, cEq_t, cEq_f, rdR_ok, rd_ok, wr_ok, put_eq, jn_eq, cl_some, Int.toNat_natCast]
      rw [q_in _ _ _ r2 ⟨by omega, by omega⟩ ⟨by omega, by omega⟩]
      by_cases hi : 0 ≤ a2 ∧ a2 < t 3 r
      · rw [show (if 0 ≤ a2 ∧ a2 ≤ t 3 r - 1 then (1 : Int) else 0) = 1 from if_pos (by omega)]
        obtain ⟨i, rfl⟩ : ∃ i : Nat, a2 = i := ⟨a2.toNat, by omega⟩
        simp (disch := omega) only [cLt_t, cLt_f, cEq_t, cEq_f, rdR_ok, rd_ok, wr_ok, put_eq, jn_eq, cl_some, Int.toNat_natCast]
        rw [show (60 * (r : Int) + (i : Int)).toNat = 60 * r + i by omega, sh_byte, nb8_nb8]
        have hv := hr.2.2.2 i (by omega)
        rw [hv.1]
        refine ⟨_, _, _, rfl, rfl, ?_⟩
        obtain ⟨h1, h2, h3, h4⟩ := hI
        have hb8 := nb8_r a3
        refine ⟨fun q hq => ?_, fun k hk => ?_, ?_, ?_⟩
        · have := h1 q hq
          simp (disch := omega) only [fil_o, up_o, fil_out, fil_in, up_i, up_eq]
          exact this
        · have := h2 k hk
          rw [up_o (by omega), up_o (by omega)]
          refine ⟨this.1, this.2.1, this.2.2.1, fun j hj => ?_⟩
          by_cases e : k = r ∧ j = i
          · obtain ⟨rfl, rfl⟩ := e
            rw [up_eq, up_eq]
            exact ⟨rfl, hb8.1, hb8.2⟩
          · rw [up_at, up_at, if_neg (by omega), if_neg (by omega)]
            exact this.2.2.2 j hj
        · refine ⟨?_, ?_, fun f hf => ?_⟩
          · simp (disch := omega) only [fil_o, up_o, fil_out, fil_in, up_i, up_eq]; exact h3.1
          · simp (disch := omega) only [fil_o, up_o, fil_out, fil_in, up_i, up_eq]; exact h3.2.1
          · simp (disch := omega) only [fil_o, up_o, fil_out, fil_in, up_i, up_eq]; exact h3.2.2 f hf
        · exact hc s _ t _ (fun b hb => up_b (by omega)) (fun b hb => up_b (by omega)) (up_o (by decide)) h4
      · rw [show (if 0 ≤ a2 ∧ a2 ≤ t 3 r - 1 then (1 : Int) else 0) = 0 from if_neg (by omega)]
        by_cases h0 : a2 < 0
        · simp (disch := omega) only [cLt_t, cLt_f, cEq_t, cEq_f, rdR_ok, rd_ok, wr_ok, put_eq, jn_eq, cl_some, Int.toNat_natCast]
          exact (ok_found hc hI 2 (by decide)).cl
        · simp (disch := omega) only [cLt_t, cLt_f, cEq_t, cEq_f, rdR_ok, rd_ok, wr_ok, put_eq, jn_eq, cl_some, Int.toNat_natCast]
          exact (ok_found hc hI 2 (by decide)).cl
  · rw [if_neg h, if_neg h]
    simp (disch := omega) only [cLt_t, cLt_f, cEq_t, cEq_f, rdR_ok, rd_ok, wr_ok, put_eq, jn_eq, cl_some, Int.toNat_natCast]
    exact ok_same _ hI
end TEXTS
