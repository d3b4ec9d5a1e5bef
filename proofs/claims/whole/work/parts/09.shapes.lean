section SHAPES
def LC : Shp := [(18, 11, [some 2, some 3, some 5, some 6, some 30, some 4, some 9, some 44, some 1, none, none]), (0, 6, []), (3, 6, [some 10, some 12, some 14, some 16, some 18, some 20]), (4, 4, [some 22, some 24, some 26, some 28]), (5, 3, [some 32, some 34, some 36]), (17, 14, [some 6, none, none, some 8, some 59, some 60, some 38, some 41, some 55, some 56, some 61, some 62, some 57, some 58]), (13, 3, [some 38, some 41, some 7]), (0, 3, []), (14, 4, [none, some 52, some 53, some 54]), (11, 6, [some 47, some 50, some 51, none, none, none]), (12, 2, [none, some 11]), (0, 40, []), (12, 2, [none, some 13]), (0, 40, []), (12, 2, [none, some 15]), (0, 40, []), (12, 2, [none, some 17]), (0, 40, []), (12, 2, [none, some 19]), (0, 40, []), (12, 2, [none, some 21]), (0, 40, []), (15, 2, [none, some 23]), (1, 60, []), (15, 2, [none, some 25]), (1, 60, []), (15, 2, [none, some 27]), (1, 60, []), (15, 2, [none, some 29]), (1, 60, []), (10, 2, [none, some 31]), (0, 1189, []), (10, 2, [none, some 33]), (0, 1189, []), (10, 2, [none, some 35]), (0, 1189, []), (10, 2, [none, some 37]), (0, 1189, []), (16, 3, [none, some 39, some 40]), (0, 12, []), (0, 12, []), (16, 3, [none, some 42, some 43]), (0, 12, []), (0, 12, []), (16, 3, [none, some 45, some 46]), (0, 12, []), (0, 12, []), (16, 3, [none, some 48, some 49]), (0, 12, []), (0, 12, []), (0, 12, []), (0, 12, []), (0, 24, []), (0, 24, []), (0, 24, []), (0, 12, []), (0, 12, []), (0, 12, []), (0, 12, []), (6, 12, [some 63, some 64, some 65, some 66, some 67, some 68, some 69, some 70, some 71, some 72, some 73, some 74]), (6, 12, [some 75, some 76, some 77, some 78, some 79, some 80, some 81, some 82, some 83, some 84, some 85, some 86]), (6, 12, [some 87, some 88, some 89, some 90, some 91, some 92, some 93, some 94, some 95, some 96, some 97, some 98]), (6, 13, [some 99, some 100, some 101, some 102, some 103, some 104, some 105, some 106, some 107, some 108, some 109, some 110, some 111]), (0, 12, []), (0, 12, []), (0, 12, []), (0, 12, []), (0, 12, []), (0, 12, []), (0, 12, []), (0, 12, []), (0, 12, []), (0, 12, []), (0, 12, []), (0, 12, []), (0, 12, []), (0, 12, []), (0, 12, []), (0, 12, []), (0, 12, []), (0, 12, []), (0, 12, []), (0, 12, []), (0, 12, []), (0, 12, []), (0, 12, []), (0, 12, []), (0, 12, []), (0, 12, []), (0, 12, []), (0, 12, []), (0, 12, []), (0, 12, []), (0, 12, []), (0, 12, []), (0, 12, []), (0, 12, []), (0, 12, []), (0, 12, []), (0, 13, []), (0, 13, []), (0, 13, []), (0, 13, []), (0, 13, []), (0, 13, []), (0, 13, []), (0, 13, []), (0, 13, []), (0, 13, []), (0, 13, []), (0, 13, []), (0, 13, [])]
def LM : Shp := [(19, 31, [some 1, some 2, some 3, some 4, some 5, some 6, none, some 7, some 8, none, none, some 9, none, none, some 10, some 11, some 12, some 13, some 14, none, some 15, some 16, some 17, some 18, some 19, some 20, some 21, some 22, some 23, some 24, none]), (0, 6, []), (0, 240, []), (0, 4, []), (0, 240, []), (0, 53, []), (0, 2120, []), (0, 6522, []), (2, 3, []), (0, 6, []), (0, 12, []), (0, 12, []), (0, 12, []), (0, 12, []), (0, 60, []), (0, 12, []), (0, 13, []), (0, 12, []), (0, 12, []), (0, 144, []), (0, 144, []), (0, 169, []), (0, 12, []), (0, 12, []), (0, 108, [])]
theorem ln_leC (a : Nat) : ln LC a ≤ 2147483647 := by
  by_cases h : a < 112
  · exact (by decide +kernel : ∀ a, a < 112 → ln LC a ≤ 2147483647) a h
  · unfold ln
    rw [List.getD_eq_getElem?_getD, List.getElem?_eq_none (by show LC.length ≤ a; exact Nat.le_trans (by decide +kernel) (Nat.le_of_not_lt h))]
    decide
theorem kd_ltC {a kd : Nat} (h : Kd LC a kd) : a < 112 := by
  obtain ⟨n, fs, h⟩ := h
  exact Nat.lt_of_lt_of_le (List.getElem?_eq_some_iff.mp h).1 (by decide +kernel)
theorem ln_leM (a : Nat) : ln LM a ≤ 2147483647 := by
  by_cases h : a < 25
  · exact (by decide +kernel : ∀ a, a < 25 → ln LM a ≤ 2147483647) a h
  · unfold ln
    rw [List.getD_eq_getElem?_getD, List.getElem?_eq_none (by show LM.length ≤ a; exact Nat.le_trans (by decide +kernel) (Nat.le_of_not_lt h))]
    decide
theorem kd_ltM {a kd : Nat} (h : Kd LM a kd) : a < 25 := by
  obtain ⟨n, fs, h⟩ := h
  exact Nat.lt_of_lt_of_le (List.getElem?_eq_some_iff.mp h).1 (by decide +kernel)
theorem row_in {a : Nat} (h : Kd LC a 12) : a = 10 ∨ a = 12 ∨ a = 14 ∨ a = 16 ∨ a = 18 ∨ a = 20 := by
  have hl := kd_ltC h
  obtain ⟨n, fs, h⟩ := h
  have h2 : (LC[a]?).map (fun c => c.1) = some 12 := by rw [h]; rfl
  exact (by decide +kernel : ∀ a, a < 112 → (LC[a]?).map (fun c => c.1) = some 12 → a = 10 ∨ a = 12 ∨ a = 14 ∨ a = 16 ∨ a = 18 ∨ a = 20) a hl h2
theorem row_c {a : Nat} (h : Kd LC a 12) : LC[a]? = some (10 + 2, 2, [none, some (a + 1)]) := by rcases row_in h with rfl | rfl | rfl | rfl | rfl | rfl <;> rfl
theorem row_1 {a : Nat} (h : Kd LC a 12) : LC[a + 1]? = some (0, 40, []) := by rcases row_in h with rfl | rfl | rfl | rfl | rfl | rfl <;> rfl
theorem txt_in {a : Nat} (h : Kd LC a 15) : a = 22 ∨ a = 24 ∨ a = 26 ∨ a = 28 := by
  have hl := kd_ltC h
  obtain ⟨n, fs, h⟩ := h
  have h2 : (LC[a]?).map (fun c => c.1) = some 15 := by rw [h]; rfl
  exact (by decide +kernel : ∀ a, a < 112 → (LC[a]?).map (fun c => c.1) = some 15 → a = 22 ∨ a = 24 ∨ a = 26 ∨ a = 28) a hl h2
theorem txt_c {a : Nat} (h : Kd LC a 15) : LC[a]? = some (10 + 5, 2, [none, some (a + 1)]) := by rcases txt_in h with rfl | rfl | rfl | rfl <;> rfl
theorem txt_1 {a : Nat} (h : Kd LC a 15) : LC[a + 1]? = some (1, 60, []) := by rcases txt_in h with rfl | rfl | rfl | rfl <;> rfl
theorem tree_in {a : Nat} (h : Kd LC a 16) : a = 38 ∨ a = 41 ∨ a = 44 ∨ a = 47 := by
  have hl := kd_ltC h
  obtain ⟨n, fs, h⟩ := h
  have h2 : (LC[a]?).map (fun c => c.1) = some 16 := by rw [h]; rfl
  exact (by decide +kernel : ∀ a, a < 112 → (LC[a]?).map (fun c => c.1) = some 16 → a = 38 ∨ a = 41 ∨ a = 44 ∨ a = 47) a hl h2
theorem tree_c {a : Nat} (h : Kd LC a 16) : LC[a]? = some (10 + 6, 3, [none, some (a + 1), some (a + 2)]) := by rcases tree_in h with rfl | rfl | rfl | rfl <;> rfl
theorem tree_1 {a : Nat} (h : Kd LC a 16) : LC[a + 1]? = some (0, 12, []) := by rcases tree_in h with rfl | rfl | rfl | rfl <;> rfl
theorem tree_2 {a : Nat} (h : Kd LC a 16) : LC[a + 2]? = some (0, 12, []) := by rcases tree_in h with rfl | rfl | rfl | rfl <;> rfl
theorem log_in {a : Nat} (h : Kd LC a 10) : a = 30 ∨ a = 32 ∨ a = 34 ∨ a = 36 := by
  have hl := kd_ltC h
  obtain ⟨n, fs, h⟩ := h
  have h2 : (LC[a]?).map (fun c => c.1) = some 10 := by rw [h]; rfl
  exact (by decide +kernel : ∀ a, a < 112 → (LC[a]?).map (fun c => c.1) = some 10 → a = 30 ∨ a = 32 ∨ a = 34 ∨ a = 36) a hl h2
theorem log_c {a : Nat} (h : Kd LC a 10) : LC[a]? = some (10 + 0, 2, [none, some (a + 1)]) := by rcases log_in h with rfl | rfl | rfl | rfl <;> rfl
theorem log_1 {a : Nat} (h : Kd LC a 10) : LC[a + 1]? = some (0, 1189, []) := by rcases log_in h with rfl | rfl | rfl | rfl <;> rfl
theorem el_2 : ∀ j, j < 6 → ([some 10, some 12, some 14, some 16, some 18, some 20] : List (Option Nat))[j]? = some (some ((fun j => 10 + 2 * j) j)) := by decide +kernel
theorem elk_2 {j : Nat} (h : j < 6) : Kd LC (10 + 2 * j) 12 := by
  have h2 := (by decide +kernel : ∀ j, j < 6 → LC[10 + 2 * j]? = some (12, 2, [none, some (10 + 2 * j + 1)])) j h
  exact ⟨_, _, h2⟩
theorem el_3 : ∀ j, j < 4 → ([some 22, some 24, some 26, some 28] : List (Option Nat))[j]? = some (some ((fun j => 22 + 2 * j) j)) := by decide +kernel
theorem elk_3 {j : Nat} (h : j < 4) : Kd LC (22 + 2 * j) 15 := by
  have h2 := (by decide +kernel : ∀ j, j < 4 → LC[22 + 2 * j]? = some (15, 2, [none, some (22 + 2 * j + 1)])) j h
  exact ⟨_, _, h2⟩
theorem el_4 : ∀ j, j < 3 → ([some 32, some 34, some 36] : List (Option Nat))[j]? = some (some ((fun j => 32 + 2 * j) j)) := by decide +kernel
theorem elk_4 {j : Nat} (h : j < 3) : Kd LC (32 + 2 * j) 10 := by
  have h2 := (by decide +kernel : ∀ j, j < 3 → LC[32 + 2 * j]? = some (10, 2, [none, some (32 + 2 * j + 1)])) j h
  exact ⟨_, _, h2⟩
theorem el_59 : ∀ j, j < 12 → ([some 63, some 64, some 65, some 66, some 67, some 68, some 69, some 70, some 71, some 72, some 73, some 74] : List (Option Nat))[j]? = some (some ((fun j => 63 + j) j)) := by decide +kernel
theorem elc_59 {j : Nat} (h : j < 12) : LC[63 + j]? = some (0, 12, []) := (by decide +kernel : ∀ j, j < 12 → LC[63 + j]? = some (0, 12, [])) j h
theorem el_60 : ∀ j, j < 12 → ([some 75, some 76, some 77, some 78, some 79, some 80, some 81, some 82, some 83, some 84, some 85, some 86] : List (Option Nat))[j]? = some (some ((fun j => 75 + j) j)) := by decide +kernel
theorem elc_60 {j : Nat} (h : j < 12) : LC[75 + j]? = some (0, 12, []) := (by decide +kernel : ∀ j, j < 12 → LC[75 + j]? = some (0, 12, [])) j h
theorem el_61 : ∀ j, j < 12 → ([some 87, some 88, some 89, some 90, some 91, some 92, some 93, some 94, some 95, some 96, some 97, some 98] : List (Option Nat))[j]? = some (some ((fun j => 87 + j) j)) := by decide +kernel
theorem elc_61 {j : Nat} (h : j < 12) : LC[87 + j]? = some (0, 12, []) := (by decide +kernel : ∀ j, j < 12 → LC[87 + j]? = some (0, 12, [])) j h
theorem el_62 : ∀ j, j < 13 → ([some 99, some 100, some 101, some 102, some 103, some 104, some 105, some 106, some 107, some 108, some 109, some 110, some 111] : List (Option Nat))[j]? = some (some ((fun j => 99 + j) j)) := by decide +kernel
theorem elc_62 {j : Nat} (h : j < 13) : LC[99 + j]? = some (0, 13, []) := (by decide +kernel : ∀ j, j < 13 → LC[99 + j]? = some (0, 13, [])) j h
theorem g_jn {L : Shp} {K : Cx} {X : Wx} {nL rk pc : Nat} {lv : List (Nat × AV)} {st : List AV} {σ : St} {α : Type} {k : α} {b : α → Rs} (P : α → Prop) (hk : P k) (kb : ∀ j, P j → GX L K X nL rk pc lv st σ (b j)) : GX L K X nL rk pc lv st σ (jn k b) := kb k hk
theorem g_gB {L : Shp} {K : Cx} {X : Wx} {nL rk pc : Nat} {lv : List (Nat × AV)} {st : List AV} {σ : St} {v : Int} {e : Rs} (kk : (v = 0 ∨ v = 1) → GX L K X nL rk pc lv st σ e) : GX L K X nL rk pc lv st σ (gB v e) := by
  intro r hr
  unfold gB at hr
  split at hr
  · rename_i h
    exact kk h r hr
  · cases hr
theorem nar_b {v : Int} (h : v = 0 ∨ v = 1) : narrow .boolean (.int (iI v)) = .int (iI v) := by rcases h with rfl | rfl <;> decide +kernel
end SHAPES
theorem fw_0_11 : Fw RX0 11 0 1 (.array .int) true := ⟨RX0, TX0, 2, tyX0, rfl, by decide, mw_1_166, inlX0, tyX0_ok, nmX0, by decide +kernel, rfl⟩
theorem fw_0_17 : Fw RX0 17 0 0 .int false := ⟨RX0, TX0, 2, tyX0, rfl, by decide, mw_1_164, inlX0, tyX0_ok, nmX0, by decide +kernel, rfl⟩
theorem fw_1_12 : Fw RX1 12 1 0 (.object "MarkScripts$Tree") true := ⟨RX1, TX1, 6, tyX1, rfl, by decide, mw_1_181, inlX1, tyX1_ok, nmX1, by decide +kernel, rfl⟩
theorem fw_1_18 : Fw RX1 18 1 1 (.array .int) true := ⟨RX1, TX1, 6, tyX1, rfl, by decide, mw_1_183, inlX1, tyX1_ok, nmX1, by decide +kernel, rfl⟩
theorem fw_1_22 : Fw RX1 22 1 2 (.array .int) true := ⟨RX1, TX1, 6, tyX1, rfl, by decide, mw_1_184, inlX1, tyX1_ok, nmX1, by decide +kernel, rfl⟩
theorem fw_1_25 : Fw RX1 25 1 3 .int false := ⟨RX1, TX1, 6, tyX1, rfl, by decide, mw_1_185, inlX1, tyX1_ok, nmX1, by decide +kernel, rfl⟩
theorem fw_1_29 : Fw RX1 29 1 4 .int false := ⟨RX1, TX1, 6, tyX1, rfl, by decide, mw_1_186, inlX1, tyX1_ok, nmX1, by decide +kernel, rfl⟩
theorem fw_1_32 : Fw RX1 32 1 5 .int false := ⟨RX1, TX1, 6, tyX1, rfl, by decide, mw_1_187, inlX1, tyX1_ok, nmX1, by decide +kernel, rfl⟩
theorem fw_1_35 : Fw RX1 35 6 0 .int false := ⟨RX6, TX6, 3, tyX6, rfl, by decide, mw_1_44, inlX6, tyX6_ok, nmX6, by decide +kernel, rfl⟩
theorem fw_1_38 : Fw RX1 38 5 0 .int false := ⟨RX5, TX5, 2, tyX5, rfl, by decide, mw_1_223, inlX5, tyX5_ok, nmX5, by decide +kernel, rfl⟩
theorem fw_1_43 : Fw RX1 43 5 1 (.array .byte) true := ⟨RX5, TX5, 2, tyX5, rfl, by decide, mw_1_226, inlX5, tyX5_ok, nmX5, by decide +kernel, rfl⟩
theorem fw_1_69 : Fw RX1 69 6 1 (.array .int) true := ⟨RX6, TX6, 3, tyX6, rfl, by decide, mw_1_51, inlX6, tyX6_ok, nmX6, by decide +kernel, rfl⟩
theorem fw_2_9 : Fw RX2 9 2 0 .int false := ⟨RX2, TX2, 2, tyX2, rfl, by decide, mw_1_208, inlX2, tyX2_ok, nmX2, by decide +kernel, rfl⟩
theorem fw_2_15 : Fw RX2 15 2 1 (.array .int) true := ⟨RX2, TX2, 2, tyX2, rfl, by decide, mw_1_210, inlX2, tyX2_ok, nmX2, by decide +kernel, rfl⟩
theorem fw_3_14 : Fw RX3 14 3 0 (.object "MarkScripts$Tree") true := ⟨RX3, TX3, 3, tyX3, rfl, by decide, mw_1_66, inlX3, tyX3_ok, nmX3, by decide +kernel, rfl⟩
theorem fw_3_18 : Fw RX3 18 3 1 (.object "MarkScripts$Tree") true := ⟨RX3, TX3, 3, tyX3, rfl, by decide, mw_1_69, inlX3, tyX3_ok, nmX3, by decide +kernel, rfl⟩
theorem fw_3_21 : Fw RX3 21 3 2 (.array .int) true := ⟨RX3, TX3, 3, tyX3, rfl, by decide, mw_1_72, inlX3, tyX3_ok, nmX3, by decide +kernel, rfl⟩
theorem fw_3_25 : Fw RX3 25 6 0 .int false := ⟨RX6, TX6, 3, tyX6, rfl, by decide, mw_1_45, inlX6, tyX6_ok, nmX6, by decide +kernel, rfl⟩
theorem fw_3_58 : Fw RX3 58 6 1 (.array .int) true := ⟨RX6, TX6, 3, tyX6, rfl, by decide, mw_1_53, inlX6, tyX6_ok, nmX6, by decide +kernel, rfl⟩
theorem fw_3_61 : Fw RX3 61 6 2 (.array .int) true := ⟨RX6, TX6, 3, tyX6, rfl, by decide, mw_1_57, inlX6, tyX6_ok, nmX6, by decide +kernel, rfl⟩
theorem fw_4_9 : Fw RX4 9 4 0 .int false := ⟨RX4, TX4, 4, tyX4, rfl, by decide, mw_1_87, inlX4, tyX4_ok, nmX4, by decide +kernel, rfl⟩
theorem fw_4_15 : Fw RX4 15 4 1 (.array .int) true := ⟨RX4, TX4, 4, tyX4, rfl, by decide, mw_1_90, inlX4, tyX4_ok, nmX4, by decide +kernel, rfl⟩
theorem fw_4_19 : Fw RX4 19 4 2 (.array .int) true := ⟨RX4, TX4, 4, tyX4, rfl, by decide, mw_1_93, inlX4, tyX4_ok, nmX4, by decide +kernel, rfl⟩
theorem fw_4_22 : Fw RX4 22 4 3 (.array .int) true := ⟨RX4, TX4, 4, tyX4, rfl, by decide, mw_1_96, inlX4, tyX4_ok, nmX4, by decide +kernel, rfl⟩
theorem fw_5_9 : Fw RX5 9 5 0 .int false := ⟨RX5, TX5, 2, tyX5, rfl, by decide, mw_1_222, inlX5, tyX5_ok, nmX5, by decide +kernel, rfl⟩
theorem fw_5_15 : Fw RX5 15 5 1 (.array .byte) true := ⟨RX5, TX5, 2, tyX5, rfl, by decide, mw_1_225, inlX5, tyX5_ok, nmX5, by decide +kernel, rfl⟩
theorem fw_5_19 : Fw RX5 19 6 0 .int false := ⟨RX6, TX6, 3, tyX6, rfl, by decide, mw_1_47, inlX6, tyX6_ok, nmX6, by decide +kernel, rfl⟩
theorem fw_5_24 : Fw RX5 24 6 2 (.array .int) true := ⟨RX6, TX6, 3, tyX6, rfl, by decide, mw_1_56, inlX6, tyX6_ok, nmX6, by decide +kernel, rfl⟩
theorem fw_5_40 : Fw RX5 40 6 1 (.array .int) true := ⟨RX6, TX6, 3, tyX6, rfl, by decide, mw_1_50, inlX6, tyX6_ok, nmX6, by decide +kernel, rfl⟩
theorem fw_6_9 : Fw RX6 9 6 0 .int false := ⟨RX6, TX6, 3, tyX6, rfl, by decide, mw_1_43, inlX6, tyX6_ok, nmX6, by decide +kernel, rfl⟩
theorem fw_6_15 : Fw RX6 15 6 1 (.array .int) true := ⟨RX6, TX6, 3, tyX6, rfl, by decide, mw_1_49, inlX6, tyX6_ok, nmX6, by decide +kernel, rfl⟩
theorem fw_6_19 : Fw RX6 19 6 2 (.array .int) true := ⟨RX6, TX6, 3, tyX6, rfl, by decide, mw_1_55, inlX6, tyX6_ok, nmX6, by decide +kernel, rfl⟩
theorem fw_7_12 : Fw RX7 12 7 0 (.object "MarkScripts$State") true := ⟨RX7, TX7, 14, tyX7, rfl, by decide, mw_1_109, inlX7, tyX7_ok, nmX7, by decide +kernel, rfl⟩
theorem fw_7_18 : Fw RX7 18 7 1 .boolean false := ⟨RX7, TX7, 14, tyX7, rfl, by decide, mw_1_111, inlX7, tyX7_ok, nmX7, by decide +kernel, rfl⟩
theorem fw_7_22 : Fw RX7 22 7 2 .int false := ⟨RX7, TX7, 14, tyX7, rfl, by decide, mw_1_113, inlX7, tyX7_ok, nmX7, by decide +kernel, rfl⟩
theorem fw_7_29 : Fw RX7 29 7 3 (.object "MarkScripts$Steps") true := ⟨RX7, TX7, 14, tyX7, rfl, by decide, mw_1_115, inlX7, tyX7_ok, nmX7, by decide +kernel, rfl⟩
theorem fw_7_35 : Fw RX7 35 7 4 (.array (.array .int)) true := ⟨RX7, TX7, 14, tyX7, rfl, by decide, mw_1_117, inlX7, tyX7_ok, nmX7, by decide +kernel, rfl⟩
theorem fw_7_38 : Fw RX7 38 7 5 (.array (.array .int)) true := ⟨RX7, TX7, 14, tyX7, rfl, by decide, mw_1_119, inlX7, tyX7_ok, nmX7, by decide +kernel, rfl⟩
theorem fw_7_45 : Fw RX7 45 7 6 (.object "MarkScripts$Tree") true := ⟨RX7, TX7, 14, tyX7, rfl, by decide, mw_1_121, inlX7, tyX7_ok, nmX7, by decide +kernel, rfl⟩
theorem fw_7_49 : Fw RX7 49 7 7 (.object "MarkScripts$Tree") true := ⟨RX7, TX7, 14, tyX7, rfl, by decide, mw_1_122, inlX7, tyX7_ok, nmX7, by decide +kernel, rfl⟩
theorem fw_7_50 : Fw RX7 50 7 8 (.array .int) true := ⟨RX7, TX7, 14, tyX7, rfl, by decide, mw_1_123, inlX7, tyX7_ok, nmX7, by decide +kernel, rfl⟩
theorem fw_7_54 : Fw RX7 54 7 9 (.array .int) true := ⟨RX7, TX7, 14, tyX7, rfl, by decide, mw_1_124, inlX7, tyX7_ok, nmX7, by decide +kernel, rfl⟩
theorem fw_7_57 : Fw RX7 57 7 10 (.array (.array .int)) true := ⟨RX7, TX7, 14, tyX7, rfl, by decide, mw_1_125, inlX7, tyX7_ok, nmX7, by decide +kernel, rfl⟩
theorem fw_7_60 : Fw RX7 60 7 11 (.array (.array .int)) true := ⟨RX7, TX7, 14, tyX7, rfl, by decide, mw_1_126, inlX7, tyX7_ok, nmX7, by decide +kernel, rfl⟩
theorem fw_7_63 : Fw RX7 63 7 12 (.array .int) true := ⟨RX7, TX7, 14, tyX7, rfl, by decide, mw_1_127, inlX7, tyX7_ok, nmX7, by decide +kernel, rfl⟩
theorem fw_7_66 : Fw RX7 66 7 13 (.array .int) true := ⟨RX7, TX7, 14, tyX7, rfl, by decide, mw_1_128, inlX7, tyX7_ok, nmX7, by decide +kernel, rfl⟩
theorem fw_7_82 : Fw RX7 82 6 0 .int false := ⟨RX6, TX6, 3, tyX6, rfl, by decide, mw_1_46, inlX6, tyX6_ok, nmX6, by decide +kernel, rfl⟩
theorem fw_7_102 : Fw RX7 102 6 1 (.array .int) true := ⟨RX6, TX6, 3, tyX6, rfl, by decide, mw_1_52, inlX6, tyX6_ok, nmX6, by decide +kernel, rfl⟩
theorem fw_7_127 : Fw RX7 127 4 0 .int false := ⟨RX4, TX4, 4, tyX4, rfl, by decide, mw_1_88, inlX4, tyX4_ok, nmX4, by decide +kernel, rfl⟩
theorem fw_7_134 : Fw RX7 134 4 1 (.array .int) true := ⟨RX4, TX4, 4, tyX4, rfl, by decide, mw_1_91, inlX4, tyX4_ok, nmX4, by decide +kernel, rfl⟩
theorem fw_7_149 : Fw RX7 149 4 2 (.array .int) true := ⟨RX4, TX4, 4, tyX4, rfl, by decide, mw_1_94, inlX4, tyX4_ok, nmX4, by decide +kernel, rfl⟩
theorem fw_8_11 : Fw RX8 11 8 0 (.array (.object "MarkScripts$Row")) true := ⟨RX8, TX8, 11, tyX8, rfl, by decide, mw_1_234, inlX8, tyX8_ok, nmX8, by decide +kernel, rfl⟩
theorem fw_8_17 : Fw RX8 17 8 1 (.array (.object "MarkScripts$Text")) true := ⟨RX8, TX8, 11, tyX8, rfl, by decide, mw_1_235, inlX8, tyX8_ok, nmX8, by decide +kernel, rfl⟩
theorem fw_8_24 : Fw RX8 24 8 2 (.object "MarkScripts$Ways") true := ⟨RX8, TX8, 11, tyX8, rfl, by decide, mw_1_236, inlX8, tyX8_ok, nmX8, by decide +kernel, rfl⟩
theorem fw_8_32 : Fw RX8 32 8 3 (.object "MarkScripts$State") true := ⟨RX8, TX8, 11, tyX8, rfl, by decide, mw_1_237, inlX8, tyX8_ok, nmX8, by decide +kernel, rfl⟩
theorem fw_8_38 : Fw RX8 38 8 4 (.object "MarkScripts$Log") true := ⟨RX8, TX8, 11, tyX8, rfl, by decide, mw_1_238, inlX8, tyX8_ok, nmX8, by decide +kernel, rfl⟩
theorem fw_8_42 : Fw RX8 42 8 5 (.array (.object "MarkScripts$Log")) true := ⟨RX8, TX8, 11, tyX8, rfl, by decide, mw_1_239, inlX8, tyX8_ok, nmX8, by decide +kernel, rfl⟩
theorem fw_8_49 : Fw RX8 49 8 6 (.object "MarkScripts$Reader") true := ⟨RX8, TX8, 11, tyX8, rfl, by decide, mw_2_0, inlX8, tyX8_ok, nmX8, by decide +kernel, rfl⟩
theorem fw_8_56 : Fw RX8 56 8 7 (.object "MarkScripts$Tree") true := ⟨RX8, TX8, 11, tyX8, rfl, by decide, mw_2_1, inlX8, tyX8_ok, nmX8, by decide +kernel, rfl⟩
theorem fw_8_60 : Fw RX8 60 8 8 (.array .int) true := ⟨RX8, TX8, 11, tyX8, rfl, by decide, mw_2_2, inlX8, tyX8_ok, nmX8, by decide +kernel, rfl⟩
theorem fw_8_64 : Fw RX8 64 8 9 .int false := ⟨RX8, TX8, 11, tyX8, rfl, by decide, mw_2_3, inlX8, tyX8_ok, nmX8, by decide +kernel, rfl⟩
theorem fw_8_68 : Fw RX8 68 8 10 .int false := ⟨RX8, TX8, 11, tyX8, rfl, by decide, mw_2_4, inlX8, tyX8_ok, nmX8, by decide +kernel, rfl⟩
theorem fw_8_84 : Fw RX8 84 2 0 .int false := ⟨RX2, TX2, 2, tyX2, rfl, by decide, mw_1_209, inlX2, tyX2_ok, nmX2, by decide +kernel, rfl⟩
theorem fw_8_87 : Fw RX8 87 2 1 (.array .int) true := ⟨RX2, TX2, 2, tyX2, rfl, by decide, mw_1_211, inlX2, tyX2_ok, nmX2, by decide +kernel, rfl⟩
theorem fw_8_111 : Fw RX8 111 5 0 .int false := ⟨RX5, TX5, 2, tyX5, rfl, by decide, mw_1_224, inlX5, tyX5_ok, nmX5, by decide +kernel, rfl⟩
theorem fw_8_112 : Fw RX8 112 5 1 (.array .byte) true := ⟨RX5, TX5, 2, tyX5, rfl, by decide, mw_1_227, inlX5, tyX5_ok, nmX5, by decide +kernel, rfl⟩
theorem fw_8_129 : Fw RX8 129 1 0 (.object "MarkScripts$Tree") true := ⟨RX1, TX1, 6, tyX1, rfl, by decide, mw_1_182, inlX1, tyX1_ok, nmX1, by decide +kernel, rfl⟩
theorem fw_8_135 : Fw RX8 135 7 1 .boolean false := ⟨RX7, TX7, 14, tyX7, rfl, by decide, mw_1_112, inlX7, tyX7_ok, nmX7, by decide +kernel, rfl⟩
theorem fw_8_139 : Fw RX8 139 0 0 .int false := ⟨RX0, TX0, 2, tyX0, rfl, by decide, mw_1_165, inlX0, tyX0_ok, nmX0, by decide +kernel, rfl⟩
theorem fw_8_142 : Fw RX8 142 6 0 .int false := ⟨RX6, TX6, 3, tyX6, rfl, by decide, mw_1_48, inlX6, tyX6_ok, nmX6, by decide +kernel, rfl⟩
theorem fw_8_156 : Fw RX8 156 6 1 (.array .int) true := ⟨RX6, TX6, 3, tyX6, rfl, by decide, mw_1_54, inlX6, tyX6_ok, nmX6, by decide +kernel, rfl⟩
theorem fw_8_185 : Fw RX8 185 7 5 (.array (.array .int)) true := ⟨RX7, TX7, 14, tyX7, rfl, by decide, mw_1_120, inlX7, tyX7_ok, nmX7, by decide +kernel, rfl⟩
theorem fw_8_189 : Fw RX8 189 7 4 (.array (.array .int)) true := ⟨RX7, TX7, 14, tyX7, rfl, by decide, mw_1_118, inlX7, tyX7_ok, nmX7, by decide +kernel, rfl⟩
theorem fw_8_196 : Fw RX8 196 7 3 (.object "MarkScripts$Steps") true := ⟨RX7, TX7, 14, tyX7, rfl, by decide, mw_1_116, inlX7, tyX7_ok, nmX7, by decide +kernel, rfl⟩
theorem fw_8_200 : Fw RX8 200 4 0 .int false := ⟨RX4, TX4, 4, tyX4, rfl, by decide, mw_1_89, inlX4, tyX4_ok, nmX4, by decide +kernel, rfl⟩
theorem fw_8_203 : Fw RX8 203 4 1 (.array .int) true := ⟨RX4, TX4, 4, tyX4, rfl, by decide, mw_1_92, inlX4, tyX4_ok, nmX4, by decide +kernel, rfl⟩
theorem fw_8_206 : Fw RX8 206 4 2 (.array .int) true := ⟨RX4, TX4, 4, tyX4, rfl, by decide, mw_1_95, inlX4, tyX4_ok, nmX4, by decide +kernel, rfl⟩
theorem fw_8_209 : Fw RX8 209 4 3 (.array .int) true := ⟨RX4, TX4, 4, tyX4, rfl, by decide, mw_1_97, inlX4, tyX4_ok, nmX4, by decide +kernel, rfl⟩
theorem fw_8_216 : Fw RX8 216 3 0 (.object "MarkScripts$Tree") true := ⟨RX3, TX3, 3, tyX3, rfl, by decide, mw_1_68, inlX3, tyX3_ok, nmX3, by decide +kernel, rfl⟩
theorem fw_8_222 : Fw RX8 222 3 1 (.object "MarkScripts$Tree") true := ⟨RX3, TX3, 3, tyX3, rfl, by decide, mw_1_71, inlX3, tyX3_ok, nmX3, by decide +kernel, rfl⟩
theorem fw_8_251 : Fw RX8 251 3 2 (.array .int) true := ⟨RX3, TX3, 3, tyX3, rfl, by decide, mw_1_73, inlX3, tyX3_ok, nmX3, by decide +kernel, rfl⟩
theorem fw_8_315 : Fw RX8 315 7 2 .int false := ⟨RX7, TX7, 14, tyX7, rfl, by decide, mw_1_114, inlX7, tyX7_ok, nmX7, by decide +kernel, rfl⟩
theorem fw_9_7 : Fw RX9 7 9 0 (.array .int) true := ⟨RX9, TX9, 31, tyX9, rfl, by decide, mw_4_31, inlX9, tyX9_ok, nmX9, by decide +kernel, rfl⟩
theorem fw_9_13 : Fw RX9 13 9 1 (.array .int) true := ⟨RX9, TX9, 31, tyX9, rfl, by decide, mw_4_32, inlX9, tyX9_ok, nmX9, by decide +kernel, rfl⟩
theorem fw_9_16 : Fw RX9 16 9 2 (.array .int) true := ⟨RX9, TX9, 31, tyX9, rfl, by decide, mw_4_33, inlX9, tyX9_ok, nmX9, by decide +kernel, rfl⟩
theorem fw_9_19 : Fw RX9 19 9 3 (.array .int) true := ⟨RX9, TX9, 31, tyX9, rfl, by decide, mw_4_34, inlX9, tyX9_ok, nmX9, by decide +kernel, rfl⟩
theorem fw_9_22 : Fw RX9 22 9 4 (.array .int) true := ⟨RX9, TX9, 31, tyX9, rfl, by decide, mw_4_35, inlX9, tyX9_ok, nmX9, by decide +kernel, rfl⟩
theorem fw_9_25 : Fw RX9 25 9 5 (.array .int) true := ⟨RX9, TX9, 31, tyX9, rfl, by decide, mw_4_36, inlX9, tyX9_ok, nmX9, by decide +kernel, rfl⟩
theorem fw_9_28 : Fw RX9 28 9 7 (.array .int) true := ⟨RX9, TX9, 31, tyX9, rfl, by decide, mw_4_38, inlX9, tyX9_ok, nmX9, by decide +kernel, rfl⟩
theorem fw_9_31 : Fw RX9 31 9 8 (.array .boolean) true := ⟨RX9, TX9, 31, tyX9, rfl, by decide, mw_4_39, inlX9, tyX9_ok, nmX9, by decide +kernel, rfl⟩
theorem fw_9_35 : Fw RX9 35 9 11 (.array .int) true := ⟨RX9, TX9, 31, tyX9, rfl, by decide, mw_4_42, inlX9, tyX9_ok, nmX9, by decide +kernel, rfl⟩
theorem fw_9_38 : Fw RX9 38 9 14 (.array .int) true := ⟨RX9, TX9, 31, tyX9, rfl, by decide, mw_4_45, inlX9, tyX9_ok, nmX9, by decide +kernel, rfl⟩
theorem fw_9_41 : Fw RX9 41 9 15 (.array .int) true := ⟨RX9, TX9, 31, tyX9, rfl, by decide, mw_4_46, inlX9, tyX9_ok, nmX9, by decide +kernel, rfl⟩
theorem fw_9_44 : Fw RX9 44 9 16 (.array .int) true := ⟨RX9, TX9, 31, tyX9, rfl, by decide, mw_4_47, inlX9, tyX9_ok, nmX9, by decide +kernel, rfl⟩
theorem fw_9_47 : Fw RX9 47 9 17 (.array .int) true := ⟨RX9, TX9, 31, tyX9, rfl, by decide, mw_4_48, inlX9, tyX9_ok, nmX9, by decide +kernel, rfl⟩
theorem fw_9_50 : Fw RX9 50 9 18 (.array .int) true := ⟨RX9, TX9, 31, tyX9, rfl, by decide, mw_4_49, inlX9, tyX9_ok, nmX9, by decide +kernel, rfl⟩
theorem fw_9_53 : Fw RX9 53 9 20 (.array .int) true := ⟨RX9, TX9, 31, tyX9, rfl, by decide, mw_4_51, inlX9, tyX9_ok, nmX9, by decide +kernel, rfl⟩
theorem fw_9_56 : Fw RX9 56 9 21 (.array .int) true := ⟨RX9, TX9, 31, tyX9, rfl, by decide, mw_4_52, inlX9, tyX9_ok, nmX9, by decide +kernel, rfl⟩
theorem fw_9_59 : Fw RX9 59 9 22 (.array .int) true := ⟨RX9, TX9, 31, tyX9, rfl, by decide, mw_4_53, inlX9, tyX9_ok, nmX9, by decide +kernel, rfl⟩
theorem fw_9_62 : Fw RX9 62 9 23 (.array .int) true := ⟨RX9, TX9, 31, tyX9, rfl, by decide, mw_4_54, inlX9, tyX9_ok, nmX9, by decide +kernel, rfl⟩
theorem fw_9_65 : Fw RX9 65 9 24 (.array .int) true := ⟨RX9, TX9, 31, tyX9, rfl, by decide, mw_4_55, inlX9, tyX9_ok, nmX9, by decide +kernel, rfl⟩
theorem fw_9_68 : Fw RX9 68 9 25 (.array .int) true := ⟨RX9, TX9, 31, tyX9, rfl, by decide, mw_4_56, inlX9, tyX9_ok, nmX9, by decide +kernel, rfl⟩
theorem fw_9_71 : Fw RX9 71 9 26 (.array .int) true := ⟨RX9, TX9, 31, tyX9, rfl, by decide, mw_4_57, inlX9, tyX9_ok, nmX9, by decide +kernel, rfl⟩
theorem fw_9_74 : Fw RX9 74 9 27 (.array .int) true := ⟨RX9, TX9, 31, tyX9, rfl, by decide, mw_4_58, inlX9, tyX9_ok, nmX9, by decide +kernel, rfl⟩
theorem fw_9_77 : Fw RX9 77 9 28 (.array .int) true := ⟨RX9, TX9, 31, tyX9, rfl, by decide, mw_4_59, inlX9, tyX9_ok, nmX9, by decide +kernel, rfl⟩
theorem fw_9_80 : Fw RX9 80 9 29 (.array .int) true := ⟨RX9, TX9, 31, tyX9, rfl, by decide, mw_4_60, inlX9, tyX9_ok, nmX9, by decide +kernel, rfl⟩
theorem fw_9_83 : Fw RX9 83 9 10 .int false := ⟨RX9, TX9, 31, tyX9, rfl, by decide, mw_4_41, inlX9, tyX9_ok, nmX9, by decide +kernel, rfl⟩
theorem fw_9_87 : Fw RX9 87 9 9 .int false := ⟨RX9, TX9, 31, tyX9, rfl, by decide, mw_4_40, inlX9, tyX9_ok, nmX9, by decide +kernel, rfl⟩
theorem fw_9_122 : Fw RX9 122 9 12 .int false := ⟨RX9, TX9, 31, tyX9, rfl, by decide, mw_4_43, inlX9, tyX9_ok, nmX9, by decide +kernel, rfl⟩
theorem fw_9_125 : Fw RX9 125 9 13 .int false := ⟨RX9, TX9, 31, tyX9, rfl, by decide, mw_4_44, inlX9, tyX9_ok, nmX9, by decide +kernel, rfl⟩
theorem fw_9_144 : Fw RX9 144 9 6 .int false := ⟨RX9, TX9, 31, tyX9, rfl, by decide, mw_4_37, inlX9, tyX9_ok, nmX9, by decide +kernel, rfl⟩
theorem fw_9_147 : Fw RX9 147 9 19 .int false := ⟨RX9, TX9, 31, tyX9, rfl, by decide, mw_4_50, inlX9, tyX9_ok, nmX9, by decide +kernel, rfl⟩
theorem fw_9_241 : Fw RX9 241 9 30 .int false := ⟨RX9, TX9, 31, tyX9, rfl, by decide, mw_4_61, inlX9, tyX9_ok, nmX9, by decide +kernel, rfl⟩
