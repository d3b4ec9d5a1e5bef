/-! all calls -/
theorem sim_all : Sim (InvS SolX) := ⟨sim_row cong, sim_lay cong, sim_at cong, sim_tear cong, sim_copy cong, sim_mean cong, sim_text cong, sim_put cong, sim_fault, sim_document, sim_write, sim_node congW.sol, sim_mark congW.sol, sim_least, sim_cost, sim_partner, sim_step, sim_behind, sim_work congW.sol, sim_nearest, sim_would, sim_change, sim_cut, sim_add, sim_price, sim_turn, sim_undo, sim_keep, sim_on, sim_lots, sim_asked, sim_count, sim_finding, sim_findings, sim_digest⟩
theorem inv_0 : InvS SolX s0C s0M := by
  have d0 : WF ((0, fun _ => 0, fun _ => 0) : Doc) := ⟨⟨by decide, fun x hx => absurd hx (Nat.not_lt_zero x), fun x y hx => absurd hx (Nat.not_lt_zero x)⟩, fun h => absurd h (Nat.lt_irrefl 0)⟩
  have cA : ∀ r, r < 6 → s0C (10 + 2 * r) 0 = -1 := fun r hr => by
    unfold s0C
    rw [if_neg (by omega), if_neg (by omega), if_pos (by omega)]
  have cB : ∀ r, r < 4 → s0C (22 + 2 * r) 0 = -1 := fun r hr => by
    unfold s0C
    rw [if_neg (by omega), if_neg (by omega), if_pos (by omega)]
  have cP : ∀ r, r < 3 → s0C (32 + 2 * r) 0 = -1 := fun r hr => by
    unfold s0C
    rw [if_neg (by omega), if_neg (by omega), if_pos (by omega)]
  have c7 : ∀ k, k < 3 → s0C 7 k = 1 := fun k hk => by
    unfold s0C
    rw [if_pos ⟨rfl, hk⟩]
  have c5 : s0C 5 1 = 1 := by
    unfold s0C
    rw [if_neg (by omega), if_pos ⟨rfl, rfl⟩]
  have c0 : ∀ a i, a = 0 ∨ a = 1 ∨ a = 30 ∨ a = 38 ∨ a = 41 → s0C a i = 0 := fun a i h => by
    unfold s0C
    rw [if_neg (by omega), if_neg (by omega), if_neg (by omega)]
  have m1 : ∀ r, r < 6 → s0M 1 r = -1 := fun r hr => by
    unfold s0M
    rw [if_pos ⟨rfl, hr⟩]
  have m3 : ∀ r, r < 4 → s0M 3 r = -1 := fun r hr => by
    unfold s0M
    rw [if_neg (by omega), if_pos ⟨rfl, hr⟩]
  have m5 : ∀ k, k < 3 → s0M 5 (50 + k) = 1 := fun k hk => by
    unfold s0M
    rw [if_neg (by omega), if_neg (by omega), if_pos ⟨rfl, by omega, by omega⟩]
  have m0 : ∀ a i, a = 0 ∨ a = 8 ∨ a = 9 ∨ (a = 5 ∧ i < 50) → s0M a i = 0 := fun a i h => by
    unfold s0M
    rw [if_neg (by omega), if_neg (by omega), if_neg (by omega)]
  refine ⟨fun r hr => ?_, fun k hk => ?_, ⟨?_, ?_, fun f hf => ?_⟩, ((0, fun _ => 0, fun _ => 0), (0, fun _ => 0, fun _ => 0), fun _ => 1), 0, fun _ => ((0, fun _ => 0, fun _ => 0), (0, fun _ => 0, fun _ => 0), fun _ => 1), ⟨d0, d0, fun k hk => ⟨by show (1 : Int) ≤ 1; omega, by show (1 : Int) ≤ 9; omega⟩⟩, ⟨⟨?_, fun x hx => absurd hx (Nat.not_lt_zero x)⟩, ⟨?_, fun x hx => absurd hx (Nat.not_lt_zero x)⟩, c7⟩, ⟨⟨?_, fun x hx => absurd hx (Nat.not_lt_zero x)⟩, ⟨?_, fun x hx => absurd hx (Nat.not_lt_zero x)⟩, m5⟩, ⟨by omega, ?_, ?_, fun i hi => absurd hi (Nat.not_lt_zero i)⟩, fun k hk => Or.inl ⟨m0 8 k (by omega), cP k hk⟩, Or.inl c5⟩
  · rw [cA r hr, m1 r hr]
    exact ⟨rfl, by omega, by omega, fun i hi => by omega⟩
  · rw [cB k hk, m3 k hk]
    exact ⟨rfl, by omega, by omega, fun i hi => by omega⟩
  · rw [c0 0 9 (by omega), m0 0 10 (by omega)]
  · rw [c0 0 10 (by omega), m0 0 9 (by omega)]
  · rw [c0 1 f (by omega), m0 9 f (by omega)]
  · exact c0 38 0 (by omega)
  · exact c0 41 0 (by omega)
  · exact m0 5 0 (by omega)
  · exact m0 5 25 (by omega)
  · exact c0 30 0 (by omega)
  · exact m0 0 6 (by omega)
theorem whole_start {p : Program} {e : Env} {s : State} {m : MethodId} {below : List Frame} {meth : Method} {c : Code} (l : Launch) (_ : l.flags = flags0) {b L : Nat} {xs : Nat → Int32} (hL : L ≤ 3072) (C0 : lw_At p s m meth c b L xs) : W p l e room_1 s m #[Value.ref b] below meth c s.heap [] 0 0 (lw_Z below #[Value.ref b] s) (entryFrame m ([Value.ref b] : List Value).toArray 4) := whole_open l hL C0 sim_all inv_0
