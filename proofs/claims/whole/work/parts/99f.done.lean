/-! The start, and all the calls together. -/
theorem m0_WF : WF (fun _ _ => 0) := by
  have a1 : wU (fun _ _ => 0) = 0 := rfl
  have a2 : wE (fun _ _ => 0) = 0 := rfl
  have a3 : wG (fun _ _ => 0) = 0 := rfl
  have a4 : wF (fun _ _ => 0) = 0 := rfl
  have a5 : wI (fun _ _ => 0) = 0 := rfl
  have a6 : wP (fun _ _ => 0) = 0 := rfl
  have a7 : wD (fun _ _ => 0) = 0 := rfl
  have a8 : ∀ r, wH (fun _ _ => 0) r = 0 := fun r => by
    unfold wH
    by_cases z : r < 14
    · rw [if_pos z]
      rfl
    · rw [if_neg z]
  unfold WF
  rw [a1, a2, a3, a4, a5, a6, a7]
  refine ⟨⟨⟨rfl, by omega⟩, ⟨rfl, by omega⟩, ⟨rfl, by omega⟩, ⟨rfl, by omega⟩⟩, ⟨⟨rfl, by omega⟩, ⟨rfl, by omega⟩, ⟨rfl, by omega⟩⟩, fun r u hr hu => (show (-9 : Int) ≤ 0 ∧ (0 : Int) ≤ 9 by decide), fun e he => (show (-400000 : Int) ≤ 0 ∧ (0 : Int) ≤ 400000 by decide), fun e he => ⟨rfl, (show (0 : Nat) < 16 by decide)⟩, fun g hg => ⟨rfl, (show (0 : Nat) ≤ 3 by decide)⟩, fun g hg => ⟨rfl, (show (0 : Nat) ≤ 100 by decide)⟩, fun g hg => (show (-9999 : Int) ≤ 0 ∧ (0 : Int) ≤ 9999 by decide), fun f hf => rfl, fun f hf => absurd hf (Nat.not_lt_zero f), fun r hr => ?_, fun g hg => absurd hg (Nat.not_lt_zero g)⟩
  rw [a8]
  refine ⟨rfl, by omega, fun u hu => ?_⟩
  rw [Nat.zero_testBit]
  exact ⟨fun q => absurd q Bool.false_ne_true, fun q => absurd rfl q⟩
theorem rel0 : Rel M0C M0R := by
  refine ⟨fun _ _ => 0, 0, fun _ => 0, -1, m0_WF, fun i hi => absurd hi (Nat.not_lt_zero i), ⟨40, 50, ⟨Or.inl ⟨rfl, rfl⟩, rfl, rfl, ⟨Or.inl rfl, fun j hj => ?_⟩, ⟨rfl, by omega, fun i hi => absurd hi (Nat.not_lt_zero i)⟩, rfl⟩, Or.inl rfl⟩, 0, ⟨⟨by omega, rfl, ⟨rfl, rfl, rfl, rfl⟩, ⟨rfl, rfl, rfl⟩, fun e u he => absurd he (Nat.not_lt_zero e), fun e he => absurd he (Nat.not_lt_zero e), fun e he => absurd he (Nat.not_lt_zero e), fun e he => absurd he (Nat.not_lt_zero e), fun e he => absurd he (Nat.not_lt_zero e), fun e he => absurd he (Nat.not_lt_zero e), fun e he => absurd he (Nat.not_lt_zero e), fun g hg => rfl⟩, ⟨rfl, by omega, fun i hi => absurd hi (Nat.not_lt_zero i)⟩, rfl, rfl⟩, Or.inl rfl⟩
  rcases (show j = 0 ∨ j = 1 ∨ j = 2 ∨ j = 3 ∨ j = 4 ∨ j = 5 ∨ j = 6 ∨ j = 7 ∨ j = 8 by omega) with rfl | rfl | rfl | rfl | rfl | rfl | rfl | rfl | rfl <;> rfl
theorem all_calls : PureAll Rel :=
  ⟨fun a b c d e _ _ _ _ _ => p_feed a b c d e, fun a _ => p_back a, p_read, p_place, fun a _ => p_position a, fun a b _ _ => p_in a b, fun a b _ _ => p_dead a b, fun a b _ _ => p_reading a b, fun a b _ _ => p_number a b, p_net, p_pairs, fun a _ => p_row a, fun a _ => p_unknown a, p_tests, fun a _ => p_test a, fun a b _ _ => p_parts a b, fun a _ => p_seen a, fun a b _ _ => p_parted a b, fun a _ => p_told a, fun _ h => p_adding h, p_taking, p_positions, fun a _ => p_cost a, fun a b _ _ => p_uses a b, fun a b c _ _ _ => p_use a b c, fun a b _ _ => p_ring a b, fun a _ => p_runs a, fun a b _ _ => p_weight a b, fun a _ => p_nought a, fun a _ => p_bound a, fun a _ => p_rings a, fun a b _ _ => p_from a b, fun a b c d _ _ _ _ => p_odds a b c d, fun _ h => p_sets h, fun _ b h _ => p_set h b, p_look, fun a b _ _ => p_hide a b, fun a h => p_still a h, fun a b c _ _ _ => p_judged a b c, fun a b _ _ => p_mistaken a b, fun _ h => p_count h⟩
theorem whole_start {p : Program} {e : Env} {s : State} {m : MethodId} {below : List Frame} {meth : Method} {c : Code} (l : Launch) (_ : l.flags = flags0) {b L : Nat} {xs : Nat → Int32} (hL : L ≤ 3072) (C0 : lw_At p s m meth c b L xs) : W p l e room_1 s m #[Value.ref b] below meth c s.heap [] 0 0 (lw_Z below #[Value.ref b] s) (entryFrame m ([Value.ref b] : List Value).toArray 4) := whole_of all_calls rel0 l hL C0
