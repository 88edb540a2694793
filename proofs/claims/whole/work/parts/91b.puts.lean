/-! What the class writes into WORKS, each behind a test of its index. -/
theorem put_hold {x : Int} (h : 0 ≤ x ∧ x < 8) (w : Nat) (v : Int) (M : mM) : gC 104 [rv 9 w, iv x, iv v] M = some (none, st M (w + 3) x.toNat (or32 (M (w + 3) x.toNat) v)) := by
  have n1 : ¬ x < 0 := by omega
  have n2 : ¬ (8 : Int) ≤ x := by omega
  rw [e_Works_hold, if_neg n1, if_neg n2, if_pos h, if_pos h]
theorem put_const {x : Int} (h : 0 ≤ x ∧ x < 8) (w : Nat) (v : Int) (M : mM) : gC 107 [rv 9 w, iv x, iv v] M = some (none, st M (w + 2) x.toNat (w32 (M (w + 2) x.toNat + v))) := by
  have n1 : ¬ x < 0 := by omega
  have n2 : ¬ (8 : Int) ≤ x := by omega
  rw [e_Works_addConstant, if_neg n1, if_neg n2, if_pos h, if_pos h]
theorem put_noise {x : Int} (h : 0 ≤ x ∧ x < 6) (w : Nat) (v : Int) (M : mM) : gC 108 [rv 9 w, iv x, iv v] M = some (none, st M (w + 4) x.toNat v) := by
  have n1 : ¬ x < 0 := by omega
  have n2 : ¬ (6 : Int) ≤ x := by omega
  rw [e_Works_putNoise, if_neg n1, if_neg n2, if_pos h]
theorem put_cost {x : Int} (h : 0 ≤ x ∧ x < 6) (w : Nat) (v : Int) (M : mM) : gC 109 [rv 9 w, iv x, iv v] M = some (none, st M (w + 5) x.toNat v) := by
  have n1 : ¬ x < 0 := by omega
  have n2 : ¬ (6 : Int) ≤ x := by omega
  rw [e_Works_putCost, if_neg n1, if_neg n2, if_pos h]
theorem put_fault {x : Int} (h : 0 ≤ x ∧ x < 8) (w : Nat) (v : Int) (M : mM) : gC 110 [rv 9 w, iv x, iv v] M = some (none, st M (w + 7) x.toNat v) := by
  have n1 : ¬ x < 0 := by omega
  have n2 : ¬ (8 : Int) ≤ x := by omega
  rw [e_Works_putRowOfFault, if_neg n1, if_neg n2, if_pos h]
