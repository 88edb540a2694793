/-! The count of bits. -/
def pop : Nat → Nat → Nat
  | 0, _ => 0
  | k + 1, n => pop k n + (if n.testBit k then 1 else 0)
def bcN (n : Nat) : Nat :=
  let a := n - ((n >>> 1) &&& 1431655765)
  let b := (a &&& 858993459) + ((a >>> 2) &&& 858993459)
  let c := (b + (b >>> 4)) &&& 252645135
  let d := c + (c >>> 8)
  (d + (d >>> 16)) &&& 63
/-- all numbers with the upper part o, c its bits -/
def allTc (f : Nat → Nat → Bool) : Nat → Nat → Nat → Bool
  | 0, o, c => f o c
  | k + 1, o, c => allTc f k (2 * o) c && allTc f k (2 * o + 1) (c + 1)
theorem pop_low (k o b : Nat) (hb : b < 2) : pop (k + 1) (2 * o + b) = pop k o + b := by
  induction k with
  | zero =>
    rw [pop, pop, pop, Nat.testBit_zero]
    rcases (show b = 0 ∨ b = 1 by omega) with rfl | rfl
    · rw [show (2 * o + 0) % 2 = 0 by omega]; rfl
    · rw [show (2 * o + 1) % 2 = 1 by omega]; rfl
  | succ k ih =>
    rw [pop, ih, pop, Nat.testBit_succ, show (2 * o + b) / 2 = o by omega]
    omega
theorem pop_0 (k : Nat) : pop k 0 = 0 := by
  induction k with
  | zero => rfl
  | succ k ih => rw [pop, ih, Nat.zero_testBit]; rfl
theorem allTc_ok (f : Nat → Nat → Bool) : ∀ k j o c, c = pop j o → o < 2 ^ j → allTc f k o c = true → ∀ n, n / 2 ^ k = o → f n (pop (j + k) n) = true := by
  intro k
  induction k with
  | zero =>
    intro j o c hc ho h n hn
    rw [Nat.pow_zero, Nat.div_one] at hn
    rw [Nat.add_zero, hn, ← hc]
    exact h
  | succ k ih =>
    intro j o c hc ho h n hn
    rw [allTc, Bool.and_eq_true] at h
    rw [Nat.pow_succ, ← Nat.div_div_eq_div_mul] at hn
    have hp : 2 ^ (j + 1) = 2 ^ j * 2 := Nat.pow_succ 2 j
    rw [show j + (k + 1) = j + 1 + k by omega]
    rcases (show n / 2 ^ k = 2 * o ∨ n / 2 ^ k = 2 * o + 1 by omega) with q | q
    · exact ih (j + 1) _ c (by rw [show 2 * o = 2 * o + 0 from rfl, pop_low j o 0 (by omega)]; omega) (by omega) h.1 n q
    · exact ih (j + 1) _ (c + 1) (by rw [pop_low j o 1 (by omega)]; omega) (by omega) h.2 n q
theorem bcN_all : allTc (fun n c => Nat.beq (bcN n) c) 14 0 0 = true := by decide +kernel
theorem bcN_pop {n : Nat} (h : n < 16384) : bcN n = pop 14 n := by
  have := allTc_ok _ 14 0 0 0 rfl (by omega) bcN_all n (by omega)
  rw [Nat.zero_add] at this
  exact Nat.eq_of_beq_eq_true this
theorem bc_w {a : Nat} (h : a < 2147483648) : w32 (a : Int) = (a : Int) := w32_id (by unfold okI; omega)
theorem and32_lit {a : Nat} (k : Nat) {z : Int} (e : z = (k : Int)) (ha : a < 2147483648) (hk : k < 2147483648) : and32 (a : Int) z = ((a &&& k : Nat) : Int) := by
  subst e
  exact and32_nat ha hk
theorem ushr32_lit {a : Nat} (k : Nat) {z : Int} (e : z = (k : Int)) (ha : a < 2147483648) (hk : k < 32) : ushr32 (a : Int) z = ((a >>> k : Nat) : Int) := by
  subst e
  exact ushr32_nat ha hk
theorem bc_a {n : Nat} (h : n < 16384) : w32 ((n : Int) - and32 (ushr32 (n : Int) 1) 1431655765) = ((n - ((n >>> 1) &&& 1431655765) : Nat) : Int) := by
  have q1 : n >>> 1 ≤ n := Nat.shiftRight_le n 1
  have q2 : (n >>> 1) &&& 1431655765 ≤ n >>> 1 := Nat.and_le_left
  rw [ushr32_lit 1 (by omega) (by omega) (by omega), and32_lit 1431655765 (by omega) (by omega) (by omega)]
  generalize (n >>> 1) &&& 1431655765 = x at q2 ⊢
  rw [w32_id (by unfold okI; omega)]
  omega
theorem bc_b {n : Nat} (h : n < 16384) : w32 (and32 (n : Int) 858993459 + and32 (ushr32 (n : Int) 2) 858993459) = (((n &&& 858993459) + ((n >>> 2) &&& 858993459) : Nat) : Int) := by
  have q1 : n >>> 2 ≤ n := Nat.shiftRight_le n 2
  have q2 : (n >>> 2) &&& 858993459 ≤ n >>> 2 := Nat.and_le_left
  have q3 : n &&& 858993459 ≤ n := Nat.and_le_left
  rw [ushr32_lit 2 (by omega) (by omega) (by omega), and32_lit 858993459 (by omega) (by omega) (by omega), and32_lit 858993459 (by omega) (by omega) (by omega)]
  generalize (n >>> 2) &&& 858993459 = x at q2 ⊢
  generalize n &&& 858993459 = y at q3 ⊢
  rw [w32_id (by unfold okI; omega)]
  omega
theorem bc_c {n : Nat} (h : n < 32768) : and32 (w32 ((n : Int) + ushr32 (n : Int) 4)) 252645135 = (((n + (n >>> 4)) &&& 252645135 : Nat) : Int) := by
  have q1 : n >>> 4 ≤ n := Nat.shiftRight_le n 4
  rw [ushr32_lit 4 (by omega) (by omega) (by omega)]
  generalize n >>> 4 = x at q1 ⊢
  rw [w32_id (by unfold okI; omega), show (n : Int) + (x : Int) = ((n + x : Nat) : Int) by omega, and32_lit 252645135 (by omega) (by omega) (by omega)]
theorem bc_d {n : Nat} (h : n < 65536) : w32 ((n : Int) + ushr32 (n : Int) 8) = ((n + (n >>> 8) : Nat) : Int) := by
  have q1 : n >>> 8 ≤ n := Nat.shiftRight_le n 8
  rw [ushr32_lit 8 (by omega) (by omega) (by omega)]
  generalize n >>> 8 = x at q1 ⊢
  rw [w32_id (by unfold okI; omega)]
  omega
theorem bc_e {n : Nat} (h : n < 131072) : and32 (w32 ((n : Int) + ushr32 (n : Int) 16)) 63 = (((n + (n >>> 16)) &&& 63 : Nat) : Int) := by
  have q1 : n >>> 16 ≤ n := Nat.shiftRight_le n 16
  rw [ushr32_lit 16 (by omega) (by omega) (by omega)]
  generalize n >>> 16 = x at q1 ⊢
  rw [w32_id (by unfold okI; omega), show (n : Int) + (x : Int) = ((n + x : Nat) : Int) by omega, and32_lit 63 (by omega) (by omega) (by omega)]
theorem c_bitCount {n : Nat} (h : n < 16384) (M : mM) : gC 0 [iv (n : Int)] M = some (iv ((pop 14 n : Nat) : Int), M) := by
  rw [e_Integer_bitCount, ← bcN_pop h]
  unfold bcN
  dsimp only
  rw [bc_a h]
  have hA : n - ((n >>> 1) &&& 1431655765) < 16384 := Nat.lt_of_le_of_lt (Nat.sub_le _ _) h
  generalize n - ((n >>> 1) &&& 1431655765) = A at hA ⊢
  rw [bc_b hA]
  have hB : (A &&& 858993459) + ((A >>> 2) &&& 858993459) < 32768 := by
    have q1 : A >>> 2 ≤ A := Nat.shiftRight_le A 2
    have q2 : (A >>> 2) &&& 858993459 ≤ A >>> 2 := Nat.and_le_left
    have q3 : A &&& 858993459 ≤ A := Nat.and_le_left
    omega
  generalize (A &&& 858993459) + ((A >>> 2) &&& 858993459) = B at hB ⊢
  rw [bc_c hB]
  have hC : (B + (B >>> 4)) &&& 252645135 < 65536 := by
    have q1 : B >>> 4 ≤ B := Nat.shiftRight_le B 4
    have q2 : (B + (B >>> 4)) &&& 252645135 ≤ B + (B >>> 4) := Nat.and_le_left
    omega
  generalize (B + (B >>> 4)) &&& 252645135 = C at hC ⊢
  rw [bc_d hC]
  have hD : C + (C >>> 8) < 131072 := by
    have q1 : C >>> 8 ≤ C := Nat.shiftRight_le C 8
    omega
  generalize C + (C >>> 8) = D at hD ⊢
  rw [bc_e hD]
theorem pop_testBit_ge {k n : Nat} (h : n < 2 ^ k) (j : Nat) : pop (k + j) n = pop k n := by
  induction j with
  | zero => rfl
  | succ j ih =>
    rw [← Nat.add_assoc, pop, ih, Nat.testBit_lt_two_pow (Nat.lt_of_lt_of_le h (Nat.pow_le_pow_right (by omega) (by omega)))]
    rfl
theorem pop_le (k n : Nat) : pop k n ≤ k := by
  induction k with
  | zero => exact Nat.le_refl 0
  | succ k ih =>
    rw [pop]
    split <;> omega
theorem pop_mono {a b : Nat} (h : ∀ i, a.testBit i = true → b.testBit i = true) (k : Nat) : pop k a ≤ pop k b := by
  induction k with
  | zero => exact Nat.le_refl 0
  | succ k ih =>
    rw [pop, pop]
    have := h k
    by_cases hk : a.testBit k = true
    · rw [if_pos hk, if_pos (this hk)]
      omega
    · rw [if_neg hk]
      omega
