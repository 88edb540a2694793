/-! The count of bits. -/
def pop : Nat → Nat → Nat
  | 0, _ => 0
  | k + 1, n => pop k n + (if n.testBit k then 1 else 0)
def bcN (n : Nat) : Nat :=
  let a := n - ((n >>> 1) &&& 1431655765)
  let b := (a &&& 858993459) + ((a >>> 2) &&& 858993459)
  let c := (b + (b >>> 4)) &&& 252645135
  let d := c + (c >>> 8)
  (d + (d >>> 16)) &&& 63
def allTo (f : Nat → Bool) : Nat → Nat → Bool
  | 0, o => f o
  | k + 1, o => allTo f k (2 * o) && allTo f k (2 * o + 1)
theorem allTo_ok (f : Nat → Bool) : ∀ k o, allTo f k o = true → ∀ n, n / 2 ^ k = o → f n = true := by
  intro k
  induction k with
  | zero =>
    intro o h n hn
    rw [Nat.pow_zero, Nat.div_one] at hn
    rw [hn]
    exact h
  | succ k ih =>
    intro o h n hn
    rw [allTo, Bool.and_eq_true] at h
    rw [Nat.pow_succ, ← Nat.div_div_eq_div_mul] at hn
    rcases (show n / 2 ^ k = 2 * o ∨ n / 2 ^ k = 2 * o + 1 by omega) with q | q
    · exact ih _ h.1 n q
    · exact ih _ h.2 n q
theorem bcN_all : allTo (fun n => Nat.beq (bcN n) (pop 14 n)) 14 0 = true := by decide +kernel
theorem bcN_pop {n : Nat} (h : n < 16384) : bcN n = pop 14 n :=
  Nat.eq_of_beq_eq_true (allTo_ok _ 14 0 bcN_all n (by omega))
theorem bc_w {a : Nat} (h : a < 2147483648) : w32 (a : Int) = (a : Int) := w32_id (by unfold okI; omega)
theorem c_bitCount {n : Nat} (h : n < 16384) (M : mM) : gC 0 [iv (n : Int)] M = some (iv ((pop 14 n : Nat) : Int), M) := by
  rw [e_Integer_bitCount, ← bcN_pop h]
  have u (x r : Nat) (hx : x < 2147483648) (hr : r < 32) : ushr32 (x : Int) (r : Int) = ((x >>> r : Nat) : Int) := ushr32_nat hx hr
  have l1 : ∀ x r : Nat, x >>> r ≤ x := fun x r => Nat.shiftRight_le x r
  have l2 : ∀ x y : Nat, x &&& y ≤ x := fun x y => Nat.and_le_left
  have a0 : ushr32 (n : Int) 1 = ((n >>> 1 : Nat) : Int) := u n 1 (by omega) (by omega)
  have q1 := l1 n 1
  have a1 : and32 ((n >>> 1 : Nat) : Int) 1431655765 = ((n >>> 1 &&& 1431655765 : Nat) : Int) := and32_nat (b := 1431655765) (by omega) (by omega)
  have q2 := l2 (n >>> 1) 1431655765
  have a2 : w32 ((n : Int) - ((n >>> 1 &&& 1431655765 : Nat) : Int)) = ((n - (n >>> 1 &&& 1431655765) : Nat) : Int) := by
    rw [← Int.ofNat_sub (by omega)]
    exact bc_w (by omega)
  rw [a0, a1, a2]
  generalize hA : n - (n >>> 1 &&& 1431655765) = A
  have b0 : and32 (A : Int) 858993459 = ((A &&& 858993459 : Nat) : Int) := and32_nat (b := 858993459) (by omega) (by omega)
  have b1 : ushr32 (A : Int) 2 = ((A >>> 2 : Nat) : Int) := u A 2 (by omega) (by omega)
  have q3 := l1 A 2
  have b2 : and32 ((A >>> 2 : Nat) : Int) 858993459 = ((A >>> 2 &&& 858993459 : Nat) : Int) := and32_nat (b := 858993459) (by omega) (by omega)
  have q4 := l2 A 858993459
  have q5 := l2 (A >>> 2) 858993459
  have b3 : w32 (((A &&& 858993459 : Nat) : Int) + ((A >>> 2 &&& 858993459 : Nat) : Int)) = (((A &&& 858993459) + (A >>> 2 &&& 858993459) : Nat) : Int) := by
    rw [← Int.natCast_add]
    exact bc_w (by omega)
  rw [b0, b1, b2, b3]
  generalize hB : (A &&& 858993459) + (A >>> 2 &&& 858993459) = B
  have c0 : ushr32 (B : Int) 4 = ((B >>> 4 : Nat) : Int) := u B 4 (by omega) (by omega)
  have q6 := l1 B 4
  have c1 : w32 ((B : Int) + ((B >>> 4 : Nat) : Int)) = ((B + B >>> 4 : Nat) : Int) := by
    rw [← Int.natCast_add]
    exact bc_w (by omega)
  have c2 : and32 ((B + B >>> 4 : Nat) : Int) 252645135 = ((B + B >>> 4 &&& 252645135 : Nat) : Int) := and32_nat (b := 252645135) (by omega) (by omega)
  have q7 := l2 (B + B >>> 4) 252645135
  rw [c0, c1, c2]
  generalize hC : (B + B >>> 4) &&& 252645135 = C
  have d0 : ushr32 (C : Int) 8 = ((C >>> 8 : Nat) : Int) := u C 8 (by omega) (by omega)
  have q8 := l1 C 8
  have d1 : w32 ((C : Int) + ((C >>> 8 : Nat) : Int)) = ((C + C >>> 8 : Nat) : Int) := by
    rw [← Int.natCast_add]
    exact bc_w (by omega)
  rw [d0, d1]
  generalize hD : C + C >>> 8 = D
  have f0 : ushr32 (D : Int) 16 = ((D >>> 16 : Nat) : Int) := u D 16 (by omega) (by omega)
  have q9 := l1 D 16
  have f1 : w32 ((D : Int) + ((D >>> 16 : Nat) : Int)) = ((D + D >>> 16 : Nat) : Int) := by
    rw [← Int.natCast_add]
    exact bc_w (by omega)
  have f2 : and32 ((D + D >>> 16 : Nat) : Int) 63 = ((D + D >>> 16 &&& 63 : Nat) : Int) := and32_nat (b := 63) (by omega) (by omega)
  rw [f0, f1, f2]
  unfold bcN
  dsimp only
  rw [hA, hB, hC, hD]
theorem pop_testBit_ge {k n : Nat} (h : n < 2 ^ k) (j : Nat) : pop (k + j) n = pop k n := by
  induction j with
  | zero => rfl
  | succ j ih =>
    rw [← Nat.add_assoc, pop, ih, Nat.testBit_lt_two_pow (Nat.lt_of_lt_of_le h (Nat.pow_le_pow_right (by omega) (by omega)))]
    rfl
theorem pop_le (k n : Nat) : pop k n ≤ k := by
  induction k with
  | zero => exact Nat.le_refl 0
  | succ k ih =>
    rw [pop]
    split <;> omega
theorem pop_mono {a b : Nat} (h : ∀ i, a.testBit i = true → b.testBit i = true) (k : Nat) : pop k a ≤ pop k b := by
  induction k with
  | zero => exact Nat.le_refl 0
  | succ k ih =>
    rw [pop, pop]
    have := h k
    by_cases hk : a.testBit k = true
    · rw [if_pos hk, if_pos (this hk)]
      omega
    · rw [if_neg hk]
      omega
