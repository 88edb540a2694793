/-! Loops, numbers, memory for the pure part. -/
theorem pu_up {α : Type} (P : Nat → α) (N : Nat) (h : ∀ i, i < N → P i = P (i + 1)) : P 0 = P N := by
  induction N with
  | zero => rfl
  | succ n ih => rw [ih (fun i hi => h i (by omega)), h n (by omega)]
theorem pu_from {α : Type} (P : Nat → α) (s N : Nat) (hs : s ≤ N) (h : ∀ i, s ≤ i → i < N → P i = P (i + 1)) : P s = P N := by
  induction N with
  | zero => rw [show s = 0 by omega]
  | succ n ih =>
    by_cases hn : s = n + 1
    · rw [hn]
    · rw [ih (by omega) (fun i h1 h2 => h i h1 (by omega)), h n (by omega) (by omega)]
theorem pu_rel {S : Type} {G : Nat → S → Option mR} {I : Nat → S → Prop} (N : Nat) (h : ∀ i s, i < N → I i s → ∃ s', I (i + 1) s' ∧ G i s = G (i + 1) s') : ∀ (i : Nat) (s : S), i ≤ N → I i s → ∃ s', I N s' ∧ G i s = G N s' := by
  intro i s hi hs
  obtain ⟨d, hd⟩ : ∃ d, N = i + d := ⟨N - i, by omega⟩
  induction d generalizing i s with
  | zero => exact ⟨s, by rw [hd]; exact hs, by rw [hd]; rfl⟩
  | succ d ih =>
    obtain ⟨s1, h1, h2⟩ := h i s (by omega) hs
    obtain ⟨s2, h3, h4⟩ := ih (i + 1) s1 (by omega) h1 (by omega)
    exact ⟨s2, h3, h2.trans h4⟩
theorem pu_exit {S : Type} {G : Nat → S → Option mR} {I : Nat → S → Prop} {Q : Option mR → Prop} (N : Nat) (h : ∀ i s, i < N → I i s → Q (G i s) ∨ ∃ s', I (i + 1) s' ∧ G i s = G (i + 1) s') (hN : ∀ s, I N s → Q (G N s)) : ∀ (i : Nat) (s : S), i ≤ N → I i s → Q (G i s) := by
  intro i s hi hs
  obtain ⟨d, hd⟩ : ∃ d, N = i + d := ⟨N - i, by omega⟩
  induction d generalizing i s with
  | zero =>
    have e : i = N := by omega
    subst e
    exact hN s hs
  | succ d ih =>
    rcases h i s (by omega) hs with q | ⟨s1, h1, h2⟩
    · exact q
    · rw [h2]
      exact ih (i + 1) s1 (by omega) h1 (by omega)
theorem pu_wf {S : Type} {G : S → Option mR} {I : S → Prop} (mu : S → Nat) {Q : Option mR → Prop} (h : ∀ s, I s → Q (G s) ∨ ∃ s', I s' ∧ mu s' < mu s ∧ G s = G s') : ∀ (s : S), I s → Q (G s) := by
  intro s hs
  obtain ⟨n, hn⟩ : ∃ n, mu s < n := ⟨mu s + 1, by omega⟩
  induction n generalizing s with
  | zero => omega
  | succ n ih =>
    rcases h s hs with q | ⟨s1, h1, h2, h3⟩
    · exact q
    · rw [h3]
      exact ih s1 h1 (by omega)
theorem pu_first (p : Nat → Bool) (N : Nat) : (∀ i, i < N → p i = false) ∨ ∃ k, k < N ∧ p k = true ∧ ∀ i, i < k → p i = false := by
  induction N with
  | zero => exact Or.inl (fun i hi => by omega)
  | succ n ih =>
    rcases ih with h | ⟨k, h1, h2, h3⟩
    · cases hp : p n with
      | true => exact Or.inr ⟨n, by omega, hp, h⟩
      | false =>
        refine Or.inl (fun i hi => ?_)
        by_cases e : i = n
        · rw [e]; exact hp
        · exact h i (by omega)
    · exact Or.inr ⟨k, by omega, h2, h3⟩
theorem pu_w32 {x : Int} (h1 : -2147483648 ≤ x) (h2 : x < 2147483648) : w32 x = x := w32_id ⟨h1, h2⟩
theorem pu_w64 {x : Int} (h1 : -9223372036854775808 ≤ x) (h2 : x < 9223372036854775808) : w64 x = x := w64_id ⟨h1, h2⟩
theorem pu_inc {i : Nat} (h : i < 2147483647) : w32 ((i : Int) + 1) = ((i + 1 : Nat) : Int) := by
  rw [pu_w32 (by omega) (by omega)]
  omega
theorem pu_nn (i : Nat) : ((i : Int)).toNat = i := Int.toNat_natCast i
theorem st_ob {m : mM} {o k o' : Nat} {v : Int} (h : o' ≠ o) : st m o k v o' = m o' := by
  funext k'
  unfold st
  rw [if_neg (fun q => h q.1)]
theorem st_nk {m : mM} {o k o' k' : Nat} {v : Int} (h : k' ≠ k) : st m o k v o' k' = m o' k' := by
  unfold st
  rw [if_neg (fun q => h q.2)]
theorem st_if (m : mM) (o k : Nat) (v : Int) (k' : Nat) : st m o k v o k' = if k' = k then v else m o k' := by
  unfold st
  by_cases h : k' = k
  · rw [if_pos ⟨rfl, h⟩, if_pos h]
  · rw [if_neg (fun q => h q.2), if_neg h]
/-! Sets of bits. -/
def hB (x : Nat) (r : Int) : Bool := decide (0 ≤ r) && x.testBit r.toNat
theorem hB_nat (x r : Nat) : hB x (r : Int) = x.testBit r := by
  unfold hB
  rw [decide_eq_true (by omega), Bool.true_and, Int.toNat_natCast]
theorem hB_neg (x : Nat) {r : Int} (h : r < 0) : hB x r = false := by
  unfold hB
  rw [decide_eq_false (by omega), Bool.false_and]
theorem tb_big {x k : Nat} (h : x < 2147483648) (hk : 31 ≤ k) : x.testBit k = false :=
  Nat.testBit_lt_two_pow (Nat.lt_of_lt_of_le (show x < 2 ^ 31 by omega) (Nat.pow_le_pow_right (by omega) hk))
theorem tb_lt {x n k : Nat} (h : x < 2 ^ n) (hk : n ≤ k) : x.testBit k = false :=
  Nat.testBit_lt_two_pow (Nat.lt_of_lt_of_le h (Nat.pow_le_pow_right (by omega) hk))
theorem tb_in {x n k : Nat} (h : x < 2 ^ n) (hk : x.testBit k = true) : k < n := by
  rcases Nat.lt_or_ge k n with q | q
  · exact q
  · rw [tb_lt h q] at hk
    cases hk
theorem c_hasBit {x : Nat} (hx : x < 2147483648) (r : Int) (M : mM) : gC 128 [iv (x : Int), iv r] M = some (iv (if hB x r = true then 1 else 0), M) := by
  rw [e_GaugeNet_hasBit]
  by_cases h0 : r < 0
  · rw [if_pos h0, hB_neg x h0]
    rfl
  · rw [if_neg h0]
    obtain ⟨k, rfl⟩ : ∃ k : Nat, r = (k : Int) := ⟨r.toNat, by omega⟩
    rw [hB_nat]
    by_cases h1 : (31 : Int) ≤ (k : Int)
    · rw [if_pos h1, tb_big hx (by omega)]
      rfl
    · rw [if_neg h1, hasBit_nat hx (by omega)]
      cases x.testBit k <;> rfl
/-- a, b: sets; a without r -/
theorem andnot1 {a r : Nat} (ha : a < 2147483648) (hr : r < 31) : and32 (a : Int) (xor32 (shl32 1 (r : Int)) (-1)) = ((bdiff a (2 ^ r) : Nat) : Int) := by
  rw [shl32_one hr]
  exact andnot32 ha (show 2 ^ r < 2 ^ 31 from Nat.pow_lt_pow_right (by omega) hr)
theorem pow31 {r : Nat} (hr : r < 31) : 2 ^ r < 2147483648 := show 2 ^ r < 2 ^ 31 from Nat.pow_lt_pow_right (by omega) hr
theorem or1 {a r : Nat} (ha : a < 2147483648) (hr : r < 31) : or32 (a : Int) (shl32 1 (r : Int)) = ((a ||| 2 ^ r : Nat) : Int) := by
  rw [shl32_one hr]
  exact or32_nat ha (pow31 hr)
theorem tb_pow (r i : Nat) : (2 ^ r).testBit i = decide (r = i) := Nat.testBit_two_pow
theorem tb_del (a r i : Nat) : (bdiff a (2 ^ r)).testBit i = (a.testBit i && !decide (r = i)) := by
  rw [bdiff_testBit, tb_pow]
def bset (f : Nat → Bool) : Nat → Nat
  | 0 => 0
  | k + 1 => bset f k ||| (if f k then 2 ^ k else 0)
theorem bset_tb (f : Nat → Bool) (k i : Nat) : (bset f k).testBit i = (decide (i < k) && f i) := by
  induction k with
  | zero => simp [bset]
  | succ k ih =>
    rw [bset, Nat.testBit_or, ih]
    by_cases e : i = k
    · subst e
      cases hf : f i
      · simp
      · simp
    · by_cases hf : f k = true
      · rw [if_pos hf, tb_pow]
        by_cases hl : i < k
        · simp [hl, show i < k + 1 by omega, show ¬ k = i by omega]
        · simp [hl, show ¬ i < k + 1 by omega, show ¬ k = i by omega]
      · rw [if_neg hf]
        by_cases hl : i < k
        · simp [hl, show i < k + 1 by omega]
        · simp [hl, show ¬ i < k + 1 by omega]
theorem bset_lt (f : Nat → Bool) (k : Nat) : bset f k < 2 ^ k := by
  apply Nat.lt_pow_two_of_testBit
  intro i hi
  rw [bset_tb, decide_eq_false (by omega), Bool.false_and]
theorem bset_step (f : Nat → Bool) {k : Nat} (hk : k < 31) : (if f k = true then or32 ((bset f k : Nat) : Int) (shl32 1 (k : Int)) else ((bset f k : Nat) : Int)) = ((bset f (k + 1) : Nat) : Int) := by
  have h := bset_lt f k
  have := pow31 hk
  by_cases hf : f k = true
  · rw [if_pos hf, or1 (by omega) hk, bset, if_pos hf]
  · rw [if_neg hf, bset, if_neg hf, Nat.or_zero]
theorem bset_congr {f g : Nat → Bool} {k : Nat} (h : ∀ i, i < k → f i = g i) : bset f k = bset g k := by
  apply Nat.eq_of_testBit_eq
  intro i
  rw [bset_tb, bset_tb]
  by_cases hi : i < k
  · rw [h i hi]
  · rw [decide_eq_false hi, Bool.false_and, Bool.false_and]
def sbs (a b : Nat) : Prop := ∀ i, a.testBit i = true → b.testBit i = true
theorem sbs_zero {a b : Nat} : bdiff a b = 0 ↔ sbs a b := by
  constructor
  · intro h i hi
    have := bdiff_testBit a b i
    rw [h, hi, Nat.zero_testBit] at this
    cases hb : b.testBit i with
    | true => rfl
    | false => rw [hb] at this; cases this
  · intro h
    apply Nat.eq_of_testBit_eq
    intro i
    rw [bdiff_testBit, Nat.zero_testBit]
    cases ha : a.testBit i with
    | false => rfl
    | true => rw [h i ha]; rfl
theorem sbs_refl (a : Nat) : sbs a a := fun _ h => h
theorem sbs_trans {a b c : Nat} (h : sbs a b) (h' : sbs b c) : sbs a c := fun i q => h' i (h i q)
theorem sbs_le {a b : Nat} (h : sbs a b) : a ≤ b := Nat.le_of_testBit (fun i q => h i q)
theorem sbs_anti {a b : Nat} (h : sbs a b) (h' : sbs b a) : a = b := Nat.le_antisymm (sbs_le h) (sbs_le h')
theorem pop_sbs {a b : Nat} (h : sbs a b) (k : Nat) : pop k a ≤ pop k b := pop_mono h k
theorem pop_eq_sbs {a b k : Nat} (h : sbs a b) (hb : b < 2 ^ k) (hp : pop k b ≤ pop k a) : a = b := by
  apply sbs_anti h
  have key : ∀ n, pop n a ≤ pop n b ∧ (pop n b ≤ pop n a → ∀ i, i < n → b.testBit i = true → a.testBit i = true) := by
    intro n
    induction n with
    | zero => exact ⟨Nat.le_refl 0, fun _ i hi => by omega⟩
    | succ n ih =>
      refine ⟨pop_sbs h _, ?_⟩
      rw [pop, pop]
      intro hle i hi hbi
      have h1 := ih.1
      have h2 := h n
      by_cases e : i = n
      · subst e
        cases hc : a.testBit i with
        | true => rfl
        | false =>
          rw [hbi, hc] at hle
          simp at hle
          omega
      · refine ih.2 ?_ i (by omega) hbi
        cases hc : a.testBit n with
        | true =>
          rw [hc, h2 hc] at hle
          simp at hle
          omega
        | false =>
          rw [hc] at hle
          cases hd : b.testBit n <;> rw [hd] at hle <;> simp at hle <;> omega
  intro i hi
  exact (key k).2 hp i (tb_in hb hi) hi
theorem pop_del {a r k : Nat} (hr : a.testBit r = true) (hk : r < k) : pop k (bdiff a (2 ^ r)) + 1 = pop k a := by
  induction k with
  | zero => omega
  | succ k ih =>
    rw [pop, pop, tb_del]
    by_cases e : r = k
    · subst e
      rw [hr]
      have : ∀ n, n ≤ r → pop n (bdiff a (2 ^ r)) = pop n a := by
        intro n
        induction n with
        | zero => intro _; rfl
        | succ n ih2 =>
          intro hn
          rw [pop, pop, ih2 (by omega), tb_del, decide_eq_false (by omega)]
          simp
      rw [this r (Nat.le_refl r)]
      simp
    · have := ih (by omega)
      rw [decide_eq_false e]
      simp
      omega
theorem pop_ins {a r k : Nat} (hr : a.testBit r = false) (hk : r < k) : pop k (a ||| 2 ^ r) = pop k a + 1 := by
  have h1 : (a ||| 2 ^ r).testBit r = true := by rw [Nat.testBit_or, tb_pow]; simp
  have h2 : bdiff (a ||| 2 ^ r) (2 ^ r) = a := by
    apply Nat.eq_of_testBit_eq
    intro i
    rw [tb_del, Nat.testBit_or, tb_pow]
    by_cases e : r = i
    · subst e; rw [hr]; simp
    · simp [e]
  have := pop_del h1 hk
  rw [h2] at this
  omega
theorem pop_zero (k : Nat) : pop k 0 = 0 := by
  induction k with
  | zero => rfl
  | succ k ih => rw [pop, ih, Nat.zero_testBit]; rfl
theorem pop_or_and (k a b : Nat) : pop k (a ||| b) + pop k (a &&& b) = pop k a + pop k b := by
  induction k with
  | zero => rfl
  | succ k ih =>
    rw [pop, pop, pop, pop, Nat.testBit_or, Nat.testBit_and]
    cases a.testBit k <;> cases b.testBit k <;> simp <;> omega
theorem pop_bdiff (k a b : Nat) : pop k (bdiff a b) + pop k (a &&& b) = pop k a := by
  induction k with
  | zero => rfl
  | succ k ih =>
    rw [pop, pop, pop, bdiff_testBit, Nat.testBit_and]
    cases a.testBit k <;> cases b.testBit k <;> simp <;> omega
theorem pop_split (k : Nat) {a b : Nat} (h : sbs b a) : pop k (bdiff a b) + pop k b = pop k a := by
  have e : a &&& b = b := by
    apply Nat.eq_of_testBit_eq
    intro i
    rw [Nat.testBit_and]
    cases hb : b.testBit i with
    | true => rw [h i hb]; rfl
    | false => simp
  have := pop_bdiff k a b
  rw [e] at this
  exact this
theorem pop_pos {k a : Nat} (ha : a < 2 ^ k) (h : pop k a = 0) : a = 0 :=
  (pop_eq_sbs (a := 0) (b := a) (k := k) (fun i hi => by rw [Nat.zero_testBit] at hi; cases hi) ha (by omega)).symm
theorem bdiff_lt {a b k : Nat} (h : a < 2 ^ k) : bdiff a b < 2 ^ k := Nat.lt_of_le_of_lt (bdiff_le a b) h
theorem sbs_bdiff (a b : Nat) : sbs (bdiff a b) a := by
  intro i h
  rw [bdiff_testBit] at h
  cases ha : a.testBit i with
  | true => rfl
  | false => rw [ha] at h; cases h
theorem bdiff_self (a : Nat) : bdiff a a = 0 := sbs_zero.mpr (sbs_refl a)
