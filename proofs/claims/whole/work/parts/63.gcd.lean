/-! Divisors, comparisons of longs, the k-th of some bits. -/
theorem lcmp_0 {x : Int} : lcmp x 0 = 0 ↔ x = 0 := by
  unfold lcmp
  split
  · omega
  · split <;> omega
theorem lcmp_ge {x y : Int} : 0 ≤ lcmp x y ↔ y ≤ x := by
  unfold lcmp
  split
  · omega
  · split <;> omega
theorem lcmp_le {x y : Int} : lcmp x y ≤ 0 ↔ x ≤ y := by
  unfold lcmp
  split
  · omega
  · split <;> omega
theorem lcmp_lt {x y : Int} : lcmp x y < 0 ↔ x < y := by
  unfold lcmp
  split
  · omega
  · split <;> omega
theorem abs64_nat {x : Int} (h : x.natAbs < 9223372036854775808) : abs64 x = (x.natAbs : Int) := by
  unfold abs64
  split
  · omega
  · rw [pu_w64 (by omega) (by omega)]
    omega
theorem tmod_nat (a b : Nat) : ((a : Int)).tmod (b : Int) = ((a % b : Nat) : Int) := rfl
theorem gcd_step (a b : Nat) : Nat.gcd b (a % b) = Nat.gcd a b := by
  rw [Nat.gcd_comm b, ← Nat.gcd_rec, Nat.gcd_comm]
theorem c_divisor_loop (M : mM) : ∀ n g l s : Nat, l < 2 ^ n → s + 2 * n ≤ 200 → gA 158 15 [none, none, none, none, jv (g : Int), none, jv (l : Int), none, iv (s : Int), none, none] [] M = some (jv ((Nat.gcd g l : Nat) : Int), M) := by
  intro n
  induction n with
  | zero =>
    intro g l s hl hs
    have : l = 0 := by
      rw [Nat.pow_zero] at hl
      omega
    subst this
    rw [s_GaugeNet_divisorOfBoth_15]
    split
    · rw [Nat.gcd_zero_right]
    · rw [if_pos (lcmp_0.mpr (show ((0 : Nat) : Int) = 0 from rfl)), Nat.gcd_zero_right]
  | succ n ih =>
    intro g l s hl hs
    rw [s_GaugeNet_divisorOfBoth_15, if_neg (by omega)]
    by_cases h0 : l = 0
    · subst h0
      rw [if_pos (lcmp_0.mpr (show ((0 : Nat) : Int) = 0 from rfl)), Nat.gcd_zero_right]
    · rw [if_neg (fun z => h0 (by have := lcmp_0.mp z; omega)), if_neg (by omega), tmod_nat, pu_inc (by omega), s_GaugeNet_divisorOfBoth_15, if_neg (by omega)]
      have h1 := Nat.mod_lt g (show 0 < l by omega)
      by_cases h2 : g % l = 0
      · rw [if_pos (lcmp_0.mpr (by rw [h2]; rfl)), ← gcd_step, h2, Nat.gcd_zero_right]
      · rw [if_neg (fun z => h2 (by have := lcmp_0.mp z; omega)), if_neg (by omega), tmod_nat, pu_inc (by omega)]
        have h3 : l % (g % l) < 2 ^ n := by
          have hp : 2 ^ (n + 1) = 2 * 2 ^ n := by rw [Nat.pow_succ]; omega
          have h4 := Nat.mod_lt l (show 0 < g % l by omega)
          have h5 : l % (g % l) + (g % l) ≤ l := by
            have e := Nat.mod_add_div l (g % l)
            have h6 : 1 ≤ l / (g % l) := Nat.div_pos (Nat.le_of_lt h1) (by omega)
            have h7 : g % l ≤ (g % l) * (l / (g % l)) := Nat.le_mul_of_pos_right _ h6
            omega
          omega
        rw [ih (g % l) (l % (g % l)) (s + 1 + 1) h3 (by omega), gcd_step, gcd_step]
theorem c_divisor {x y : Int} (hx : x.natAbs < 9223372036854775808) (hy : y.natAbs < 9223372036854775808) (M : mM) : gC 158 [jv x, jv y] M = some (jv ((Nat.gcd x.natAbs y.natAbs : Nat) : Int), M) := by
  rw [e_GaugeNet_divisorOfBoth, abs64_nat hx, abs64_nat hy]
  exact c_divisor_loop M 63 x.natAbs y.natAbs 0 (by omega) (by omega)
theorem r_common_loop (M : mM) : ∀ l g : Nat, gA 228 28 [none, none, none, none, jv (g : Int), none, jv (l : Int), none, none, none] [] M = some (jv ((Nat.gcd g l : Nat) : Int), M) := by
  intro l
  induction l using Nat.strongRecOn with
  | ind l ih =>
    intro g
    rw [s_GaugeNetModel_common_28]
    by_cases h0 : l = 0
    · subst h0
      rw [if_pos (lcmp_0.mpr (show ((0 : Nat) : Int) = 0 from rfl)), Nat.gcd_zero_right]
    · rw [if_neg (fun z => h0 (by have := lcmp_0.mp z; omega)), if_neg (by omega), tmod_nat, ih (g % l) (Nat.mod_lt g (by omega)) l, gcd_step]
theorem r_common {x y : Int} (hx : x.natAbs < 9223372036854775808) (hy : y.natAbs < 9223372036854775808) (M : mM) : gC 228 [jv x, jv y] M = some (jv ((Nat.gcd x.natAbs y.natAbs : Nat) : Int), M) := by
  rw [e_GaugeNetModel_common, ← r_common_loop]
  by_cases h1 : 0 ≤ x
  · have e1 : x = (x.natAbs : Int) := by omega
    rw [if_pos (lcmp_ge.mpr h1), ← e1]
    by_cases h2 : 0 ≤ y
    · have e2 : y = (y.natAbs : Int) := by omega
      rw [if_pos (lcmp_ge.mpr h2), ← e2]
    · have e2 : -y = (y.natAbs : Int) := by omega
      rw [if_neg (fun z => h2 (lcmp_ge.mp z)), pu_w64 (by omega) (by omega), e2]
  · have e1 : -x = (x.natAbs : Int) := by omega
    rw [if_neg (fun z => h1 (lcmp_ge.mp z))]
    by_cases h2 : 0 ≤ y
    · have e2 : y = (y.natAbs : Int) := by omega
      rw [if_pos (lcmp_ge.mpr h2), pu_w64 (by omega) (by omega), e1, ← e2]
    · have e2 : -y = (y.natAbs : Int) := by omega
      rw [if_neg (fun z => h2 (lcmp_ge.mp z)), pu_w64 (x := -x) (by omega) (by omega), pu_w64 (by omega) (by omega), e1, e2]
/-! the k-th of the bits -/
theorem sl_spec (s k : Nat) : ∀ n, k < pop n s → sl s k n < n ∧ s.testBit (sl s k n) = true ∧ pop (sl s k n) s = k := by
  intro n
  induction n with
  | zero => intro h; exact absurd h (Nat.not_lt_zero k)
  | succ n ih =>
    intro h
    rw [sl]
    by_cases q : s.testBit n = true ∧ pop n s = k
    · rw [if_pos q]
      exact ⟨by omega, q.1, q.2⟩
    · rw [if_neg q]
      rw [pop] at h
      have : k < pop n s := by
        by_cases z : s.testBit n = true
        · rw [if_pos z] at h
          have : pop n s ≠ k := fun y => q ⟨z, y⟩
          omega
        · rw [if_neg z] at h
          omega
      obtain ⟨a, b, c⟩ := ih this
      exact ⟨by omega, b, c⟩
theorem pop_le_pop {s a b : Nat} (h : a ≤ b) : pop a s ≤ pop b s := by
  induction b with
  | zero => rw [show a = 0 by omega]; exact Nat.le_refl _
  | succ b ih =>
    by_cases e : a = b + 1
    · rw [e]; exact Nat.le_refl _
    · rw [pop]
      have := ih (by omega)
      omega
theorem pop_lt_pop {s a b : Nat} (h : a < b) (ha : s.testBit a = true) : pop a s < pop b s := by
  have h1 := pop_le_pop (s := s) (show a + 1 ≤ b by omega)
  rw [pop, if_pos ha] at h1
  omega
theorem pop_inj2 {s a b : Nat} (ha : s.testBit a = true) (hb : s.testBit b = true) (h : pop a s = pop b s) : a = b := by
  rcases Nat.lt_trichotomy a b with z | z | z
  · have := pop_lt_pop z ha; omega
  · exact z
  · have := pop_lt_pop z hb; omega
theorem sl_of {s r n : Nat} (hr : s.testBit r = true) (hn : r < n) : sl s (pop r s) n = r := by
  obtain ⟨_, b, c⟩ := sl_spec s (pop r s) n (pop_lt_pop hn hr)
  exact pop_inj2 b hr c
/-! what is made of numbers by their divisor -/
theorem gcdTo_dvd (f : Nat → Int) : ∀ n i, i < n → (gcdTo f n : Int) ∣ f i := by
  intro n
  induction n with
  | zero => intro i hi; omega
  | succ n ih =>
    intro i hi
    rw [gcdTo]
    by_cases e : i = n
    · rw [e]
      obtain ⟨q, hq⟩ := Int.natCast_dvd_natCast.mpr (Nat.gcd_dvd_right (gcdTo f n) (f n).natAbs)
      rcases Int.natAbs_eq (f n) with z | z
      · exact ⟨q, by rw [← hq]; exact z⟩
      · exact ⟨-q, by rw [Int.mul_neg, ← hq]; exact z⟩
    · have h1 := ih i (by omega)
      have h2 : ((Nat.gcd (gcdTo f n) (f n).natAbs : Nat) : Int) ∣ (gcdTo f n : Int) := Int.natCast_dvd_natCast.mpr (Nat.gcd_dvd_left _ _)
      exact Int.dvd_trans h2 h1
theorem gcdTo_zero {f : Nat → Int} {n : Nat} : gcdTo f n = 0 ↔ ∀ i, i < n → f i = 0 := by
  induction n with
  | zero => exact ⟨fun _ i hi => (by omega), fun _ => rfl⟩
  | succ n ih =>
    rw [gcdTo, Nat.gcd_eq_zero_iff, ih]
    constructor
    · rintro ⟨h1, h2⟩ i hi
      by_cases e : i = n
      · rw [e]; omega
      · exact h1 i (by omega)
    · intro h
      exact ⟨fun i hi => h i (by omega), by rw [h n (by omega)]; rfl⟩
theorem gcdTo_abs {f g : Nat → Int} : ∀ n, (∀ i, i < n → (f i).natAbs = (g i).natAbs) → gcdTo f n = gcdTo g n := by
  intro n
  induction n with
  | zero => intro _; rfl
  | succ n ih =>
    intro h
    rw [gcdTo, gcdTo, ih (fun i hi => h i (by omega)), h n (by omega)]
theorem fs_congr {f g : Nat → Int} : ∀ n, (∀ i, i < n → f i = g i) → fs f n = fs g n := by
  intro n
  induction n with
  | zero => intro _; rfl
  | succ n ih =>
    intro h
    rw [fs, fs, ih (fun i hi => h i (by omega)), h n (by omega)]
theorem fs_neg {f : Nat → Int} : ∀ n, fs (fun i => - f i) n = - fs f n := by
  intro n
  induction n with
  | zero => rfl
  | succ n ih =>
    rw [fs, fs, ih]
    by_cases q : fs f n = 0
    · rw [if_pos (by omega), if_pos q]
    · rw [if_neg (by omega), if_neg q]
theorem fs_zero {f : Nat → Int} {n : Nat} : fs f n = 0 ↔ ∀ i, i < n → f i = 0 := by
  induction n with
  | zero => exact ⟨fun _ i hi => (by omega), fun _ => rfl⟩
  | succ n ih =>
    rw [fs]
    by_cases q : fs f n = 0
    · rw [if_pos q]
      constructor
      · intro h i hi
        by_cases e : i = n
        · rw [e]; exact h
        · exact ih.mp q i (by omega)
      · intro h; exact h n (by omega)
    · rw [if_neg q]
      constructor
      · intro h; exact absurd h q
      · intro h; exact absurd (ih.mpr (fun i hi => h i (by omega))) q
theorem nrm_congr {f g : Nat → Int} {n : Nat} (h : ∀ i, i < n → f i = g i) {k : Nat} (hk : k < n) : nrm f n k = nrm g n k := by
  unfold nrm
  rw [h k hk, fs_congr n h, gcdTo_abs n (fun i hi => by rw [h i hi])]
theorem nrm_neg {f : Nat → Int} {n k : Nat} : nrm (fun i => - f i) n k = nrm f n k := by
  unfold nrm
  rw [fs_neg, gcdTo_abs (g := f) n (fun i _ => Int.natAbs_neg _)]
  by_cases q0 : fs f n = 0
  · have hg : gcdTo f n = 0 := gcdTo_zero.mpr (fs_zero.mp q0)
    rw [hg]
    split <;> split <;> simp
  · by_cases q : fs f n < 0
    · rw [if_neg (by omega), if_pos q, Int.tdiv_neg, Int.neg_tdiv]
    · rw [if_pos (by omega), if_neg q, Int.neg_tdiv, Int.tdiv_neg, Int.neg_neg]
theorem nrm_pm {f g : Nat → Int} {n k : Nat} {e : Int} (he : e = 1 ∨ e = -1) (h : ∀ i, i < n → f i = e * g i) (hk : k < n) : nrm f n k = nrm g n k := by
  rcases he with q | q
  · subst q
    exact nrm_congr (fun i hi => by rw [h i hi, Int.one_mul]) hk
  · subst q
    rw [nrm_congr (g := fun i => - g i) (fun i hi => by rw [h i hi, Int.neg_one_mul]) hk, nrm_neg]
theorem nrm_zero {f : Nat → Int} {n k : Nat} (h : f k = 0) : nrm f n k = 0 := by
  unfold nrm
  rw [h, Int.zero_tdiv]
theorem w64_sub {x y : Int} : w64 (w64 x - w64 y) = w64 (x - y) := by
  unfold w64
  omega
theorem Bd_ok1 : ∀ k, k < 6 → Bd k * Bd (k + 2) < 9223372036854775808 := by decide +kernel
theorem Bd_ok2 : ∀ k, k < 7 → Bd k * Bd (k + 1) < 9223372036854775808 := by decide +kernel
theorem Bd_le : ∀ k, k < 8 → Bd k ≤ 24056562600 := by decide +kernel
