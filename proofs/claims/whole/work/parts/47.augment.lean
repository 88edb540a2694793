/-! Growing a matching along a way. -/
theorem pop_full (k : Nat) : pop k (bset (fun _ => true) k) = k := by
  have : ∀ n, n ≤ k → pop n (bset (fun _ => true) k) = n := by
    intro n
    induction n with
    | zero => intro _; rfl
    | succ n ih =>
      intro hn
      rw [pop, ih (by omega), bset_tb, decide_eq_true (by omega)]
      rfl
  exact this k (Nat.le_refl k)
theorem nat_inj {k n : Nat} {f : Nat → Nat} (hf : ∀ i, i < k → f i < n) (inj : ∀ i j, i < k → j < k → f i = f j → i = j) : k ≤ n := by
  have := pop_inj (k := k) (n := n) (D := bset (fun _ => true) k) (E := bset (fun _ => true) n) (f := f) (fun u hu _ => ⟨hf u hu, by rw [bset_tb, decide_eq_true (hf u hu)]; rfl⟩) (fun u v hu hv _ _ => inj u v hu hv)
  rw [pop_full, pop_full] at this
  exact this
theorem augment {H : Nat → Nat} {wo R i top : Nat} {m m' : Nat → Int} {a ar : Nat → Nat} (hv : VM H wo R m) (hRi : R.testBit i = false)
    (ha : ∀ k, k ≤ top → a k < 7 ∧ (H (ar k)).testBit (a k) = true ∧ wo.testBit (a k) = false) (h0 : ar 0 = i) (hs : ∀ k, k < top → m (a k) = (ar (k + 1) : Int)) (ht : m (a top) = -1)
    (hinj : ∀ k l, k ≤ top → l ≤ top → a k = a l → k = l) (m1 : ∀ k, k ≤ top → m' (a k) = (ar k : Int)) (m2 : ∀ u, u < 7 → (∀ k, k ≤ top → u ≠ a k) → m' u = m u) :
    VM H wo (R ||| 2 ^ i) m' ∧ pop 7 (Dm m') = pop 7 (Dm m) + 1 := by
  have hmate : ∀ u, u < 7 → m u ≠ (i : Int) := by
    intro u hu e
    rcases hv.1 u hu with q | ⟨r, q1, q2, _⟩
    · omega
    · rw [e] at q1
      have : i = r := by omega
      rw [← this, hRi] at q2
      cases q2
  have hrow : ∀ k, k ≤ top → (R ||| 2 ^ i).testBit (ar k) = true := by
    intro k hk
    rw [Nat.testBit_or, tb_pow]
    cases k with
    | zero => rw [h0]; simp
    | succ k =>
      have e := hs k (by omega)
      rcases hv.1 (a k) (ha k (by omega)).1 with q | ⟨r, q1, q2, _⟩
      · omega
      · have : ar (k + 1) = r := by omega
        rw [this, q2]
        rfl
  have hpath : ∀ u, (∃ k, k ≤ top ∧ u = a k) ∨ ∀ k, k ≤ top → u ≠ a k := by
    intro u
    by_cases q : ∃ k, k ≤ top ∧ u = a k
    · exact Or.inl q
    · exact Or.inr (fun k hk e => q ⟨k, hk, e⟩)
  have hx : ∀ k v, k ≤ top → v < 7 → (∀ l, l ≤ top → v ≠ a l) → (ar k : Int) ≠ m v := by
    intro k v hk hv' hno e
    cases k with
    | zero => exact hmate v hv' (by rw [← e, h0])
    | succ k =>
      have e1 := hs k (by omega)
      have := hv.2 (a k) v (ha k (by omega)).1 hv' (by rw [e1, e]) (by rw [e1]; omega)
      exact hno k (by omega) this.symm
  refine ⟨⟨fun u hu => ?_, fun u v hu hv' he hne => ?_⟩, ?_⟩
  · rcases hpath u with ⟨k, hk, e⟩ | hno
    · subst e
      exact Or.inr ⟨ar k, m1 k hk, hrow k hk, (ha k hk).2⟩
    · rw [m2 u hu hno]
      rcases hv.1 u hu with q | ⟨r, q1, q2, q3⟩
      · exact Or.inl q
      · exact Or.inr ⟨r, q1, by rw [Nat.testBit_or, q2]; rfl, q3⟩
  · rcases hpath u with ⟨k, hk, e⟩ | hno
    · rcases hpath v with ⟨l, hl, f⟩ | hno'
      · subst e
        subst f
        rw [m1 k hk, m1 l hl] at he
        have he : ar k = ar l := by omega
        have : k = l := by
          cases k with
          | zero =>
            cases l with
            | zero => rfl
            | succ l => exact absurd (by rw [hs l (by omega), ← he, h0]) (hmate (a l) (ha l (by omega)).1)
          | succ k =>
            cases l with
            | zero => exact absurd (by rw [hs k (by omega), he, h0]) (hmate (a k) (ha k (by omega)).1)
            | succ l =>
              have := hv.2 (a k) (a l) (ha k (by omega)).1 (ha l (by omega)).1 (by rw [hs k (by omega), hs l (by omega), he]) (by rw [hs k (by omega)]; omega)
              have := hinj k l (by omega) (by omega) this
              omega
        rw [this]
      · subst e
        rw [m1 k hk, m2 v hv' hno'] at he
        exact absurd he (hx k v hk hv' hno')
    · rcases hpath v with ⟨l, hl, f⟩ | hno'
      · subst f
        rw [m1 l hl, m2 u hu hno] at he
        exact absurd he.symm (hx l u hl hu hno)
      · rw [m2 u hu hno] at he hne
        rw [m2 v hv' hno'] at he
        exact hv.2 u v hu hv' he hne
  · have e : Dm m' = Dm m ||| 2 ^ a top := by
      apply Nat.eq_of_testBit_eq
      intro u
      have key : (Dm m').testBit u = true ↔ (Dm m ||| 2 ^ a top).testBit u = true := by
        rw [Dm_tb, Nat.testBit_or, Bool.or_eq_true, Dm_tb, tb_pow, decide_eq_true_iff]
        constructor
        · rintro ⟨h1, h2⟩
          by_cases q : m u = -1
          · refine Or.inr ?_
            rcases hpath u with ⟨k, hk, e⟩ | hno
            · by_cases ek : k = top
              · rw [e, ek]
              · rw [e, hs k (by omega)] at q
                omega
            · rw [m2 u h1 hno] at h2
              exact absurd q h2
          · exact Or.inl ⟨h1, q⟩
        · rintro (⟨h1, h2⟩ | q)
          · refine ⟨h1, ?_⟩
            rcases hpath u with ⟨k, hk, e⟩ | hno
            · rw [e, m1 k hk]
              omega
            · rw [m2 u h1 hno]
              exact h2
          · rw [← q, m1 top (Nat.le_refl _)]
            exact ⟨(ha top (Nat.le_refl _)).1, by omega⟩
      cases h1 : (Dm m').testBit u with
      | true => exact (key.mp h1).symm
      | false =>
        cases h2 : (Dm m ||| 2 ^ a top).testBit u with
        | false => rfl
        | true => rw [key.mpr h2] at h1; cases h1
    rw [e]
    apply pop_ins _ (ha top (Nat.le_refl _)).1
    rw [← tb_not, Dm_tb]
    exact fun z => z.2 ht
def woB (x : Int) : Nat := if 0 ≤ x then 2 ^ x.toNat else 0
theorem woB_tb (x : Int) (u : Nat) : (woB x).testBit u = decide ((u : Int) = x) := by
  unfold woB
  by_cases h : 0 ≤ x
  · rw [if_pos h, tb_pow]
    by_cases e : (u : Int) = x
    · rw [decide_eq_true e, decide_eq_true (by omega)]
    · rw [decide_eq_false e, decide_eq_false (by omega)]
  · rw [if_neg h, Nat.zero_testBit, decide_eq_false (by omega)]
def lowb (s j : Nat) : Nat := s % 2 ^ j
theorem lowb_tb (s j i : Nat) : (lowb s j).testBit i = (decide (i < j) && s.testBit i) := Nat.testBit_mod_two_pow s j i
theorem lowb_lt (s j : Nat) : lowb s j < 2 ^ j := Nat.mod_lt _ (Nat.two_pow_pos _)
theorem lowb_sub (s j : Nat) : sbs (lowb s j) s := by
  intro i h
  rw [lowb_tb, Bool.and_eq_true] at h
  exact h.2
theorem lowb_yes {s j : Nat} (h : s.testBit j = true) : lowb s (j + 1) = lowb s j ||| 2 ^ j := by
  apply Nat.eq_of_testBit_eq
  intro i
  rw [lowb_tb, Nat.testBit_or, lowb_tb, tb_pow]
  by_cases e : j = i
  · subst e; rw [h]; simp
  · by_cases hi : i < j
    · simp [hi, e, show i < j + 1 by omega]
    · simp [hi, e, show ¬ i < j + 1 by omega]
theorem lowb_no {s j : Nat} (h : s.testBit j = false) : lowb s (j + 1) = lowb s j := by
  apply Nat.eq_of_testBit_eq
  intro i
  rw [lowb_tb, lowb_tb]
  by_cases e : j = i
  · subst e; rw [h]; simp
  · by_cases hi : i < j
    · simp [hi, show i < j + 1 by omega]
    · simp [hi, show ¬ i < j + 1 by omega]
theorem lowb_all {s j : Nat} (h : s < 2 ^ j) : lowb s j = s := Nat.mod_eq_of_lt h
