/-! The class's elimination. -/
def Sf (M M' : mM) : Prop := ∀ o, (o < 17 ∨ 20 < o) → M' o = M o
theorem Sf_refl (M : mM) : Sf M M := fun _ _ => rfl
theorem Sf_trans {A B C : mM} (h : Sf A B) (h' : Sf B C) : Sf A C := fun o ho => (h' o ho).trans (h o ho)
theorem w32_8 {i q : Nat} (hi : i < 7) (hq : q < 8) : w32 (w32 ((i : Int) * 8) + (q : Int)) = ((i * 8 + q : Nat) : Int) := by
  rw [pu_w32 (x := (i : Int) * 8) (by omega) (by omega), pu_w32 (by omega) (by omega)]
  omega
theorem c_get {i q : Nat} (hi : i < 7) (hq : q < 8) (M : mM) : gC 21 [rv 1 17, iv (i : Int), iv (q : Int)] M = some (jv (M 18 (i * 8 + q)), M) := by
  rw [e_Elimination_get, w32_8 hi hq, if_neg (by omega), if_neg (by omega), if_pos (by omega), pu_nn]
theorem c_put {i q : Nat} (hi : i < 7) (hq : q < 8) (x : Int) (M : mM) : gC 19 [rv 1 17, iv (i : Int), iv (q : Int), jv x] M = some (none, st M 18 (i * 8 + q) x) := by
  rw [e_Elimination_put, w32_8 hi hq, if_neg (by omega), if_neg (by omega), if_pos (by omega), pu_nn]
theorem c_fill56 (M : mM) : ∃ M', gC 2 [rv 325 18, jv 0] M = some (none, M') ∧ (∀ o, o ≠ 18 → M' o = M o) ∧ ∀ i, i < 56 → M' 18 i = 0 := by
  rw [e_Arrays_fill_JJV_56]
  have key := pu_rel (S := mM) (G := fun i M' => gA 2 6 [rv 325 18, jv 0, none, iv (i : Int), iv 56] [] M') (I := fun i M' => (∀ o, o ≠ 18 → M' o = M o) ∧ ∀ j, j < i → M' 18 j = 0) 56 (fun i M' hi hI => by
    obtain ⟨i1, i2⟩ := hI
    try dsimp only
    rw [s_Arrays_fill_JJV_56_6, if_neg (by omega), if_pos (by omega), pu_nn, pu_inc (by omega)]
    refine ⟨_, ⟨fun o ho => by rw [st_ob ho]; exact i1 o ho, fun j hj => ?_⟩, rfl⟩
    rw [st_if]
    by_cases e : j = i
    · rw [if_pos e]
    · rw [if_neg e]; exact i2 j (by omega)) 0 M (Nat.zero_le _) ⟨fun _ _ => rfl, fun j hj => by omega⟩
  obtain ⟨M', ⟨k1, k2⟩, k3⟩ := key
  try dsimp only at k3
  rw [show ((0 : Nat) : Int) = 0 from rfl] at k3
  rw [k3, s_Arrays_fill_JJV_56_6, if_pos (by omega)]
  exact ⟨M', rfl, k1, k2⟩
theorem c_fill8 (M : mM) : ∃ M', gC 2 [rv 133 20, jv 0] M = some (none, M') ∧ (∀ o, o ≠ 20 → M' o = M o) ∧ ∀ i, i < 8 → M' 20 i = 0 := by
  rw [e_Arrays_fill_JJV_8]
  have key := pu_rel (S := mM) (G := fun i M' => gA 2 6 [rv 133 20, jv 0, none, iv (i : Int), iv 8] [] M') (I := fun i M' => (∀ o, o ≠ 20 → M' o = M o) ∧ ∀ j, j < i → M' 20 j = 0) 8 (fun i M' hi hI => by
    obtain ⟨i1, i2⟩ := hI
    try dsimp only
    rw [s_Arrays_fill_JJV_8_6, if_neg (by omega), if_pos (by omega), pu_nn, pu_inc (by omega)]
    refine ⟨_, ⟨fun o ho => by rw [st_ob ho]; exact i1 o ho, fun j hj => ?_⟩, rfl⟩
    rw [st_if]
    by_cases e : j = i
    · rw [if_pos e]
    · rw [if_neg e]; exact i2 j (by omega)) 0 M (Nat.zero_le _) ⟨fun _ _ => rfl, fun j hj => by omega⟩
  obtain ⟨M', ⟨k1, k2⟩, k3⟩ := key
  try dsimp only at k3
  rw [show ((0 : Nat) : Int) = 0 from rfl] at k3
  rw [k3, s_Arrays_fill_JJV_8_6, if_pos (by omega)]
  exact ⟨M', rfl, k1, k2⟩
section CE
variable {w : Nat} {W M : mM}
theorem c_fillColumn (hc : CW w W M) (h : WF W) {us r q : Nat} (hus : us < 128) (hr : r < 14) (hq : q < 8) (hcol : M 17 4 = (q : Int)) : ∃ M', gC 18 [rv 1 17, rv 9 w, iv (r : Int), iv (us : Int)] M = some (none, M') ∧ (∀ o, o ≠ 18 → M' o = M o) ∧ (∀ i, i < pop 7 us → M' 18 (i * 8 + q) = W 1 (r * 7 + sl us i 7)) ∧ ∀ j, (∀ i, i < 7 → j ≠ i * 8 + q) → M' 18 j = M 18 j := by
  have hw := hc.1
  rw [e_Elimination_fillColumn]
  have key := pu_rel (S := mM) (G := fun k M' => gA 18 6 [rv 1 17, rv 9 w, iv (r : Int), iv (us : Int), iv ((pop k us : Nat) : Int), iv (k : Int)] [] M') (I := fun k M' => (∀ o, o ≠ 18 → M' o = M o) ∧ (∀ i, i < pop k us → M' 18 (i * 8 + q) = W 1 (r * 7 + sl us i 7)) ∧ ∀ j, (∀ i, i < 7 → j ≠ i * 8 + q) → M' 18 j = M 18 j) 7 (fun k M' hk hI => by
    obtain ⟨i1, i2, i3⟩ := hI
    try dsimp only
    have hcw : CW w W M' := CW_k hc (fun o ho => i1 o (by omega))
    have hp := pop_le k us
    rw [s_Elimination_fillColumn_6, if_neg (by omega), c_hasBit (by omega), bI_some, hB_nat, ite01_0, pu_inc (show k < 2147483647 by omega), pop]
    by_cases z : us.testBit k = true
    · rw [if_pos z, if_pos z, c_numberIn hcw h r k hr hk, bI_some, i1 17 (by omega), hcol, c_put (by omega) hq, bV_none, pu_inc (by omega)]
      refine ⟨_, ⟨fun o ho => by rw [st_ob ho]; exact i1 o ho, fun i hi => ?_, fun j hj => ?_⟩, rfl⟩
      · rw [st_if]
        by_cases e : i = pop k us
        · rw [if_pos (by rw [e]), e, sl_of z (by omega)]
        · rw [if_neg (by omega)]
          exact i2 i (by omega)
      · rw [st_if, if_neg (hj _ (by omega))]
        exact i3 j hj
    · rw [if_neg z, if_neg z, Nat.add_zero]
      exact ⟨M', ⟨i1, i2, i3⟩, rfl⟩) 0 M (Nat.zero_le _) ⟨fun _ _ => rfl, fun i hi => absurd hi (Nat.not_lt_zero i), fun _ _ => rfl⟩
  obtain ⟨M', ⟨k1, k2, k3⟩, k4⟩ := key
  try dsimp only at k4
  rw [show ((pop 0 us : Nat) : Int) = 0 from rfl, show ((0 : Nat) : Int) = 0 from rfl] at k4
  rw [k4, s_Elimination_fillColumn_6, if_pos (by omega)]
  exact ⟨M', rfl, k1, k2, k3⟩
theorem c_fillGrid (hc : CW w W M) (h : WF W) {s : Nat} (hs : s < 16384) (h8 : pop 14 s ≤ 8) : ∃ M', gC 17 [rv 1 17, rv 9 w, iv (s : Int)] M = some (none, M') ∧ Sf M M' ∧ M' 17 3 = ((mny W s : Nat) : Int) ∧ M' 17 4 = ((pop 14 s : Nat) : Int) ∧ (∀ q, q < pop 14 s → ∀ i, i < mny W s → M' 18 (i * 8 + q) = vec W s q i) ∧ ∀ i, i < 8 → M' 20 i = 0 := by
  have hw := hc.1
  have hus := nbW_lt h s
  have hm7 := pop_le 7 (nbW W s)
  obtain ⟨M1, a1, a2, a3⟩ := c_fill56 M
  obtain ⟨M2, b1, b2, b3⟩ := c_fill8 M1
  rw [e_Elimination_fillGrid, a1, bV_none, b1, bV_none]
  generalize hM3 : st M2 17 4 0 = M3
  have c17 : M3 17 4 = 0 := by rw [← hM3, st_same]
  have c1 : ∀ o, o ≠ 17 → M3 o = M2 o := fun o ho => by rw [← hM3, st_ob ho]
  have f3 : Sf M M3 := fun o ho => by rw [c1 o (by omega), b2 o (by omega), a2 o (by omega)]
  have hc3 : CW w W M3 := CW_k hc (fun o ho => f3 o (by omega))
  have key := pu_up (fun i : Nat => gA 17 26 [rv 1 17, rv 9 w, iv (s : Int), iv ((nbr (wH W) i s : Nat) : Int), iv (i : Int)] [] M3) 14 (fun i hi => by
    have hn : nbr (wH W) i s < 128 := nbr_lt (n := 7) (wH_128 h) i s
    have hH := wH_128 h i
    try dsimp only
    rw [s_Elimination_fillGrid_26, if_neg (by omega), c_hasBit (by omega), bI_some, hB_nat, ite01_0, pu_inc (by omega), nbr]
    by_cases q : s.testBit i = true
    · rw [if_pos q, c_hasOf hc3 h, bI_some, if_pos q, or32_nat (by omega) (by omega)]
    · rw [if_neg q, if_neg q, show (0 : Int) = ((0 : Nat) : Int) from rfl, or32_nat (by omega) (by omega)])
  try dsimp only at key
  rw [show ((nbr (wH W) 0 s : Nat) : Int) = 0 from rfl, show ((0 : Nat) : Int) = 0 from rfl] at key
  rw [key, s_Elimination_fillGrid_26, if_pos (by omega), show nbr (wH W) 14 s = nbW W s from rfl]
  have fin : ∀ (i : Nat) (M' : mM), i ≤ 14 → (i = 14 ∨ pop i s = 8) → Sf M M' → M' 17 4 = ((pop i s : Nat) : Int) → (∀ r, r < i → s.testBit r = true → ∀ j, j < mny W s → M' 18 (j * 8 + pop r s) = W 1 (r * 7 + sl (nbW W s) j 7)) → (∀ j, j < 8 → M' 20 j = 0) → ∃ M'', some (none, st M' 17 3 (min32 ((pop 14 (nbW W s) : Nat) : Int) 7)) = some ((none : mV), M'') ∧ Sf M M'' ∧ M'' 17 3 = ((mny W s : Nat) : Int) ∧ M'' 17 4 = ((pop 14 s : Nat) : Int) ∧ (∀ q, q < pop 14 s → ∀ i, i < mny W s → M'' 18 (i * 8 + q) = vec W s q i) ∧ ∀ i, i < 8 → M'' 20 i = 0 := by
    intro i M' hi hex g1 g2 g3 g4
    have hpi : pop i s = pop 14 s := by
      rcases hex with e | e
      · rw [e]
      · have := pop_le_pop (s := s) hi
        omega
    refine ⟨_, rfl, fun o ho => by rw [st_ob (by omega)]; exact g1 o ho, ?_, ?_, fun q hq j hj => ?_, fun j hj => by rw [st_ob (by omega)]; exact g4 j hj⟩
    · rw [st_same, pop_ext (k := 7) hus (by omega), show (7 : Int) = ((7 : Nat) : Int) from rfl, min32_nat]
      unfold mny
      congr 1
      split <;> omega
    · rw [st_nk (by omega), g2, hpi]
    · obtain ⟨r1, r2, r3⟩ := sl_spec s q 14 hq
      have hri : sl s q 14 < i := by
        rcases Nat.lt_or_ge (sl s q 14) i with z | z
        · exact z
        · have := pop_le_pop (s := s) z
          omega
      rw [st_ob (by omega)]
      have := g3 (sl s q 14) hri r2 j hj
      rw [r3] at this
      exact this
  refine pu_exit (S := mM) (G := fun i M' => gA 17 64 [rv 1 17, rv 9 w, iv (s : Int), iv ((nbW W s : Nat) : Int), iv (i : Int)] [] M') (I := fun i M' => Sf M M' ∧ M' 17 4 = ((pop i s : Nat) : Int) ∧ (∀ r, r < i → s.testBit r = true → ∀ j, j < mny W s → M' 18 (j * 8 + pop r s) = W 1 (r * 7 + sl (nbW W s) j 7)) ∧ ∀ j, j < 8 → M' 20 j = 0) (Q := fun o => ∃ M'', o = some ((none : mV), M'') ∧ Sf M M'' ∧ M'' 17 3 = ((mny W s : Nat) : Int) ∧ M'' 17 4 = ((pop 14 s : Nat) : Int) ∧ (∀ q, q < pop 14 s → ∀ i, i < mny W s → M'' 18 (i * 8 + q) = vec W s q i) ∧ ∀ i, i < 8 → M'' 20 i = 0) 14 (fun i M' hi hI => ?_) (fun M' hI => ?_) 0 M3 (Nat.zero_le _) ⟨f3, c17, fun r hr => absurd hr (Nat.not_lt_zero r), fun j hj => by rw [c1 20 (by omega)]; exact b3 j hj⟩
  · obtain ⟨i1, i2, i3, i4⟩ := hI
    try dsimp only
    have hcw : CW w W M' := CW_k hc (fun o ho => i1 o (by omega))
    have hpi := pop_le_pop (s := s) (Nat.le_of_lt hi)
    rw [s_Elimination_fillGrid_64, if_neg (by omega), i2]
    by_cases h8' : (8 : Int) ≤ ((pop i s : Nat) : Int)
    · rw [if_pos h8', c_bitCount (by omega), bI_some]
      exact Or.inl (fin i M' (by omega) (Or.inr (by omega)) i1 i2 i3 i4)
    · rw [if_neg h8', c_hasBit (by omega), bI_some, hB_nat, ite01_0, pu_inc (show i < 2147483647 by omega)]
      by_cases q : s.testBit i = true
      · obtain ⟨M4, d1, d2, d3, d4⟩ := c_fillColumn hcw h (us := nbW W s) (r := i) (q := pop i s) hus hi (by omega) i2
        rw [if_pos q, d1, bV_none, d2 17 (by omega), i2, pu_inc (by omega)]
        refine Or.inr ⟨_, ⟨fun o ho => by rw [st_ob (by omega), d2 o (by omega)]; exact i1 o ho, ?_, fun r hr hrb j hj => ?_, fun j hj => by rw [st_ob (by omega), d2 20 (by omega)]; exact i4 j hj⟩, rfl⟩
        · rw [st_same, pop, if_pos q]
        · rw [st_ob (by omega)]
          by_cases e : r = i
          · rw [e]
            exact d3 j hj
          · rw [d4 _ (fun i' hi' z => ?_)]
            · exact i3 r (by omega) hrb j hj
            · have h1 := pop_lt_pop (show r < i by omega) hrb
              omega
      · rw [if_neg q]
        refine Or.inr ⟨M', ⟨i1, ?_, fun r hr hrb j hj => ?_, i4⟩, rfl⟩
        · rw [pop, if_neg q, Nat.add_zero]; exact i2
        · by_cases e : r = i
          · rw [e] at hrb; exact absurd hrb q
          · exact i3 r (by omega) hrb j hj
  · obtain ⟨i1, i2, i3, i4⟩ := hI
    try dsimp only
    rw [s_Elimination_fillGrid_64, if_pos (by omega), c_bitCount (by omega), bI_some]
    exact fin 14 M' (Nat.le_refl _) (Or.inl rfl) i1 i2 i3 i4
end CE
/-! the steps of the grid -/
theorem c_swapLines {m n k l : Nat} (M : mM) (hm : m ≤ 7) (hn : n ≤ 8) (hk : k < m) (hl : l < m) (hcol : M 17 4 = (n : Int)) : ∃ M', gC 23 [rv 1 17, iv (l : Int), iv (k : Int)] M = some (none, M') ∧ (∀ o, o ≠ 18 → M' o = M o) ∧ ∀ i, i < m → ∀ q, q < n → M' 18 (i * 8 + q) = M 18 (sw k l i * 8 + q) := by
  rw [e_Elimination_swapLines]
  have key := pu_rel (S := mM) (G := fun q M' => gA 23 2 [rv 1 17, iv (l : Int), iv (k : Int), iv (q : Int), none, none] [] M') (I := fun q M' => (∀ o, o ≠ 18 → M' o = M o) ∧ ∀ i, i < m → ∀ q', q' < n → M' 18 (i * 8 + q') = if q' < q then M 18 (sw k l i * 8 + q') else M 18 (i * 8 + q')) n (fun q M' hq hI => by
    obtain ⟨i1, i2⟩ := hI
    try dsimp only
    have g1 := i2 l hl q hq
    have g2 := i2 k hk q hq
    rw [if_neg (Nat.lt_irrefl q)] at g1 g2
    rw [s_Elimination_swapLines_2, i1 17 (by omega), hcol, if_neg (by omega), c_get (by omega) (by omega), bJ_some, c_get (by omega) (by omega), bJ_some, c_put (by omega) (by omega), bV_none, c_put (by omega) (by omega), bV_none, pu_inc (by omega), g1, g2]
    refine ⟨_, ⟨fun o ho => by rw [st_ob ho, st_ob ho]; exact i1 o ho, fun i hi q' hq' => ?_⟩, rfl⟩
    rw [st_if, st_if]
    by_cases e : q' = q
    · subst e
      rw [if_pos (Nat.lt_succ_self q')]
      unfold sw
      by_cases e1 : i = k
      · rw [if_pos (by rw [e1]), if_pos e1]
      · rw [if_neg (by omega), if_neg e1]
        by_cases e2 : i = l
        · rw [if_pos (by rw [e2]), if_pos e2]
        · rw [if_neg (by omega), if_neg e2, i2 i hi q' hq', if_neg (Nat.lt_irrefl q')]
    · rw [if_neg (by omega), if_neg (by omega), i2 i hi q' hq']
      by_cases z : q' < q
      · rw [if_pos z, if_pos (by omega)]
      · rw [if_neg z, if_neg (by omega)]) 0 M (Nat.zero_le _) ⟨fun _ _ => rfl, fun i _ q' _ => by rw [if_neg (Nat.not_lt_zero q')]⟩
  obtain ⟨M', ⟨k1, k2⟩, k3⟩ := key
  try dsimp only at k3
  rw [show ((0 : Nat) : Int) = 0 from rfl] at k3
  rw [k3, s_Elimination_swapLines_2, k1 17 (by omega), hcol, if_pos (by omega)]
  exact ⟨M', rfl, k1, fun i hi q hq => by rw [k2 i hi q hq, if_pos hq]⟩
theorem c_clear {m n k l cc : Nat} {p p' : Int} {nv : Nat → Int} (M : mM) (hm : m ≤ 7) (hn : n ≤ 8) (hk : k < m) (hl : l < m) (hkl : l ≠ k) (hcc : cc < n) (h3 : M 17 4 = (n : Int)) (h4 : M 17 5 = (k : Int)) (h5 : M 17 7 = p') (hp : p ≠ 0)
    (hnv : ∀ q, q < n → p * nv q = p' * M 18 (l * 8 + q) - M 18 (l * 8 + cc) * M 18 (k * 8 + q)) (hb : ∀ q, q < n → (p * nv q).natAbs < 9223372036854775808) : ∃ M', gC 24 [rv 1 17, iv (l : Int), iv (cc : Int), jv p] M = some (none, M') ∧ (∀ o, o ≠ 18 → M' o = M o) ∧ (∀ q, q < n → M' 18 (l * 8 + q) = nv q) ∧ ∀ i, i < m → i ≠ l → ∀ q, q < n → M' 18 (i * 8 + q) = M 18 (i * 8 + q) := by
  rw [e_Elimination_clearColumn, c_get (by omega) (by omega), bJ_some]
  have key := pu_rel (S := mM) (G := fun q M' => gA 24 11 [rv 1 17, iv (l : Int), none, jv p, none, jv (M 18 (l * 8 + cc)), none, iv (q : Int), none, none] [] M') (I := fun q M' => (∀ o, o ≠ 18 → M' o = M o) ∧ (∀ q', q' < q → M' 18 (l * 8 + q') = nv q') ∧ ∀ j, (∀ q', q' < q → j ≠ l * 8 + q') → M' 18 j = M 18 j) n (fun q M' hq hI => by
    obtain ⟨i1, i2, i3⟩ := hI
    try dsimp only
    have g1 := i3 (l * 8 + q) (fun q' hq' => by omega)
    have g2 := i3 (k * 8 + q) (fun q' hq' => by omega)
    have hbq := hb q hq
    have habs : (nv q).natAbs < 9223372036854775808 := by
      rw [Int.natAbs_mul] at hbq
      have : 1 ≤ p.natAbs := by omega
      exact Nat.lt_of_le_of_lt (Nat.le_mul_of_pos_left _ this) hbq
    rw [s_Elimination_clearColumn_11, i1 17 (by omega), h3, if_neg (by omega), c_get (by omega) (by omega), bJ_some, i1 17 (by omega), h4, c_get (by omega) (by omega), bJ_some, if_pos (fun z => hp (lcmp_0.mp z)), if_neg hp, h5, g1, g2, w64_sub, ← hnv q hq, pu_w64 (x := p * nv q) (by omega) (by omega), Int.mul_tdiv_cancel_left _ hp, pu_w64 (by omega) (by omega), c_put (by omega) (by omega), bV_none, pu_inc (by omega)]
    refine ⟨_, ⟨fun o ho => by rw [st_ob ho]; exact i1 o ho, fun q' hq' => ?_, fun j hj => ?_⟩, rfl⟩
    · rw [st_if]
      by_cases e : q' = q
      · rw [if_pos (by rw [e]), e]
      · rw [if_neg (by omega)]
        exact i2 q' (by omega)
    · rw [st_if, if_neg (hj q (by omega))]
      exact i3 j (fun q' hq' => hj q' (by omega))) 0 M (Nat.zero_le _) ⟨fun _ _ => rfl, fun q' hq' => absurd hq' (Nat.not_lt_zero q'), fun _ _ => rfl⟩
  obtain ⟨M', ⟨k1, k2, k3⟩, k4⟩ := key
  try dsimp only at k4
  rw [show ((0 : Nat) : Int) = 0 from rfl] at k4
  rw [k4, s_Elimination_clearColumn_11, k1 17 (by omega), h3, if_pos (by omega)]
  exact ⟨M', rfl, k1, k2, fun i hi hil q hq => k3 _ (fun q' hq' => by omega)⟩
/-! bounds of the grid's numbers -/
theorem pop_Lm {m k : Nat} {a : Nat → Nat → Int} {c σ : Nat → Nat} {F : Nat → Nat → Int} {p : Int} (h : EI m a k c σ F p) (hm : m ≤ 8) : ∀ n, n ≤ m → pop 8 (Lm σ n) = n := by
  intro n
  induction n with
  | zero => intro _; exact pop_zero 8
  | succ n ih =>
    intro hn
    rw [Lm, pop_ins, ih (by omega)]
    · rw [← tb_not, Lm_tb]
      rintro ⟨i, h1, h2⟩
      have := h.2.2.1 i n (by omega) (by omega) h2
      omega
    · have := h.2.1 n (by omega)
      omega
theorem lt256 {x m : Nat} (h : x < 2 ^ m) (hm : m ≤ 8) : x < 256 := Nat.lt_of_lt_of_le h (Nat.le_trans (Nat.pow_le_pow_right (by omega) hm) (Nat.le_refl 256))
theorem pm_abs {e x y : Int} (he : e = 1 ∨ e = -1) (h : x = e * y) : y.natAbs = x.natAbs := by
  rcases he with q | q
  · rw [h, q, Int.one_mul]
  · rw [h, q, Int.neg_one_mul, Int.natAbs_neg]
theorem EI_p {m k : Nat} {a : Nat → Nat → Int} {c σ : Nat → Nat} {F : Nat → Nat → Int} {p : Int} (h : EI m a k c σ F p) (hm : m ≤ 8) (ha : ∀ q j, (a q j).natAbs ≤ 9) : p.natAbs ≤ Bd k := by
  obtain ⟨e, e1, e2⟩ := h.2.2.2.2.2
  rw [← pm_abs e1 e2]
  exact om_abs (v := fun i => a (c i)) (fun i j => ha (c i) j) k _ (lt256 (Lm_lt h h.1) hm) (pop_Lm h hm k h.1)
theorem EI_phi1 {m k : Nat} {a : Nat → Nat → Int} {c σ : Nat → Nat} {F : Nat → Nat → Int} {p : Int} (h : EI m a k c σ F p) (hm : m ≤ 8) (ha : ∀ q j, (a q j).natAbs ≤ 9) {l : Nat} (hl : k ≤ l) (hlm : l < m) (q : Nat) : (phi m F (a q) l).natAbs ≤ Bd (k + 1) := by
  obtain ⟨e, e1, e2⟩ := EI_th h hm hl hlm
  rw [pm_abs e1 (e2 (a q))]
  have e3 : wg (a q) (om (fun i => a (c i)) k) (Lm σ k ||| 2 ^ σ l) = om (fun i => if i = k then a q else a (c i)) (k + 1) (Lm σ k ||| 2 ^ σ l) := by
    show _ = wg (if k = k then a q else a (c k)) (om (fun i => if i = k then a q else a (c i)) k) _
    rw [if_pos rfl]
    refine wg_congr (fun _ _ _ => rfl) (fun j _ _ => om_congr (fun i hi j _ => ?_) _)
    try dsimp only
    rw [if_neg (by omega)]
  rw [e3]
  refine om_abs (fun i j => ?_) (k + 1) _ (lt256 (or_lt_m (Lm_lt h h.1) (h.2.1 l hlm)) hm) ?_
  · split
    · exact ha q j
    · exact ha _ j
  · have := h.2.1 l hlm
    rw [pop_ins (Lm_not h hl hlm) (by omega), pop_Lm h hm k h.1]
theorem EI_phi2 {m k : Nat} {a : Nat → Nat → Int} {c σ : Nat → Nat} {F : Nat → Nat → Int} {p : Int} (h : EI m a k c σ F p) (hm : m ≤ 8) (ha : ∀ q j, (a q j).natAbs ≤ 9) {l : Nat} (hl : l < k) (q : Nat) : (phi m F (a q) l).natAbs ≤ Bd k := by
  have hkm := h.1
  obtain ⟨e, e1, e2⟩ := EI_et h hm hl
  rw [pm_abs e1 (e2 (a q))]
  obtain ⟨k', rfl⟩ : ∃ k', k = k' + 1 := ⟨k - 1, by omega⟩
  rw [Nat.add_sub_cancel]
  have e3 : wg (a q) (om (skp (fun i => a (c i)) l) k') (Lm σ (k' + 1)) = om (fun i => if i = k' then a q else skp (fun i => a (c i)) l i) (k' + 1) (Lm σ (k' + 1)) := by
    show _ = wg (if k' = k' then a q else skp (fun i => a (c i)) l k') (om (fun i => if i = k' then a q else skp (fun i => a (c i)) l i) k') _
    rw [if_pos rfl]
    refine wg_congr (fun _ _ _ => rfl) (fun j _ _ => om_congr (fun i hi j _ => ?_) _)
    try dsimp only
    rw [if_neg (by omega)]
  rw [e3]
  refine om_abs (fun i j => ?_) (k' + 1) _ (lt256 (Lm_lt h hkm) hm) (pop_Lm h hm _ hkm)
  split
  · exact ha q j
  · exact ha _ j
/-- what the grid holds -/
def EGr (m n : Nat) (a : Nat → Nat → Int) (k : Nat) (F : Nat → Nat → Int) (p : Int) (M : mM) : Prop := M 17 3 = (m : Int) ∧ M 17 4 = (n : Int) ∧ M 17 5 = (k : Int) ∧ M 17 7 = p ∧ ∀ i, i < m → ∀ q, q < n → M 18 (i * 8 + q) = phi m F (a q) i
theorem c_solveLine {m n k l cc : Nat} {a : Nat → Nat → Int} {c σ : Nat → Nat} {F : Nat → Nat → Int} {p : Int} (M : mM) (h : EI m a k c σ F p) (hm : m ≤ 7) (hn : n ≤ 8) (ha : ∀ q j, (a q j).natAbs ≤ 9) (hg : EGr m n a k F p M) (hk : k < m) (hl : k ≤ l) (hlm : l < m) (hcc : cc < n) (hne : M 18 (l * 8 + cc) ≠ 0) :
    ∃ M' σ' F' p', gC 22 [rv 1 17, iv (l : Int), iv (cc : Int)] M = some (none, M') ∧ EI m a (k + 1) (fun i => if i = k then cc else c i) σ' F' p' ∧ EGr m n a (k + 1) F' p' M' ∧ (∀ o, o ≠ 17 → o ≠ 18 → o ≠ 19 → M' o = M o) ∧ M' 17 6 = M 17 6 ∧ M' 19 k = (cc : Int) ∧ (∀ i, i ≠ k → M' 19 i = M 19 i) ∧ ∀ x : Nat → Int, (∀ l, k ≤ l → l < m → phi m F x l = 0) → ∀ l, k + 1 ≤ l → l < m → phi m F' x l = 0 := by
  obtain ⟨g1, g2, g3, g4, g5⟩ := hg
  obtain ⟨M1, a1, a2, a3⟩ := c_swapLines (m := m) (n := n) (k := k) (l := l) M hm hn hk hlm g2
  have hS := EI_swap h hk hl hlm
  have s5 : ∀ i, i < m → ∀ q, q < n → M1 18 (i * 8 + q) = phi m (fun i => F (sw k l i)) (a q) i := by
    intro i hi q hq
    rw [a3 i hi q hq, g5 _ (sw_lt hk hlm hi) q hq]
    rfl
  have hpiv : M1 18 (k * 8 + cc) = M 18 (l * 8 + cc) := by
    rw [a3 k hk cc hcc]
    unfold sw
    rw [if_pos rfl]
  have hy : phi m (fun i => F (sw k l i)) (a cc) k ≠ 0 := by
    rw [← s5 k hk cc hcc, hpiv]
    exact hne
  obtain ⟨F', f1, f2, f3⟩ := EI_step hS (by omega) hk hy
  have hp := hS.2.2.2.1
  have hpb := EI_p hS (by omega) ha
  rw [e_Elimination_solveLine, g3, a1, bV_none, a2 17 (by omega), g3, c_get (by omega) (by omega), bJ_some, s5 k hk cc hcc, g4]
  generalize hM2 : st M1 17 7 (phi m (fun i => F (sw k l i)) (a cc) k) = M2
  have b17 : ∀ j, j ≠ 7 → M2 17 j = M 17 j := fun j hj => by rw [← hM2, st_nk hj, a2 17 (by omega)]
  have b7 : M2 17 7 = phi m (fun i => F (sw k l i)) (a cc) k := by rw [← hM2, st_same]
  have bo : ∀ o, o ≠ 17 → M2 o = M1 o := fun o ho => by rw [← hM2, st_ob ho]
  have key := pu_rel (S := mM) (G := fun j M' => gA 22 30 [rv 1 17, none, iv (cc : Int), jv p, none, iv (j : Int)] [] M') (I := fun j M' => (∀ o, o ≠ 18 → M' o = M2 o) ∧ ∀ i, i < m → ∀ q, q < n → M' 18 (i * 8 + q) = if i < j then phi m F' (a q) i else phi m (fun i => F (sw k l i)) (a q) i) m (fun j M' hj hI => by
    obtain ⟨i1, i2⟩ := hI
    try dsimp only
    rw [s_Elimination_solveLine_30, i1 17 (by omega), b17 3 (by omega), g1, if_neg (by omega), b17 5 (by omega), g3, pu_inc (by omega)]
    by_cases e : j = k
    · rw [if_pos (by omega)]
      refine ⟨M', ⟨i1, fun i hi q hq => ?_⟩, rfl⟩
      rw [i2 i hi q hq]
      by_cases z : i = k
      · rw [if_neg (by omega), if_pos (by omega), z]
        exact (f2 (a q)).symm
      · by_cases y : i < j
        · rw [if_pos y, if_pos (by omega)]
        · rw [if_neg y, if_neg (by omega)]
    · have hjj : ∀ q, q < n → M' 18 (j * 8 + q) = phi m (fun i => F (sw k l i)) (a q) j := fun q hq => by rw [i2 j hj q hq, if_neg (Nat.lt_irrefl j)]
      have hkk : ∀ q, q < n → M' 18 (k * 8 + q) = phi m (fun i => F (sw k l i)) (a q) k := fun q hq => by
        rw [i2 k hk q hq]
        by_cases z : k < j
        · rw [if_pos z]; exact f2 (a q)
        · rw [if_neg z]
      obtain ⟨M3, d1, d2, d3, d4⟩ := c_clear (m := m) (n := n) (k := k) (l := j) (cc := cc) (p := p) (p' := phi m (fun i => F (sw k l i)) (a cc) k) (nv := fun q => phi m F' (a q) j) M' hm hn hk hj e hcc (by rw [i1 17 (by omega), b17 4 (by omega), g2]) (by rw [i1 17 (by omega), b17 5 (by omega), g3]) (by rw [i1 17 (by omega), b7]) hp (fun q hq => by
        rw [hjj q hq, hjj cc hcc, hkk q hq]
        exact f3 j hj e (a q)) (fun q hq => by
        rw [Int.natAbs_mul]
        by_cases z : j < k + 1
        · have := EI_phi2 f1 (by omega) ha z q
          exact Nat.lt_of_le_of_lt (Nat.mul_le_mul hpb this) (Bd_ok2 k (by omega))
        · have := EI_phi1 f1 (by omega) ha (show k + 1 ≤ j by omega) hj q
          exact Nat.lt_of_le_of_lt (Nat.mul_le_mul hpb this) (Bd_ok1 k (by omega)))
      rw [if_neg (by omega), d1, bV_none]
      refine ⟨M3, ⟨fun o ho => by rw [d2 o ho, i1 o ho], fun i hi q hq => ?_⟩, rfl⟩
      by_cases z : i = j
      · rw [z, d3 q hq, if_pos (by omega)]
      · rw [d4 i hi z q hq, i2 i hi q hq]
        by_cases y : i < j
        · rw [if_pos y, if_pos (by omega)]
        · rw [if_neg y, if_neg (by omega)]) 0 M2 (Nat.zero_le _) ⟨fun _ _ => rfl, fun i hi q hq => by rw [if_neg (Nat.not_lt_zero i), bo 18 (by omega)]; exact s5 i hi q hq⟩
  obtain ⟨M3, ⟨i1, i2⟩, i3⟩ := key
  try dsimp only at i3
  rw [show ((0 : Nat) : Int) = 0 from rfl] at i3
  rw [i3, s_Elimination_solveLine_30, i1 17 (by omega), b17 3 (by omega), g1, if_pos (by omega), b17 5 (by omega), g3, if_neg (by omega), if_neg (by omega), if_pos (by omega), pu_nn, st_ob (show 17 ≠ 19 by omega), i1 17 (by omega), b17 5 (by omega), g3, pu_inc (by omega)]
  refine ⟨_, _, F', _, rfl, f1, ⟨?_, ?_, ?_, ?_, fun i hi q hq => ?_⟩, fun o h17 h18 h19 => ?_, ?_, ?_, fun i hi => ?_, fun x hx l' hl' hlm' => ?_⟩
  · rw [st_nk (by omega), st_ob (by omega), i1 17 (by omega), b17 3 (by omega), g1]
  · rw [st_nk (by omega), st_ob (by omega), i1 17 (by omega), b17 4 (by omega), g2]
  · rw [st_same]
  · rw [st_nk (by omega), st_ob (by omega), i1 17 (by omega), b7]
  · rw [st_ob (by omega), st_ob (by omega), i2 i hi q hq, if_pos hi]
  · rw [st_ob h17, st_ob h19, i1 o h18, bo o h17, a2 o h18]
  · rw [st_nk (by omega), st_ob (by omega), i1 17 (by omega), b17 6 (by omega)]
  · rw [st_ob (by omega), st_same]
  · rw [st_ob (by omega), st_nk hi, i1 19 (by omega), bo 19 (by omega), a2 19 (by omega)]
  · have e1 := f3 l' hlm' (by omega) x
    have z1 : phi m (fun i => F (sw k l i)) x l' = 0 := by
      show phi m F x (sw k l l') = 0
      refine hx _ ?_ (sw_lt hk hlm hlm')
      unfold sw
      split
      · omega
      · split
        · omega
        · omega
    have z2 : phi m (fun i => F (sw k l i)) x k = 0 := by
      show phi m F x (sw k l k) = 0
      refine hx _ ?_ (sw_lt hk hlm hk)
      unfold sw
      rw [if_pos rfl]
      exact hl
    rw [z1, z2, Int.mul_zero, Int.mul_zero] at e1
    rcases Int.mul_eq_zero.mp e1 with q | q
    · exact absurd q hp
    · exact q
