/-! feed and back -/
def putB (x : Int) (tl : Nat) (tp : Nat → Int) : Nat → Int := fun i => if tl ≤ i ∧ i < tl + 4 then w8 (w8 (shr32 x (24 - 8 * ((i - tl : Nat) : Int)))) else tp i
theorem w8_rng (x : Int) : -128 ≤ w8 x ∧ w8 x < 128 := by
  unfold w8
  omega
theorem putB_ok {x : Int} {tl : Nat} {tp : Nat → Int} (h : TPok tl tp) : TPok (tl + 4) (putB x tl tp) := by
  intro i hi
  unfold putB
  by_cases q : tl ≤ i ∧ i < tl + 4
  · rw [if_pos q]; exact w8_rng _
  · rw [if_neg q]; exact h i (by omega)
theorem c_putBytes {x : Int} {tl : Nat} (M : mM) (hl : M 0 1 = (tl : Int)) (ht : tl + 4 ≤ 2000) : ∃ M', gC 125 [rv 10 0, iv x] M = some (none, M') ∧ M' 0 1 = ((tl + 4 : Nat) : Int) ∧ (∀ k, k ≠ 1 → M' 0 k = M 0 k) ∧ (∀ o, o ≠ 0 → o ≠ 1 → M' o = M o) ∧ M' 1 = putB x tl (M 1) := by
  rw [e_GaugeNet_putBytes]
  have key := pu_rel (S := mM) (G := fun i M' => gA 125 3 [rv 10 0, iv x, iv (24 - 8 * (i : Int))] [] M') (I := fun i M' => M' 0 1 = ((tl + i : Nat) : Int) ∧ (∀ k, k ≠ 1 → M' 0 k = M 0 k) ∧ (∀ o, o ≠ 0 → o ≠ 1 → M' o = M o) ∧ ∀ j, M' 1 j = if tl ≤ j ∧ j < tl + i then w8 (w8 (shr32 x (24 - 8 * ((j - tl : Nat) : Int)))) else M 1 j) 4 (fun i M' hi hI => by
    obtain ⟨i1, i2, i3, i4⟩ := hI
    try dsimp only
    rw [s_GaugeNet_putBytes_3, i1, if_neg (by omega), if_neg (by omega), if_neg (by omega), if_pos (by omega), pu_nn, st_ob (show 0 ≠ 1 by omega), i1, pu_inc (by omega), pu_w32 (by omega) (by omega), show (24 : Int) - 8 * (i : Int) + -8 = 24 - 8 * ((i + 1 : Nat) : Int) by omega]
    refine ⟨_, ⟨?_, fun k hk => ?_, fun o h0 h1 => ?_, fun j => ?_⟩, rfl⟩
    · rw [st_same]; rfl
    · rw [st_nk hk, st_ob (by omega)]; exact i2 k hk
    · rw [st_ob h0, st_ob h1]; exact i3 o h0 h1
    · rw [st_ob (by omega), st_if, i4 j]
      by_cases e : j = tl + i
      · rw [if_pos e, if_pos (by omega), show j - tl = i by omega]
      · rw [if_neg e]
        by_cases q : tl ≤ j ∧ j < tl + i
        · rw [if_pos q, if_pos (by omega)]
        · rw [if_neg q, if_neg (by omega)]) 0 M (by omega) ⟨hl, fun _ _ => rfl, fun _ _ _ => rfl, fun j => by rw [if_neg (by omega)]⟩
  obtain ⟨M', ⟨i1, i2, i3, i4⟩, i5⟩ := key
  try dsimp only at i5
  rw [show (24 : Int) - 8 * ((0 : Nat) : Int) = 24 from rfl] at i5
  rw [i5, s_GaugeNet_putBytes_3, if_pos (by omega)]
  exact ⟨M', rfl, i1, i2, i3, funext i4⟩
theorem r_put {x : Int} {tl : Nat} (M : mM) (hl : M 100 2 = (tl : Int)) (ht : tl + 4 ≤ 2000) : ∃ M', gC 178 [rv 11 100, iv x] M = some (none, M') ∧ M' 100 2 = ((tl + 4 : Nat) : Int) ∧ (∀ k, k ≠ 2 → M' 100 k = M 100 k) ∧ (∀ o, o ≠ 100 → o ≠ 101 → M' o = M o) ∧ M' 101 = putB x tl (M 101) := by
  rw [e_GaugeNetModel_put]
  have key := pu_rel (S := mM) (G := fun i M' => gA 178 3 [rv 11 100, iv x, iv (24 - 8 * (i : Int))] [] M') (I := fun i M' => M' 100 2 = ((tl + i : Nat) : Int) ∧ (∀ k, k ≠ 2 → M' 100 k = M 100 k) ∧ (∀ o, o ≠ 100 → o ≠ 101 → M' o = M o) ∧ ∀ j, M' 101 j = if tl ≤ j ∧ j < tl + i then w8 (w8 (shr32 x (24 - 8 * ((j - tl : Nat) : Int)))) else M 101 j) 4 (fun i M' hi hI => by
    obtain ⟨i1, i2, i3, i4⟩ := hI
    try dsimp only
    rw [s_GaugeNetModel_put_3, i1, if_neg (by omega), if_pos (by omega), pu_nn, st_ob (show 100 ≠ 101 by omega), i1, pu_inc (by omega), pu_w32 (by omega) (by omega), show (24 : Int) - 8 * (i : Int) + -8 = 24 - 8 * ((i + 1 : Nat) : Int) by omega]
    refine ⟨_, ⟨?_, fun k hk => ?_, fun o h0 h1 => ?_, fun j => ?_⟩, rfl⟩
    · rw [st_same]; rfl
    · rw [st_nk hk, st_ob (by omega)]; exact i2 k hk
    · rw [st_ob h0, st_ob h1]; exact i3 o h0 h1
    · rw [st_ob (by omega), st_if, i4 j]
      by_cases e : j = tl + i
      · rw [if_pos e, if_pos (by omega), show j - tl = i by omega]
      · rw [if_neg e]
        by_cases q : tl ≤ j ∧ j < tl + i
        · rw [if_pos q, if_pos (by omega)]
        · rw [if_neg q, if_neg (by omega)]) 0 M (by omega) ⟨hl, fun _ _ => rfl, fun _ _ _ => rfl, fun j => by rw [if_neg (by omega)]⟩
  obtain ⟨M', ⟨i1, i2, i3, i4⟩, i5⟩ := key
  try dsimp only at i5
  rw [show (24 : Int) - 8 * ((0 : Nat) : Int) = 24 from rfl] at i5
  rw [i5, s_GaugeNetModel_put_3, if_pos (by omega)]
  exact ⟨M', rfl, i1, i2, i3, funext i4⟩
theorem RW_tape {lv : Nat} {W M M' : mM} (h : RW lv W M) (k1 : ∀ o, o ≠ 100 → o ≠ 101 → M' o = M o) (k2 : ∀ k, k ≠ 2 → M' 100 k = M 100 k) : RW lv W M' := by
  unfold RW
  rw [k2 18 (by omega), k2 35 (by omega), k2 36 (by omega), k2 37 (by omega), k1 111 (by omega) (by omega), k1 112 (by omega) (by omega), k1 115 (by omega) (by omega), k1 120 (by omega) (by omega), k1 113 (by omega) (by omega), k1 114 (by omega) (by omega), k1 116 (by omega) (by omega), k1 117 (by omega) (by omega), k1 118 (by omega) (by omega), k1 121 (by omega) (by omega), k1 122 (by omega) (by omega)]
  exact h
/-- another tape -/
theorem CI_tape {W : mM} {tl tl' : Nat} {tp tp' : Nat → Int} {pl : Int} {M M' : mM} (h : CI W tl tp pl M) (k1 : ∀ o, o ≠ 0 → o ≠ 1 → M' o = M o) (k2 : ∀ k, k ≠ 1 → M' 0 k = M 0 k) (hl : M' 0 1 = (tl' : Int)) (hl2 : tl' ≤ 2000) (ht : ∀ i, i < tl' → M' 1 i = tp' i) : CI W tl' tp' pl M' := by
  obtain ⟨w, w2, ⟨h1, h2, h3, h4, h5, h6⟩, h7⟩ := h
  refine ⟨w, w2, ⟨h1, by rw [k2 4 (by omega)]; exact h2, by rw [k1 2 (by omega) (by omega)]; exact h3, CW_k h4 (fun o ho => k1 o (by omega) (by omega)), ⟨hl, hl2, ht⟩, by rw [k2 2 (by omega)]; exact h6⟩, ?_⟩
  rw [k2 5 (by omega)]
  rcases h7 with q | ⟨q1, q2, q3⟩
  · exact Or.inl q
  · exact Or.inr ⟨q1, PR_s q2 (k1 11 (by omega) (by omega)), TR_s q3 (fun o ho ho2 => k1 o (by omega) (by omega))⟩
theorem RI_tape {W : mM} {tl tl' : Nat} {tp tp' : Nat → Int} {pl : Int} {M M' : mM} (h : RI W tl tp pl M) (k1 : ∀ o, o ≠ 100 → o ≠ 101 → M' o = M o) (k2 : ∀ k, k ≠ 2 → M' 100 k = M 100 k) (hl : M' 100 2 = (tl' : Int)) (hl2 : tl' ≤ 2000) (ht : ∀ i, i < tl' → M' 101 i = tp' i) : RI W tl' tp' pl M' := by
  obtain ⟨lv, ⟨h1, h2, h3, h4⟩, h5⟩ := h
  refine ⟨lv, ⟨RW_tape h1 k1 k2, ⟨hl, hl2, ht⟩, by rw [k2 17 (by omega)]; exact h3, by rw [k1 107 (by omega) (by omega)]; exact h4⟩, ?_⟩
  rw [k2 44 (by omega)]
  rcases h5 with q | ⟨q1, q2⟩
  · exact Or.inl q
  · refine Or.inr ⟨q1, ?_⟩
    unfold SR at q2 ⊢
    rw [k2 45 (by omega), k1 127 (by omega) (by omega), k1 128 (by omega) (by omega), k1 129 (by omega) (by omega)]
    exact q2
theorem p_feed (a b c d e : Int) : PureI Rel 124 177 [iv a, iv b, iv c, iv d, iv e] := by
  rintro MC MR ⟨W, tl, tp, pl, h, ht, hc, hr⟩
  obtain ⟨w, w2, hb, hd⟩ := id hc
  obtain ⟨lv, hb2, hd2⟩ := id hr
  obtain ⟨l1, l2, l3⟩ := hb.2.2.2.2.1
  obtain ⟨m1, m2, m3⟩ := hb2.2.1
  by_cases hfit : tl + 20 ≤ 2000
  · obtain ⟨A1, a1, a2, a3, a4, a5⟩ := c_putBytes (x := a) (tl := tl) MC l1 (by omega)
    obtain ⟨A2, b1, b2, b3, b4, b5⟩ := c_putBytes (x := b) (tl := tl + 4) A1 a2 (by omega)
    obtain ⟨A3, c1, c2, c3, c4, c5⟩ := c_putBytes (x := c) (tl := tl + 4 + 4) A2 b2 (by omega)
    obtain ⟨A4, d1, d2, d3, d4, d5⟩ := c_putBytes (x := d) (tl := tl + 4 + 4 + 4) A3 c2 (by omega)
    obtain ⟨A5, e1, e2, e3, e4, e5⟩ := c_putBytes (x := e) (tl := tl + 4 + 4 + 4 + 4) A4 d2 (by omega)
    obtain ⟨B1, f1, f2, f3, f4, f5⟩ := r_put (x := a) (tl := tl) MR m1 (by omega)
    obtain ⟨B2, g1, g2, g3, g4, g5⟩ := r_put (x := b) (tl := tl + 4) B1 f2 (by omega)
    obtain ⟨B3, h1, h2, h3, h4, h5⟩ := r_put (x := c) (tl := tl + 4 + 4) B2 g2 (by omega)
    obtain ⟨B4, i1, i2, i3, i4, i5⟩ := r_put (x := d) (tl := tl + 4 + 4 + 4) B3 h2 (by omega)
    obtain ⟨B5, j1, j2, j3, j4, j5⟩ := r_put (x := e) (tl := tl + 4 + 4 + 4 + 4) B4 i2 (by omega)
    have ex : ∀ (f g : Nat → Int), (∀ i, i < tl → f i = g i) → ∀ i, i < tl + 4 + 4 + 4 + 4 + 4 → putB e (tl + 4 + 4 + 4 + 4) (putB d (tl + 4 + 4 + 4) (putB c (tl + 4 + 4) (putB b (tl + 4) (putB a tl f)))) i = putB e (tl + 4 + 4 + 4 + 4) (putB d (tl + 4 + 4 + 4) (putB c (tl + 4 + 4) (putB b (tl + 4) (putB a tl g)))) i := by
      intro f g hfg i hi
      have s : ∀ (x : Int) (n : Nat) (f g : Nat → Int), (∀ i, i < n → f i = g i) → ∀ i, i < n + 4 → putB x n f i = putB x n g i := by
        intro x n f g hfg i hi
        unfold putB
        by_cases q : n ≤ i ∧ i < n + 4
        · rw [if_pos q, if_pos q]
        · rw [if_neg q, if_neg q]; exact hfg i (by omega)
      exact s e _ _ _ (s d _ _ _ (s c _ _ _ (s b _ _ _ (s a _ _ _ hfg)))) i hi
    refine ⟨((tl + 4 + 4 + 4 + 4 + 4 : Nat) : Int), A5, B5, ?_, ?_, W, tl + 4 + 4 + 4 + 4 + 4, putB e (tl + 4 + 4 + 4 + 4) (putB d (tl + 4 + 4 + 4) (putB c (tl + 4 + 4) (putB b (tl + 4) (putB a tl tp)))), pl, h, putB_ok (putB_ok (putB_ok (putB_ok (putB_ok ht)))), ?_, ?_⟩
    · rw [e_GaugeNet_feed, l1, pu_w32 (by omega) (by omega), if_pos (by omega), a1, bV_none, b1, bV_none, c1, bV_none, d1, bV_none, e1, bV_none, e2]
    · rw [e_GaugeNetModel_feed, m1, pu_w32 (by omega) (by omega), if_pos (by omega), f1, bV_none, g1, bV_none, h1, bV_none, i1, bV_none, j1, bV_none, j2]
    · refine CI_tape hc (fun o o0 o1 => by rw [e4 o o0 o1, d4 o o0 o1, c4 o o0 o1, b4 o o0 o1, a4 o o0 o1]) (fun k hk => by rw [e3 k hk, d3 k hk, c3 k hk, b3 k hk, a3 k hk]) e2 (by omega) (fun i hi => ?_)
      rw [e5, d5, c5, b5, a5]
      exact ex _ _ l3 i hi
    · refine RI_tape hr (fun o o0 o1 => by rw [j4 o o0 o1, i4 o o0 o1, h4 o o0 o1, g4 o o0 o1, f4 o o0 o1]) (fun k hk => by rw [j3 k hk, i3 k hk, h3 k hk, g3 k hk, f3 k hk]) j2 (by omega) (fun i hi => ?_)
      rw [j5, i5, h5, g5, f5]
      exact ex _ _ m3 i hi
  · refine ⟨-1, MC, MR, ?_, ?_, W, tl, tp, pl, h, ht, hc, hr⟩
    · rw [e_GaugeNet_feed, l1, pu_w32 (by omega) (by omega), if_neg (by omega)]
    · rw [e_GaugeNetModel_feed, m1, pu_w32 (by omega) (by omega), if_neg (by omega)]
theorem p_back (x : Int) : PureI Rel 126 179 [iv x] := by
  rintro MC MR ⟨W, tl, tp, pl, h, ht, hc, hr⟩
  obtain ⟨w, w2, hb, hd⟩ := id hc
  obtain ⟨lv, hb2, hd2⟩ := id hr
  obtain ⟨l1, l2, l3⟩ := hb.2.2.2.2.1
  obtain ⟨m1, m2, m3⟩ := hb2.2.1
  by_cases q : 0 ≤ x ∧ x ≤ (tl : Int)
  · obtain ⟨k, rfl⟩ : ∃ k : Nat, x = (k : Int) := ⟨x.toNat, by omega⟩
    refine ⟨((tl - k : Nat) : Int), st MC 0 1 ((tl - k : Nat) : Int), st MR 100 2 ((tl - k : Nat) : Int), ?_, ?_, W, tl - k, tp, pl, h, fun i hi => ht i (by omega), ?_, ?_⟩
    · rw [e_GaugeNet_back, if_neg (by omega), l1, if_pos (by omega), pu_w32 (by omega) (by omega), show (tl : Int) - (k : Int) = ((tl - k : Nat) : Int) by omega, st_same]
    · rw [e_GaugeNetModel_back, if_neg (by omega), m1, if_pos (by omega), pu_w32 (by omega) (by omega), show (tl : Int) - (k : Int) = ((tl - k : Nat) : Int) by omega, st_same]
    · exact CI_tape hc (fun o o0 o1 => st_ob o0) (fun k hk => st_nk hk) (st_same _ _ _ _) (by omega) (fun i hi => by rw [st_ob (by omega)]; exact l3 i (by omega))
    · exact RI_tape hr (fun o o0 o1 => st_ob o0) (fun k hk => st_nk hk) (st_same _ _ _ _) (by omega) (fun i hi => by rw [st_ob (by omega)]; exact m3 i (by omega))
  · refine ⟨-1, MC, MR, ?_, ?_, W, tl, tp, pl, h, ht, hc, hr⟩
    · rw [e_GaugeNet_back, l1]
      by_cases z : x < 0
      · rw [if_pos z]
      · rw [if_neg z, if_neg (by omega)]
    · rw [e_GaugeNetModel_back, m1]
      by_cases z : x < 0
      · rw [if_pos z]
      · rw [if_neg z, if_neg (by omega)]
