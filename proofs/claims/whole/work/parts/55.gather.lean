/-! The class gathers its TESTS. -/
theorem c_isTest {W M : mM} (hP : PR W M) {s n : Nat} (hs : sbs s (told W)) (hn : pop 14 s = n) (hn1 : 1 ≤ n) : gC 75 [rv 3 10, iv (s : Int), iv (n : Int)] M = some (iv (if isTB W s = true then 1 else 0), M) := by
  have hs16 := told16 hs
  have hn14 := pop_le 14 s
  have hmu := mu_le14 (wH W) 0 s
  rw [e_Tests_isTest, c_of hs16, bI_some, hP s hs, pu_w32 (by omega) (by omega)]
  by_cases h1 : mu (wH W) 0 s + 1 = n
  · rw [if_pos (by omega)]
    have step : ∀ i, i < 14 → (s.testBit i && !decide (mu (wH W) 0 (bdiff s (2 ^ i)) + 1 = n)) = false → gA 75 15 [rv 3 10, iv (s : Int), iv (n : Int), iv (i : Int)] [] M = gA 75 15 [rv 3 10, iv (s : Int), iv (n : Int), iv ((i + 1 : Nat) : Int)] [] M := by
      intro i hi hp
      have hb := bdiff_le s (2 ^ i)
      rw [s_Tests_isTest_15, if_neg (by omega), c_hasBit (by omega), bI_some, hB_nat, ite01_0, pu_inc (by omega)]
      by_cases q : s.testBit i = true
      · rw [q, Bool.true_and, Bool.not_eq_false', decide_eq_true_iff] at hp
        rw [if_pos q, andnot1 (by omega) (by omega), c_of (by omega), bI_some, hP _ (sbs_trans (sbs_bdiff _ _) hs), pu_w32 (by omega) (by omega), if_pos (by omega)]
      · rw [if_neg q]
    rcases pu_first (fun i => s.testBit i && !decide (mu (wH W) 0 (bdiff s (2 ^ i)) + 1 = n)) 14 with hall | ⟨k, k1, k2, k3⟩
    · have key := pu_up (fun i : Nat => gA 75 15 [rv 3 10, iv (s : Int), iv (n : Int), iv (i : Int)] [] M) 14 (fun i hi => step i hi (hall i hi))
      have ht : isTB W s = true := isTB_iff.mpr ⟨by omega, fun r hr => by
        have := hall r (tb_in (n := 14) hs16 hr)
        rw [hr, Bool.true_and, Bool.not_eq_false', decide_eq_true_iff] at this
        omega⟩
      refine Eq.trans key ?_
      rw [s_Tests_isTest_15, if_pos (by omega), if_pos ht]
    · have key := pu_up (fun i : Nat => gA 75 15 [rv 3 10, iv (s : Int), iv (n : Int), iv (i : Int)] [] M) k (fun i hi => step i (by omega) (k3 i hi))
      rw [Bool.and_eq_true, Bool.not_eq_true', decide_eq_false_iff_not] at k2
      have ht : ¬ isTB W s = true := fun z => by
        have := (isTB_iff.mp z).2 k k2.1
        omega
      have hb := bdiff_le s (2 ^ k)
      refine Eq.trans key ?_
      rw [s_Tests_isTest_15, if_neg (by omega), c_hasBit (by omega), bI_some, hB_nat, ite01_0, if_pos k2.1, andnot1 (by omega) (by omega), c_of (by omega), bI_some, hP _ (sbs_trans (sbs_bdiff _ _) hs), pu_w32 (by omega) (by omega), if_neg (by omega), if_neg ht]
  · rw [if_neg (by omega), if_neg (fun z => h1 (by have := (isTB_iff.mp z).1; omega))]
def TG (L : List Nat) (M : mM) : Prop := M 13 4 = (L.length : Int) ∧ ∀ i, i < L.length → M 14 i = (gd L i : Int) ∧ M 15 i = 0
theorem c_addIfTest {W M : mM} (hP : PR W M) {s n : Nat} {L : List Nat} (hs : sbs s (told W)) (hn1 : 1 ≤ n) (hL : TG L M) (hlt : (tp0 W s && decide (pop 14 s = n)) = true → L.length < 3432) : ∃ M', gC 74 [rv 7 13, rv 3 10, iv (s : Int), iv (n : Int)] M = some (none, M') ∧ (∀ o, (o < 13 ∨ 15 < o) → M' o = M o) ∧ TG (L ++ (if (tp0 W s && decide (pop 14 s = n)) = true then [s] else [])) M' := by
  have hs16 := told16 hs
  obtain ⟨t1, t2⟩ := hL
  rw [e_Tests_addIfTest, c_bitCount hs16, bI_some]
  by_cases hp : pop 14 s = n
  · rw [if_neg (by omega), t1]
    have htp : tp0 W s = isTB W s := by
      unfold tp0
      rw [decide_eq_true (sbs_zero.mpr hs), Bool.true_and]
    rw [decide_eq_true hp, Bool.and_true, htp] at hlt
    rw [decide_eq_true hp, Bool.and_true, htp]
    by_cases h3 : 3432 ≤ L.length
    · have hf : ¬ isTB W s = true := fun z => by have := hlt z; omega
      rw [if_pos (by omega), if_neg hf, List.append_nil]
      exact ⟨M, rfl, fun _ _ => rfl, t1, t2⟩
    · rw [if_neg (by omega), c_isTest hP hs hp hn1, bI_some, ite01_n]
      by_cases hT : isTB W s = true
      · rw [if_pos hT, if_pos hT, t1, if_pos (by omega), pu_nn, st_ob (show 13 ≠ 14 by omega), t1, if_pos (by omega), pu_nn, st_ob (show 13 ≠ 15 by omega), st_ob (show 13 ≠ 14 by omega), t1, pu_inc (by omega)]
        refine ⟨_, rfl, fun o ho => by rw [st_ob (by omega), st_ob (by omega), st_ob (by omega)], ?_, fun i hi => ?_⟩
        · rw [st_same, List.length_append]
          rfl
        · rw [List.length_append] at hi
          have hi : i < L.length + 1 := hi
          rw [st_ob (show 14 ≠ 13 by omega), st_ob (show 14 ≠ 15 by omega), st_ob (show 15 ≠ 13 by omega), st_if, st_if, st_ob (show 15 ≠ 14 by omega)]
          by_cases e : i = L.length
          · rw [if_pos e, if_pos e, e, gd_snoc]
            exact ⟨rfl, rfl⟩
          · rw [if_neg e, if_neg e, gd_left (by omega)]
            exact t2 i (by omega)
      · rw [if_neg hT, if_neg hT, List.append_nil]
        exact ⟨M, rfl, fun _ _ => rfl, t1, t2⟩
  · rw [if_pos (by omega), decide_eq_false hp, Bool.and_false, if_neg Bool.false_ne_true, List.append_nil]
    exact ⟨M, rfl, fun _ _ => rfl, t1, t2⟩
theorem pre_len {W : mM} {n c : Nat} (hc : c ≤ 16384) (h : (tp0 W c && decide (pop 14 c = n + 1)) = true) : (tlist (tp0 W) n ++ szl (tp0 W) (n + 1) c).length < 3432 := by
  have hc2 := h
  rw [Bool.and_eq_true, tp0_iff, decide_eq_true_iff] at hc2
  have h1 := pre_nodup (tp0 W) (c + 1) n
  rw [szl_succ, if_pos h, ← List.append_assoc] at h1
  have h2 := tests_bound (W := W) h1 (fun s hs => by
    rw [List.mem_append, List.mem_append] at hs
    rcases hs with (hs | hs) | hs
    · obtain ⟨a, b, _⟩ := tlist_mem.mp hs
      exact ⟨a, (tp0_iff.mp b).2⟩
    · obtain ⟨a, b, _⟩ := szl_mem.mp hs
      exact ⟨by omega, (tp0_iff.mp b).2⟩
    · have : s = c := by
        rcases List.mem_cons.mp hs with e | e
        · exact e
        · cases e
      rw [this]
      exact ⟨told16 hc2.1.1, hc2.1.2⟩)
  rw [List.length_append] at h2
  have h2 : (tlist (tp0 W) n ++ szl (tp0 W) (n + 1) c).length + 1 ≤ 3432 := h2
  omega
theorem c_gather {w : Nat} {W M : mM} (hc : CW w W M) (h : WF W) (hP : PR W M) : ∃ M', gC 73 [rv 7 13, rv 9 w, rv 3 10] M = some (none, M') ∧ (∀ o, (o < 13 ∨ 15 < o) → M' o = M o) ∧ TG (TL W) M' := by
  have hE := (wf_E h).2
  have hG := (wf_G h).2
  have pE : 2 ^ wE W ≤ 256 := Nat.le_trans (Nat.pow_le_pow_right (by omega) hE) (Nat.le_refl 256)
  have pG := wf_G64 h
  have hcw := hc.1
  rw [e_Tests_gather, st_ob (show w ≠ 13 by omega), CW_0 hc, (wf_E h).1, (wf_G h).1, show (8 : Int) = ((8 : Nat) : Int) from rfl, show (6 : Int) = ((6 : Nat) : Int) from rfl, min32_nat, min32_nat, shl32_one (by split <;> omega), shl32_one (by split <;> omega)]
  rw [show (if 8 < wE W then 8 else wE W) = wE W by split <;> omega, show (if 6 < wG W then 6 else wG W) = wG W by split <;> omega]
  have key := pu_rel (S := mM) (G := fun i M' => gA 73 33 [rv 7 13, none, rv 3 10, iv ((2 ^ wE W : Nat) : Int), iv ((2 ^ wG W : Nat) : Int), iv ((i + 1 : Nat) : Int), none, none] [] M') (I := fun i M' => (∀ o, (o < 13 ∨ 15 < o) → M' o = M o) ∧ TG (tlist (tp0 W) i) M') 8 (fun i M1 hi hI => by
    obtain ⟨i1, i2⟩ := hI
    try dsimp only
    rw [s_Tests_gather_33, if_neg (by omega)]
    have k2 := pu_rel (S := mM) (G := fun g M' => gA 73 43 [rv 7 13, none, rv 3 10, iv ((2 ^ wE W : Nat) : Int), iv ((2 ^ wG W : Nat) : Int), iv ((i + 1 : Nat) : Int), iv (g : Int), none] [] M') (I := fun g M' => (∀ o, (o < 13 ∨ 15 < o) → M' o = M o) ∧ TG (tlist (tp0 W) i ++ szl (tp0 W) (i + 1) (g * 256)) M') (2 ^ wG W) (fun g M2 hg hI2 => by
      obtain ⟨j1, j2⟩ := hI2
      try dsimp only
      rw [s_Tests_gather_43, if_neg (by omega)]
      have j20 : TG (tlist (tp0 W) i ++ szl (tp0 W) (i + 1) (g * 256 + 0)) M2 := by
        rw [Nat.add_zero (g * 256)]
        exact j2
      have k3 := pu_rel (S := mM) (G := fun e M' => gA 73 53 [rv 7 13, none, rv 3 10, iv ((2 ^ wE W : Nat) : Int), iv ((2 ^ wG W : Nat) : Int), iv ((i + 1 : Nat) : Int), iv (g : Int), iv (e : Int)] [] M') (I := fun e M' => (∀ o, (o < 13 ∨ 15 < o) → M' o = M o) ∧ TG (tlist (tp0 W) i ++ szl (tp0 W) (i + 1) (g * 256 + e)) M') (2 ^ wE W) (fun e M3 he hI3 => by
        obtain ⟨l1, l2⟩ := hI3
        try dsimp only
        have hrow := told_join h hg he
        have hadd : g * 256 ||| e = g * 256 + e := or_add (by omega)
        have hr16 := told16 hrow
        obtain ⟨M', f1, f2, f3⟩ := c_addIfTest (W := W) (M := M3) (PR_s hP (l1 11 (by omega))) (s := g * 256 ||| e) (n := i + 1) hrow (by omega) (by rw [hadd] at *; exact l2) (fun z => by rw [hadd] at z; exact pre_len (by omega) z)
        refine ⟨M', ⟨fun o ho => by rw [f2 o ho, l1 o ho], ?_⟩, ?_⟩
        · rw [show g * 256 + (e + 1) = g * 256 + e + 1 by omega, szl_succ, ← List.append_assoc]
          rw [hadd] at f3
          exact f3
        · rw [s_Tests_gather_53, if_neg (by omega), shl32_8 (by omega), or32_nat (by omega) (by omega), f1, bV_none, pu_inc (by omega)]) 0 M2 (Nat.zero_le _) ⟨j1, j20⟩
      obtain ⟨M3, ⟨l1, l2⟩, l3⟩ := k3
      try dsimp only at l3
      rw [show ((0 : Nat) : Int) = 0 from rfl] at l3
      refine ⟨M3, ⟨l1, ?_⟩, ?_⟩
      · have hcst : szl (tp0 W) (i + 1) (g * 256 + 2 ^ wE W) = szl (tp0 W) (i + 1) ((g + 1) * 256) := by
          refine szl_const (by omega) (fun s h1 h2 => ?_)
          rw [← Bool.not_eq_true, tp0_iff]
          rintro ⟨q, _⟩
          have := (told_split h q).2
          omega
        rw [← hcst]
        exact l2
      · rw [l3, s_Tests_gather_53, if_pos (by omega), pu_inc (by omega)]) 0 M1 (Nat.zero_le _) ⟨i1, by
        rw [show szl (tp0 W) (i + 1) (0 * 256) = [] from rfl, List.append_nil]
        exact i2⟩
    obtain ⟨M2, ⟨j1, j2⟩, j3⟩ := k2
    try dsimp only at j3
    rw [show ((0 : Nat) : Int) = 0 from rfl] at j3
    refine ⟨M2, ⟨j1, ?_⟩, ?_⟩
    · have hcst : szl (tp0 W) (i + 1) (2 ^ wG W * 256) = szl (tp0 W) (i + 1) 16384 := by
        refine szl_const (by omega) (fun s h1 h2 => ?_)
        rw [← Bool.not_eq_true, tp0_iff]
        rintro ⟨q, _⟩
        have := (told_split h q).1
        omega
      rw [tlist, ← hcst]
      exact j2
    · rw [j3, s_Tests_gather_43, if_pos (by omega), pu_inc (by omega)]) 0 (st M 13 4 0) (Nat.zero_le _) ⟨fun o ho => by rw [st_ob (by omega)], st_same _ _ _ _, fun i hi => by cases hi⟩
  obtain ⟨M1, ⟨i1, i2⟩, i3⟩ := key
  try dsimp only at i3
  rw [show ((0 + 1 : Nat) : Int) = 1 from rfl] at i3
  rw [i3, s_Tests_gather_33, if_pos (by omega)]
  exact ⟨M1, rfl, i1, i2⟩
def CY (W : mM) (tl : Nat) (tp : Nat → Int) (pl : Int) (M : mM) : Prop := ∃ w w2, CB w w2 W tl tp pl M ∧ M 0 5 = 1 ∧ PR W M ∧ TR W M
theorem CY_CI {W : mM} {tl : Nat} {tp : Nat → Int} {pl : Int} {M : mM} (h : CY W tl tp pl M) : CI W tl tp pl M := by
  obtain ⟨w, w2, h1, h2, h3, h4⟩ := h
  exact ⟨w, w2, h1, Or.inr ⟨h2, h3, h4⟩⟩
theorem CY_s {W : mM} {tl : Nat} {tp : Nat → Int} {pl : Int} {M M' : mM} (h : CY W tl tp pl M) (k : Cs M M') : CY W tl tp pl M' := by
  obtain ⟨w, w2, h1, h2, h3, h4⟩ := h
  refine ⟨w, w2, CB_s h1 (fun o ho => k o (by omega)), ?_, PR_s h3 (k 11 (by omega)), TR_s h4 (fun o ho ho2 => k o (by omega))⟩
  rw [k 0 (by omega)]
  exact h2
theorem c_makeReady {W : mM} {tl : Nat} {tp : Nat → Int} {pl : Int} {M : mM} (hc : CI W tl tp pl M) (h : WF W) : ∃ M', gC 138 [rv 10 0] M = some (none, M') ∧ CY W tl tp pl M' := by
  obtain ⟨w, w2, hb, hd⟩ := hc
  rw [e_GaugeNet_makeReady]
  rcases hd with q | ⟨q1, q2, q3⟩
  · obtain ⟨M1, a1, a2, a3⟩ := c_countAll hb.2.2.2.1 h
    have hcw1 : CW w W M1 := CW_k hb.2.2.2.1 (fun o ho => a2 o (by omega))
    obtain ⟨M2, b1, b2, b3⟩ := c_gather hcw1 h a3
    rw [if_neg (fun z => z q), hb.2.1, pu_nn, a1, bV_none, a2 0 (by omega), hb.2.1, pu_nn, b1, bV_none]
    have e0 : ∀ k, k ≠ 5 → st M2 0 5 1 0 k = M 0 k := fun k hk => by rw [st_nk hk, b2 0 (by omega), a2 0 (by omega)]
    have eo : ∀ o, o ≠ 0 → (o < 11 ∨ 15 < o) → st M2 0 5 1 o = M o := fun o h0 h1 => by rw [st_ob h0, b2 o (by omega), a2 o (by omega)]
    obtain ⟨c1, c2, c3, c4, c5, c6⟩ := hb
    refine ⟨_, rfl, w, w2, ⟨c1, ?_, ?_, CW_k c4 (fun o ho => eo o (by omega) (by omega)), ?_, ?_⟩, st_same _ _ _ _, ?_, ?_⟩
    · rw [e0 4 (by omega)]; exact c2
    · rw [eo 2 (by omega) (by omega)]; exact c3
    · rw [e0 1 (by omega), eo 1 (by omega) (by omega)]; exact c5
    · rw [e0 2 (by omega)]; exact c6
    · exact PR_s a3 (by rw [st_ob (by omega), b2 11 (by omega)])
    · unfold TR
      rw [st_ob (show 13 ≠ 0 by omega), st_ob (show 14 ≠ 0 by omega), st_ob (show 15 ≠ 0 by omega), st_ob (show 16 ≠ 0 by omega)]
      exact ⟨b3.1, fun i hi => ⟨(b3.2 i hi).1, Or.inl (b3.2 i hi).2⟩⟩
  · rw [if_pos (by omega)]
    exact ⟨M, rfl, w, w2, hb, q1, q2, q3⟩
