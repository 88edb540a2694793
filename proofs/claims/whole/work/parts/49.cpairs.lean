/-! The class's PAIRS. -/
theorem pu_w8 {x : Int} (h1 : -128 ≤ x) (h2 : x < 128) : w8 x = x := by
  unfold w8
  omega
theorem or_add {a b : Nat} (hb : b < 256) : a * 256 ||| b = a * 256 + b := by
  have := Nat.shiftLeft_add_eq_or_of_lt (i := 8) (show b < 2 ^ 8 from hb) a
  rw [Nat.shiftLeft_eq] at this
  exact this.symm
/-- the table of PAIRS is right -/
def PR (W M : mM) : Prop := ∀ s, sbs s (told W) → M 11 s = ((mu (wH W) 0 s : Nat) : Int)
noncomputable def isMoreB (W : mM) (s r : Nat) : Bool := s.testBit r && decide (mu (wH W) 0 (bdiff s (2 ^ r)) = mu (wH W) 0 s)
noncomputable def isPartB (W : mM) (s r o : Nat) : Bool := isMoreB W (bdiff s (2 ^ o)) r
theorem told16 {W : mM} {s : Nat} (hs : sbs s (told W)) : s < 16384 := Nat.lt_of_le_of_lt (sbs_le hs) (told_lt W)
theorem c_of {s : Nat} (hs : s < 16384) (M : mM) : gC 32 [rv 3 10, iv (s : Int)] M = some (iv (M 11 s), M) := by
  rw [e_Pairs_of, if_neg (by omega), if_neg (by omega), if_pos (by omega), pu_nn]
theorem min32_nat (a b : Nat) : min32 (a : Int) (b : Int) = ((if b < a then b else a : Nat) : Int) := by
  unfold min32
  by_cases h : b < a
  · rw [if_pos (by omega), if_pos h]
  · rw [if_neg (by omega), if_neg h]
theorem told_split {W : mM} (h : WF W) {s : Nat} (hs : sbs s (told W)) : s / 256 < 2 ^ wG W ∧ s % 256 < 2 ^ wE W := by
  have hE := (wf_E h).2
  constructor
  · rw [show s / 256 = s >>> 8 from (Nat.shiftRight_eq_div_pow s 8).symm]
    apply Nat.lt_pow_two_of_testBit
    intro i hi
    rw [Nat.testBit_shiftRight, ← tb_not]
    intro q
    have := told_tb W (8 + i)
    rw [hs _ q] at this
    have := (Bool.and_eq_true _ _ ▸ this.symm : decide (8 + i < 14) = true ∧ isRw W (8 + i) = true).2
    rw [isRw_iff] at this
    omega
  · apply Nat.lt_pow_two_of_testBit
    intro i hi
    rw [show s % 256 = s % 2 ^ 8 from rfl, Nat.testBit_mod_two_pow, ← Bool.not_eq_true, Bool.and_eq_true, decide_eq_true_iff]
    rintro ⟨h8, q⟩
    have := told_tb W i
    rw [hs _ q] at this
    have := (Bool.and_eq_true _ _ ▸ this.symm : decide (i < 14) = true ∧ isRw W i = true).2
    rw [isRw_iff] at this
    omega
theorem told_join {W : mM} (h : WF W) {g e : Nat} (hg : g < 2 ^ wG W) (he : e < 2 ^ wE W) : sbs (g * 256 ||| e) (told W) := by
  have hE := (wf_E h).2
  have hG := (wf_G h).2
  intro i hi
  rw [Nat.testBit_or, tb_256, Bool.or_eq_true, Bool.and_eq_true, decide_eq_true_iff] at hi
  rw [told_tb, Bool.and_eq_true, decide_eq_true_iff, isRw_iff]
  rcases hi with ⟨h1, h2⟩ | h1
  · have := tb_in hg h2
    omega
  · have := tb_in he h1
    omega
section CP
variable {w : Nat} {W M : mM}
theorem c_countOne (hc : CW w W M) (h : WF W) {s : Nat} (hs : sbs s (told W)) (hM : ∀ r, s.testBit r = true → M 11 (bdiff s (2 ^ r)) = ((mu (wH W) 0 (bdiff s (2 ^ r)) : Nat) : Int)) : gC 31 [rv 3 10, rv 9 w, iv (s : Int)] M = some (iv ((mu (wH W) 0 s : Nat) : Int), M) := by
  have hs16 := told16 hs
  have hn : ∀ i, nbr (wH W) i s < 128 := fun i => nbr_lt (n := 7) (wH_128 h) i s
  rw [e_Pairs_countOne]
  have key := pu_up (fun i : Nat => gA 31 9 [rv 3 10, rv 9 w, iv (s : Int), iv ((nbr (wH W) i s : Nat) : Int), iv ((lst (wH W) 0 s i : Nat) : Int), iv (i : Int)] [] M) 14 (fun i hi => by
    have hni := hn i
    have hmu := mu_le14 (wH W) 0 (bdiff s (2 ^ i))
    have hH := wH_128 h i
    have hb := bdiff_le s (2 ^ i)
    try dsimp only
    rw [s_Pairs_countOne_9, if_neg (by omega), c_hasBit (by omega), bI_some, hB_nat, pu_inc (by omega), nbr, lst]
    by_cases q : s.testBit i = true
    · rw [if_pos q, if_neg (by decide), c_hasOf hc h, bI_some, andnot1 (by omega) (by omega), c_of (by omega), bI_some, hM i q, pu_inc (by omega), min32_nat, if_pos q, if_pos q, or32_nat (by omega) (by omega)]
    · rw [if_neg q, if_pos rfl, if_neg q, if_neg q, Nat.or_zero])
  refine Eq.trans key ?_
  have hni := hn 14
  rw [s_Pairs_countOne_9, if_pos (by omega), c_bitCount (by omega), bI_some, min32_nat, pop_ext (k := 7) hni (by omega), mu_rec (wH W) hs16]
theorem c_countAll (hc : CW w W M) (h : WF W) : ∃ M', gC 30 [rv 3 10, rv 9 w] M = some (none, M') ∧ (∀ o, o ≠ 11 → M' o = M o) ∧ PR W M' := by
  have hE := (wf_E h).2
  have hG := (wf_G h).2
  have pE : 2 ^ wE W ≤ 256 := Nat.le_trans (Nat.pow_le_pow_right (by omega) hE) (Nat.le_refl 256)
  have pG := wf_G64 h
  rw [e_Pairs_countAll, CW_0 hc, (wf_E h).1, (wf_G h).1, show (8 : Int) = ((8 : Nat) : Int) from rfl, show (6 : Int) = ((6 : Nat) : Int) from rfl, min32_nat, min32_nat, shl32_one (by split <;> omega), shl32_one (by split <;> omega)]
  rw [show (if 8 < wE W then 8 else wE W) = wE W by split <;> omega, show (if 6 < wG W then 6 else wG W) = wG W by split <;> omega]
  have key := pu_rel (S := mM) (G := fun g M' => gA 30 27 [rv 3 10, rv 9 w, iv ((2 ^ wE W : Nat) : Int), iv ((2 ^ wG W : Nat) : Int), iv (g : Int), none, none] [] M') (I := fun g M' => (∀ o, o ≠ 11 → M' o = M o) ∧ ∀ s, sbs s (told W) → s / 256 < g → M' 11 s = ((mu (wH W) 0 s : Nat) : Int)) (2 ^ wG W) (fun g M1 hg hI => by
    obtain ⟨i1, i2⟩ := hI
    try dsimp only
    rw [s_Pairs_countAll_27, if_neg (by omega)]
    have k2 := pu_rel (S := mM) (G := fun e M' => gA 30 36 [rv 3 10, rv 9 w, iv ((2 ^ wE W : Nat) : Int), iv ((2 ^ wG W : Nat) : Int), iv (g : Int), iv (e : Int), none] [] M') (I := fun e M' => (∀ o, o ≠ 11 → M' o = M o) ∧ ∀ s, sbs s (told W) → (s / 256 < g ∨ s / 256 = g ∧ s % 256 < e) → M' 11 s = ((mu (wH W) 0 s : Nat) : Int)) (2 ^ wE W) (fun e M2 he hI2 => by
      obtain ⟨j1, j2⟩ := hI2
      try dsimp only
      have hrow := told_join h hg he
      have hr16 := told16 hrow
      have hadd : g * 256 ||| e = g * 256 + e := or_add (by omega)
      have hM2 : CW w W M2 := CW_k hc (fun o ho => j1 o (by omega))
      have hmu := mu_le14 (wH W) 0 (g * 256 ||| e)
      rw [s_Pairs_countAll_36, if_neg (by omega), shl32_8 (by omega), or32_nat (by omega) (by omega), if_neg (by omega), c_countOne hM2 h hrow (fun r hr => by
        apply j2 _ (sbs_trans (sbs_bdiff _ _) hrow)
        have h1 := bdiff_le (g * 256 ||| e) (2 ^ r)
        have h2 : bdiff (g * 256 ||| e) (2 ^ r) ≠ g * 256 ||| e := by
          intro z
          have := tb_del (g * 256 ||| e) r r
          rw [z, hr, decide_eq_true rfl] at this
          cases this
        rw [hadd] at h1 h2 ⊢
        omega), bI_some, if_pos (by omega), pu_inc (by omega), pu_nn, pu_w8 (x := ((mu (wH W) 0 (g * 256 ||| e) : Nat) : Int)) (by omega) (by omega), pu_w8 (by omega) (by omega)]
      refine ⟨_, ⟨fun o ho => ?_, fun s hs hse => ?_⟩, rfl⟩
      · rw [st_ob ho]; exact j1 o ho
      · rw [st_if]
        by_cases q : s = g * 256 ||| e
        · rw [if_pos q, q]
        · rw [if_neg q]
          apply j2 s hs
          rw [hadd] at q
          omega) 0 M1 (Nat.zero_le _) ⟨i1, fun s hs hse => i2 s hs (by omega)⟩
    obtain ⟨M2, ⟨j1, j2⟩, j3⟩ := k2
    try dsimp only at j3
    rw [show ((0 : Nat) : Int) = 0 from rfl] at j3
    refine ⟨M2, ⟨j1, fun s hs hse => j2 s hs ?_⟩, ?_⟩
    · have := (told_split h hs).2
      omega
    · rw [j3, s_Pairs_countAll_36, if_pos (by omega), pu_inc (by omega)]) 0 M (Nat.zero_le _) ⟨fun _ _ => rfl, fun s _ hs => by omega⟩
  obtain ⟨M1, ⟨i1, i2⟩, i3⟩ := key
  try dsimp only at i3
  rw [show ((0 : Nat) : Int) = 0 from rfl] at i3
  rw [i3, s_Pairs_countAll_27, if_pos (by omega)]
  exact ⟨M1, rfl, i1, fun s hs => i2 s hs (told_split h hs).1⟩
end CP
section CM
variable {W M : mM}
theorem c_isMore (hP : PR W M) {s r : Nat} (hs : sbs s (told W)) : gC 33 [rv 3 10, iv (s : Int), iv (r : Int)] M = some (iv (if isMoreB W s r = true then 1 else 0), M) := by
  have hs16 := told16 hs
  have hb := bdiff_le s (2 ^ r)
  rw [e_Pairs_isMore, c_hasBit (by omega), bI_some, hB_nat]
  unfold isMoreB
  by_cases q : s.testBit r = true
  · have hr : r < 14 := tb_in (n := 14) hs16 q
    rw [if_pos q, if_neg (by decide), andnot1 (by omega) (by omega), c_of (by omega), bI_some, c_of (by omega), bI_some, hP _ (sbs_trans (sbs_bdiff _ _) hs), hP s hs, q, Bool.true_and]
    by_cases e : mu (wH W) 0 (bdiff s (2 ^ r)) = mu (wH W) 0 s
    · rw [if_neg (by omega), decide_eq_true e, if_pos rfl]
    · rw [if_pos (by omega), decide_eq_false e, if_neg (by decide)]
  · rw [if_neg q, if_pos rfl, tb_not.mp q, Bool.false_and, if_neg (by decide)]
theorem c_without {s o : Nat} (hs : s < 16384) : gC 37 [iv (s : Int), iv (o : Int)] M = some (iv ((bdiff s (2 ^ o) : Nat) : Int), M) := by
  rw [e_Pairs_without, c_hasBit (by omega), bI_some, hB_nat]
  by_cases q : s.testBit o = true
  · have hr : o < 14 := tb_in (n := 14) hs q
    rw [if_pos q, if_neg (by decide), andnot1 (by omega) (by omega)]
  · rw [if_neg q, if_pos rfl]
    have : bdiff s (2 ^ o) = s := by
      apply Nat.eq_of_testBit_eq
      intro i
      rw [tb_del]
      by_cases e : o = i
      · subst e; rw [tb_not.mp q]; rfl
      · rw [decide_eq_false e]; simp
    rw [this]
theorem isPart_self (W : mM) (s r : Nat) : isPartB W s r r = false := by
  unfold isPartB isMoreB
  rw [tb_del, decide_eq_true rfl]
  simp
theorem isPart_not {s r o : Nat} (q : s.testBit r = false) : isPartB W s r o = false := by
  unfold isPartB isMoreB
  rw [tb_del, q]
  rfl
theorem c_isParted (hP : PR W M) {s r o : Nat} (hs : sbs s (told W)) : gC 36 [rv 3 10, iv (s : Int), iv (r : Int), iv (o : Int)] M = some (iv (if isPartB W s r o = true then 1 else 0), M) := by
  have hs16 := told16 hs
  rw [e_Pairs_isParted]
  by_cases e : r = o
  · rw [if_pos (by omega), e, isPart_self]
    rfl
  · rw [if_neg (by omega), c_hasBit (by omega), bI_some, hB_nat]
    by_cases q : s.testBit r = true
    · rw [if_pos q, if_neg (by decide), c_without hs16, bI_some, c_isMore hP (sbs_trans (sbs_bdiff _ _) hs), bI_some]
      show (if (if isPartB W s r o = true then (1 : Int) else 0) = 0 then _ else _) = _
      by_cases z : isPartB W s r o = true
      · rw [if_pos z, if_neg (by decide)]
      · rw [if_neg z, if_pos rfl]
    · rw [if_neg q, if_pos rfl, isPart_not (tb_not.mp q)]
      rfl
end CM
