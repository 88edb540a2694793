/-! The class's SETS. -/
noncomputable def kaB (W : mM) (s : Nat) : Bool := cr W s && !rgB W s
noncomputable def rgT (W : mM) (n b : Nat) : Bool := ((TL W).take n).any (fun s => decide (bdiff s (net W) = 0) && (rgB W s && decide (fltOf W s = b)))
noncomputable def quT (W : mM) : Nat → Nat
  | 0 => 0
  | n + 1 => if (decide (bdiff (gd (TL W) n) (net W) = 0) && kaB W (gd (TL W) n)) = true then quT W n ||| fltOf W (gd (TL W) n) else quT W n
theorem mem_gd {L : List Nat} {x : Nat} (h : x ∈ L) : ∃ i, i < L.length ∧ gd L i = x := by
  obtain ⟨i, hi, e⟩ := List.getElem_of_mem h
  refine ⟨i, hi, ?_⟩
  unfold gd
  rw [List.getD_eq_getElem?_getD, List.getElem?_eq_getElem hi]
  exact e
theorem rgT_succ {W : mM} {n b : Nat} (hn : n < (TL W).length) : rgT W (n + 1) b = (rgT W n b || (decide (bdiff (gd (TL W) n) (net W) = 0) && (rgB W (gd (TL W) n) && decide (fltOf W (gd (TL W) n) = b)))) := by
  unfold rgT
  rw [take_gd hn, List.any_append, List.any_cons, List.any_nil, Bool.or_false]
theorem rgT_iff {W : mM} {b : Nat} : rgT W (TL W).length b = true ↔ ∃ s, s ∈ TN W ∧ rgB W s = true ∧ fltOf W s = b := by
  unfold rgT
  rw [List.take_length, List.any_eq_true]
  constructor
  · rintro ⟨s, a, c⟩
    rw [Bool.and_eq_true, Bool.and_eq_true, decide_eq_true_iff, decide_eq_true_iff] at c
    exact ⟨s, TN_mem.mpr ⟨a, sbs_zero.mp c.1⟩, c.2.1, c.2.2⟩
  · rintro ⟨s, a, c, d⟩
    have := TN_mem.mp a
    refine ⟨s, this.1, ?_⟩
    rw [Bool.and_eq_true, Bool.and_eq_true, decide_eq_true_iff, decide_eq_true_iff]
    exact ⟨sbs_zero.mpr this.2, c, d⟩
theorem quT_lt {W : mM} (h : WF W) : ∀ n, quT W n < 256
  | 0 => by rw [quT]; omega
  | n + 1 => by
    have ih := quT_lt h n
    rw [quT]
    split
    · exact Nat.or_lt_two_pow (n := 8) ih (fltOf_lt h _)
    · exact ih
theorem quT_tb {W : mM} {f : Nat} : ∀ n, (quT W n).testBit f = true ↔ ∃ t, t < n ∧ (decide (bdiff (gd (TL W) t) (net W) = 0) && kaB W (gd (TL W) t)) = true ∧ (fltOf W (gd (TL W) t)).testBit f = true
  | 0 => by
    constructor
    · intro h
      rw [quT, Nat.zero_testBit] at h
      cases h
    · rintro ⟨t, h, _⟩
      exact absurd h (Nat.not_lt_zero t)
  | n + 1 => by
    have ih := quT_tb (W := W) (f := f) n
    rw [quT]
    by_cases z : (decide (bdiff (gd (TL W) n) (net W) = 0) && kaB W (gd (TL W) n)) = true
    · rw [if_pos z, Nat.testBit_or, Bool.or_eq_true, ih]
      constructor
      · rintro (⟨t, a, b, c⟩ | q)
        · exact ⟨t, by omega, b, c⟩
        · exact ⟨n, by omega, z, q⟩
      · rintro ⟨t, a, b, c⟩
        by_cases y : t = n
        · rw [y] at c
          exact Or.inr c
        · exact Or.inl ⟨t, by omega, b, c⟩
    · rw [if_neg z, ih]
      constructor
      · rintro ⟨t, a, b, c⟩
        exact ⟨t, by omega, b, c⟩
      · rintro ⟨t, a, b, c⟩
        have : t ≠ n := fun y => z (by rw [← y]; exact b)
        exact ⟨t, by omega, b, c⟩
theorem quT_and {W : mM} {S : Nat} : S &&& quT W (TL W).length = 0 ↔ quB W (TN W) (kaB W) S = true := by
  rw [quB_iff, and_zero]
  constructor
  · intro h s hs hk
    rw [and_zero]
    intro f q
    have hm := TN_mem.mp hs
    obtain ⟨t, t1, t2⟩ := mem_gd hm.1
    refine h f ⟨q.2, (quT_tb _).mpr ⟨t, t1, ?_, ?_⟩⟩
    · rw [t2, Bool.and_eq_true, decide_eq_true_iff]
      exact ⟨sbs_zero.mpr hm.2, hk⟩
    · rw [t2]
      exact q.1
  · intro h f q
    obtain ⟨t, t1, t2, t3⟩ := (quT_tb _).mp q.2
    rw [Bool.and_eq_true, decide_eq_true_iff] at t2
    exact and_zero.mp (h _ (TN_mem.mpr ⟨gd_mem t1, sbs_zero.mp t2.1⟩) t2.2) f ⟨t3, q.1⟩
def BH (W M : mM) : Prop := (∀ b, b < 256 → M 30 b = if rgT W (TL W).length b = true then 1 else 0) ∧ M 29 1 = (quT W (TL W).length : Int) ∧ M 29 2 = (wF W : Int)
section CB8
variable {w : Nat} {W M : mM}
theorem c_hear (hc : CW w W M) (h : WF W) (hT : TR W M) (hZ : TZ W M) : ∃ M', gC 3 [rv 0 29, rv 9 w, rv 7 13] M = some (none, M') ∧ (∀ o, o ≠ 29 → o ≠ 30 → M' o = M o) ∧ BH W M' := by
  have hL := TL_len W
  have hn := net_lt h
  have hw := hc.1
  rw [e_Blame_hear]
  have key := pu_rel (S := mM) (G := fun i M' => gA 3 2 [rv 0 29, rv 9 w, rv 7 13, iv (i : Int), none, none] [] M') (I := fun i M' => (∀ o, o ≠ 30 → M' o = M o) ∧ ∀ b, b < i → M' 30 b = 0) 256 (fun i M' hi hI => by
    obtain ⟨i1, i2⟩ := hI
    try dsimp only
    rw [s_Blame_hear_2, if_neg (by omega), if_pos (by omega), pu_nn, pu_inc (by omega)]
    refine ⟨_, ⟨fun o ho => by rw [st_ob ho]; exact i1 o ho, fun b hb => ?_⟩, rfl⟩
    rw [st_if]
    by_cases e : b = i
    · rw [if_pos e]
    · rw [if_neg e]
      exact i2 b (by omega)) 0 M (Nat.zero_le _) ⟨fun _ _ => rfl, fun b hb => absurd hb (Nat.not_lt_zero b)⟩
  obtain ⟨M1, ⟨a1, a2⟩, a3⟩ := key
  try dsimp only at a3
  rw [show ((0 : Nat) : Int) = 0 from rfl] at a3
  have e3 : (st M1 29 1 0) w 3 = (wF W : Int) := by
    rw [st_ob (by omega), a1 w (by omega), show M w 3 = M (w + 0) 3 from rfl, hc.2 0 (by omega), (wf_F h).1]
  rw [a3, s_Blame_hear_2, if_pos (by omega), e3]
  generalize hM2 : st (st M1 29 1 0) 29 2 (wF W : Int) = M2
  have b0 : ∀ o, o ≠ 29 → o ≠ 30 → M2 o = M o := fun o h1 h2 => by rw [← hM2, st_ob h1, st_ob h1]; exact a1 o h2
  have b30 : ∀ b, b < 256 → M2 30 b = 0 := fun b hb => by rw [← hM2, st_ob (by omega), st_ob (by omega)]; exact a2 b hb
  have b1 : M2 29 1 = 0 := by rw [← hM2, st_nk (by omega)]; exact st_same _ _ _ _
  have b2 : M2 29 2 = (wF W : Int) := by rw [← hM2]; exact st_same _ _ _ _
  have hc2 : CW w W M2 := CW_k hc (fun o ho => b0 o (by omega) (by omega))
  rw [c_netNow hc2 h, bI_some]
  have key := pu_rel (S := mM) (G := fun i M' => gA 3 43 [rv 0 29, rv 9 w, rv 7 13, iv (net W : Int), iv (i : Int), none] [] M') (I := fun i M' => (∀ o, o ≠ 29 → o ≠ 30 → M' o = M o) ∧ (∀ b, b < 256 → M' 30 b = if rgT W i b = true then 1 else 0) ∧ M' 29 1 = (quT W i : Int) ∧ M' 29 2 = (wF W : Int)) (TL W).length (fun i M' hi hI => by
    obtain ⟨i1, i2, i3, i4⟩ := hI
    have hs := TL_lt hi
    have hT1 : TR W M' := TR_s hT (fun o h1 h2 => i1 o (by omega) (by omega))
    have hc1 : CW w W M' := CW_k hc (fun o ho => i1 o (by omega) (by omega))
    have hq := quT_lt h i
    have hf := fltOf_lt h (gd (TL W) i)
    try dsimp only
    rw [s_Blame_hear_43, hT1.1, if_neg (by omega), c_isIn hT1 hi (by omega), bI_some, ite01_0, pu_inc (by omega)]
    by_cases z : decide (bdiff (gd (TL W) i) (net W) = 0) = true
    · have hz : M' 15 i ≠ 0 := by
        rw [i1 15 (by omega) (by omega)]
        exact hZ i hi (by rw [decide_eq_true_iff] at z; exact z)
      rw [if_pos z, c_canRun hT1 hi hz, bI_some, ite01_0]
      by_cases y : cr W (gd (TL W) i) = true
      · rw [if_pos y, c_rowsOf hT1 i hi, bI_some, c_faultsOf hc1 h (by omega), bI_some, c_isRinging hc1 h hT1 hi hz, bI_some, ite01_0, show (255 : Int) = ((255 : Nat) : Int) from rfl, and32_nat (by omega) (by omega), show fltOf W (gd (TL W) i) &&& 255 = fltOf W (gd (TL W) i) from by
          rw [show 255 = 2 ^ 8 - 1 from rfl, Nat.and_two_pow_sub_one_eq_mod]
          exact Nat.mod_eq_of_lt hf]
        by_cases x : rng W (gd (TL W) i) = true
        · have hrg : rgB W (gd (TL W) i) = true := by unfold rgB; rw [y, x]; rfl
          have hka : kaB W (gd (TL W) i) = false := by unfold kaB; rw [hrg, Bool.not_true, Bool.and_false]
          rw [if_pos x, if_pos (by omega), pu_nn]
          refine ⟨_, ⟨fun o h1 h2 => by rw [st_ob h2]; exact i1 o h1 h2, fun b hb => ?_, ?_, ?_⟩, rfl⟩
          · rw [st_if, rgT_succ hi, z, hrg, Bool.true_and, Bool.true_and]
            by_cases e : b = fltOf W (gd (TL W) i)
            · rw [if_pos e, decide_eq_true e.symm, Bool.or_true, if_pos rfl]
            · rw [if_neg e, decide_eq_false (fun q => e q.symm), Bool.or_false]
              exact i2 b hb
          · rw [st_ob (by omega), quT, hka, Bool.and_false, if_neg Bool.false_ne_true]
            exact i3
          · rw [st_ob (by omega)]
            exact i4
        · have hrg : rgB W (gd (TL W) i) = false := by unfold rgB; rw [Bool.not_eq_true] at x; rw [x, Bool.and_false]
          have hka : kaB W (gd (TL W) i) = true := by unfold kaB; rw [hrg, y]; rfl
          rw [if_neg x, i3, or32_nat (by omega) (by omega)]
          refine ⟨_, ⟨fun o h1 h2 => by rw [st_ob h1]; exact i1 o h1 h2, fun b hb => ?_, ?_, ?_⟩, rfl⟩
          · rw [st_ob (by omega), rgT_succ hi, hrg, Bool.false_and, Bool.and_false, Bool.or_false]
            exact i2 b hb
          · rw [quT, z, hka, Bool.and_true, if_pos rfl]
            exact st_same _ _ _ _
          · rw [st_nk (by omega)]
            exact i4
      · rw [if_neg y]
        rw [Bool.not_eq_true] at y
        have hrg : rgB W (gd (TL W) i) = false := by unfold rgB; rw [y, Bool.false_and]
        have hka : kaB W (gd (TL W) i) = false := by unfold kaB; rw [y, Bool.false_and]
        refine ⟨_, ⟨i1, fun b hb => ?_, ?_, i4⟩, rfl⟩
        · rw [rgT_succ hi, hrg, Bool.false_and, Bool.and_false, Bool.or_false]
          exact i2 b hb
        · rw [quT, hka, Bool.and_false, if_neg Bool.false_ne_true]
          exact i3
    · rw [if_neg z]
      rw [Bool.not_eq_true] at z
      refine ⟨_, ⟨i1, fun b hb => ?_, ?_, i4⟩, rfl⟩
      · rw [rgT_succ hi, z, Bool.false_and, Bool.or_false]
        exact i2 b hb
      · rw [quT, z, Bool.false_and, if_neg Bool.false_ne_true]
        exact i3) 0 M2 (Nat.zero_le _) ⟨b0, fun b hb => by rw [b30 b hb]; rfl, b1, b2⟩
  obtain ⟨M3, ⟨k1, k2, k3, k4⟩, k5⟩ := key
  try dsimp only at k5
  rw [show ((0 : Nat) : Int) = 0 from rfl] at k5
  have hT3 : TR W M3 := TR_s hT (fun o h1 h2 => k1 o (by omega) (by omega))
  rw [k5, s_Blame_hear_43, hT3.1, if_pos (by omega)]
  exact ⟨M3, rfl, k1, k2, k3, k4⟩
theorem c_isEnough (hB : BH W M) (h : WF W) {S : Nat} (hS : S < 256) : gC 7 [rv 0 29, iv (S : Int)] M = some (iv (if enB W (TN W) (rgB W) S = true then 1 else 0), M) := by
  rw [e_Blame_isEnough]
  have one : ∀ b : Nat, b < 256 → gA 7 2 [rv 0 29, iv (S : Int), iv (b : Int)] [] M = if (rgT W (TL W).length b && decide (b &&& S = 0)) = true then some (iv 0, M) else gA 7 2 [rv 0 29, iv (S : Int), iv ((b + 1 : Nat) : Int)] [] M := by
    intro b hb
    rw [s_Blame_isEnough_2, if_neg (by omega), if_pos (by omega), pu_nn, hB.1 b hb, ite01_0, pu_inc (by omega), and32_nat (by omega) (by omega)]
    cases z : rgT W (TL W).length b with
    | false => rw [if_neg Bool.false_ne_true, Bool.false_and, if_neg Bool.false_ne_true]
    | true =>
      rw [if_pos rfl, Bool.true_and]
      by_cases y : b &&& S = 0
      · rw [if_neg (fun q => q (by omega)), if_pos (decide_eq_true y)]
      · rw [if_pos (by omega), if_neg (by rw [decide_eq_true_iff]; exact y)]
  rcases pu_first (fun b => rgT W (TL W).length b && decide (b &&& S = 0)) 256 with hno | ⟨t, t1, t2, t3⟩
  · have key := pu_up (fun i : Nat => gA 7 2 [rv 0 29, iv (S : Int), iv (i : Int)] [] M) 256 (fun i hi => by
      try dsimp only
      rw [one i hi, if_neg (by rw [hno i hi]; exact Bool.false_ne_true)])
    try dsimp only at key
    rw [show ((0 : Nat) : Int) = 0 from rfl] at key
    have e : enB W (TN W) (rgB W) S = true := by
      rw [enB_iff]
      intro s hs hr q
      have h1 := hno (fltOf W s) (fltOf_lt h s)
      rw [rgT_iff.mpr ⟨s, hs, hr, rfl⟩, Bool.true_and, decide_eq_false_iff_not] at h1
      exact h1 q
    rw [key, s_Blame_isEnough_2, if_pos (by omega), if_pos e]
  · have key := pu_up (fun i : Nat => gA 7 2 [rv 0 29, iv (S : Int), iv (i : Int)] [] M) t (fun i hi => by
      try dsimp only
      rw [one i (by omega), if_neg (by rw [t3 i hi]; exact Bool.false_ne_true)])
    try dsimp only at key
    rw [show ((0 : Nat) : Int) = 0 from rfl] at key
    have e : ¬ enB W (TN W) (rgB W) S = true := by
      intro q
      rw [Bool.and_eq_true, decide_eq_true_iff] at t2
      obtain ⟨s, s1, s2, s3⟩ := rgT_iff.mp t2.1
      refine enB_iff.mp q s s1 s2 ?_
      rw [s3]
      exact t2.2
    rw [key, one t t1, if_pos t2, if_neg e]
theorem c_leastOf (hB : BH W M) (h : WF W) {S : Nat} (hS : S < 256) : gA 6 25 [rv 0 29, iv (S : Int), none, iv 0] [] M = some (iv (if leB W (TN W) (rgB W) S = true then 1 else 0), M) := by
  have one : ∀ f : Nat, f < 8 → gA 6 25 [rv 0 29, iv (S : Int), none, iv (f : Int)] [] M = if (S.testBit f && enB W (TN W) (rgB W) (bdiff S (2 ^ f))) = true then some (iv 0, M) else gA 6 25 [rv 0 29, iv (S : Int), none, iv ((f + 1 : Nat) : Int)] [] M := by
    intro f hf
    have hbd := bdiff_le S (2 ^ f)
    rw [s_Blame_isSet_25, if_neg (by omega), c_hasBit (by omega), bI_some, ite01_0, hB_nat, pu_inc (by omega)]
    cases z : S.testBit f with
    | false => rw [if_neg Bool.false_ne_true, Bool.false_and, if_neg Bool.false_ne_true]
    | true =>
      rw [if_pos rfl, andnot1 (by omega) (by omega), c_isEnough hB h (by omega), bI_some, ite01_0, Bool.true_and]
  rcases pu_first (fun f => S.testBit f && enB W (TN W) (rgB W) (bdiff S (2 ^ f))) 8 with hno | ⟨t, t1, t2, t3⟩
  · have key := pu_up (fun i : Nat => gA 6 25 [rv 0 29, iv (S : Int), none, iv (i : Int)] [] M) 8 (fun i hi => by
      try dsimp only
      rw [one i hi, if_neg (by rw [hno i hi]; exact Bool.false_ne_true)])
    try dsimp only at key
    rw [show ((0 : Nat) : Int) = 0 from rfl] at key
    have e : leB W (TN W) (rgB W) S = true := by
      unfold leB
      rw [allB_iff]
      intro i hi
      have := hno i hi
      try dsimp only
      rw [this]
      rfl
    rw [key, s_Blame_isSet_25, if_pos (by omega), if_pos e]
  · have key := pu_up (fun i : Nat => gA 6 25 [rv 0 29, iv (S : Int), none, iv (i : Int)] [] M) t (fun i hi => by
      try dsimp only
      rw [one i (by omega), if_neg (by rw [t3 i hi]; exact Bool.false_ne_true)])
    try dsimp only at key
    rw [show ((0 : Nat) : Int) = 0 from rfl] at key
    have e : ¬ leB W (TN W) (rgB W) S = true := by
      intro q
      unfold leB at q
      rw [allB_iff] at q
      have := q t t1
      try dsimp only at this
      rw [t2] at this
      cases this
    rw [key, one t t1, if_pos t2, if_neg e]
theorem c_isSet (hB : BH W M) (h : WF W) (strict : Bool) {S : Nat} (hS : S < 256) : gC 6 [rv 0 29, iv (S : Int), iv (if strict = true then 1 else 0)] M = some (iv (if stR W (rgB W) strict S = true then 1 else 0), M) := by
  have hq := quT_lt h (TL W).length
  have fin : ∀ b : Bool, stR W (rgB W) strict S = (enB W (TN W) (rgB W) S && leB W (TN W) (rgB W) S && b) → b = true → (bI (gC 7 [rv 0 29, iv (S : Int)] M) fun c2 M2 =>
if ¬ c2 = 0 then
gA 6 25 [rv 0 29, iv (S : Int), none, iv 0] [] M2
else
some (iv 0, M2)) = some (iv (if stR W (rgB W) strict S = true then 1 else 0), M) := by
    intro b e1 e2
    rw [c_isEnough hB h hS, bI_some, ite01_n, e1, e2, Bool.and_true]
    by_cases z : enB W (TN W) (rgB W) S = true
    · rw [if_pos z, c_leastOf hB h hS, z, Bool.true_and]
    · rw [if_neg z]
      rw [Bool.not_eq_true] at z
      rw [z, Bool.false_and, if_neg Bool.false_ne_true]
  rw [e_Blame_isSet]
  cases strict with
  | false =>
    rw [if_neg (show ¬ (false = true) from Bool.false_ne_true), if_pos rfl]
    exact fin true rfl rfl
  | true =>
    rw [if_pos (show true = true from rfl), if_neg (by omega), hB.2.1, and32_nat (by omega) (by omega)]
    by_cases z : S &&& quT W (TL W).length = 0
    · rw [if_neg (fun q => q (by omega))]
      refine fin (quB W (TN W) (kaB W) S) ?_ (quT_and.mp z)
      show (enB W (TN W) (rgB W) S && leB W (TN W) (rgB W) S && (!true || quB W (TN W) (kaB W) S)) = _
      rw [Bool.not_true, Bool.false_or]
    · rw [if_pos (by omega)]
      have e : stR W (rgB W) true S = false := by
        have : quB W (TN W) (kaB W) S = false := by
          rw [← Bool.not_eq_true]
          exact fun q => z (quT_and.mpr q)
        show (enB W (TN W) (rgB W) S && leB W (TN W) (rgB W) S && (!true || quB W (TN W) (kaB W) S)) = false
        rw [this, Bool.not_true, Bool.or_false, Bool.and_false]
      rw [e, if_neg Bool.false_ne_true]
end CB8
