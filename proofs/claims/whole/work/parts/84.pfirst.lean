/-! The reference's first SET; judged, mistaken. -/
theorem and_pow {x i : Nat} : x &&& 2 ^ i = 0 ↔ x.testBit i = false := by
  rw [and_zero]
  constructor
  · intro h
    rw [← Bool.not_eq_true]
    exact fun q => h i ⟨q, by rw [tb_pow]; exact decide_eq_true rfl⟩
  · rintro h j ⟨a, b⟩
    rw [tb_pow, decide_eq_true_iff] at b
    rw [← b, h] at a
    cases a
theorem pow2_inj {a b : Nat} (h : (2 ^ a : Nat) = 2 ^ b) : a = b := by
  have h1 : (2 ^ b).testBit a = true := by
    rw [← h, tb_pow]
    exact decide_eq_true rfl
  rw [tb_pow, decide_eq_true_iff] at h1
  exact h1.symm
theorem pop_one {s : Nat} (h : pop 14 s = 1) (hs : s < 16384) : ∃ i, i < 14 ∧ s = 2 ^ i := by
  have h0 : s ≠ 0 := fun q => by
    rw [q, pop_zero] at h
    cases h
  obtain ⟨i, hi⟩ : ∃ i, s.testBit i = true := Nat.exists_testBit_of_ne_zero h0
  have hi14 : i < 14 := tb_in (n := 14) hs hi
  have hd := pop_del (k := 14) hi hi14
  have hz : bdiff s (2 ^ i) = 0 := pop_pos (k := 14) (bdiff_lt hs) (by omega)
  refine ⟨i, hi14, ?_⟩
  apply sbs_anti (sbs_zero.mp hz)
  intro j hj
  rw [tb_pow, decide_eq_true_iff] at hj
  rw [← hj]
  exact hi
theorem pop_pow {i : Nat} (hi : i < 14) : pop 14 (2 ^ i) = 1 := by
  have h := pop_del (a := 2 ^ i) (r := i) (k := 14) (by rw [tb_pow]; exact decide_eq_true rfl) hi
  rw [bdiff_self, pop_zero] at h
  omega
theorem ab8 {W : mM} (h : WF W) (q : Nat → Bool) (L : List Nat) : (ab W q L).testBit 8 = !L.any q := by
  rw [ab_tb, show decide (8 < 9) = true from rfl, Bool.true_and]
  unfold abF
  induction L with
  | nil => rfl
  | cons c T ih =>
    rw [List.all_cons, List.any_cons, ih, tb_lt (n := 8) (fltOf_lt h c) (Nat.le_refl 8), Bool.or_false, Bool.not_or]
theorem ab_lo {W : mM} {q : Nat → Bool} {L : List Nat} {i : Nat} (hi : i < 9) : (ab W q L).testBit i = true ↔ ∀ t, t ∈ L → q t = true → (fltOf W t).testBit i = true := by
  rw [ab_tb, decide_eq_true hi, Bool.true_and, abF_iff]
theorem en_pow {W : mM} {q : Nat → Bool} {L : List Nat} {i : Nat} (hi : i < 9) : enB W L q (2 ^ i) = true ↔ (ab W q L).testBit i = true := by
  rw [enB_iff, ab_lo hi]
  constructor
  · intro h t ht hq
    have := h t ht hq
    cases z : (fltOf W t).testBit i with
    | true => rfl
    | false => exact absurd (and_pow.mpr z) this
  · intro h t ht hq q2
    have := and_pow.mp q2
    rw [h t ht hq] at this
    cases this
theorem en_0 {W : mM} {q : Nat → Bool} {L : List Nat} (h : L.any q = true) : enB W L q 0 = false := by
  rw [← Bool.not_eq_true]
  intro p
  obtain ⟨t, ht, hq⟩ := List.any_eq_true.mp h
  exact enB_iff.mp p t ht hq (Nat.and_zero _)
theorem le_pow {W : mM} {q : Nat → Bool} {L : List Nat} (h : L.any q = true) (g : Nat) : leB W L q (2 ^ g) = true := by
  unfold leB
  rw [allB_iff]
  intro i _
  try dsimp only
  rw [tb_pow]
  by_cases z : g = i
  · rw [← z, bdiff_self, en_0 h, Bool.and_false]
    rfl
  · rw [decide_eq_false z, Bool.false_and]
    rfl
/-- the first of the list of SETS -/
theorem stL_first {W : mM} (h : WF W) {q : Nat → Bool} (ha : (TN W).any q = true) {g : Nat} (hg : g < wF W) (h1 : (ab W q (TN W)).testBit g = true) (h2 : ∀ i, i < g → (ab W q (TN W)).testBit i = false) : ∃ R, stL W q false = (2 ^ g) :: R := by
  have hF := (wf_F h).2
  have h256 := wF256 h
  have hgp : 2 ^ g < 2 ^ wF W := Nat.pow_lt_pow_right (by omega) hg
  have st0 : ∀ s, stR W q false s = (enB W (TN W) q s && leB W (TN W) q s && true) := fun s => rfl
  have e0 : szl (stR W q false) 0 (2 ^ wF W) = [] := by
    apply List.eq_nil_iff_forall_not_mem.mpr
    intro s hs
    obtain ⟨a, b, c⟩ := szl_mem.mp hs
    have hz : s = 0 := pop_pos (k := 14) (by omega) c
    rw [hz, st0, en_0 ha] at b
    cases b
  have e1 : szl (stR W q false) 1 (2 ^ g) = [] := by
    apply List.eq_nil_iff_forall_not_mem.mpr
    intro s hs
    obtain ⟨a, b, c⟩ := szl_mem.mp hs
    obtain ⟨i, hi, rfl⟩ := pop_one c (by omega)
    have hig : i < g := (Nat.pow_lt_pow_iff_right (by omega)).mp a
    rw [st0, Bool.and_true, Bool.and_eq_true] at b
    have := (en_pow (by omega)).mp b.1
    rw [h2 i hig] at this
    cases this
  have yes : (stR W q false (2 ^ g) && decide (pop 14 (2 ^ g) = 1)) = true := by
    rw [pop_pow (by omega), st0, (en_pow (by omega)).mpr h1, le_pow ha]
    rfl
  obtain ⟨R, hR⟩ := sl4_pre (p := stR W q false) (c := 2 ^ wF W) (n := 1) (d := 2 ^ g + 1) (by omega) (by omega)
  have e2 : sl4 (stR W q false) (2 ^ wF W) 1 = [] := by
    show [] ++ szl (stR W q false) 0 (2 ^ wF W) = []
    rw [e0]
    rfl
  rw [e2, szl_succ, e1, if_pos yes] at hR
  exact ⟨R, hR⟩
noncomputable def fsV (x : Nat) : Int := if x.testBit 8 = true then 0 else ((2 ^ (foV x).toNat : Nat) : Int)
theorem rgS_bit {W : mM} {r s t : Nat} (h : rgS W r s t = true) : t.testBit r = true := by
  unfold rgS at h
  rw [Bool.and_eq_true, decide_eq_true_iff] at h
  cases z : t.testBit r with
  | true => rfl
  | false => exact absurd (wt_out z) h.1
/-- the first FAULT that is left -/
theorem left_first {W : mM} (h : WF W) {f s : Nat} (hf : f < wF W) (ha : (TN W).any (rgS W (wFr W f) s) = true) : ∃ g : Nat, g < wF W ∧ foV (leftS W (wFr W f) s) = (g : Int) ∧ (leftS W (wFr W f) s).testBit 8 = false ∧ (leftS W (wFr W f) s).testBit g = true ∧ ∀ i, i < g → (leftS W (wFr W f) s).testBit i = false := by
  have hF := (wf_F h).2
  have h8 : (leftS W (wFr W f) s).testBit 8 = false := by
    unfold leftS
    rw [ab8 h, ha]
    rfl
  have hme : (leftS W (wFr W f) s).testBit f = true := by
    unfold leftS
    rw [ab_lo (by omega)]
    intro t ht hq
    unfold fltOf
    rw [bset_tb, decide_eq_true hf, Bool.true_and]
    exact rgS_bit hq
  have e : foV (leftS W (wFr W f) s) = fstI (fun i => (leftS W (wFr W f) s).testBit i) 8 (-1) := by
    unfold foV
    rw [h8, if_neg Bool.false_ne_true]
  rcases fstI_spec (fun i => (leftS W (wFr W f) s).testBit i) 8 (-1) with ⟨k, a, b, c, d⟩ | ⟨a, d⟩
  · have hkf : k ≤ f := by
      rcases Nat.lt_or_ge f k with z | z
      · have := c f z
        try dsimp only at this
        rw [hme] at this
        cases this
      · exact z
    exact ⟨k, by omega, by rw [e, d], h8, b, c⟩
  · have := a f (by omega)
    try dsimp only at this
    rw [hme] at this
    cases this
section RF8
variable {lv : Nat} {W M : mM}
def fst136 (M M' : mM) : Prop := ∀ o, o ≠ 136 → M' o = M o
theorem r_ringStep (hr : RW lv W M) (hS : SR W M) (h : WF W) {f s i : Nat} (hf : f < wF W) (hs : s < 10000) (hi : i < (TN W).length) (b : Bool) : gA 278 5 [rv 11 100, iv (f : Int), iv (s : Int), iv (if b = true then 1 else 0), iv (i : Int), none, none] [] M = gA 278 5 [rv 11 100, iv (f : Int), iv (s : Int), iv (if (b || rgS W (wFr W f) s (gd (TN W) i)) = true then 1 else 0), iv ((i + 1 : Nat) : Int), none, none] [] (st M 136 i (if rgS W (wFr W f) s (gd (TN W) i) = true then 1 else 0)) := by
  have hL := TN_len W
  obtain ⟨s1, s2, s3⟩ := hS.2 i hi
  have hsl := TN_lt hi
  have hwa := wt_abs h (gd (TN W) i) (wFr W f)
  have hbn := bnd_le h (gd (TN W) i)
  have fin0 : ∀ M2 : mM, M2 = M → (if 0 ≤ (i : Int) ∧ (i : Int) < 4096 then
if ¬ (if b = true then (1 : Int) else 0) = 0 then
gA 278 5 [rv 11 100, iv (f : Int), iv (s : Int), iv 1, iv ((i + 1 : Nat) : Int), none, none] [] (st M2 136 i 0)
else
if 0 ≤ (i : Int) ∧ (i : Int) < 4096 then
if ((st M2 136 i 0) 136 i) = 0 then
gA 278 5 [rv 11 100, iv (f : Int), iv (s : Int), iv 0, iv ((i + 1 : Nat) : Int), none, none] [] (st M2 136 i 0)
else
gA 278 5 [rv 11 100, iv (f : Int), iv (s : Int), iv 1, iv ((i + 1 : Nat) : Int), none, none] [] (st M2 136 i 0)
else none
else none) = gA 278 5 [rv 11 100, iv (f : Int), iv (s : Int), iv (if (b || false) = true then 1 else 0), iv ((i + 1 : Nat) : Int), none, none] [] (st M 136 i (if false = true then 1 else 0)) := by
    intro M2 e
    have hr0 : 0 ≤ (i : Int) ∧ (i : Int) < 4096 := by omega
    rw [e]
    cases b with
    | false =>
      rw [if_pos hr0, if_neg (show ¬ ¬ (if false = true then (1 : Int) else 0) = 0 from fun q => q (by decide)), if_pos hr0, st_same, if_pos rfl]
      rfl
    | true =>
      rw [if_pos hr0, if_pos (show ¬ (if true = true then (1 : Int) else 0) = 0 by decide)]
      rfl
  have fin1 : ∀ M2 : mM, M2 = M → (if 0 ≤ (i : Int) ∧ (i : Int) < 4096 then
if ¬ (if b = true then (1 : Int) else 0) = 0 then
gA 278 5 [rv 11 100, iv (f : Int), iv (s : Int), iv 1, iv ((i + 1 : Nat) : Int), none, none] [] (st M2 136 i 1)
else
if 0 ≤ (i : Int) ∧ (i : Int) < 4096 then
if ((st M2 136 i 1) 136 i) = 0 then
gA 278 5 [rv 11 100, iv (f : Int), iv (s : Int), iv 0, iv ((i + 1 : Nat) : Int), none, none] [] (st M2 136 i 1)
else
gA 278 5 [rv 11 100, iv (f : Int), iv (s : Int), iv 1, iv ((i + 1 : Nat) : Int), none, none] [] (st M2 136 i 1)
else none
else none) = gA 278 5 [rv 11 100, iv (f : Int), iv (s : Int), iv (if (b || true) = true then 1 else 0), iv ((i + 1 : Nat) : Int), none, none] [] (st M 136 i (if true = true then 1 else 0)) := by
    intro M2 e
    have hr0 : 0 ≤ (i : Int) ∧ (i : Int) < 4096 := by omega
    rw [e]
    cases b with
    | false =>
      rw [if_pos hr0, if_neg (show ¬ ¬ (if false = true then (1 : Int) else 0) = 0 from fun q => q (by decide)), if_pos hr0, st_same, if_neg (show ¬ (1 : Int) = 0 by decide)]
      rfl
    | true =>
      rw [if_pos hr0, if_pos (show ¬ (if true = true then (1 : Int) else 0) = 0 by decide)]
      rfl
  rw [s_GaugeNetModel_firstSet_5, hS.1, if_neg (by omega), if_pos (by omega), pu_nn, s2, ite01_0, pu_inc (by omega)]
  by_cases z : cr W (gd (TN W) i) = true
  · rw [if_pos z, r_weightIn hr hS h hi hf, bJ_some, r_size (by omega), bJ_some]
    by_cases y : wt W (gd (TN W) i) (wFr W f) = 0
    · have e : rgS W (wFr W f) s (gd (TN W) i) = false := by
        unfold rgS
        rw [decide_eq_false (fun q => q y), Bool.false_and]
      rw [if_pos (lcmp_0.mpr (by omega)), e]
      exact fin0 M rfl
    · have hd := Nat.div_le_self (bnd W (gd (TN W) i)) (wt W (gd (TN W) i) (wFr W f)).natAbs
      rw [if_neg (fun q => y (by have := lcmp_0.mp q; omega)), r_boundOf hr hS h hi, bJ_some, if_neg (by omega), ← Int.ofNat_tdiv]
      have e0 : rgS W (wFr W f) s (gd (TN W) i) = decide (bnd W (gd (TN W) i) / (wt W (gd (TN W) i) (wFr W f)).natAbs < s) := by
        unfold rgS
        rw [decide_eq_true y, Bool.true_and]
      rw [e0]
      clear e0
      generalize bnd W (gd (TN W) i) / (wt W (gd (TN W) i) (wFr W f)).natAbs = dq at hd ⊢
      rw [pu_w64 (x := (dq : Int)) (by omega) (by omega)]
      by_cases x : dq < s
      · rw [if_neg (fun q => by have := lcmp_le.mp q; omega), decide_eq_true x]
        exact fin1 M rfl
      · rw [if_pos (lcmp_le.mpr (by omega)), decide_eq_false x]
        exact fin0 M rfl
  · have e : rgS W (wFr W f) s (gd (TN W) i) = false := by
      rw [Bool.not_eq_true] at z
      unfold rgS
      rw [wt_no hsl z, decide_eq_false (fun q => q rfl), Bool.false_and]
    rw [if_neg z, if_pos (by decide), e]
    exact fin0 M rfl
theorem r_firstSet {tl : Nat} {tp : Nat → Int} {pl : Int} (hc : RY W tl tp pl M) (h : WF W) {f s : Nat} (hf : f < wF W) (hs : s < 10000) : ∃ M', gC 278 [rv 11 100, iv (f : Int), iv (s : Int)] M = some (iv (fsV (leftS W (wFr W f) s)), M') ∧ RY W tl tp pl M' := by
  obtain ⟨lv, b1, b2, b3⟩ := id hc
  have hL := TN_len W
  rw [e_GaugeNetModel_firstSet]
  have key := pu_rel (S := mM) (G := fun i M' => gA 278 5 [rv 11 100, iv (f : Int), iv (s : Int), iv (if ((TN W).take i).any (rgS W (wFr W f) s) = true then 1 else 0), iv (i : Int), none, none] [] M') (I := fun i M' => (∀ o, o ≠ 136 → M' o = M o) ∧ ∀ k, k < i → M' 136 k = if rgS W (wFr W f) s (gd (TN W) k) = true then 1 else 0) (TN W).length (fun i M' hi hI => by
    obtain ⟨i1, i2⟩ := hI
    have hrs : Rs M M' := ⟨fun o _ h2 => i1 o (by omega), fun k _ => by rw [i1 100 (by omega)]⟩
    have hr1 : RW lv W M' := RW_k b1.1 (Rs_Rk hrs)
    have hS1 : SR W M' := SR_s b3 hrs
    try dsimp only
    rw [r_ringStep hr1 hS1 h hf hs hi, take_gd hi, List.any_append, List.any_cons, List.any_nil, Bool.or_false]
    refine ⟨_, ⟨fun o ho => by rw [st_ob ho]; exact i1 o ho, fun k hk => ?_⟩, rfl⟩
    rw [st_if]
    by_cases e : k = i
    · rw [if_pos e, e]
    · rw [if_neg e]
      exact i2 k (by omega)) 0 M (Nat.zero_le _) ⟨fun _ _ => rfl, fun k hk => absurd hk (Nat.not_lt_zero k)⟩
  obtain ⟨M1, ⟨k1, k2⟩, k3⟩ := key
  try dsimp only at k3
  rw [List.take_zero, List.any_nil, if_neg Bool.false_ne_true, List.take_length, show ((0 : Nat) : Int) = 0 from rfl] at k3
  have hrs : Rs M M1 := ⟨fun o _ h2 => k1 o (by omega), fun k _ => by rw [k1 100 (by omega)]⟩
  have hc1 := RY_s hc hrs
  have hr1 : RW lv W M1 := RW_k b1.1 (Rs_Rk hrs)
  have hS1 : SR W M1 := SR_s b3 hrs
  rw [k3, s_GaugeNetModel_firstSet_5, hS1.1, if_pos (by omega), ite01_n]
  cases ha : (TN W).any (rgS W (wFr W f) s) with
  | false =>
    have h8 : (leftS W (wFr W f) s).testBit 8 = true := by
      unfold leftS
      rw [ab8 h, ha]
      rfl
    refine ⟨M1, ?_, hc1⟩
    unfold fsV
    rw [if_neg Bool.false_ne_true, if_pos h8]
  | true =>
    obtain ⟨M2, c1, c2, c3⟩ := r_hits hr1 hS1 h (ρ := rgS W (wFr W f) s) k2 false
    rw [if_neg Bool.false_ne_true] at c1
    obtain ⟨g, g1, g2, g3, g4, g5⟩ := left_first h hf ha
    obtain ⟨R, hR⟩ := stL_first h ha g1 g4 g5
    rw [hR] at c3
    obtain ⟨l1, l2⟩ := c3
    rw [if_pos rfl, c1, bV_none, l1, if_pos (by rw [List.length_cons]; omega), l2 0 (by rw [List.length_cons]; omega), gd_0]
    refine ⟨M2, ?_, RY_s hc1 (Hf_Rs c2)⟩
    unfold fsV
    rw [g3, if_neg Bool.false_ne_true, g2, pu_nn]
end RF8
/-- what both make of it -/
theorem jd_eq {W : mM} (h : WF W) {f s : Nat} (hf : f < wF W) : (if fsV (leftS W (wFr W f) s) = 0 then (1 : Int) else if fsV (leftS W (wFr W f) s) = ((2 ^ f : Nat) : Int) then 0 else 2) = jdV (leftS W (wFr W f) s) f := by
  have hF := (wf_F h).2
  unfold jdV fsV
  cases ha : (TN W).any (rgS W (wFr W f) s) with
  | false =>
    have h8 : (leftS W (wFr W f) s).testBit 8 = true := by
      unfold leftS
      rw [ab8 h, ha]
      rfl
    have e : foV (leftS W (wFr W f) s) = -1 := by
      unfold foV
      rw [if_pos h8]
    rw [if_pos h8, if_pos rfl, e, if_neg (by omega), if_pos rfl]
  | true =>
    obtain ⟨g, g1, g2, g3, g4, g5⟩ := left_first h hf ha
    have hp : 1 ≤ 2 ^ g := Nat.one_le_two_pow
    rw [g3, if_neg Bool.false_ne_true, g2, pu_nn, if_neg (by omega)]
    by_cases z : g = f
    · rw [z, if_pos rfl, if_pos rfl]
    · have hne : ¬ (2 ^ g : Nat) = 2 ^ f := fun q => z (pow2_inj q)
      rw [if_neg (by omega), if_neg (by omega), if_neg (by omega)]
noncomputable def jdA (W : mM) (f s what : Int) : Int := if inR f (wF W) = true then (if 1 ≤ s ∧ s ≤ 200 then (if 0 ≤ what ∧ what ≤ 2 then (jdC W f.toNat what s.toNat : Int) else -1) else -1) else -1
theorem p_judged (f s what : Int) : PureI Rel 172 277 [iv f, iv s, iv what] := by
  refine pure_qI (fun W => jdA W f s what) (fun W tl tp pl M h _ hc => ?_) (fun W tl tp pl M h hr => ?_)
  · obtain ⟨w0, w20, hb0, _⟩ := id hc
    rw [e_GaugeNet_judged, hb0.2.1, pu_nn, c_isFault hb0.2.2.2.1 h, bI_some, ite01_0]
    unfold jdA
    by_cases z : inR f (wF W) = true
    · rw [if_pos z, if_pos z]
      have z2 := inR_iff.mp z
      obtain ⟨φ, rfl⟩ : ∃ φ : Nat, f = (φ : Int) := ⟨f.toNat, by omega⟩
      by_cases s1 : s < 1
      · rw [if_pos s1, if_neg (by omega)]
        exact ⟨M, rfl, hc⟩
      · rw [if_neg s1]
        by_cases s2 : 200 < s
        · rw [if_pos s2, if_neg (by omega)]
          exact ⟨M, rfl, hc⟩
        · rw [if_neg s2, if_pos (show 1 ≤ s ∧ s ≤ 200 by omega)]
          by_cases w1 : what < 0
          · rw [if_pos w1, if_neg (by omega)]
            exact ⟨M, rfl, hc⟩
          · rw [if_neg w1]
            by_cases w3 : what ≤ 2
            · obtain ⟨σ, rfl⟩ : ∃ σ : Nat, s = (σ : Int) := ⟨s.toNat, by omega⟩
              obtain ⟨M1, a1, a2⟩ := c_makeWeighed hc h
              obtain ⟨w, w2, hb, h5, hP, hT, hZ⟩ := id a2
              obtain ⟨M2, c1, c2⟩ := c_countJudged hb.2.2.2.1 h hT hZ (f := φ) (s := σ) (by omega) (by omega) what
              rw [if_pos w3, if_pos (by omega), a1, bV_none, hb.2.1, pu_nn, c1, bI_some, pu_nn, pu_nn]
              exact ⟨M2, rfl, CI_s (CZ_CI a2) (fun o ho => c2 o (by omega))⟩
            · rw [if_neg w3, if_neg (by omega)]
              exact ⟨M, rfl, hc⟩
    · rw [if_neg z, if_neg z]
      exact ⟨M, rfl, hc⟩
  · obtain ⟨lv, hb, _⟩ := id hr
    rw [e_GaugeNetModel_judged, r_isFault hb.1 h, bI_some, ite01_0]
    unfold jdA
    by_cases z : inR f (wF W) = true
    · rw [if_pos z, if_pos z, r_inRange, bI_some]
      have z2 := inR_iff.mp z
      have hF := (wf_F h).2
      obtain ⟨φ, rfl⟩ : ∃ φ : Nat, f = (φ : Int) := ⟨f.toNat, by omega⟩
      by_cases s1 : 1 ≤ s ∧ s ≤ 200
      · rw [if_pos s1, if_neg (by omega), if_pos s1, r_inRange, bI_some]
        by_cases w1 : 0 ≤ what ∧ what ≤ 2
        · obtain ⟨σ, rfl⟩ : ∃ σ : Nat, s = (σ : Int) := ⟨s.toNat, by omega⟩
          obtain ⟨M1, a1, a2⟩ := r_seeks hr h
          rw [if_pos w1, if_pos (by omega), if_pos w1, a1, bV_none, pu_nn, pu_nn]
          have key := pu_rel (S := mM) (G := fun k M' => gA 277 40 [rv 11 100, iv (φ : Int), iv (σ : Int), iv what, iv ((jdC W φ what k : Nat) : Int), iv ((k + 1 : Nat) : Int), none, none] [] M') (I := fun _ M' => RY W tl tp pl M') σ (fun k M' hk hI => by
            try dsimp only at hI ⊢
            have hjd := jdC_le W φ what k
            obtain ⟨M2, d1, d2⟩ := r_firstSet hI h (f := φ) (s := k + 1) (by omega) (by omega)
            rw [s_GaugeNetModel_judged_40, if_neg (by omega), d1, bI_some, shl32_one (by omega), pu_inc (i := k + 1) (by omega), pu_inc (i := jdC W φ what k) (by omega), show jdC W φ what (k + 1) = jdC W φ what k + (if jdV (leftS W (wFr W φ) (k + 1)) φ = what then 1 else 0) from rfl, ← jd_eq h (by omega)]
            refine ⟨M2, d2, ?_⟩
            by_cases v : fsV (leftS W (wFr W φ) (k + 1)) = 0
            · rw [if_neg (fun q => q v), if_pos v]
              by_cases y : (1 : Int) = what
              · rw [if_neg (fun q => q y), if_pos y]
              · rw [if_pos y, if_neg y]
                rfl
            · rw [if_pos v, if_neg v]
              by_cases x : fsV (leftS W (wFr W φ) (k + 1)) = ((2 ^ φ : Nat) : Int)
              · rw [if_neg (fun q => q x), if_pos x]
                by_cases y : (0 : Int) = what
                · rw [if_neg (fun q => q y), if_pos y]
                · rw [if_pos y, if_neg y]
                  rfl
              · rw [if_pos x, if_neg x]
                by_cases y : (2 : Int) = what
                · rw [if_neg (fun q => q y), if_pos y]
                · rw [if_pos y, if_neg y]
                  rfl) 0 M1 (Nat.zero_le _) a2
          obtain ⟨M2, k1, k2⟩ := key
          try dsimp only at k2
          rw [show jdC W φ what 0 = 0 from rfl, show ((0 : Nat) : Int) = 0 from rfl, show ((0 + 1 : Nat) : Int) = 1 from rfl] at k2
          rw [k2, s_GaugeNetModel_judged_40, if_pos (by omega)]
          exact ⟨M2, rfl, RY_RI k1⟩
        · rw [if_neg w1, if_neg (fun q => q rfl), if_neg w1]
          exact ⟨M, rfl, hr⟩
      · rw [if_neg s1, if_pos rfl, if_neg s1]
        exact ⟨M, rfl, hr⟩
    · rw [if_neg z, if_neg z]
      exact ⟨M, rfl, hr⟩
noncomputable def misA (W : mM) (f s : Int) : Int := if inR f (wF W) = true then (if 1 ≤ s ∧ s ≤ 9999 then (if fsV (leftS W (wFr W f.toNat) s.toNat) = ((2 ^ f.toNat : Nat) : Int) then 0 else fsV (leftS W (wFr W f.toNat) s.toNat)) else -1) else -1
theorem p_mistaken (f s : Int) : PureI Rel 173 279 [iv f, iv s] := by
  refine pure_qI (fun W => misA W f s) (fun W tl tp pl M h _ hc => ?_) (fun W tl tp pl M h hr => ?_)
  · obtain ⟨w0, w20, hb0, _⟩ := id hc
    rw [e_GaugeNet_mistaken, hb0.2.1, pu_nn, c_isFault hb0.2.2.2.1 h, bI_some, ite01_0]
    unfold misA
    by_cases z : inR f (wF W) = true
    · rw [if_pos z, if_pos z]
      have z2 := inR_iff.mp z
      have hF := (wf_F h).2
      obtain ⟨φ, rfl⟩ : ∃ φ : Nat, f = (φ : Int) := ⟨f.toNat, by omega⟩
      by_cases s1 : s < 1
      · rw [if_pos s1, if_neg (by omega)]
        exact ⟨M, rfl, hc⟩
      · rw [if_neg s1]
        by_cases s2 : s ≤ 9999
        · obtain ⟨σ, rfl⟩ : ∃ σ : Nat, s = (σ : Int) := ⟨s.toNat, by omega⟩
          obtain ⟨M1, a1, a2⟩ := c_makeWeighed hc h
          obtain ⟨w, w2, hb, h5, hP, hT, hZ⟩ := id a2
          rw [if_pos s2, if_pos (by omega), a1, bV_none, hb.2.1, pu_nn, c_firstBlamed hb.2.2.2.1 h hT hZ (by omega) (by omega), bI_some, pu_nn, pu_nn]
          refine ⟨M1, ?_, CZ_CI a2⟩
          cases ha : (TN W).any (rgS W (wFr W φ) σ) with
          | false =>
            have h8 : (leftS W (wFr W φ) σ).testBit 8 = true := by
              unfold leftS
              rw [ab8 h, ha]
              rfl
            have e : foV (leftS W (wFr W φ) σ) = -1 := by
              unfold foV
              rw [if_pos h8]
            have e2 : fsV (leftS W (wFr W φ) σ) = 0 := by
              unfold fsV
              rw [if_pos h8]
            have hp : 1 ≤ 2 ^ φ := Nat.one_le_two_pow
            rw [e, if_pos rfl, e2, if_neg (by omega)]
          | true =>
            obtain ⟨g, g1, g2, g3, g4, g5⟩ := left_first h (f := φ) (by omega) ha
            have e2 : fsV (leftS W (wFr W φ) σ) = ((2 ^ g : Nat) : Int) := by
              unfold fsV
              rw [g3, if_neg Bool.false_ne_true, g2, pu_nn]
            rw [g2, if_neg (by omega), e2]
            by_cases v : g = φ
            · rw [v, if_neg (fun q => q rfl), if_pos rfl]
            · have hne : ¬ (2 ^ g : Nat) = 2 ^ φ := fun q => v (pow2_inj q)
              rw [if_pos (by omega), if_neg (by omega), shl32_one (by omega)]
        · rw [if_neg s2, if_neg (by omega)]
          exact ⟨M, rfl, hc⟩
    · rw [if_neg z, if_neg z]
      exact ⟨M, rfl, hc⟩
  · obtain ⟨lv, hb, _⟩ := id hr
    rw [e_GaugeNetModel_mistaken, r_isFault hb.1 h, bI_some, ite01_0]
    unfold misA
    by_cases z : inR f (wF W) = true
    · rw [if_pos z, if_pos z, r_inRange, bI_some]
      have z2 := inR_iff.mp z
      have hF := (wf_F h).2
      obtain ⟨φ, rfl⟩ : ∃ φ : Nat, f = (φ : Int) := ⟨f.toNat, by omega⟩
      by_cases s1 : 1 ≤ s ∧ s ≤ 9999
      · obtain ⟨σ, rfl⟩ : ∃ σ : Nat, s = (σ : Int) := ⟨s.toNat, by omega⟩
        obtain ⟨M1, a1, a2⟩ := r_seeks hr h
        obtain ⟨M2, d1, d2⟩ := r_firstSet a2 h (f := φ) (s := σ) (by omega) (by omega)
        rw [if_pos s1, if_pos (by omega), if_pos s1, a1, bV_none, d1, bI_some, shl32_one (by omega), pu_nn, pu_nn]
        refine ⟨M2, ?_, RY_RI d2⟩
        by_cases v : fsV (leftS W (wFr W φ) σ) = ((2 ^ φ : Nat) : Int)
        · rw [if_neg (fun q => q v), if_pos v]
        · rw [if_pos v, if_neg v]
      · rw [if_neg s1, if_neg (fun q => q rfl), if_neg s1]
        exact ⟨M, rfl, hr⟩
    · rw [if_neg z, if_neg z]
      exact ⟨M, rfl, hr⟩
