/-! judged, mistaken: the first SET. -/
def rgS (W : mM) (r s t : Nat) : Bool := decide (wt W t r ≠ 0) && decide (bnd W t / (wt W t r).natAbs < s)
def rgK (W : mM) (r k t : Nat) : Bool := decide (wt W t r ≠ 0) && decide (bnd W t / (wt W t r).natAbs + 1 = k)
def abF (W : mM) (q : Nat → Bool) (L : List Nat) (f : Nat) : Bool := L.all (fun t => !q t || (fltOf W t).testBit f)
def ab (W : mM) (q : Nat → Bool) (L : List Nat) : Nat := bset (abF W q L) 9
theorem ab_lt (W : mM) (q : Nat → Bool) (L : List Nat) : ab W q L < 512 := bset_lt _ 9
theorem ab_tb (W : mM) (q : Nat → Bool) (L : List Nat) (f : Nat) : (ab W q L).testBit f = (decide (f < 9) && abF W q L f) := bset_tb _ _ _
theorem abF_iff {W : mM} {q : Nat → Bool} {L : List Nat} {f : Nat} : abF W q L f = true ↔ ∀ t, t ∈ L → q t = true → (fltOf W t).testBit f = true := by
  unfold abF
  rw [List.all_eq_true]
  constructor
  · intro h t ht hq
    have := h t ht
    rw [hq, Bool.not_true, Bool.false_or] at this
    exact this
  · intro h t ht
    cases z : q t with
    | false => rfl
    | true =>
      rw [Bool.not_true, Bool.false_or]
      exact h t ht z
theorem ab_nil (W : mM) (q : Nat → Bool) : ab W q [] = 511 := by
  apply Nat.eq_of_testBit_eq
  intro f
  have e : abF W q [] f = true := abF_iff.mpr (fun t ht => by cases ht)
  rw [ab_tb, e, Bool.and_true, show 511 = 2 ^ 9 - 1 from rfl, Nat.testBit_two_pow_sub_one]
theorem abF_snoc (W : mM) (q : Nat → Bool) (L : List Nat) (c f : Nat) : abF W q (L ++ [c]) f = (abF W q L f && (!q c || (fltOf W c).testBit f)) := by
  unfold abF
  rw [List.all_append, List.all_cons, List.all_nil, Bool.and_true]
theorem ab_yes {W : mM} {q : Nat → Bool} {L : List Nat} {c : Nat} (h : q c = true) : ab W q (L ++ [c]) = ab W q L &&& fltOf W c := by
  apply Nat.eq_of_testBit_eq
  intro f
  rw [Nat.testBit_and, ab_tb, ab_tb, abF_snoc, h, Bool.not_true, Bool.false_or, Bool.and_assoc]
theorem ab_no {W : mM} {q : Nat → Bool} {L : List Nat} {c : Nat} (h : q c = false) : ab W q (L ++ [c]) = ab W q L := by
  apply Nat.eq_of_testBit_eq
  intro f
  rw [ab_tb, ab_tb, abF_snoc, h, Bool.not_false, Bool.true_or, Bool.and_true]
noncomputable def inq (W : mM) (q : Nat → Bool) (t : Nat) : Bool := decide (bdiff t (net W) = 0) && q t
theorem ab_net (W : mM) (q : Nat → Bool) : ab W (inq W q) (TL W) = ab W q (TN W) := by
  apply Nat.eq_of_testBit_eq
  intro f
  have e : abF W (inq W q) (TL W) f = abF W q (TN W) f := by
    rw [Bool.eq_iff_iff, abF_iff, abF_iff]
    constructor
    · intro h t ht hq
      have hm := TN_mem.mp ht
      refine h t hm.1 ?_
      unfold inq
      rw [Bool.and_eq_true, decide_eq_true_iff]
      exact ⟨sbs_zero.mpr hm.2, hq⟩
    · intro h t ht hq
      unfold inq at hq
      rw [Bool.and_eq_true, decide_eq_true_iff] at hq
      exact h t (TN_mem.mpr ⟨ht, sbs_zero.mp hq.1⟩) hq.2
  rw [ab_tb, ab_tb, e]
theorem ab_join (W : mM) (r s : Nat) : ab W (inq W (rgS W r s)) (TL W) &&& ab W (inq W (rgK W r (s + 1))) (TL W) = ab W (inq W (rgS W r (s + 1))) (TL W) := by
  apply Nat.eq_of_testBit_eq
  intro f
  rw [Nat.testBit_and, ab_tb, ab_tb, ab_tb]
  cases decide (f < 9) with
  | false => simp only [Bool.false_and]
  | true =>
    rw [Bool.true_and, Bool.true_and, Bool.true_and, Bool.eq_iff_iff, Bool.and_eq_true, abF_iff, abF_iff, abF_iff]
    unfold inq rgS rgK
    constructor
    · rintro ⟨a, b⟩ t ht hq
      rw [Bool.and_eq_true, Bool.and_eq_true, decide_eq_true_iff, decide_eq_true_iff, decide_eq_true_iff] at hq
      obtain ⟨h1, h2, h3⟩ := hq
      by_cases z : bnd W t / (wt W t r).natAbs < s
      · refine a t ht ?_
        rw [Bool.and_eq_true, Bool.and_eq_true, decide_eq_true_iff, decide_eq_true_iff, decide_eq_true_iff]
        exact ⟨h1, h2, z⟩
      · refine b t ht ?_
        rw [Bool.and_eq_true, Bool.and_eq_true, decide_eq_true_iff, decide_eq_true_iff, decide_eq_true_iff]
        exact ⟨h1, h2, by omega⟩
    · intro a
      constructor
      · intro t ht hq
        rw [Bool.and_eq_true, Bool.and_eq_true, decide_eq_true_iff, decide_eq_true_iff, decide_eq_true_iff] at hq
        obtain ⟨h1, h2, h3⟩ := hq
        refine a t ht ?_
        rw [Bool.and_eq_true, Bool.and_eq_true, decide_eq_true_iff, decide_eq_true_iff, decide_eq_true_iff]
        exact ⟨h1, h2, by omega⟩
      · intro t ht hq
        rw [Bool.and_eq_true, Bool.and_eq_true, decide_eq_true_iff, decide_eq_true_iff, decide_eq_true_iff] at hq
        obtain ⟨h1, h2, h3⟩ := hq
        refine a t ht ?_
        rw [Bool.and_eq_true, Bool.and_eq_true, decide_eq_true_iff, decide_eq_true_iff, decide_eq_true_iff]
        exact ⟨h1, h2, by omega⟩
theorem ab_S0 (W : mM) (r : Nat) : ab W (inq W (rgS W r 0)) (TL W) = 511 := by
  apply Nat.eq_of_testBit_eq
  intro f
  have e : abF W (inq W (rgS W r 0)) (TL W) f = true := by
    rw [abF_iff]
    intro t _ hq
    unfold inq rgS at hq
    rw [Bool.and_eq_true, Bool.and_eq_true, decide_eq_true_iff, decide_eq_true_iff, decide_eq_true_iff] at hq
    exact absurd hq.2.2 (Nat.not_lt_zero _)
  rw [ab_tb, e, Bool.and_true, show 511 = 2 ^ 9 - 1 from rfl, Nat.testBit_two_pow_sub_one]
noncomputable def foV (x : Nat) : Int := if x.testBit 8 = true then -1 else fstI (fun f => x.testBit f) 8 (-1)
theorem fstI_spec (p : Nat → Bool) (n : Nat) (d : Int) : isFst p n d (fstI p n d) := Classical.choose_spec (isFst_ex p n d)
theorem and256 {x : Nat} (hx : x < 512) : x &&& 256 = 0 ↔ x.testBit 8 = false := by
  rw [and_zero]
  constructor
  · intro h
    rw [← Bool.not_eq_true]
    exact fun q => h 8 ⟨q, by decide⟩
  · rintro h i ⟨a, b⟩
    rw [show 256 = 2 ^ 8 from rfl, tb_pow, decide_eq_true_iff] at b
    rw [← b, h] at a
    cases a
theorem c_firstOf {x : Nat} (hx : x < 512) (M : mM) : gC 14 [iv (x : Int)] M = some (iv (foV x), M) := by
  rw [e_Blame_firstOf]
  have h2 := and256 hx
  have ea : and32 (x : Int) 256 = ((x &&& 256 : Nat) : Int) := and32_nat (b := 256) (by omega) (by omega)
  unfold foV
  by_cases z : x.testBit 8 = true
  · rw [if_pos z, s_Blame_firstOf_2, if_neg (by omega), ea, if_pos (fun q => by
      have := h2.mp (by omega)
      rw [z] at this
      cases this)]
  · rw [if_neg z]
    rw [Bool.not_eq_true] at z
    have e0 := h2.mpr z
    have one : ∀ f : Nat, f < 8 → gA 14 2 [iv (x : Int), iv (f : Int)] [] M = if x.testBit f = true then some (iv (f : Int), M) else gA 14 2 [iv (x : Int), iv ((f + 1 : Nat) : Int)] [] M := by
      intro f hf
      rw [s_Blame_firstOf_2, if_neg (by omega), ea, if_neg (by omega), c_hasBit (by omega), bI_some, ite01_0, hB_nat, pu_inc (by omega)]
    rcases fstI_spec (fun f => x.testBit f) 8 (-1) with ⟨k, a, b, c, d⟩ | ⟨a, d⟩
    · have key := pu_up (fun i : Nat => gA 14 2 [iv (x : Int), iv (i : Int)] [] M) k (fun i hi => by
        try dsimp only
        rw [one i (by omega), if_neg (by rw [show x.testBit i = false from c i hi]; exact Bool.false_ne_true)])
      try dsimp only at key
      rw [show ((0 : Nat) : Int) = 0 from rfl] at key
      rw [key, one k a, if_pos b, d]
    · have key := pu_up (fun i : Nat => gA 14 2 [iv (x : Int), iv (i : Int)] [] M) 8 (fun i hi => by
        try dsimp only
        rw [one i (by omega), if_neg (by rw [show x.testBit i = false from a i hi]; exact Bool.false_ne_true)])
      try dsimp only at key
      rw [show ((0 : Nat) : Int) = 0 from rfl] at key
      rw [key, s_Blame_firstOf_2, if_pos (by omega), d]
theorem lcmp_gt {x y : Int} : 0 < lcmp x y ↔ y < x := by
  have h1 := @lcmp_le x y
  generalize lcmp x y = c at *
  constructor
  · intro q
    have : ¬ (x ≤ y) := fun p => by
      have := h1.mpr p
      omega
    omega
  · intro q
    have : ¬ (c ≤ 0) := fun p => by
      have := h1.mp p
      omega
    omega
section CF8
variable {w : Nat} {W M : mM}
noncomputable def rfV (W : mM) (r t : Nat) : Nat := if bdiff t (net W) = 0 then (if wt W t r ≠ 0 then bnd W t / (wt W t r).natAbs + 1 else 0) else 0
theorem rfV_le {W : mM} (h : WF W) (r t : Nat) : rfV W r t ≤ 433018126801 := by
  have := bnd_le h t
  have h2 := Nat.div_le_self (bnd W t) (wt W t r).natAbs
  unfold rfV
  split
  · split <;> omega
  · omega
theorem c_ringsFrom (hc : CW w W M) (h : WF W) (hT : TR W M) (hZ : TZ W M) {r i : Nat} (hr : r < 14) (hi : i < (TL W).length) : gC 13 [rv 9 w, rv 7 13, iv (i : Int), iv (net W : Int), iv (r : Int)] M = some (jv (rfV W r (gd (TL W) i) : Int), M) := by
  have hn := net_lt h
  have hL := TL_len W
  rw [e_Blame_ringsFrom, c_isIn hT hi (by omega), bI_some, ite01_0]
  unfold rfV
  by_cases z : decide (bdiff (gd (TL W) i) (net W) = 0) = true
  · have hz : M 15 i ≠ 0 := hZ i hi (by rw [decide_eq_true_iff] at z; exact z)
    have ha := wt_abs h (gd (TL W) i) r
    have hb := bnd_le h (gd (TL W) i)
    rw [if_pos z, if_pos (by rw [decide_eq_true_iff] at z; exact z), c_weightOf hT hi hz hr, bJ_some, abs64_nat (by omega)]
    by_cases y : wt W (gd (TL W) i) r = 0
    · rw [if_neg (fun q => q (lcmp_0.mpr (by omega))), if_neg (fun q => q y)]
      rfl
    · have hd := Nat.div_le_self (bnd W (gd (TL W) i)) (wt W (gd (TL W) i) r).natAbs
      rw [if_pos (fun q => y (by have := lcmp_0.mp q; omega)), c_boundOf hc h hT hi hz, bJ_some, if_neg (by omega), if_pos y, ← Int.ofNat_tdiv]
      generalize bnd W (gd (TL W) i) / (wt W (gd (TL W) i) r).natAbs = dq at hd ⊢
      rw [pu_w64 (x := (dq : Int)) (by omega) (by omega), pu_w64 (by omega) (by omega)]
      rfl
  · rw [if_neg z, if_neg (fun q => q (by decide)), if_neg (by rw [decide_eq_true_iff] at z; exact z)]
    rfl
theorem rfV_S {W : mM} {r s t : Nat} : (0 < rfV W r t ∧ rfV W r t ≤ s) ↔ inq W (rgS W r s) t = true := by
  unfold rfV inq rgS
  rw [Bool.and_eq_true, Bool.and_eq_true, decide_eq_true_iff, decide_eq_true_iff, decide_eq_true_iff]
  generalize bnd W t / (wt W t r).natAbs = dq
  by_cases z : bdiff t (net W) = 0
  · rw [if_pos z]
    by_cases y : wt W t r ≠ 0
    · rw [if_pos y]
      constructor
      · intro q
        exact ⟨z, y, by omega⟩
      · intro q
        omega
    · rw [if_neg y]
      constructor
      · intro q
        omega
      · intro q
        exact absurd q.2.1 y
  · rw [if_neg z]
    constructor
    · intro q
      omega
    · intro q
      exact absurd q.1 z
theorem rfV_K {W : mM} {r k t : Nat} : (0 < rfV W r t ∧ rfV W r t = k) ↔ inq W (rgK W r k) t = true := by
  unfold rfV inq rgK
  rw [Bool.and_eq_true, Bool.and_eq_true, decide_eq_true_iff, decide_eq_true_iff, decide_eq_true_iff]
  generalize bnd W t / (wt W t r).natAbs = dq
  by_cases z : bdiff t (net W) = 0
  · rw [if_pos z]
    by_cases y : wt W t r ≠ 0
    · rw [if_pos y]
      constructor
      · intro q
        exact ⟨z, y, q.2⟩
      · intro q
        exact ⟨by omega, q.2.2⟩
    · rw [if_neg y]
      constructor
      · intro q
        omega
      · intro q
        exact absurd q.2.1 y
  · rw [if_neg z]
    constructor
    · intro q
      omega
    · intro q
      exact absurd q.1 z
noncomputable def leftS (W : mM) (r s : Nat) : Nat := ab W (rgS W r s) (TN W)
theorem c_firstBlamed (hc : CW w W M) (h : WF W) (hT : TR W M) (hZ : TZ W M) {f s : Nat} (hf : f < wF W) (hs : s < 10000) : gC 15 [rv 0 29, rv 9 w, rv 7 13, iv (f : Int), iv (s : Int)] M = some (iv (foV (leftS W (wFr W f) s)), M) := by
  have hL := TL_len W
  have hfr := (wf_frt h f hf).1
  rw [e_Blame_firstBlamed, c_netNow hc h, bI_some, c_rowOf hc h, bI_some, inR_nat, decide_eq_true hf, if_pos rfl, pu_nn]
  generalize wFr W f = r at hfr ⊢
  have key := pu_up (fun i : Nat => gA 15 21 [none, rv 9 w, rv 7 13, none, iv (s : Int), iv (net W : Int), iv (r : Int), iv ((ab W (inq W (rgS W r s)) ((TL W).take i) : Nat) : Int), iv (i : Int), none, none] [] M) (TL W).length (fun i hi => by
    have hsl := TL_lt hi
    have hab := ab_lt W (inq W (rgS W r s)) ((TL W).take i)
    have hfl := fltOf_lt h (gd (TL W) i)
    have hS := rfV_S (W := W) (r := r) (s := s) (t := gd (TL W) i)
    try dsimp only
    rw [s_Blame_firstBlamed_21, hT.1, if_neg (by omega), c_ringsFrom hc h hT hZ hfr hi, bJ_some, take_gd hi, pu_inc (by omega)]
    generalize rfV W r (gd (TL W) i) = v at hS ⊢
    by_cases a : v = 0
    · rw [if_pos (lcmp_le.mpr (by omega)), ab_no (by rw [← Bool.not_eq_true]; exact fun q => by have := hS.mpr q; omega)]
    · rw [if_neg (fun q => by have := lcmp_le.mp q; omega)]
      by_cases b : v ≤ s
      · rw [if_neg (fun q => by have := lcmp_gt.mp q; omega), c_rowsOf hT i hi, bI_some, c_faultsOf hc h (by omega), bI_some, and32_nat (by omega) (by omega), ab_yes (hS.mp ⟨by omega, b⟩)]
      · rw [if_pos (lcmp_gt.mpr (by omega)), ab_no (by rw [← Bool.not_eq_true]; exact fun q => by have := hS.mpr q; omega)])
  try dsimp only at key
  rw [List.take_zero, ab_nil, List.take_length, ab_net, show ((0 : Nat) : Int) = 0 from rfl, show ((511 : Nat) : Int) = 511 from rfl] at key
  rw [key, s_Blame_firstBlamed_21, hT.1, if_pos (by omega)]
  have := ab_lt W (rgS W r s) (TN W)
  rw [c_firstOf this, bI_some]
  rfl
theorem c_fill201 (M : mM) : ∃ M', gC 1 [rv 904 31, iv 511] M = some (none, M') ∧ (∀ o, o ≠ 31 → M' o = M o) ∧ ∀ i, i < 201 → M' 31 i = 511 := by
  rw [e_Arrays_fill_IIV_201]
  have key := pu_rel (S := mM) (G := fun i M' => gA 1 5 [rv 904 31, iv 511, iv (i : Int), iv 201] [] M') (I := fun i M' => (∀ o, o ≠ 31 → M' o = M o) ∧ ∀ j, j < i → M' 31 j = 511) 201 (fun i M' hi hI => by
    obtain ⟨i1, i2⟩ := hI
    try dsimp only
    rw [s_Arrays_fill_IIV_201_5, if_neg (by omega), if_pos (by omega), pu_nn, pu_inc (by omega)]
    refine ⟨_, ⟨fun o ho => by rw [st_ob ho]; exact i1 o ho, fun j hj => ?_⟩, rfl⟩
    rw [st_if]
    by_cases e : j = i
    · rw [if_pos e]
    · rw [if_neg e]
      exact i2 j (by omega)) 0 M (Nat.zero_le _) ⟨fun _ _ => rfl, fun j hj => absurd hj (Nat.not_lt_zero j)⟩
  obtain ⟨M', ⟨k1, k2⟩, k3⟩ := key
  try dsimp only at k3
  rw [show ((0 : Nat) : Int) = 0 from rfl] at k3
  rw [k3, s_Arrays_fill_IIV_201_5, if_pos (by omega)]
  exact ⟨M', rfl, k1, k2⟩
theorem c_gatherCommon (hc : CW w W M) (h : WF W) (hT : TR W M) (hZ : TZ W M) {f : Nat} (hf : f < wF W) : ∃ M', gC 12 [rv 0 29, rv 9 w, rv 7 13, iv (f : Int)] M = some (none, M') ∧ (∀ o, o ≠ 31 → M' o = M o) ∧ ∀ k, k < 201 → M' 31 k = (ab W (inq W (rgK W (wFr W f) k)) (TL W) : Int) := by
  have hL := TL_len W
  have hfr := (wf_frt h f hf).1
  obtain ⟨M1, a1, a2, a3⟩ := c_fill201 M
  have hc1 : CW w W M1 := CW_k hc (fun o ho => a2 o (by have := hc.1; omega))
  rw [e_Blame_gatherCommon, a1, bV_none, c_netNow hc1 h, bI_some, c_rowOf hc1 h, bI_some, inR_nat, decide_eq_true hf, if_pos rfl, pu_nn]
  generalize wFr W f = r at hfr ⊢
  have key := pu_rel (S := mM) (G := fun i M' => gA 12 26 [rv 0 29, rv 9 w, rv 7 13, none, iv (net W : Int), iv (r : Int), iv (i : Int), none, none] [] M') (I := fun i M' => (∀ o, o ≠ 31 → M' o = M o) ∧ ∀ k, k < 201 → M' 31 k = (ab W (inq W (rgK W r k)) ((TL W).take i) : Int)) (TL W).length (fun i M' hi hI => by
    obtain ⟨i1, i2⟩ := hI
    have hsl := TL_lt hi
    have hfl := fltOf_lt h (gd (TL W) i)
    have hK := fun k => rfV_K (W := W) (r := r) (k := k) (t := gd (TL W) i)
    have hle := rfV_le h r (gd (TL W) i)
    have hT1 : TR W M' := TR_s hT (fun o h1 h2 => i1 o (by omega))
    have hZ1 : TZ W M' := by
      unfold TZ
      rw [i1 15 (by omega)]
      exact hZ
    have hc2 : CW w W M' := CW_k hc (fun o ho => i1 o (by have := hc.1; omega))
    try dsimp only
    rw [s_Blame_gatherCommon_26, hT1.1, if_neg (by omega), c_ringsFrom hc2 h hT1 hZ1 hfr hi, bJ_some, take_gd hi, pu_inc (by omega)]
    generalize rfV W r (gd (TL W) i) = v at hK hle ⊢
    have no : ∀ k, v = 0 ∨ v ≠ k → inq W (rgK W r k) (gd (TL W) i) = false := fun k q => by
      rw [← Bool.not_eq_true]
      intro p
      have := (hK k).mpr p
      omega
    by_cases a : v = 0
    · rw [if_pos (lcmp_le.mpr (by omega))]
      exact ⟨M', ⟨i1, fun k hk => by rw [ab_no (no k (Or.inl a))]; exact i2 k hk⟩, rfl⟩
    · rw [if_neg (fun q => by have := lcmp_le.mp q; omega)]
      by_cases b : 201 ≤ v
      · rw [if_pos (lcmp_ge.mpr (by omega))]
        exact ⟨M', ⟨i1, fun k hk => by rw [ab_no (no k (Or.inr (by omega)))]; exact i2 k hk⟩, rfl⟩
      · have hab := ab_lt W (inq W (rgK W r v)) ((TL W).take i)
        rw [if_neg (fun q => b (by have := lcmp_ge.mp q; omega)), pu_w32 (x := (v : Int)) (by omega) (by omega), if_pos (by omega), c_rowsOf hT1 i hi, bI_some, c_faultsOf hc2 h (by omega), bI_some, if_pos (by omega), pu_nn, i2 v (by omega), and32_nat (by omega) (by omega)]
        refine ⟨_, ⟨fun o ho => by rw [st_ob ho]; exact i1 o ho, fun k hk => ?_⟩, rfl⟩
        rw [st_if]
        by_cases e : k = v
        · rw [if_pos e, e, ab_yes ((hK v).mp ⟨by omega, rfl⟩)]
        · rw [if_neg e, ab_no (no k (Or.inr (fun q => e q.symm)))]
          exact i2 k hk) 0 M1 (Nat.zero_le _) ⟨a2, fun k hk => by rw [a3 k hk, List.take_zero, ab_nil]; rfl⟩
  obtain ⟨M2, ⟨k1, k2⟩, k3⟩ := key
  try dsimp only at k3
  rw [show ((0 : Nat) : Int) = 0 from rfl] at k3
  have hT2 : TR W M2 := TR_s hT (fun o h1 h2 => k1 o (by omega))
  rw [k3, s_Blame_gatherCommon_26, hT2.1, if_pos (by omega)]
  rw [List.take_length] at k2
  exact ⟨M2, rfl, k1, k2⟩
noncomputable def jdV (x f : Nat) : Int := if foV x = (f : Int) then 0 else if foV x = -1 then 1 else 2
noncomputable def jdC (W : mM) (f : Nat) (what : Int) : Nat → Nat
  | 0 => 0
  | s + 1 => jdC W f what s + (if jdV (leftS W (wFr W f) (s + 1)) f = what then 1 else 0)
theorem jdC_le (W : mM) (f : Nat) (what : Int) : ∀ s, jdC W f what s ≤ s
  | 0 => Nat.le_refl 0
  | s + 1 => by
    have := jdC_le W f what s
    rw [jdC]
    split <;> omega
theorem c_countJudged (hc : CW w W M) (h : WF W) (hT : TR W M) (hZ : TZ W M) {f s : Nat} (hf : f < wF W) (hs : s ≤ 200) (what : Int) : ∃ M', gC 11 [rv 0 29, rv 9 w, rv 7 13, iv (f : Int), iv (s : Int), iv what] M = some (iv (jdC W f what s : Int), M') ∧ ∀ o, o ≠ 31 → M' o = M o := by
  have hfr := (wf_frt h f hf).1
  obtain ⟨M1, a1, a2, a3⟩ := c_gatherCommon hc h hT hZ hf
  rw [e_Blame_countJudged, a1, bV_none]
  refine ⟨M1, ?_, a2⟩
  have key := pu_up (fun k : Nat => gA 11 18 [rv 0 29, none, none, iv (f : Int), iv (s : Int), iv what, iv ((leftS W (wFr W f) k : Nat) : Int), iv ((jdC W f what k : Nat) : Int), iv ((k + 1 : Nat) : Int), none, none] [] M1) s (fun k hk => by
    have hab1 := ab_lt W (rgS W (wFr W f) k) (TN W)
    have hab2 := ab_lt W (inq W (rgK W (wFr W f) (k + 1))) (TL W)
    have hj := ab_join W (wFr W f) k
    have hjd := jdC_le W f what k
    rw [ab_net W (rgS W (wFr W f) k), ab_net W (rgS W (wFr W f) (k + 1))] at hj
    have hl0 : leftS W (wFr W f) k < 512 := hab1
    have hl3 : leftS W (wFr W f) (k + 1) < 512 := ab_lt W (rgS W (wFr W f) (k + 1)) (TN W)
    have n1 : ¬ (s : Int) < ((k + 1 : Nat) : Int) := by omega
    have n2 : ¬ (201 : Int) ≤ ((k + 1 : Nat) : Int) := by omega
    have n3 : 0 ≤ ((k + 1 : Nat) : Int) ∧ ((k + 1 : Nat) : Int) < 201 := by omega
    have n4 : k + 1 < 2147483647 := by omega
    have n5 : k + 1 < 201 := by omega
    have n6 : jdC W f what k < 2147483647 := by omega
    have n7 : ab W (inq W (rgK W (wFr W f) (k + 1))) (TL W) < 2147483648 := by omega
    have n8 : leftS W (wFr W f) k < 2147483648 := by omega
    have ej : leftS W (wFr W f) k &&& ab W (inq W (rgK W (wFr W f) (k + 1))) (TL W) = leftS W (wFr W f) (k + 1) := hj
    have add0 : w32 (((jdC W f what k : Nat) : Int) + 0) = ((jdC W f what k + 0 : Nat) : Int) := by
      rw [Int.add_zero, pu_w32 (x := ((jdC W f what k : Nat) : Int)) (by omega) (by omega)]
      rfl
    try dsimp only
    rw [s_Blame_countJudged_18, if_neg n1, if_neg n2, if_pos n3, pu_nn, a3 (k + 1) n5, and32_nat n8 n7, ej, c_firstOf hl3, bI_some, pu_inc n4]
    rw [add0, pu_inc n6, show jdC W f what (k + 1) = jdC W f what k + (if jdV (leftS W (wFr W f) (k + 1)) f = what then 1 else 0) from rfl]
    unfold jdV
    by_cases z : foV (leftS W (wFr W f) (k + 1)) = (f : Int)
    · rw [if_neg (fun q => q z), if_pos z]
      by_cases y : (0 : Int) = what
      · rw [if_neg (fun q => q y), if_pos y]
      · rw [if_pos y, if_neg y]
    · rw [if_pos z, if_neg z]
      by_cases x : foV (leftS W (wFr W f) (k + 1)) = -1
      · rw [if_neg (fun q => q x), if_pos x]
        by_cases y : (1 : Int) = what
        · rw [if_neg (fun q => q y), if_pos y]
        · rw [if_pos y, if_neg y]
      · rw [if_pos x, if_neg x]
        by_cases y : (2 : Int) = what
        · rw [if_neg (fun q => q y), if_pos y]
        · rw [if_pos y, if_neg y])
  have e0 : leftS W (wFr W f) 0 = 511 := by
    unfold leftS
    rw [← ab_net, ab_S0]
  try dsimp only at key
  rw [e0, show jdC W f what 0 = 0 from rfl, show ((0 : Nat) : Int) = 0 from rfl, show ((511 : Nat) : Int) = 511 from rfl, show ((0 + 1 : Nat) : Int) = 1 from rfl] at key
  rw [key, s_Blame_countJudged_18, if_pos (by omega)]
end CF8
