/-! SETS: what both programs look for, and the reference's search. -/
def enB (W : mM) (L : List Nat) (ρ : Nat → Bool) (S : Nat) : Bool := L.all (fun s => !ρ s || !decide (fltOf W s &&& S = 0))
def quB (W : mM) (L : List Nat) (κ : Nat → Bool) (S : Nat) : Bool := L.all (fun s => !κ s || decide (fltOf W s &&& S = 0))
def leB (W : mM) (L : List Nat) (ρ : Nat → Bool) (S : Nat) : Bool := allB (fun f => !(S.testBit f && enB W L ρ (bdiff S (2 ^ f)))) 8
def stB (W : mM) (L : List Nat) (ρ κ : Nat → Bool) (strict : Bool) (S : Nat) : Bool := enB W L ρ S && leB W L ρ S && (!strict || quB W L κ S)
def sl4 (p : Nat → Bool) (c : Nat) : Nat → List Nat
  | 0 => []
  | n + 1 => sl4 p c n ++ szl p n c
theorem all_gd {L : List Nat} {f : Nat → Bool} : L.all f = true ↔ ∀ i, i < L.length → f (gd L i) = true := by
  rw [List.all_eq_true]
  constructor
  · exact fun h i hi => h _ (gd_mem hi)
  · intro h x hx
    obtain ⟨i, hi, e⟩ := List.getElem_of_mem hx
    have := h i hi
    unfold gd at this
    rw [List.getD_eq_getElem?_getD, List.getElem?_eq_getElem hi] at this
    rw [← e]
    exact this
theorem enB_iff {W : mM} {L : List Nat} {ρ : Nat → Bool} {S : Nat} : enB W L ρ S = true ↔ ∀ s, s ∈ L → ρ s = true → fltOf W s &&& S ≠ 0 := by
  unfold enB
  rw [List.all_eq_true]
  constructor
  · intro h s hs hr
    have := h s hs
    rw [hr, Bool.not_true, Bool.false_or, Bool.not_eq_true', decide_eq_false_iff_not] at this
    exact this
  · intro h s hs
    cases hr : ρ s with
    | false => rfl
    | true =>
      rw [Bool.not_true, Bool.false_or, Bool.not_eq_true', decide_eq_false_iff_not]
      exact h s hs hr
theorem quB_iff {W : mM} {L : List Nat} {κ : Nat → Bool} {S : Nat} : quB W L κ S = true ↔ ∀ s, s ∈ L → κ s = true → fltOf W s &&& S = 0 := by
  unfold quB
  rw [List.all_eq_true]
  constructor
  · intro h s hs hr
    have := h s hs
    rw [hr, Bool.not_true, Bool.false_or, decide_eq_true_iff] at this
    exact this
  · intro h s hs
    cases hr : κ s with
    | false => rfl
    | true =>
      rw [Bool.not_true, Bool.false_or, decide_eq_true_iff]
      exact h s hs hr
def cap4 : List Nat := sl4 (fun _ => true) 256 4
theorem cap4_len : cap4.length = 93 := by decide +kernel
theorem szl_len {p : Nat → Bool} {n c : Nat} (hc : c ≤ 256) : (szl p n c).length ≤ (szl (fun _ => true) n 256).length := by
  have e1 : (szl p n c).length ≤ (szl (fun _ => true) n c).length := by
    unfold szl
    have : (List.range c).filter (fun s => p s && decide (pop 14 s = n)) = ((List.range c).filter (fun s => true && decide (pop 14 s = n))).filter p := by
      rw [List.filter_filter]
      apply List.filter_congr
      intro s _
      rw [Bool.true_and]
    rw [this]
    exact List.length_filter_le _ _
  have e2 : ∀ d, (szl (fun _ => true) n c).length ≤ (szl (fun _ => true) n (c + d)).length := by
    intro d
    induction d with
    | zero => exact Nat.le_refl _
    | succ d ih =>
      rw [← Nat.add_assoc, szl_succ, List.length_append]
      omega
  have := e2 (256 - c)
  rw [Nat.add_sub_cancel' hc] at this
  omega
theorem sl4_len {p : Nat → Bool} {n c d : Nat} (hn : n < 4) (hc : c ≤ 256) (hd : d ≤ c) : (sl4 p c n ++ szl p n d).length ≤ 93 := by
  have h0 := szl_len (p := p) (n := 0) hc
  have h1 := szl_len (p := p) (n := 1) hc
  have h2 := szl_len (p := p) (n := 2) hc
  have h3 := szl_len (p := p) (n := 3) hc
  have hd' := szl_len (p := p) (n := n) (c := d) (by omega)
  have e0 : (szl (fun _ => true) 0 256).length = 1 := by decide +kernel
  have e1 : (szl (fun _ => true) 1 256).length = 8 := by decide +kernel
  have e2 : (szl (fun _ => true) 2 256).length = 28 := by decide +kernel
  have e3 : (szl (fun _ => true) 3 256).length = 56 := by decide +kernel
  rw [e0] at h0
  rw [e1] at h1
  rw [e2] at h2
  rw [e3] at h3
  rw [List.length_append]
  have f0 : (sl4 p c 0).length = 0 := rfl
  have f1 : (sl4 p c 1).length = (sl4 p c 0).length + (szl p 0 c).length := List.length_append
  have f2 : (sl4 p c 2).length = (sl4 p c 1).length + (szl p 1 c).length := List.length_append
  have f3 : (sl4 p c 3).length = (sl4 p c 2).length + (szl p 2 c).length := List.length_append
  rcases Nat.lt_or_ge n 1 with z | z
  · obtain rfl : n = 0 := by omega
    rw [e0] at hd'
    omega
  · rcases Nat.lt_or_ge n 2 with y | y
    · obtain rfl : n = 1 := by omega
      rw [e1] at hd'
      omega
    · rcases Nat.lt_or_ge n 3 with x | x
      · obtain rfl : n = 2 := by omega
        rw [e2] at hd'
        omega
      · obtain rfl : n = 3 := by omega
        rw [e3] at hd'
        omega
def rws (W : mM) (S : Nat) : Nat → Nat
  | 0 => 0
  | n + 1 => if S.testBit n = true then rws W S n ||| 2 ^ wFr W n else rws W S n
theorem rws_tb (W : mM) (S r : Nat) : ∀ n, (rws W S n).testBit r = true ↔ ∃ f, f < n ∧ S.testBit f = true ∧ wFr W f = r
  | 0 => by
    constructor
    · intro h
      rw [rws, Nat.zero_testBit] at h
      cases h
    · rintro ⟨f, h, _⟩
      exact absurd h (Nat.not_lt_zero f)
  | n + 1 => by
    have ih := rws_tb W S r n
    rw [rws]
    by_cases z : S.testBit n = true
    · rw [if_pos z, Nat.testBit_or, Bool.or_eq_true, ih, tb_pow, decide_eq_true_iff]
      constructor
      · rintro (⟨f, a, b, c⟩ | h)
        · exact ⟨f, by omega, b, c⟩
        · exact ⟨n, by omega, z, h⟩
      · rintro ⟨f, a, b, c⟩
        by_cases y : f = n
        · rw [y] at c
          exact Or.inr c
        · exact Or.inl ⟨f, by omega, b, c⟩
    · rw [if_neg z, ih]
      constructor
      · rintro ⟨f, a, b, c⟩
        exact ⟨f, by omega, b, c⟩
      · rintro ⟨f, a, b, c⟩
        have : f ≠ n := fun y => z (by rw [← y]; exact b)
        exact ⟨f, by omega, b, c⟩
theorem rws_lt {W : mM} (h : WF W) (S : Nat) : ∀ n, n ≤ wF W → rws W S n < 16384
  | 0, _ => by rw [rws]; omega
  | n + 1, hn => by
    have ih := rws_lt h S n (by omega)
    have hr := (wf_frt h n (by omega)).1
    rw [rws]
    split
    · exact Nat.or_lt_two_pow (n := 14) ih (Nat.pow_lt_pow_right (by omega) hr)
    · exact ih
theorem and_zero {a b : Nat} : a &&& b = 0 ↔ ∀ i, ¬ (a.testBit i = true ∧ b.testBit i = true) := by
  constructor
  · intro h i q
    have : (a &&& b).testBit i = true := by rw [Nat.testBit_and, q.1, q.2]; rfl
    rw [h, Nat.zero_testBit] at this
    cases this
  · intro h
    apply Nat.eq_of_testBit_eq
    intro i
    rw [Nat.testBit_and, Nat.zero_testBit, ← Bool.not_eq_true, Bool.and_eq_true]
    exact h i
theorem rws_and {W : mM} (s S : Nat) : s &&& rws W S (wF W) = 0 ↔ fltOf W s &&& S = 0 := by
  rw [and_zero, and_zero]
  constructor
  · intro h f q
    unfold fltOf at q
    rw [bset_tb, Bool.and_eq_true, decide_eq_true_iff] at q
    exact h (wFr W f) ⟨q.1.2, (rws_tb W S _ _).mpr ⟨f, q.1.1, q.2, rfl⟩⟩
  · intro h r q
    obtain ⟨f, a, b, c⟩ := (rws_tb W S r _).mp q.2
    refine h f ⟨?_, b⟩
    unfold fltOf
    rw [bset_tb, Bool.and_eq_true, decide_eq_true_iff, c]
    exact ⟨a, q.1⟩
/-- the reference's rings -/
def RH (W : mM) (ρ : Nat → Bool) (M : mM) : Prop := ∀ k, k < (TN W).length → M 136 k = if ρ (gd (TN W) k) = true then 1 else 0
section RB8
variable {lv : Nat} {W M : mM} {ρ κ : Nat → Bool}
theorem rw_F2 (hr : RW lv W M) (h : WF W) : M 120 (M 100 18).toNat = (wF W : Int) := by
  rw [rw_live hr, pu_nn, rw_F hr, (wf_F h).1]
theorem r_rowsOf (hr : RW lv W M) (h : WF W) {S : Nat} (hS : S < 2147483648) : gC 270 [rv 11 100, iv (S : Int)] M = some (iv (rws W S (wF W) : Int), M) := by
  have hF := (wf_F h).2
  rw [e_GaugeNetModel_rowsOf]
  have key := pu_up (fun i : Nat => gA 270 4 [rv 11 100, iv (S : Int), iv (rws W S i : Int), iv (i : Int)] [] M) (wF W) (fun i hi => by
    have hlt := rws_lt h S i (by omega)
    have hrow := (wf_frt h i hi).1
    try dsimp only
    rw [s_GaugeNetModel_rowsOf_4, if_pos (rw_in hr), rw_F2 hr h, if_neg (by omega), rws, pu_inc (by omega)]
    by_cases z : S.testBit i = true
    · rw [if_neg (fun q => q ((and1_eq1 (by omega) (by omega)).mpr z)), r_faultRow hr h hi, bI_some, or1 (by omega) (by omega), if_pos z]
    · rw [if_pos (fun q => z ((and1_eq1 (by omega) (by omega)).mp q)), if_neg z])
  try dsimp only at key
  rw [show ((rws W S 0 : Nat) : Int) = 0 from rfl, show ((0 : Nat) : Int) = 0 from rfl] at key
  rw [key, s_GaugeNetModel_rowsOf_4, if_pos (rw_in hr), rw_F2 hr h, if_pos (by omega)]
theorem r_isHit (hr : RW lv W M) (hS : SR W M) (h : WF W) (hH : RH W ρ M) {S : Nat} (hs : S < 2147483648) : gC 269 [rv 11 100, iv (S : Int)] M = some (iv (if enB W (TN W) ρ S = true then 1 else 0), M) := by
  have hL := TN_len W
  have hlt := rws_lt h S (wF W) (Nat.le_refl _)
  rw [e_GaugeNetModel_isHit, r_rowsOf hr h hs, bI_some]
  have one : ∀ k : Nat, k < (TN W).length → gA 269 8 [rv 11 100, none, iv (rws W S (wF W) : Int), iv (k : Int)] [] M = if (ρ (gd (TN W) k) && decide (fltOf W (gd (TN W) k) &&& S = 0)) = true then some (iv 0, M) else gA 269 8 [rv 11 100, none, iv (rws W S (wF W) : Int), iv ((k + 1 : Nat) : Int)] [] M := by
    intro k hk
    have hsl := TN_lt hk
    obtain ⟨s1, s2, s3⟩ := hS.2 k hk
    rw [s_GaugeNetModel_isHit_8, hS.1, if_neg (by omega), if_pos (by omega), pu_nn, hH k hk, ite01_0, pu_inc (by omega)]
    by_cases z : ρ (gd (TN W) k) = true
    · rw [if_pos z, if_pos (by omega), s1, and32_nat (by omega) (by omega), z, Bool.true_and]
      by_cases y : fltOf W (gd (TN W) k) &&& S = 0
      · have y2 := rws_and (gd (TN W) k) S |>.mpr y
        rw [y2, if_neg (fun q => q rfl), if_pos (decide_eq_true y)]
      · have y2 : ¬ (gd (TN W) k &&& rws W S (wF W) = 0) := fun q => y ((rws_and _ S).mp q)
        rw [if_pos (fun q => y2 (by exact_mod_cast q)), if_neg (by rw [decide_eq_true_iff]; exact y)]
    · rw [if_neg z, if_neg (by rw [Bool.and_eq_true]; exact fun q => z q.1)]
  rcases pu_first (fun k => ρ (gd (TN W) k) && decide (fltOf W (gd (TN W) k) &&& S = 0)) (TN W).length with hno | ⟨t, t1, t2, t3⟩
  · have key := pu_up (fun i : Nat => gA 269 8 [rv 11 100, none, iv (rws W S (wF W) : Int), iv (i : Int)] [] M) (TN W).length (fun i hi => by
      try dsimp only
      rw [one i hi, if_neg (by rw [hno i hi]; exact Bool.false_ne_true)])
    try dsimp only at key
    rw [show ((0 : Nat) : Int) = 0 from rfl] at key
    have e : enB W (TN W) ρ S = true := by
      unfold enB
      rw [all_gd]
      intro i hi
      have := hno i hi
      cases z : ρ (gd (TN W) i) with
      | false => rfl
      | true =>
        rw [z, Bool.true_and] at this
        rw [this]
        rfl
    rw [key, s_GaugeNetModel_isHit_8, hS.1, if_pos (by omega), e, if_pos rfl]
  · have key := pu_up (fun i : Nat => gA 269 8 [rv 11 100, none, iv (rws W S (wF W) : Int), iv (i : Int)] [] M) t (fun i hi => by
      try dsimp only
      rw [one i (by omega), if_neg (by rw [t3 i hi]; exact Bool.false_ne_true)])
    try dsimp only at key
    rw [show ((0 : Nat) : Int) = 0 from rfl] at key
    have e : ¬ enB W (TN W) ρ S = true := by
      intro q
      rw [Bool.and_eq_true, decide_eq_true_iff] at t2
      exact enB_iff.mp q _ (gd_mem t1) t2.1 t2.2
    rw [key, one t t1, if_pos t2, if_neg e]
theorem r_isQuiet (hr : RW lv W M) (hS : SR W M) (h : WF W) (hH : RH W ρ M) {S : Nat} (hs : S < 2147483648) : gC 271 [rv 11 100, iv (S : Int)] M = some (iv (if quB W (TN W) (fun s => cr W s && !ρ s) S = true then 1 else 0), M) := by
  have hL := TN_len W
  have hlt := rws_lt h S (wF W) (Nat.le_refl _)
  rw [e_GaugeNetModel_isQuiet, r_rowsOf hr h hs, bI_some]
  have one : ∀ k : Nat, k < (TN W).length → gA 271 8 [rv 11 100, none, iv (rws W S (wF W) : Int), iv (k : Int)] [] M = if ((cr W (gd (TN W) k) && !ρ (gd (TN W) k)) && !decide (fltOf W (gd (TN W) k) &&& S = 0)) = true then some (iv 0, M) else gA 271 8 [rv 11 100, none, iv (rws W S (wF W) : Int), iv ((k + 1 : Nat) : Int)] [] M := by
    intro k hk
    have hsl := TN_lt hk
    obtain ⟨s1, s2, s3⟩ := hS.2 k hk
    rw [s_GaugeNetModel_isQuiet_8, hS.1, if_neg (by omega), if_pos (by omega), pu_nn, s2, ite01_0, pu_inc (by omega)]
    by_cases z : cr W (gd (TN W) k) = true
    · rw [if_pos z, if_pos (by omega), hH k hk, ite01_n, z, Bool.true_and]
      cases x : ρ (gd (TN W) k) with
      | true => rw [if_pos rfl]; rfl
      | false =>
        rw [if_neg Bool.false_ne_true, if_pos (by omega), s1, and32_nat (by omega) (by omega), Bool.not_false, Bool.true_and]
        by_cases y : fltOf W (gd (TN W) k) &&& S = 0
        · have y2 := rws_and (gd (TN W) k) S |>.mpr y
          rw [y2, if_pos (show ((0 : Nat) : Int) = 0 from rfl), decide_eq_true y]
          rfl
        · have y2 : ¬ (gd (TN W) k &&& rws W S (wF W) = 0) := fun q => y ((rws_and _ S).mp q)
          rw [if_neg (fun q => y2 (by exact_mod_cast q)), decide_eq_false y]
          rfl
    · rw [if_neg z]
      rw [Bool.not_eq_true] at z
      rw [z, Bool.false_and, Bool.false_and, if_neg Bool.false_ne_true]
  rcases pu_first (fun k => (cr W (gd (TN W) k) && !ρ (gd (TN W) k)) && !decide (fltOf W (gd (TN W) k) &&& S = 0)) (TN W).length with hno | ⟨t, t1, t2, t3⟩
  · have key := pu_up (fun i : Nat => gA 271 8 [rv 11 100, none, iv (rws W S (wF W) : Int), iv (i : Int)] [] M) (TN W).length (fun i hi => by
      try dsimp only
      rw [one i hi, if_neg (by rw [hno i hi]; exact Bool.false_ne_true)])
    try dsimp only at key
    rw [show ((0 : Nat) : Int) = 0 from rfl] at key
    have e : quB W (TN W) (fun s => cr W s && !ρ s) S = true := by
      unfold quB
      rw [all_gd]
      intro i hi
      have := hno i hi
      show (!(cr W (gd (TN W) i) && !ρ (gd (TN W) i)) || decide (fltOf W (gd (TN W) i) &&& S = 0)) = true
      cases z : (cr W (gd (TN W) i) && !ρ (gd (TN W) i)) with
      | false => rfl
      | true =>
        rw [z, Bool.true_and, Bool.not_eq_false'] at this
        rw [this]
        rfl
    rw [key, s_GaugeNetModel_isQuiet_8, hS.1, if_pos (by omega), e, if_pos rfl]
  · have key := pu_up (fun i : Nat => gA 271 8 [rv 11 100, none, iv (rws W S (wF W) : Int), iv (i : Int)] [] M) t (fun i hi => by
      try dsimp only
      rw [one i (by omega), if_neg (by rw [t3 i hi]; exact Bool.false_ne_true)])
    try dsimp only at key
    rw [show ((0 : Nat) : Int) = 0 from rfl] at key
    have e : ¬ quB W (TN W) (fun s => cr W s && !ρ s) S = true := by
      intro q
      rw [Bool.and_eq_true, Bool.not_eq_true', decide_eq_false_iff_not] at t2
      exact t2.2 (quB_iff.mp q _ (gd_mem t1) t2.1)
    rw [key, one t t1, if_pos t2, if_neg e]
end RB8
