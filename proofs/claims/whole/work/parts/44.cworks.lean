/-! The works of the class. -/
def inR (x : Int) (n : Nat) : Bool := decide (0 ≤ x) && decide (x < (n : Int))
theorem inR_iff {x : Int} {n : Nat} : inR x n = true ↔ 0 ≤ x ∧ x < (n : Int) := by
  unfold inR
  rw [Bool.and_eq_true, decide_eq_true_iff, decide_eq_true_iff]
theorem inR_no {x : Int} {n : Nat} (h : ¬ (0 ≤ x ∧ x < (n : Int))) : inR x n = false := by
  cases q : inR x n with
  | true => exact absurd (inR_iff.mp q) h
  | false => rfl
theorem inR_nat {k n : Nat} : inR (k : Int) n = decide (k < n) := by
  by_cases h : k < n
  · rw [inR_iff.mpr ⟨by omega, by omega⟩, decide_eq_true h]
  · rw [inR_no (by omega), decide_eq_false h]
theorem ite01_0 {α : Type} (b : Bool) (x y : α) : (if (if b = true then (1 : Int) else 0) = 0 then x else y) = if b = true then y else x := by cases b <;> rfl
theorem ite01_n {α : Type} (b : Bool) (x y : α) : (if ¬ (if b = true then (1 : Int) else 0) = 0 then x else y) = if b = true then x else y := by cases b <;> rfl
def nsum (f : Nat → Nat) : Nat → Nat
  | 0 => 0
  | k + 1 => nsum f k + f k
theorem nsum_le {f : Nat → Nat} {c : Nat} : ∀ k, (∀ i, i < k → f i ≤ c) → nsum f k ≤ k * c := by
  intro k
  induction k with
  | zero => intro _; exact Nat.zero_le _
  | succ k ih =>
    intro h
    rw [nsum, Nat.succ_mul]
    have := ih (fun i hi => h i (by omega))
    have := h k (by omega)
    omega
theorem nsum_congr {f g : Nat → Nat} : ∀ k, (∀ i, i < k → f i = g i) → nsum f k = nsum g k := by
  intro k
  induction k with
  | zero => intro _; rfl
  | succ k ih =>
    intro h
    rw [nsum, nsum, ih (fun i hi => h i (by omega)), h k (by omega)]
def costW (W : mM) (s : Nat) : Nat := nsum (fun g => if s.testBit g = true then wCo W g else 0) 6
def conOf (W : mM) (r : Nat) : Int := if r < wE W then W 2 r else if 8 ≤ r ∧ r - 8 < wG W then - W 6 (r - 8) else 0
def noiOf (W : mM) (r : Nat) : Nat := if 8 ≤ r ∧ r - 8 < wG W then wNo W (r - 8) else 0
def fltOf (W : mM) (rows : Nat) : Nat := bset (fun f => rows.testBit (wFr W f)) (wF W)
theorem fltOf_lt {W : mM} (h : WF W) (rows : Nat) : fltOf W rows < 256 := Nat.lt_of_lt_of_le (bset_lt _ _) (Nat.le_trans (Nat.pow_le_pow_right (by omega) (wf_F h).2) (Nat.le_refl 256))
theorem costW_le {W : mM} (h : WF W) (s : Nat) : costW W s ≤ 600 := by
  refine nsum_le (c := 100) 6 (fun g hg => ?_)
  have := (wf_cos h g hg).2
  split <;> omega
theorem shl32_8 {x : Nat} (h : x < 64) : shl32 (x : Int) 8 = ((x * 256 : Nat) : Int) := by
  have : ∀ x, x < 64 → shl32 ((x : Nat) : Int) 8 = ((x * 256 : Nat) : Int) := by decide +kernel
  exact this x h
section CWS
variable {w : Nat} {W M : mM}
theorem CW_0 (hc : CW w W M) : M w = W 0 := hc.2 0 (by omega)
theorem CW_j (hc : CW w W M) (j : Nat) (hj : j ≤ 8) : M (w + j) = W j := hc.2 j hj
theorem c_isGauge (hc : CW w W M) (h : WF W) (x : Int) : gC 111 [rv 9 w, iv x] M = some (iv (if inR x (wG W) = true then 1 else 0), M) := by
  rw [e_Works_isGauge, CW_0 hc, (wf_G h).1]
  have hb := (wf_G h).2
  by_cases q : 0 ≤ x ∧ x < (wG W : Int)
  · rw [if_neg (by omega), if_neg (by omega), if_neg (by omega), if_pos (inR_iff.mpr q)]
  · rw [inR_no q]
    split
    · rfl
    · split
      · rfl
      · omega
theorem c_isEq (hc : CW w W M) (h : WF W) (x : Int) : gC 112 [rv 9 w, iv x] M = some (iv (if inR x (wE W) = true then 1 else 0), M) := by
  rw [e_Works_isEq, CW_0 hc, (wf_E h).1]
  have hb := (wf_E h).2
  by_cases q : 0 ≤ x ∧ x < (wE W : Int)
  · rw [if_neg (by omega), if_neg (by omega), if_neg (by omega), if_pos (inR_iff.mpr q)]
  · rw [inR_no q]
    split
    · rfl
    · split
      · rfl
      · omega
theorem c_isUnknown (hc : CW w W M) (h : WF W) (x : Int) : gC 113 [rv 9 w, iv x] M = some (iv (if inR x (wU W) = true then 1 else 0), M) := by
  rw [e_Works_isUnknown, CW_0 hc, (wf_U h).1]
  have hb := (wf_U h).2
  by_cases q : 0 ≤ x ∧ x < (wU W : Int)
  · rw [if_neg (by omega), if_neg (by omega), if_neg (by omega), if_pos (inR_iff.mpr q)]
  · rw [inR_no q]
    split
    · rfl
    · split
      · rfl
      · omega
theorem c_isFault (hc : CW w W M) (h : WF W) (x : Int) : gC 117 [rv 9 w, iv x] M = some (iv (if inR x (wF W) = true then 1 else 0), M) := by
  rw [e_Works_isFault, CW_0 hc, (wf_F h).1]
  have hb := (wf_F h).2
  by_cases q : 0 ≤ x ∧ x < (wF W : Int)
  · rw [if_neg (by omega), if_neg (by omega), if_neg (by omega), if_pos (inR_iff.mpr q)]
  · rw [inR_no q]
    split
    · rfl
    · split
      · rfl
      · omega
theorem c_rowOf (hc : CW w W M) (h : WF W) (x : Int) : gC 118 [rv 9 w, iv x] M = some (iv (if inR x (wF W) = true then ((wFr W x.toNat : Nat) : Int) else -1), M) := by
  rw [e_Works_rowOf, c_isFault hc h, bI_some, ite01_0]
  have hb := (wf_F h).2
  by_cases q : inR x (wF W) = true
  · have q2 := inR_iff.mp q
    rw [if_pos q, if_pos q, if_pos (by omega), CW_j hc 7 (by omega), (wf_frw h) x.toNat (by omega)]
  · rw [if_neg q, if_neg q]
theorem c_hasOf (hc : CW w W M) (h : WF W) (r : Nat) : gC 105 [rv 9 w, iv (r : Int)] M = some (iv ((wH W r : Nat) : Int), M) := by
  rw [e_Works_hasOf, if_neg (by omega)]
  by_cases hr : r < 14
  · rw [if_neg (by omega), if_pos (by omega), CW_j hc 8 (by omega), pu_nn, (wf_has h r hr).1]
  · rw [if_pos (by omega)]
    unfold wH
    rw [if_neg hr]
    rfl
theorem c_numberIn (hc : CW w W M) (h : WF W) (r u : Nat) (hr : r < 14) (hu : u < 7) : gC 114 [rv 9 w, iv (r : Int), iv (u : Int)] M = some (iv (W 1 (r * 7 + u)), M) := by
  have e : w32 (w32 ((r : Int) * 7) + (u : Int)) = ((r * 7 + u : Nat) : Int) := by
    rw [pu_w32 (x := (r : Int) * 7) (by omega) (by omega), pu_w32 (by omega) (by omega)]
    omega
  rw [e_Works_numberIn, if_neg (by omega), if_neg (by omega), if_neg (by omega), if_neg (by omega), e, if_pos (by omega), CW_j hc 1 (by omega), pu_nn]
theorem c_constantOf (hc : CW w W M) (h : WF W) (r : Nat) (hr : r < 14) : gC 121 [rv 9 w, iv (r : Int)] M = some (jv (conOf W r), M) := by
  rw [e_Works_constantOf, c_isEq hc h, bI_some, inR_nat, ite01_0]
  unfold conOf
  have hE := (wf_E h).2
  have hG := (wf_G h).2
  by_cases q : r < wE W
  · rw [decide_eq_true q, if_pos rfl, if_pos (by omega), if_pos q, CW_j hc 2 (by omega), pu_nn]
  · rw [decide_eq_false q, if_neg Bool.false_ne_true, if_neg q, c_isGauge hc h, bI_some, ite01_0, pu_w32 (x := (r : Int) - 8) (by omega) (by omega)]
    by_cases q2 : 8 ≤ r ∧ r - 8 < wG W
    · have e : (r : Int) - 8 = ((r - 8 : Nat) : Int) := by omega
      have hb := wf_rea h (r - 8) (by omega)
      rw [e, inR_nat, decide_eq_true q2.2, if_pos rfl, if_pos (by omega), if_pos q2, CW_j hc 6 (by omega), pu_nn, pu_w32 (by omega) (by omega)]
    · rw [inR_no (by omega), if_neg Bool.false_ne_true, if_neg q2]
theorem c_noiseOf (hc : CW w W M) (h : WF W) (r : Nat) (hr : r < 14) : gC 122 [rv 9 w, iv (r : Int)] M = some (iv ((noiOf W r : Nat) : Int), M) := by
  rw [e_Works_noiseOf, c_isGauge hc h, bI_some, ite01_0, pu_w32 (by omega) (by omega)]
  unfold noiOf
  have hG := (wf_G h).2
  by_cases q2 : 8 ≤ r ∧ r - 8 < wG W
  · have e : (r : Int) - 8 = ((r - 8 : Nat) : Int) := by omega
    rw [e, inR_nat, decide_eq_true q2.2, if_pos rfl, if_pos (by omega), if_pos q2, CW_j hc 4 (by omega), pu_nn, (wf_noi h _ (by omega)).1]
  · rw [inR_no (by omega), if_neg Bool.false_ne_true, if_neg q2]
    rfl
theorem c_isRow (hc : CW w W M) (h : WF W) {x : Int} (hx : okI x) : gC 123 [rv 9 w, iv x] M = some (iv (if 0 ≤ x ∧ isRw W x.toNat = true then 1 else 0), M) := by
  rw [e_Works_isRow, c_isEq hc h, bI_some, ite01_n]
  have hE := (wf_E h).2
  unfold okI at hx
  unfold isRw
  by_cases q : 0 ≤ x ∧ x < (wE W : Int)
  · rw [inR_iff.mpr q, if_pos rfl, if_pos ⟨q.1, by rw [decide_eq_true (by omega)]; rfl⟩]
  · rw [inR_no q, if_neg Bool.false_ne_true]
    by_cases q8 : x < 8
    · rw [if_pos q8]
      rw [if_neg]
      rintro ⟨a, b⟩
      rw [decide_eq_false (by omega), decide_eq_false (p := 8 ≤ x.toNat) (by omega)] at b
      cases b
    · rw [if_neg q8, c_isGauge hc h, bI_some, ite01_0, pu_w32 (by omega) (by omega)]
      by_cases q2 : x.toNat - 8 < wG W
      · rw [inR_iff.mpr (by omega), if_pos rfl, if_pos ⟨by omega, by rw [decide_eq_false (by omega), decide_eq_true (p := 8 ≤ x.toNat) (by omega), decide_eq_true q2]; rfl⟩]
      · rw [inR_no (by omega), if_neg Bool.false_ne_true, if_neg]
        rintro ⟨a, b⟩
        rw [decide_eq_false (by omega), decide_eq_false q2] at b
        simp at b
theorem c_netAt (hc : CW w W M) (h : WF W) {p ins dea : Nat} (hp : p < 4) (hi : ins < 64) (hd : dea < 64) : gC 116 [rv 9 w, iv (p : Int), iv (ins : Int), iv (dea : Int)] M = some (iv ((netA W p ins dea : Nat) : Int), M) := by
  have hb := bdiff_le ins dea
  have hE := (wf_E h).2
  rw [e_Works_netAt, andnot32 (by omega) (by omega), shl32_8 (by omega)]
  let A : Nat → Nat := fun i => bset (fun e => (wHo W e).testBit p) i ||| bdiff ins dea * 256
  have hA : ∀ i, i ≤ 8 → A i < 16384 := fun i hi => Nat.or_lt_two_pow (n := 14) (Nat.lt_of_lt_of_le (bset_lt _ i) (Nat.pow_le_pow_right (by omega) (by omega))) (by omega)
  have e0 : A 0 = bdiff ins dea * 256 := Nat.zero_or _
  have key := pu_up (fun i : Nat => gA 116 13 [rv 9 w, iv (p : Int), none, none, iv ((A i : Nat) : Int), iv (i : Int)] [] M) (wE W) (fun i hi => by
    have hAi := hA i (by omega)
    try dsimp only
    rw [s_Works_netAt_13, CW_0 hc, (wf_E h).1, if_neg (by omega), if_neg (by omega), if_pos (by omega), CW_j hc 3 (by omega), pu_nn, (wf_hol h i (by omega)).1, c_hasBit (by have := (wf_hol h i (by omega)).2; omega), bI_some, hB_nat, ite01_0, pu_inc (by omega)]
    have e1 : A (i + 1) = (if (wHo W i).testBit p = true then A i ||| 2 ^ i else A i) := by
      show (bset (fun e => (wHo W e).testBit p) i ||| (if (wHo W i).testBit p = true then 2 ^ i else 0)) ||| bdiff ins dea * 256 = _
      by_cases q : (wHo W i).testBit p = true
      · rw [if_pos q, if_pos q, Nat.or_assoc, Nat.or_comm (2 ^ i), ← Nat.or_assoc]
      · rw [if_neg q, if_neg q, Nat.or_zero]
    rw [e1]
    by_cases q : (wHo W i).testBit p = true
    · rw [if_pos q, if_pos q, or1 (by omega) (by omega)]
    · rw [if_neg q, if_neg q])
  try dsimp only at key
  rw [e0] at key
  refine Eq.trans key ?_
  have hAE := hA (wE W) hE
  rw [s_Works_netAt_13, CW_0 hc, (wf_E h).1, if_pos (by omega)]
  have : and32 ((A (wE W) : Nat) : Int) 16383 = ((A (wE W) &&& 16383 : Nat) : Int) := and32_nat (b := 16383) (by omega) (by omega)
  rw [this]
  have : A (wE W) &&& 16383 = A (wE W) := by
    rw [show 16383 = 2 ^ 14 - 1 from rfl, Nat.and_two_pow_sub_one_eq_mod]
    exact Nat.mod_eq_of_lt hAE
  rw [this]
  rfl
theorem c_netNow (hc : CW w W M) (h : WF W) : gC 115 [rv 9 w] M = some (iv ((net W : Nat) : Int), M) := by
  rw [e_Works_netNow, CW_0 hc, (wf_P h).1, (wf_I h).1, (wf_D h).1, c_netAt hc h (wf_P h).2 (wf_I64 h) (wf_D64 h), bI_some]
  rfl
theorem c_faultsOf (hc : CW w W M) (h : WF W) {x : Nat} (hx : x < 2147483648) : gC 119 [rv 9 w, iv (x : Int)] M = some (iv ((fltOf W x : Nat) : Int), M) := by
  have hF := (wf_F h).2
  rw [e_Works_faultsOf]
  have key := pu_up (fun i : Nat => gA 119 4 [rv 9 w, iv (x : Int), iv ((bset (fun f => x.testBit (wFr W f)) i : Nat) : Int), iv (i : Int)] [] M) (wF W) (fun i hi => by
    try dsimp only
    rw [s_Works_faultsOf_4, CW_0 hc, (wf_F h).1, if_neg (by omega), if_neg (by omega), if_pos (by omega), CW_j hc 7 (by omega), pu_nn, (wf_frw h i (by omega)), c_hasBit hx, bI_some, hB_nat, ite01_0, pu_inc (by omega), ← bset_step _ (show i < 31 by omega)]
    by_cases q : x.testBit (wFr W i) = true
    · rw [if_pos q, if_pos q]
    · rw [if_neg q, if_neg q])
  refine Eq.trans key ?_
  rw [s_Works_faultsOf_4, CW_0 hc, (wf_F h).1, if_pos (by omega)]
  rfl
theorem c_costOf (hc : CW w W M) (h : WF W) {x : Nat} (hx : x < 2147483648) : gC 120 [rv 9 w, iv (x : Int)] M = some (iv ((costW W x : Nat) : Int), M) := by
  rw [e_Works_costOf]
  have hb : ∀ i, i ≤ 6 → nsum (fun g => if x.testBit g = true then wCo W g else 0) i ≤ i * 100 := fun i hi => nsum_le i (fun g hg => by
    have := (wf_cos h g (by omega)).2
    split <;> omega)
  have key := pu_up (fun i : Nat => gA 120 4 [rv 9 w, iv (x : Int), iv ((nsum (fun g => if x.testBit g = true then wCo W g else 0) i : Nat) : Int), iv (i : Int)] [] M) 6 (fun i hi => by
    have hbi := hb i (by omega)
    have hw := (wf_cos h i hi).2
    try dsimp only
    rw [s_Works_costOf_4, if_neg (by omega), c_hasBit hx, bI_some, hB_nat, ite01_0, pu_inc (by omega), nsum]
    by_cases q : x.testBit i = true
    · rw [if_pos q, if_pos (by omega), CW_j hc 5 (by omega), pu_nn, (wf_cos h i hi).1, if_pos q, pu_w32 (by omega) (by omega)]
      rfl
    · rw [if_neg q, if_neg q]
      rfl)
  refine Eq.trans key ?_
  rw [s_Works_costOf_4, if_pos (by omega)]
  rfl
end CWS
