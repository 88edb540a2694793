/-! The works of the reference. -/
def nbr (H : Nat → Nat) : Nat → Nat → Nat
  | 0, _ => 0
  | k + 1, s => nbr H k s ||| (if s.testBit k = true then H k else 0)
theorem nbr_tb (H : Nat → Nat) (s u : Nat) : ∀ k, (nbr H k s).testBit u = true ↔ ∃ r, r < k ∧ s.testBit r = true ∧ (H r).testBit u = true := by
  intro k
  induction k with
  | zero =>
    rw [nbr, Nat.zero_testBit]
    exact ⟨fun q => (by cases q), fun ⟨r, h, _⟩ => (by omega)⟩
  | succ k ih =>
    rw [nbr, Nat.testBit_or, Bool.or_eq_true, ih]
    constructor
    · rintro (⟨r, h1, h2, h3⟩ | q)
      · exact ⟨r, by omega, h2, h3⟩
      · by_cases hk : s.testBit k = true
        · rw [if_pos hk] at q
          exact ⟨k, by omega, hk, q⟩
        · rw [if_neg hk, Nat.zero_testBit] at q
          cases q
    · rintro ⟨r, h1, h2, h3⟩
      by_cases e : r = k
      · subst e
        rw [if_pos h2]
        exact Or.inr h3
      · exact Or.inl ⟨r, by omega, h2, h3⟩
theorem nbr_lt {H : Nat → Nat} {n : Nat} (h : ∀ r, H r < 2 ^ n) (k s : Nat) : nbr H k s < 2 ^ n := by
  induction k with
  | zero => exact Nat.two_pow_pos _
  | succ k ih =>
    rw [nbr]
    apply Nat.or_lt_two_pow ih
    split
    · exact h k
    · exact Nat.two_pow_pos _
def nbW (W : mM) (s : Nat) : Nat := nbr (wH W) 14 s
theorem nbW_lt {W : mM} (h : WF W) (s : Nat) : nbW W s < 128 := Nat.lt_of_lt_of_le (nbr_lt (wH_lt h) 14 s) (Nat.le_trans (Nat.pow_le_pow_right (by omega) (wf_U h).2) (Nat.le_refl 128))
theorem pop_ext {n k x : Nat} (h : x < 2 ^ k) (hk : k ≤ n) : pop n x = pop k x := by
  obtain ⟨j, rfl⟩ : ∃ j, n = k + j := ⟨n - k, by omega⟩
  exact pop_testBit_ge h j
theorem isRw_lt {W : mM} (h : WF W) {r : Nat} (hr : isRw W r = true) : r < 14 := by
  unfold isRw at hr
  have hE := (wf_E h).2
  have hG := (wf_G h).2
  rw [Bool.or_eq_true, Bool.and_eq_true, decide_eq_true_iff, decide_eq_true_iff, decide_eq_true_iff] at hr
  omega
theorem isRw_iff {W : mM} {r : Nat} : isRw W r = true ↔ (r < wE W ∨ (8 ≤ r ∧ r - 8 < wG W)) := by
  unfold isRw
  rw [Bool.or_eq_true, Bool.and_eq_true, decide_eq_true_iff, decide_eq_true_iff, decide_eq_true_iff]
theorem r_inRange (x a b : Int) (M : mM) : gC 204 [iv x, iv a, iv b] M = some (iv (if a ≤ x ∧ x ≤ b then 1 else 0), M) := by
  rw [e_GaugeNetModel_inRange]
  by_cases q : x < a
  · rw [if_pos q, if_neg (by omega)]
  · rw [if_neg q]
    by_cases q2 : b < x
    · rw [if_pos q2, if_neg (by omega)]
    · rw [if_neg q2, if_pos (by omega)]
theorem if01 {p : Prop} [Decidable p] : 0 ≤ (if p then (1 : Int) else 0) ∧ (if p then (1 : Int) else 0) < 2 := by split <;> omega
theorem ifR (x : Int) (n : Nat) : (if 0 ≤ x ∧ x ≤ (n : Int) - 1 then (1 : Int) else 0) = if inR x n = true then 1 else 0 := by
  by_cases q : 0 ≤ x ∧ x < (n : Int)
  · rw [if_pos (by omega), if_pos (inR_iff.mpr q)]
  · rw [if_neg (by omega), if_neg (by rw [inR_no q]; decide)]
theorem and1_eq1 {x r : Nat} (hx : x < 2147483648) (hr : r < 32) : and32 (shr32 (x : Int) (r : Int)) 1 = 1 ↔ x.testBit r = true := by
  rw [hasBit_nat hx hr]
  cases x.testBit r <;> simp
theorem and1_eq0 {x r : Nat} (hx : x < 2147483648) (hr : r < 32) : and32 (shr32 (x : Int) (r : Int)) 1 = 0 ↔ x.testBit r = false := by
  rw [hasBit_nat hx hr]
  cases x.testBit r <;> simp
theorem or_swap (a b c : Nat) : (a ||| b) ||| c = (a ||| c) ||| b := by rw [Nat.or_assoc, Nat.or_comm b, ← Nat.or_assoc]
theorem r_bits {x : Nat} (hx : x < 2147483648) (M : mM) : gC 224 [iv (x : Int)] M = some (iv ((pop 20 x : Nat) : Int), M) := by
  rw [e_GaugeNetModel_bits]
  have key := pu_up (fun i : Nat => gA 224 4 [iv (x : Int), iv ((pop i x : Nat) : Int), iv (i : Int)] [] M) 20 (fun i hi => by
    have hb := pop_le i x
    try dsimp only
    rw [s_GaugeNetModel_bits_4, if_neg (by omega), hasBit_nat hx (by omega), pu_inc (by omega), pop]
    cases x.testBit i with
    | true => rw [if_pos rfl, if_pos rfl, pu_inc (by omega)]
    | false => rw [if_neg (by decide), if_neg (by decide), pu_w32 (by omega) (by omega)]; rfl)
  refine Eq.trans key ?_
  rw [s_GaugeNetModel_bits_4, if_pos (by omega)]
section RWS
variable {lv : Nat} {W M : mM}
theorem rw_lv (hr : RW lv W M) : lv < 2 := hr.1
theorem rw_live (hr : RW lv W M) : M 100 18 = (lv : Int) := hr.2.1
theorem rw_U (hr : RW lv W M) : M 111 lv = W 0 0 := hr.2.2.1.1
theorem rw_E (hr : RW lv W M) : M 112 lv = W 0 1 := hr.2.2.1.2.1
theorem rw_G (hr : RW lv W M) : M 115 lv = W 0 2 := hr.2.2.1.2.2.1
theorem rw_F (hr : RW lv W M) : M 120 lv = W 0 3 := hr.2.2.1.2.2.2
theorem rw_P (hr : RW lv W M) : M 100 35 = W 0 4 := hr.2.2.2.1.1
theorem rw_I (hr : RW lv W M) : M 100 36 = W 0 5 := hr.2.2.2.1.2.1
theorem rw_D (hr : RW lv W M) : M 100 37 = W 0 6 := hr.2.2.2.1.2.2
theorem rw_num (hr : RW lv W M) : ∀ e u, e < wE W → u < wU W → M 113 (9 * (8 * lv + e) + u) = W 1 (e * 7 + u) := hr.2.2.2.2.1
theorem rw_con (hr : RW lv W M) : ∀ e, e < wE W → M 113 (9 * (8 * lv + e) + 8) = W 2 e := hr.2.2.2.2.2.1
theorem rw_hol (hr : RW lv W M) : ∀ e, e < wE W → M 114 (8 * lv + e) = W 3 e := hr.2.2.2.2.2.2.1
theorem rw_gau (hr : RW lv W M) : ∀ g, g < wG W → ∃ k : Nat, k < wU W ∧ M 116 (6 * lv + g) = (k : Int) ∧ ∀ u, u < 7 → W 1 ((8 + g) * 7 + u) = if u = k then 1 else 0 := hr.2.2.2.2.2.2.2.1
theorem rw_noi (hr : RW lv W M) : ∀ g, g < wG W → M 117 (6 * lv + g) = W 4 g := hr.2.2.2.2.2.2.2.2.1
theorem rw_cos (hr : RW lv W M) : ∀ g, g < wG W → M 118 (6 * lv + g) = W 5 g := hr.2.2.2.2.2.2.2.2.2.1
theorem rw_frw (hr : RW lv W M) : ∀ f, f < wF W → M 121 (8 * lv + f) = W 7 f := hr.2.2.2.2.2.2.2.2.2.2.1
theorem rw_rea (hr : RW lv W M) : ∀ g, g < 6 → M 122 g = W 6 g := hr.2.2.2.2.2.2.2.2.2.2.2
theorem rw_in (hr : RW lv W M) : (0 ≤ M 100 18 ∧ M 100 18 < 2) := by
  rw [rw_live hr]
  have := rw_lv hr
  omega
theorem r_isGauge (hr : RW lv W M) (h : WF W) (x : Int) : gC 206 [rv 11 100, iv x] M = some (iv (if inR x (wG W) = true then 1 else 0), M) := by
  have hb := (wf_G h).2
  rw [e_GaugeNetModel_isGauge, if_pos (rw_in hr), rw_live hr, pu_nn, rw_G hr, (wf_G h).1, pu_w32 (by omega) (by omega), r_inRange, bI_some, if_pos if01, ifR]
theorem r_isFault (hr : RW lv W M) (h : WF W) (x : Int) : gC 232 [rv 11 100, iv x] M = some (iv (if inR x (wF W) = true then 1 else 0), M) := by
  have hb := (wf_F h).2
  rw [e_GaugeNetModel_isFault, if_pos (rw_in hr), rw_live hr, pu_nn, rw_F hr, (wf_F h).1, pu_w32 (by omega) (by omega), r_inRange, bI_some, if_pos if01, ifR]
theorem r_faultRow (hr : RW lv W M) (h : WF W) {f : Nat} (hf : f < wF W) : gC 233 [rv 11 100, iv (f : Int)] M = some (iv ((wFr W f : Nat) : Int), M) := by
  have hb := (wf_F h).2
  have hl := rw_lv hr
  have e : w32 (w32 (8 * (lv : Int)) + (f : Int)) = ((8 * lv + f : Nat) : Int) := by
    rw [pu_w32 (x := 8 * (lv : Int)) (by omega) (by omega), pu_w32 (by omega) (by omega)]
    omega
  rw [e_GaugeNetModel_faultRow, rw_live hr, e, if_pos (by omega), pu_nn, rw_frw hr f hf, wf_frw h f (by omega)]
theorem r_isRow (hr : RW lv W M) (h : WF W) {x : Int} (hx : okI x) : gC 276 [rv 11 100, iv x] M = some (iv (if (if x < 8 then inR x (wE W) else inR (x - 8) (wG W)) = true then 1 else 0), M) := by
  have hb := (wf_E h).2
  unfold okI at hx
  rw [e_GaugeNetModel_isRow]
  by_cases q : (8 : Int) ≤ x
  · rw [if_pos q, r_isGauge hr h, bI_some, if_pos if01, if_neg (show ¬ x < 8 by omega), pu_w32 (by omega) (by omega)]
  · rw [if_neg q, if_pos (rw_in hr), rw_live hr, pu_nn, rw_E hr, (wf_E h).1, pu_w32 (by omega) (by omega), r_inRange, bI_some, if_pos if01, ifR, if_pos (show x < 8 by omega)]
theorem r_numberOf (hr : RW lv W M) (h : WF W) {r u : Nat} (hw : isRw W r = true) (hu : u < wU W) : gC 218 [rv 11 100, iv (r : Int), iv (u : Int)] M = some (iv (W 1 (r * 7 + u)), M) := by
  have hE := (wf_E h).2
  have hG := (wf_G h).2
  have hU := (wf_U h).2
  have hl := rw_lv hr
  rw [e_GaugeNetModel_numberOf, rw_live hr]
  have hr14 := isRw_iff.mp hw
  by_cases q : 8 ≤ r
  · have e : w32 (w32 (w32 (6 * (lv : Int)) + (r : Int)) - 8) = ((6 * lv + (r - 8) : Nat) : Int) := by
      rw [pu_w32 (x := 6 * (lv : Int)) (by omega) (by omega), pu_w32 (x := 6 * (lv : Int) + (r : Int)) (by omega) (by omega), pu_w32 (by omega) (by omega)]
      omega
    obtain ⟨k, k1, k2, k3⟩ := rw_gau hr (r - 8) (by omega)
    have k4 := k3 u (by omega)
    rw [show 8 + (r - 8) = r by omega] at k4
    rw [if_pos (by omega), e, if_pos (by omega), pu_nn, k2, k4]
    by_cases e2 : u = k
    · rw [if_neg (by omega), if_pos e2]
    · rw [if_pos (by omega), if_neg e2]
  · have e : w32 (w32 (9 * w32 (w32 (8 * (lv : Int)) + (r : Int))) + (u : Int)) = ((9 * (8 * lv + r) + u : Nat) : Int) := by
      rw [pu_w32 (x := 8 * (lv : Int)) (by omega) (by omega), pu_w32 (x := 8 * (lv : Int) + (r : Int)) (by omega) (by omega), pu_w32 (x := 9 * (8 * (lv : Int) + (r : Int))) (by omega) (by omega), pu_w32 (by omega) (by omega)]
      omega
    rw [if_neg (by omega), e, if_pos (by omega), pu_nn, rw_num hr r u (by omega) hu]
theorem r_has (hr : RW lv W M) (h : WF W) {r u : Nat} (hw : isRw W r = true) (hu : u < wU W) : gC 217 [rv 11 100, iv (r : Int), iv (u : Int)] M = some (iv (if (wH W r).testBit u = true then 1 else 0), M) := by
  have hU := (wf_U h).2
  have hq := (wf_has h r (isRw_lt h hw)).2.2 u (by omega)
  rw [e_GaugeNetModel_has, r_numberOf hr h hw hu, bI_some]
  by_cases q : W 1 (r * 7 + u) = 0
  · rw [if_pos q, if_neg (fun z => hq.mp z q)]
  · rw [if_neg q, if_pos (hq.mpr q)]
theorem r_netOf (hr : RW lv W M) (h : WF W) {p ins dea : Nat} (hp : p < 4) (hi : ins < 64) (hd : dea < 64) : gC 213 [rv 11 100, iv (p : Int), iv (ins : Int), iv (dea : Int)] M = some (iv ((netA W p ins dea : Nat) : Int), M) := by
  have hE := (wf_E h).2
  have hl := rw_lv hr
  rw [e_GaugeNetModel_netOf]
  have key := pu_up (fun i : Nat => gA 213 6 [rv 11 100, iv (p : Int), iv (ins : Int), iv (dea : Int), iv ((bset (fun e => (wHo W e).testBit p) i : Nat) : Int), iv (i : Int)] [] M) (wE W) (fun i hi => by
    have e : w32 (w32 (8 * (lv : Int)) + (i : Int)) = ((8 * lv + i : Nat) : Int) := by
      rw [pu_w32 (x := 8 * (lv : Int)) (by omega) (by omega), pu_w32 (by omega) (by omega)]
      omega
    have hh := wf_hol h i (by omega)
    try dsimp only
    rw [s_GaugeNetModel_netOf_6, if_pos (rw_in hr), rw_live hr, pu_nn, rw_E hr, (wf_E h).1, if_neg (by omega), e, if_pos (by omega), pu_nn, rw_hol hr i hi, hh.1, pu_inc (by omega), ← bset_step _ (show i < 31 by omega)]
    by_cases q : (wHo W i).testBit p = true
    · rw [if_neg (fun z => z ((and1_eq1 (by omega) (by omega)).mpr q)), if_pos q]
    · rw [if_pos (fun z => q ((and1_eq1 (by omega) (by omega)).mp z)), if_neg q])
  refine Eq.trans key ?_
  have hb := bdiff_le ins dea
  have hbe := bset_lt (fun e => (wHo W e).testBit p) (wE W)
  have hbe2 : 2 ^ wE W ≤ 2 ^ 8 := Nat.pow_le_pow_right (by omega) hE
  rw [s_GaugeNetModel_netOf_6, if_pos (rw_in hr), rw_live hr, pu_nn, rw_E hr, (wf_E h).1, if_pos (by omega), andnot32 (by omega) (by omega), shl32_8 (by omega), or32_nat (by omega) (by omega)]
  rfl
theorem r_netNow (hr : RW lv W M) (h : WF W) : gC 212 [rv 11 100] M = some (iv ((net W : Nat) : Int), M) := by
  rw [e_GaugeNetModel_netNow, rw_P hr, rw_I hr, rw_D hr, (wf_P h).1, (wf_I h).1, (wf_D h).1, r_netOf hr h (wf_P h).2 (wf_I64 h) (wf_D64 h), bI_some]
  rfl
theorem r_costBy (hr : RW lv W M) (h : WF W) {x : Nat} (hx : x < 2 ^ wG W) : gC 241 [rv 11 100, iv (x : Int)] M = some (iv ((costW W x : Nat) : Int), M) := by
  have hl := rw_lv hr
  have h64 := wf_G64 h
  rw [e_GaugeNetModel_costBy]
  have hb : ∀ i, i ≤ 6 → nsum (fun g => if x.testBit g = true then wCo W g else 0) i ≤ i * 100 := fun i hi => nsum_le i (fun g hg => by
    have := (wf_cos h g (by omega)).2
    split <;> omega)
  have key := pu_up (fun i : Nat => gA 241 4 [rv 11 100, iv (x : Int), iv ((nsum (fun g => if x.testBit g = true then wCo W g else 0) i : Nat) : Int), iv (i : Int)] [] M) 6 (fun i hi => by
    have hbi := hb i (by omega)
    have hw := (wf_cos h i hi)
    have e : w32 (w32 (6 * (lv : Int)) + (i : Int)) = ((6 * lv + i : Nat) : Int) := by
      rw [pu_w32 (x := 6 * (lv : Int)) (by omega) (by omega), pu_w32 (by omega) (by omega)]
      omega
    try dsimp only
    rw [s_GaugeNetModel_costBy_4, if_neg (by omega), pu_inc (by omega), nsum, rw_live hr, e]
    by_cases q : x.testBit i = true
    · rw [if_neg (fun z => z ((and1_eq1 (by omega) (by omega)).mpr q)), if_pos (by omega), if_pos q, pu_nn, rw_cos hr i (tb_in hx q), hw.1, pu_w32 (by omega) (by omega)]
      rfl
    · rw [if_pos (fun z => q ((and1_eq1 (by omega) (by omega)).mp z)), if_neg q]
      rfl)
  refine Eq.trans key ?_
  rw [s_GaugeNetModel_costBy_4, if_pos (by omega)]
  rfl
theorem r_unknownsOf (hr : RW lv W M) (h : WF W) {x : Nat} (hx : sbs x (told W)) : gC 225 [rv 11 100, iv (x : Int)] M = some (iv ((nbW W x : Nat) : Int), M) := by
  have hU := (wf_U h).2
  have hl := rw_lv hr
  have hx2 : x < 16384 := Nat.lt_of_le_of_lt (sbs_le hx) (told_lt W)
  have hn : ∀ i, nbr (wH W) i x < 128 := fun i => Nat.lt_of_lt_of_le (nbr_lt (wH_lt h) i x) (Nat.le_trans (Nat.pow_le_pow_right (by omega) hU) (Nat.le_refl 128))
  rw [e_GaugeNetModel_unknownsOf]
  have key := pu_up (fun i : Nat => gA 225 4 [rv 11 100, iv (x : Int), iv ((nbr (wH W) i x : Nat) : Int), iv (i : Int), none] [] M) 14 (fun i hi => by
    try dsimp only
    have hni := hn i
    rw [s_GaugeNetModel_unknownsOf_4, if_neg (by omega)]
    by_cases q : x.testBit i = true
    · have hrw : isRw W i = true := by
        have := hx i q
        rw [told_tb, Bool.and_eq_true] at this
        exact this.2
      rw [if_pos (fun z => by rw [and1_eq0 (by omega) (by omega), q] at z; cases z)]
      have hA : ∀ j, j ≤ 7 → nbr (wH W) i x ||| bset (fun u => (wH W i).testBit u) j < 128 := fun j hj => Nat.or_lt_two_pow (n := 7) hni (Nat.lt_of_lt_of_le (bset_lt _ j) (Nat.pow_le_pow_right (by omega) hj))
      have k2 := pu_up (fun j : Nat => gA 225 24 [rv 11 100, iv (x : Int), iv ((nbr (wH W) i x ||| bset (fun u => (wH W i).testBit u) j : Nat) : Int), iv (i : Int), iv (j : Int)] [] M) (wU W) (fun j hj => by
        have hAj := hA j (by omega)
        try dsimp only
        rw [s_GaugeNetModel_unknownsOf_24, if_pos (rw_in hr), rw_live hr, pu_nn, rw_U hr, (wf_U h).1, if_neg (by omega), r_has hr h hrw hj, bI_some, pu_inc (by omega), bset]
        by_cases q2 : (wH W i).testBit j = true
        · rw [if_pos q2, if_neg (by decide), if_pos q2, or1 (by omega) (by omega), Nat.or_assoc]
        · rw [if_neg q2, if_pos rfl, if_neg q2, Nat.or_zero])
      try dsimp only at k2
      rw [show nbr (wH W) i x ||| bset (fun u => (wH W i).testBit u) 0 = nbr (wH W) i x from Nat.or_zero _] at k2
      have e2 : bset (fun u => (wH W i).testBit u) (wU W) = wH W i := by
        apply Nat.eq_of_testBit_eq
        intro u
        rw [bset_tb]
        by_cases hu : u < wU W
        · rw [decide_eq_true hu, Bool.true_and]
        · rw [tb_lt (wH_lt h i) (by omega), Bool.and_false]
      refine Eq.trans k2 ?_
      rw [s_GaugeNetModel_unknownsOf_24, if_pos (rw_in hr), rw_live hr, pu_nn, rw_U hr, (wf_U h).1, if_pos (by omega), e2, pu_inc (by omega), nbr, if_pos q]
    · rw [if_neg (fun z => z (by rw [and1_eq0 (by omega) (by omega)]; cases hh : x.testBit i with | true => exact absurd hh q | false => rfl)), pu_inc (by omega), nbr, if_neg q, Nat.or_zero])
  refine Eq.trans key ?_
  rw [s_GaugeNetModel_unknownsOf_4, if_pos (by omega)]
  rfl
end RWS
