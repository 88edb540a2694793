/-! Weights of a TEST of the net, in the class. -/
theorem wt_out {W : mM} {s r : Nat} (h : s.testBit r = false) : wt W s r = 0 := by
  unfold wt
  rw [h, if_neg Bool.false_ne_true]
theorem wt_no {W : mM} {s r : Nat} (hs : s < 16384) (h : cr W s = false) : wt W s r = 0 := by
  unfold wt
  by_cases z : s.testBit r = true
  · rw [if_pos z]
    unfold cr at h
    rw [decide_eq_false_iff_not, Decidable.not_not] at h
    have hr : r < 14 := tb_in (n := 14) hs z
    exact nrm_zero (gcdTo_zero.mp h _ (pop_lt_pop hr z))
  · rw [if_neg z]
theorem pop_ones : ∀ m, m < 9 → pop 8 (2 ^ m - 1) = m ∧ 2 ^ m - 1 < 256 := by decide +kernel
theorem skp_abs {v : Nat → Nat → Int} (h : ∀ i j, (v i j).natAbs ≤ 9) (k i j : Nat) : (skp v k i j).natAbs ≤ 9 := h _ j
theorem mny_le (W : mM) (s : Nat) : mny W s ≤ 7 := pop_le 7 _
theorem raw_abs {W : mM} (h : WF W) (s k : Nat) : (raw W s k).natAbs ≤ 24056562600 := by
  have hm := mny_le W s
  have h1 := pop_ones (mny W s) (by omega)
  have h2 : (mi W s k).natAbs ≤ Bd (mny W s) := om_abs (v := skp (vec W s) k) (skp_abs (vec_abs h s) k) (mny W s) (2 ^ mny W s - 1) h1.2 h1.1
  have h3 := Bd_le (mny W s) (by omega)
  unfold raw
  rw [natAbs_sg]
  omega
theorem wtk_abs {W : mM} (h : WF W) (s k : Nat) : (wtk W s k).natAbs ≤ 24056562600 := by
  unfold wtk nrm
  rw [Int.natAbs_tdiv]
  exact Nat.le_trans (Nat.div_le_self _ _) (raw_abs h s k)
theorem wt_abs {W : mM} (h : WF W) (s r : Nat) : (wt W s r).natAbs ≤ 24056562600 := by
  unfold wt
  split
  · exact wtk_abs h s _
  · exact Nat.zero_le _
theorem pop_below (s r : Nat) : ∀ n, pop n (s &&& (2 ^ r - 1)) = pop (min n r) s
  | 0 => by rw [Nat.zero_min]; rfl
  | n + 1 => by
    have ih := pop_below s r n
    show pop n (s &&& (2 ^ r - 1)) + (if (s &&& (2 ^ r - 1)).testBit n then 1 else 0) = _
    rw [ih, Nat.testBit_and, Nat.testBit_two_pow_sub_one]
    by_cases z : n < r
    · rw [decide_eq_true z, Bool.and_true, Nat.min_eq_left (by omega), Nat.min_eq_left (by omega)]
      rfl
    · rw [decide_eq_false z, Bool.and_false, Nat.min_eq_right (by omega), Nat.min_eq_right (by omega)]
      rfl
def nou (W : mM) (s : Nat) : Int := zs (fun r => wt W s r * conOf W r) 14
def bnd (W : mM) (s : Nat) : Nat := nsum (fun g => (wt W s (8 + g)).natAbs * noiOf W (8 + g)) 6
def rng (W : mM) (s : Nat) : Bool := decide (bnd W s < (nou W s).natAbs)
theorem zs_le {f : Nat → Int} {B : Nat} : ∀ n, (∀ i, i < n → (f i).natAbs ≤ B) → (zs f n).natAbs ≤ n * B
  | 0, _ => Nat.zero_le _
  | n + 1, h => by
    have := zs_le n (fun i hi => h i (by omega))
    have h2 := h n (by omega)
    show (zs f n + f n).natAbs ≤ _
    rw [Nat.succ_mul]
    omega
theorem con_abs {W : mM} (h : WF W) {r : Nat} (hr : r < 14) : (conOf W r).natAbs ≤ 400000 := by
  unfold conOf
  have hE := (wf_E h).2
  have hG := (wf_G h).2
  split
  · have := wf_con h r (by omega)
    omega
  · split
    · have := wf_rea h (r - 8) (by omega)
      omega
    · exact Nat.zero_le _
theorem noi_le {W : mM} (h : WF W) {r : Nat} (hr : r < 14) : noiOf W r ≤ 3 := by
  unfold noiOf
  have hG := (wf_G h).2
  split
  · exact (wf_noi h (r - 8) (by omega)).2
  · omega
theorem trm_abs {W : mM} (h : WF W) (s : Nat) {r : Nat} (hr : r < 14) : (wt W s r * conOf W r).natAbs ≤ 9622625040000000 := by
  rw [Int.natAbs_mul]
  exact Nat.mul_le_mul (wt_abs h s r) (con_abs h hr)
theorem bt_le {W : mM} (h : WF W) (s : Nat) {r : Nat} (hr : r < 14) : (wt W s r).natAbs * noiOf W r ≤ 72169687800 := Nat.mul_le_mul (wt_abs h s r) (noi_le h hr)
theorem bnd_le {W : mM} (h : WF W) (s : Nat) : bnd W s ≤ 433018126800 := nsum_le 6 (fun i hi => bt_le h s (by omega))
theorem nou_abs {W : mM} (h : WF W) (s : Nat) : (nou W s).natAbs ≤ 134716750560000000 := zs_le 14 (fun i hi => trm_abs h s hi)
theorem nsum_1 (f : Nat → Nat) (n : Nat) : nsum f (n + 1) = nsum f n + f n := rfl
theorem zs_1 (f : Nat → Int) (n : Nat) : zs f (n + 1) = zs f n + f n := rfl
section CW7
variable {w : Nat} {W M : mM}
theorem c_canRun (hT : TR W M) {t : Nat} (ht : t < (TL W).length) (hz : M 15 t ≠ 0) : gC 82 [rv 7 13, iv (t : Int)] M = some (iv (if cr W (gd (TL W) t) = true then 1 else 0), M) := by
  have hL := TL_len W
  rw [e_Tests_canRun, hT.1, if_neg (by omega), if_neg (by omega), if_neg (by omega), if_pos (by omega), pu_nn]
  rcases (hT.2 t ht).2 with q | ⟨q, _⟩
  · exact absurd q hz
  · rw [q]
    by_cases z : cr W (gd (TL W) t) = true
    · rw [if_pos z, if_neg (by omega), if_pos z]
    · rw [if_neg z, if_pos (by omega), if_neg z]
theorem c_canRun_no : gC 82 [rv 7 13, iv (-1)] M = some (iv 0, M) := by
  rw [e_Tests_canRun, if_pos (by omega)]
theorem c_weightOf (hT : TR W M) {t : Nat} (ht : t < (TL W).length) (hz : M 15 t ≠ 0) {r : Nat} (hr : r < 14) : gC 83 [rv 7 13, iv (t : Int), iv (r : Int)] M = some (jv (wt W (gd (TL W) t) r), M) := by
  have hL := TL_len W
  have hs := TL_lt ht
  have h8 := (isT_pop hs (TL_is ht)).2.2
  rw [e_Tests_weightOf, c_canRun hT ht hz, bI_some, ite01_0]
  by_cases z : cr W (gd (TL W) t) = true
  · rw [if_pos z, if_pos (by omega), pu_nn, (hT.2 t ht).1, c_hasBit (by omega), bI_some, ite01_n, hB_nat]
    unfold wt
    by_cases y : (gd (TL W) t).testBit r = true
    · have h3 : pop r (gd (TL W) t) < pop 14 (gd (TL W) t) := pop_lt_pop hr y
      have hp : 1 ≤ 2 ^ r := Nat.one_le_two_pow
      have hp2 := pow31 (r := r) (by omega)
      have e2 : and32 (gd (TL W) t : Int) (w32 (shl32 1 (r : Int) - 1)) = (((gd (TL W) t) &&& (2 ^ r - 1) : Nat) : Int) := by
        rw [shl32_one (by omega), pu_w32 (x := ((2 ^ r : Nat) : Int) - 1) (by omega) (by omega), show ((2 ^ r : Nat) : Int) - 1 = ((2 ^ r - 1 : Nat) : Int) by omega, and32_nat (by omega) (by omega)]
      have e3 : (gd (TL W) t) &&& (2 ^ r - 1) < 16384 := Nat.lt_of_le_of_lt Nat.and_le_left hs
      rw [if_pos y, if_pos y, if_pos (by omega), (hT.2 t ht).1, e2, c_bitCount e3, bI_some, pop_below, Nat.min_eq_right (by omega), if_neg (by omega), w32_t8 (by omega) (by omega), if_pos (by omega), pu_nn]
      rcases (hT.2 t ht).2 with q | ⟨_, q⟩
      · exact absurd q hz
      · rw [q _ (by omega), if_pos h3]
    · rw [if_neg y, if_neg y]
  · rw [if_neg z, wt_no hs (by rw [Bool.not_eq_true] at z; exact z)]
theorem c_noughtOf (hc : CW w W M) (h : WF W) (hT : TR W M) {t : Nat} (ht : t < (TL W).length) (hz : M 15 t ≠ 0) : gC 84 [rv 7 13, rv 9 w, iv (t : Int)] M = some (jv (nou W (gd (TL W) t)), M) := by
  rw [e_Tests_noughtOf]
  have key := pu_up (fun i : Nat => gA 84 5 [rv 7 13, rv 9 w, iv (t : Int), jv (zs (fun r => wt W (gd (TL W) t) r * conOf W r) i), none, iv (i : Int)] [] M) 14 (fun i hi => by
    have b1 := zs_le (f := fun r => wt W (gd (TL W) t) r * conOf W r) i (fun j hj => trm_abs h (gd (TL W) t) (show j < 14 by omega))
    have b2 := trm_abs h (gd (TL W) t) hi
    try dsimp only
    rw [s_Tests_noughtOf_5, if_neg (by omega), c_hasRow hT ht, bI_some, ite01_0, hB_nat, pu_inc (by omega), zs_1]
    by_cases z : (gd (TL W) t).testBit i = true
    · have b3 : i * 9622625040000000 ≤ 14 * 9622625040000000 := Nat.mul_le_mul_right _ (by omega)
      rw [if_pos z, c_weightOf hT ht hz hi, bJ_some, c_constantOf hc h i hi, bJ_some, pu_w64 (x := wt W (gd (TL W) t) i * conOf W i) (by omega) (by omega), pu_w64 (by omega) (by omega)]
    · rw [if_neg z, wt_out (by rw [Bool.not_eq_true] at z; exact z), Int.zero_mul, Int.add_zero])
  try dsimp only at key
  rw [show zs (fun r => wt W (gd (TL W) t) r * conOf W r) 0 = 0 from rfl, show ((0 : Nat) : Int) = 0 from rfl] at key
  rw [key, s_Tests_noughtOf_5, if_pos (by omega)]
  rfl
theorem c_boundOf (hc : CW w W M) (h : WF W) (hT : TR W M) {t : Nat} (ht : t < (TL W).length) (hz : M 15 t ≠ 0) : gC 85 [rv 7 13, rv 9 w, iv (t : Int)] M = some (jv ((bnd W (gd (TL W) t) : Nat) : Int), M) := by
  rw [e_Tests_boundOf]
  have key := pu_up (fun g : Nat => gA 85 6 [rv 7 13, rv 9 w, iv (t : Int), jv ((nsum (fun g => (wt W (gd (TL W) t) (8 + g)).natAbs * noiOf W (8 + g)) g : Nat) : Int), none, iv ((8 + g : Nat) : Int)] [] M) 6 (fun g hg => by
    have b1 := nsum_le (f := fun g => (wt W (gd (TL W) t) (8 + g)).natAbs * noiOf W (8 + g)) g (fun j hj => bt_le h (gd (TL W) t) (show 8 + j < 14 by omega))
    have b2 := bt_le h (gd (TL W) t) (show 8 + g < 14 by omega)
    have b4 := wt_abs h (gd (TL W) t) (8 + g)
    try dsimp only
    rw [s_Tests_boundOf_6, if_neg (by omega), c_hasRow hT ht, bI_some, ite01_0, hB_nat, pu_inc (by omega), nsum_1]
    by_cases z : (gd (TL W) t).testBit (8 + g) = true
    · have b3 : g * 72169687800 ≤ 6 * 72169687800 := Nat.mul_le_mul_right _ (by omega)
      rw [if_pos z, c_weightOf hT ht hz (by omega), bJ_some, c_noiseOf hc h (8 + g) (by omega), bI_some, abs64_nat (by omega), ← Int.natCast_mul, pu_w64 (x := (((wt W (gd (TL W) t) (8 + g)).natAbs * noiOf W (8 + g) : Nat) : Int)) (by omega) (by omega), ← Int.natCast_add, pu_w64 (by omega) (by omega)]
      rfl
    · rw [if_neg z, wt_out (by rw [Bool.not_eq_true] at z; exact z), Int.natAbs_zero, Nat.zero_mul]
      rfl)
  try dsimp only at key
  rw [show nsum (fun g => (wt W (gd (TL W) t) (8 + g)).natAbs * noiOf W (8 + g)) 0 = 0 from rfl, show ((0 : Nat) : Int) = 0 from rfl, show ((8 + 0 : Nat) : Int) = 8 from rfl] at key
  rw [key, s_Tests_boundOf_6, if_pos (by omega)]
  rfl
theorem c_isRinging (hc : CW w W M) (h : WF W) (hT : TR W M) {t : Nat} (ht : t < (TL W).length) (hz : M 15 t ≠ 0) : gC 86 [rv 7 13, rv 9 w, iv (t : Int)] M = some (iv (if rng W (gd (TL W) t) = true then 1 else 0), M) := by
  have b1 := nou_abs h (gd (TL W) t)
  have b2 := bnd_le h (gd (TL W) t)
  rw [e_Tests_isRinging, c_noughtOf hc h hT ht hz, bJ_some, c_boundOf hc h hT ht hz, bJ_some, abs64_nat (by omega)]
  unfold rng
  by_cases z : bnd W (gd (TL W) t) < (nou W (gd (TL W) t)).natAbs
  · rw [if_neg (fun y => by have := lcmp_le.mp y; omega), if_pos (decide_eq_true z)]
  · rw [if_pos (lcmp_le.mpr (by omega)), if_neg (by rw [decide_eq_true_iff]; exact z)]
end CW7
/-- ready, and the TESTS of the net have their weights -/
def CZ (W : mM) (tl : Nat) (tp : Nat → Int) (pl : Int) (M : mM) : Prop := ∃ w w2, CB w w2 W tl tp pl M ∧ M 0 5 = 1 ∧ PR W M ∧ TR W M ∧ TZ W M
theorem CZ_CI {W : mM} {tl : Nat} {tp : Nat → Int} {pl : Int} {M : mM} (h : CZ W tl tp pl M) : CI W tl tp pl M := by
  obtain ⟨w, w2, h1, h2, h3, h4, _⟩ := h
  exact ⟨w, w2, h1, Or.inr ⟨h2, h3, h4⟩⟩
theorem CZ_CY {W : mM} {tl : Nat} {tp : Nat → Int} {pl : Int} {M : mM} (h : CZ W tl tp pl M) : CY W tl tp pl M := by
  obtain ⟨w, w2, h1, h2, h3, h4, _⟩ := h
  exact ⟨w, w2, h1, h2, h3, h4⟩
theorem CZ_s {W : mM} {tl : Nat} {tp : Nat → Int} {pl : Int} {M M' : mM} (h : CZ W tl tp pl M) (k : Cs M M') : CZ W tl tp pl M' := by
  obtain ⟨w, w2, h1, h2, h3, h4, h5⟩ := h
  refine ⟨w, w2, CB_s h1 (fun o ho => k o (by omega)), ?_, PR_s h3 (k 11 (by omega)), TR_s h4 (fun o ho ho2 => k o (by omega)), ?_⟩
  · rw [k 0 (by omega)]
    exact h2
  · unfold TZ
    rw [k 15 (by omega)]
    exact h5
theorem c_makeWeighed {W : mM} {tl : Nat} {tp : Nat → Int} {pl : Int} {M : mM} (hc : CI W tl tp pl M) (h : WF W) : ∃ M', gC 157 [rv 10 0] M = some (none, M') ∧ CZ W tl tp pl M' := by
  obtain ⟨M1, a1, a2⟩ := c_makeReady hc h
  rw [e_GaugeNet_makeWeighed, a1, bV_none]
  obtain ⟨w, w2, hb, h5, hP, hT⟩ := a2
  obtain ⟨M2, b1, b2, b3, b4⟩ := c_weigh hb.2.2.2.1 h hT
  rw [hb.2.1, pu_nn, c_netNow hb.2.2.2.1 h, bI_some, b1, bV_none]
  refine ⟨M2, rfl, w, w2, CB_s hb (fun o ho => b2 o (by omega)), ?_, PR_s hP (b2 11 (by omega)), b3, b4⟩
  rw [b2 0 (by omega)]
  exact h5
