/-! The reference's TESTS: look-ups and sums. -/
section RT
variable {W : mM} {tl : Nat} {tp : Nat → Int} {pl : Int} {M : mM} {lv : Nat}
theorem TN_lt {W : mM} {k : Nat} (hk : k < (TN W).length) : gd (TN W) k < 16384 := told16 (TL_mem.mp (TN_mem.mp (gd_mem hk)).1).1
theorem TN_told {W : mM} {k : Nat} (hk : k < (TN W).length) : sbs (gd (TN W) k) (told W) := (TL_mem.mp (TN_mem.mp (gd_mem hk)).1).1
theorem TN_net {W : mM} {k : Nat} (hk : k < (TN W).length) : sbs (gd (TN W) k) (net W) := (TN_mem.mp (gd_mem hk)).2
theorem TN_row {W : mM} {k r : Nat} (hk : k < (TN W).length) (hr : (gd (TN W) k).testBit r = true) : r < 14 ∧ isRw W r = true := by
  have h2 := TN_told hk r hr
  rw [told_tb, Bool.and_eq_true, decide_eq_true_iff] at h2
  exact h2
noncomputable def isTst (W : mM) (x : Int) : Bool := inR x (TN W).length
noncomputable def isRun (W : mM) (x : Int) : Bool := inR x (TN W).length && cr W (gd (TN W) x.toNat)
theorem isRun_iff {W : mM} {x : Int} : isRun W x = true ↔ ∃ k, k < (TN W).length ∧ x = ((k : Nat) : Int) ∧ cr W (gd (TN W) k) = true := by
  unfold isRun
  rw [Bool.and_eq_true, inR_iff]
  constructor
  · rintro ⟨h1, h2⟩
    exact ⟨x.toNat, by omega, by omega, h2⟩
  · rintro ⟨k, h1, h2, h3⟩
    rw [h2, pu_nn]
    exact ⟨by omega, h3⟩
theorem r_isTest2 (hc : RI W tl tp pl M) (h : WF W) (x : Int) : ∃ M', gC 230 [rv 11 100, iv x] M = some (iv (if isTst W x = true then 1 else 0), M') ∧ RY W tl tp pl M' ∧ Sk M M' := by
  obtain ⟨M', a1, a2, a4⟩ := r_seeks2 hc h
  rw [e_GaugeNetModel_isTest, a1, bV_none]
  obtain ⟨lv, b1, b2, b3⟩ := id a2
  rw [b3.1]
  refine ⟨M', ?_, a2, a4⟩
  unfold isTst
  by_cases z : x < 0
  · rw [if_pos z, inR_no (by omega), if_neg Bool.false_ne_true]
  · rw [if_neg z]
    by_cases y : ((TN W).length : Int) ≤ x
    · rw [if_pos y, inR_no (by omega), if_neg Bool.false_ne_true]
    · rw [if_neg y, if_pos (inR_iff.mpr ⟨by omega, by omega⟩)]
theorem r_isTest (hc : RI W tl tp pl M) (h : WF W) (x : Int) : ∃ M', gC 230 [rv 11 100, iv x] M = some (iv (if isTst W x = true then 1 else 0), M') ∧ RY W tl tp pl M' := by
  obtain ⟨M', a1, a2, _⟩ := r_isTest2 hc h x
  exact ⟨M', a1, a2⟩
theorem r_isRun (hc : RI W tl tp pl M) (h : WF W) (x : Int) : ∃ M', gC 254 [rv 11 100, iv x] M = some (iv (if isRun W x = true then 1 else 0), M') ∧ RY W tl tp pl M' := by
  obtain ⟨M', a1, a2⟩ := r_isTest hc h x
  have hL := TN_len W
  rw [e_GaugeNetModel_isRun, a1, bI_some, ite01_0]
  refine ⟨M', ?_, a2⟩
  unfold isTst isRun
  by_cases z : inR x (TN W).length = true
  · obtain ⟨lv, b1, b2, b3⟩ := id a2
    have z2 := inR_iff.mp z
    rw [if_pos z, if_pos (by omega), (b3.2 x.toNat (by omega)).2.1, ite01_0, z, Bool.true_and]
    split <;> rfl
  · rw [if_neg z]
    rw [Bool.not_eq_true] at z
    rw [z, Bool.false_and, if_neg Bool.false_ne_true]
theorem r_size {x : Int} (h : x.natAbs < 9223372036854775808) (M : mM) : gC 259 [jv x] M = some (jv (x.natAbs : Int), M) := by
  rw [e_GaugeNetModel_size]
  by_cases z : 0 ≤ x
  · rw [if_pos (lcmp_ge.mpr z), show (x.natAbs : Int) = x by omega]
  · rw [if_neg (fun q => z (lcmp_ge.mp q)), pu_w64 (by omega) (by omega), show (x.natAbs : Int) = -x by omega]
theorem r_noughtOf (hr : RW lv W M) (hS : SR W M) (h : WF W) {k : Nat} (hk : k < (TN W).length) : gC 256 [rv 11 100, iv (k : Int)] M = some (jv (nou W (gd (TN W) k)), M) := by
  have hL := TN_len W
  have hs := TN_lt hk
  have hlv := rw_lv hr
  obtain ⟨s1, s2, s3⟩ := hS.2 k hk
  rw [e_GaugeNetModel_noughtOf]
  have key := pu_up (fun i : Nat => gA 256 5 [rv 11 100, iv (k : Int), jv (zs (fun r => wt W (gd (TN W) k) r * conOf W r) i), none, iv (i : Int), none, none] [] M) 14 (fun i hi => by
    have b1 := zs_le (f := fun r => wt W (gd (TN W) k) r * conOf W r) i (fun j hj => trm_abs h (gd (TN W) k) (show j < 14 by omega))
    have b2 := trm_abs h (gd (TN W) k) hi
    have b3 : i * 9622625040000000 ≤ 14 * 9622625040000000 := Nat.mul_le_mul_right _ (by omega)
    try dsimp only
    rw [s_GaugeNetModel_noughtOf_5, if_neg (by omega), if_pos (by omega), pu_nn, s1, zs_1]
    by_cases z : (gd (TN W) k).testBit i = true
    · obtain ⟨_, hrow⟩ := TN_row hk z
      rw [if_pos (fun q => by rw [and1_eq0 (by omega) (by omega)] at q; rw [q] at z; exact Bool.false_ne_true z)]
      have hE := (wf_E h).2
      have hG := (wf_G h).2
      rcases isRw_iff.mp hrow with y | y
      · have ec : conOf W i = W 2 i := by
          unfold conOf
          rw [if_pos y]
        rw [ec] at b2 ⊢
        rw [if_neg (by omega), rw_live hr, show w32 (w32 (9 * w32 (w32 (8 * (lv : Int)) + (i : Int))) + 8) = ((9 * (8 * lv + i) + 8 : Nat) : Int) by
          rw [pu_w32 (x := 8 * (lv : Int)) (by omega) (by omega), pu_w32 (x := 8 * (lv : Int) + (i : Int)) (by omega) (by omega), pu_w32 (x := 9 * (8 * (lv : Int) + (i : Int))) (by omega) (by omega), pu_w32 (by omega) (by omega)]
          omega, if_pos (by omega), w32_14 (by omega) hi, if_pos (by omega), pu_nn, pu_nn, s3 i hi, rw_con hr i y, pu_w64 (x := wt W (gd (TN W) k) i * W 2 i) (by omega) (by omega), pu_w64 (by omega) (by omega), pu_inc (by omega)]
      · have ec : conOf W i = - W 6 (i - 8) := by
          unfold conOf
          rw [if_neg (by omega), if_pos y]
        have hrd := wf_rea h (i - 8) (by omega)
        rw [ec] at b2 ⊢
        rw [if_pos (by omega), pu_w32 (x := (i : Int) - 8) (by omega) (by omega), show (i : Int) - 8 = ((i - 8 : Nat) : Int) by omega, if_pos (by omega), w32_14 (by omega) hi, if_pos (by omega), pu_nn, pu_nn, s3 i hi, rw_rea hr _ (by omega), pu_w32 (x := - W 6 (i - 8)) (by omega) (by omega), pu_w64 (x := wt W (gd (TN W) k) i * - W 6 (i - 8)) (by omega) (by omega), pu_w64 (by omega) (by omega), pu_inc (by omega)]
    · rw [if_neg (fun q => q ((and1_eq0 (by omega) (by omega)).mpr (by rw [Bool.not_eq_true] at z; exact z))), wt_out (by rw [Bool.not_eq_true] at z; exact z), Int.zero_mul, Int.add_zero, pu_inc (by omega)])
  try dsimp only at key
  rw [show zs (fun r => wt W (gd (TN W) k) r * conOf W r) 0 = 0 from rfl, show ((0 : Nat) : Int) = 0 from rfl] at key
  rw [key, s_GaugeNetModel_noughtOf_5, if_pos (by omega)]
  rfl
theorem r_boundOf (hr : RW lv W M) (hS : SR W M) (h : WF W) {k : Nat} (hk : k < (TN W).length) : gC 258 [rv 11 100, iv (k : Int)] M = some (jv (bnd W (gd (TN W) k) : Int), M) := by
  have hL := TN_len W
  have hs := TN_lt hk
  have hlv := rw_lv hr
  obtain ⟨s1, s2, s3⟩ := hS.2 k hk
  rw [e_GaugeNetModel_boundOf]
  have key := pu_up (fun g : Nat => gA 258 5 [rv 11 100, iv (k : Int), jv (nsum (fun g => (wt W (gd (TN W) k) (8 + g)).natAbs * noiOf W (8 + g)) g : Int), none, iv (g : Int)] [] M) 6 (fun g hg => by
    have b1 := nsum_le (f := fun g => (wt W (gd (TN W) k) (8 + g)).natAbs * noiOf W (8 + g)) g (fun j hj => bt_le h (gd (TN W) k) (show 8 + j < 14 by omega))
    have b2 := bt_le h (gd (TN W) k) (show 8 + g < 14 by omega)
    have b4 := wt_abs h (gd (TN W) k) (8 + g)
    have b3 : g * 72169687800 ≤ 6 * 72169687800 := Nat.mul_le_mul_right _ (by omega)
    try dsimp only
    rw [s_GaugeNetModel_boundOf_5, if_neg (by omega), if_pos (by omega), pu_nn, s1, nsum_1, pu_w32 (x := 8 + (g : Int)) (by omega) (by omega), show 8 + (g : Int) = ((8 + g : Nat) : Int) by omega]
    by_cases z : (gd (TN W) k).testBit (8 + g) = true
    · obtain ⟨_, hrow⟩ := TN_row hk z
      have hE := (wf_E h).2
      have hgG : g < wG W := by
        rcases isRw_iff.mp hrow with y | y <;> omega
      have en : noiOf W (8 + g) = wNo W g := by
        unfold noiOf
        rw [if_pos (by omega), Nat.add_sub_cancel_left]
      have e4 : M 117 (6 * lv + g) = (wNo W g : Int) := by rw [rw_noi hr g hgG, (wf_noi h g hg).1]
      rw [if_neg (fun q => q ((and1_eq1 (by omega) (by omega)).mpr z)), show w32 (w32 (w32 (14 * (k : Int)) + 8) + (g : Int)) = ((14 * k + (8 + g) : Nat) : Int) by
        rw [pu_w32 (x := 14 * (k : Int)) (by omega) (by omega), pu_w32 (x := 14 * (k : Int) + 8) (by omega) (by omega), pu_w32 (by omega) (by omega)]
        omega, if_pos (by omega), pu_nn, s3 (8 + g) (by omega), r_size (by omega), bJ_some, rw_live hr, show w32 (w32 (6 * (lv : Int)) + (g : Int)) = ((6 * lv + g : Nat) : Int) by
        rw [pu_w32 (x := 6 * (lv : Int)) (by omega) (by omega), pu_w32 (by omega) (by omega)]
        omega, if_pos (by omega), pu_nn, e4, en]
      rw [en] at b2
      rw [← Int.natCast_mul, pu_w64 (x := (((wt W (gd (TN W) k) (8 + g)).natAbs * wNo W g : Nat) : Int)) (by omega) (by omega), ← Int.natCast_add, pu_w64 (by omega) (by omega), pu_inc (by omega)]
    · rw [if_pos (fun q => z ((and1_eq1 (by omega) (by omega)).mp q)), wt_out (by rw [Bool.not_eq_true] at z; exact z), Int.natAbs_zero, Nat.zero_mul, pu_inc (by omega)]
      rfl)
  try dsimp only at key
  rw [show nsum (fun g => (wt W (gd (TN W) k) (8 + g)).natAbs * noiOf W (8 + g)) 0 = 0 from rfl, show ((0 : Nat) : Int) = 0 from rfl] at key
  rw [key, s_GaugeNetModel_boundOf_5, if_pos (by omega)]
  rfl
theorem r_isRinging (hr : RW lv W M) (hS : SR W M) (h : WF W) {k : Nat} (hk : k < (TN W).length) : gC 261 [rv 11 100, iv (k : Int)] M = some (iv (if rng W (gd (TN W) k) = true then 1 else 0), M) := by
  have b1 := nou_abs h (gd (TN W) k)
  have b2 := bnd_le h (gd (TN W) k)
  rw [e_GaugeNetModel_isRinging, r_noughtOf hr hS h hk, bJ_some, r_size (by omega), bJ_some, r_boundOf hr hS h hk, bJ_some]
  unfold rng
  by_cases z : bnd W (gd (TN W) k) < (nou W (gd (TN W) k)).natAbs
  · rw [if_neg (fun y => by have := lcmp_le.mp y; omega), if_pos (decide_eq_true z)]
  · rw [if_pos (lcmp_le.mpr (by omega)), if_neg (by rw [decide_eq_true_iff]; exact z)]
theorem r_weightIn (hr : RW lv W M) (hS : SR W M) (h : WF W) {k f : Nat} (hk : k < (TN W).length) (hf : f < wF W) : gC 263 [rv 11 100, iv (k : Int), iv (f : Int)] M = some (jv (wt W (gd (TN W) k) (wFr W f)), M) := by
  have hL := TN_len W
  have hs := TN_lt hk
  obtain ⟨s1, s2, s3⟩ := hS.2 k hk
  have hfr := (wf_frt h f hf).1
  rw [e_GaugeNetModel_weightIn, if_pos (by omega), r_faultRow hr h hf, bI_some, pu_nn, s1]
  by_cases z : (gd (TN W) k).testBit (wFr W f) = true
  · rw [if_neg (fun q => q ((and1_eq1 (by omega) (by omega)).mpr z)), r_faultRow hr h hf, bI_some, w32_14 (by omega) hfr, if_pos (by omega), pu_nn, s3 _ hfr]
  · rw [if_pos (fun q => z ((and1_eq1 (by omega) (by omega)).mp q)), wt_out (by rw [Bool.not_eq_true] at z; exact z)]
end RT
