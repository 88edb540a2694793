/-! The reference's minors. -/
theorem popb {S m : Nat} (hS : S < 2 ^ m) (hm : m ≤ 8) : S < 256 ∧ pop 20 S = pop 8 S := by
  have h256 : S < 2 ^ 8 := Nat.lt_of_lt_of_le hS (Nat.pow_le_pow_right (by omega) hm)
  exact ⟨h256, pop_ext h256 (by omega)⟩
theorem sg_mod (n : Nat) : (if n % 2 = 1 then (1 : Int) else -1) = sg (n + 1) := by
  unfold sg
  by_cases z : n % 2 = 1
  · rw [if_pos z, if_pos (by omega)]
  · rw [if_neg z, if_neg (by omega)]
section RM
variable {lv : Nat} {W M : mM}
theorem nb_lt {W : mM} (h : WF W) {s j : Nat} (hj : j < mny W s) : sl (nbW W s) j 7 < wU W ∧ sl (nbW W s) j 7 < 7 := by
  have h1 := sl_spec (nbW W s) j 7 hj
  refine ⟨?_, h1.1⟩
  have h2 : nbW W s < 2 ^ wU W := nbr_lt (wH_lt h) 14 s
  exact tb_in h2 h1.2.1
theorem row_is {W : mM} {s k : Nat} (hs : sbs s (told W)) (hk : k < pop 14 s) : sl s k 14 < 14 ∧ isRw W (sl s k 14) = true := by
  have h1 := sl_spec s k 14 hk
  refine ⟨h1.1, ?_⟩
  have h2 := hs _ h1.2.1
  rw [told_tb, Bool.and_eq_true] at h2
  exact h2.2
theorem r_minorLine (hr : RW lv W M) (h : WF W) {s left S k : Nat} (hs : sbs s (told W)) (hn : pop 14 s = mny W s + 1) (h131 : ∀ i, i < pop 14 s → M 131 i = (sl s i 14 : Int)) (h132 : ∀ u, u < mny W s → M 132 u = (sl (nbW W s) u 7 : Int)) (hS : S < 2 ^ mny W s) (hk : pop 8 S = k + 1) (h133 : ∀ T, T < S → M 133 T = om (skp (vec W s) left) (pop 8 T) T) : gA 227 104 [rv 11 100, none, iv (left : Int), iv (mny W s : Int), iv (S : Int), none, iv (sl s (if k < left then k else k + 1) 14 : Int), iv (sg (pop 8 S + 1)), jv 0, none, iv 0] [] M = gA 227 41 [rv 11 100, none, iv (left : Int), iv (mny W s : Int), iv ((S + 1 : Nat) : Int), none, none, none, none, none, none] [] (st M 133 S (om (skp (vec W s) left) (pop 8 S) S)) := by
  have hm := mny_le W s
  have hpS := popb hS (by omega)
  have hkm : k + 1 ≤ mny W s := by
    have : pop 8 S ≤ pop (mny W s) S := by rw [pop_ext hS (by omega)]; exact Nat.le_refl _
    have := pop_le (mny W s) S
    omega
  have hki : (if k < left then k else k + 1) < pop 14 s := by split <;> omega
  have hB : ∀ u, u < 8 → S.testBit u = true → pop 8 (bdiff S (2 ^ u)) = k ∧ bdiff S (2 ^ u) < S ∧ (om (skp (vec W s) left) k (bdiff S (2 ^ u))).natAbs ≤ 24056562600 := by
    intro u hu hb
    have h1 := pop_del (a := S) (r := u) (k := 8) hb hu
    have h2 := bdiff_le S (2 ^ u)
    have h3 := del_ne hb
    refine ⟨by omega, by omega, ?_⟩
    have h4 := om_abs (v := skp (vec W s) left) (skp_abs (vec_abs h s) left) k (bdiff S (2 ^ u)) (by omega) (by omega)
    have h5 := Bd_le k (by omega)
    omega
  have hcf : ∀ j, j < 8 → (cf (om (skp (vec W s) left) k) S j * skp (vec W s) left k j).natAbs ≤ 24056562600 * 9 := by
    intro j hj
    rw [Int.natAbs_mul]
    refine Nat.mul_le_mul ?_ (skp_abs (vec_abs h s) left k j)
    unfold cf
    split
    · rename_i hb
      rw [natAbs_sg]
      exact (hB j hj hb).2.2
    · exact Nat.zero_le _
  have hwb : ∀ u, u ≤ 8 → (wgs (skp (vec W s) left k) (om (skp (vec W s) left) k) S u).natAbs ≤ 8 * (24056562600 * 9) := by
    intro u hu
    rw [wgs_zs]
    exact Nat.le_trans (zs_le u (fun j hj => hcf j (by omega))) (Nat.mul_le_mul_right _ hu)
  have key := pu_up (fun u : Nat => gA 227 104 [rv 11 100, none, iv (left : Int), iv (mny W s : Int), iv (S : Int), none, iv (sl s (if k < left then k else k + 1) 14 : Int), iv (sg (pop 8 S + 1 + pop u S)), jv (wgs (skp (vec W s) left k) (om (skp (vec W s) left) k) S u), none, iv (u : Int)] [] M) (mny W s) (fun u hu => by
    try dsimp only
    have hu7 := nb_lt h hu
    have hri := row_is hs hki
    have b1 := hwb u (by omega)
    have b2 := hwb (u + 1) (by omega)
    rw [s_GaugeNetModel_minorWithout_104, if_neg (by omega)]
    by_cases z : S.testBit u = true
    · have hbu := hB u (by omega) z
      have hw : W 1 (sl s (if k < left then k else k + 1) 14 * 7 + sl (nbW W s) u 7) = skp (vec W s) left k u := rfl
      have h9 := skp_abs (vec_abs h s) left k u
      have e1 : pop (u + 1) S = pop u S + 1 := by
        show pop u S + (if S.testBit u = true then 1 else 0) = _
        rw [if_pos z]
      have e2 : sg (pop 8 S + 1 + pop (u + 1) S) = - sg (pop 8 S + 1 + pop u S) := by
        rw [e1, ← Nat.add_assoc, sg_succ]
      have e3 : wgs (skp (vec W s) left k) (om (skp (vec W s) left) k) S (u + 1) = wgs (skp (vec W s) left k) (om (skp (vec W s) left) k) S u + sg (pop 8 S + 1 + pop u S) * (skp (vec W s) left k u * om (skp (vec W s) left) k (bdiff S (2 ^ u))) := by
        show wgs (skp (vec W s) left k) (om (skp (vec W s) left) k) S u + (if S.testBit u = true then _ else _) = _
        rw [if_pos z]
      have e4 : M 133 (bdiff S (2 ^ u)) = om (skp (vec W s) left) k (bdiff S (2 ^ u)) := by rw [h133 _ hbu.2.1, hbu.1]
      have hx : (sg (pop 8 S + 1 + pop u S) * skp (vec W s) left k u).natAbs ≤ 9 := by rw [natAbs_sg]; exact h9
      have hy : (sg (pop 8 S + 1 + pop u S) * skp (vec W s) left k u * om (skp (vec W s) left) k (bdiff S (2 ^ u))).natAbs ≤ 9 * 24056562600 := by
        rw [Int.natAbs_mul]
        exact Nat.mul_le_mul hx hbu.2.2
      rw [if_pos (fun q => by rw [and1_eq0 (by omega) (by omega)] at q; rw [q] at z; exact Bool.false_ne_true z), if_pos (by omega), pu_nn, h132 u hu, r_numberOf hr h hri.2 hu7.1, bI_some, andnot1 (by omega) (by omega), if_pos (by omega), pu_nn, e4, hw, pu_inc (by omega), e2, e3, ← Int.mul_assoc]
      have hsg := sg_1 (pop 8 S + 1 + pop u S)
      rw [pu_w32 (x := sg (pop 8 S + 1 + pop u S) * skp (vec W s) left k u) (by omega) (by omega), pu_w64 (x := sg (pop 8 S + 1 + pop u S) * skp (vec W s) left k u * om (skp (vec W s) left) k (bdiff S (2 ^ u))) (by omega) (by omega), pu_w32 (x := - sg (pop 8 S + 1 + pop u S)) (by omega) (by omega), pu_w64 (by omega) (by omega)]
    · have e1 : pop (u + 1) S = pop u S := by
        show pop u S + (if S.testBit u = true then 1 else 0) = _
        rw [if_neg z]
        exact Nat.add_zero _
      have e3 : wgs (skp (vec W s) left k) (om (skp (vec W s) left) k) S (u + 1) = wgs (skp (vec W s) left k) (om (skp (vec W s) left) k) S u := by
        show wgs (skp (vec W s) left k) (om (skp (vec W s) left) k) S u + (if S.testBit u = true then _ else _) = _
        rw [if_neg z, Int.add_zero]
      rw [if_neg (fun q => q ((and1_eq0 (by omega) (by omega)).mpr (by rw [Bool.not_eq_true] at z; exact z))), pu_inc (by omega), e1, e3])
  try dsimp only at key
  rw [show wgs (skp (vec W s) left k) (om (skp (vec W s) left) k) S 0 = 0 from rfl, show pop 0 S = 0 from rfl, show ((0 : Nat) : Int) = 0 from rfl, Nat.add_zero] at key
  rw [key, s_GaugeNetModel_minorWithout_104, if_pos (by omega), if_pos (by omega), pu_nn, pu_inc (by omega), hk]
  have e : om (skp (vec W s) left) (k + 1) S = wgs (skp (vec W s) left k) (om (skp (vec W s) left) k) S (mny W s) := by
    show wg (skp (vec W s) left k) (om (skp (vec W s) left) k) S = _
    rw [wg_zs _ _ hS (by omega), wgs_zs]
  rw [e]
theorem r_minorWithout (hr : RW lv W M) (h : WF W) {s left : Nat} (hs : sbs s (told W)) (hn : pop 14 s = mny W s + 1) (h131 : ∀ i, i < pop 14 s → M 131 i = (sl s i 14 : Int)) (h132 : ∀ u, u < mny W s → M 132 u = (sl (nbW W s) u 7 : Int)) (hl : left < pop 14 s) : ∃ M', gC 227 [rv 11 100, iv (pop 14 s : Int), iv (left : Int)] M = some (jv (mi W s left), M') ∧ ∀ o, o ≠ 133 → M' o = M o := by
  have hm := mny_le W s
  have hp1 : 1 ≤ 2 ^ mny W s := Nat.one_le_two_pow
  have hp2 : 2 ^ mny W s ≤ 128 := Nat.le_trans (Nat.pow_le_pow_right (by omega) hm) (Nat.le_refl 128)
  rw [e_GaugeNetModel_minorWithout, pu_w32 (x := (pop 14 s : Int) - 1) (by omega) (by omega), show (pop 14 s : Int) - 1 = (mny W s : Int) by omega]
  have key := pu_rel (S := mM) (G := fun S M' => gA 227 7 [rv 11 100, none, iv (left : Int), iv (mny W s : Int), iv (S : Int), none, none, none, none, none, none] [] M') (I := fun S M' => (∀ o, o ≠ 133 → M' o = M o) ∧ (0 < S → M' 133 0 = 1)) (2 ^ mny W s) (fun S M' hS hI => by
    obtain ⟨i1, i2⟩ := hI
    try dsimp only
    rw [s_GaugeNetModel_minorWithout_7, shl32_one (by omega), if_neg (by omega), pu_nn, pu_inc (by omega)]
    by_cases z : S = 0
    · subst z
      rw [if_neg (by omega), if_pos (by omega)]
      exact ⟨_, ⟨fun o ho => by rw [st_ob ho]; exact i1 o ho, fun _ => st_same _ _ _ _⟩, rfl⟩
    · rw [if_pos (by omega), if_pos (by omega)]
      exact ⟨_, ⟨fun o ho => by rw [st_ob ho]; exact i1 o ho, fun _ => by rw [st_nk (by omega)]; exact i2 (by omega)⟩, rfl⟩) 0 M (Nat.zero_le _) ⟨fun _ _ => rfl, fun z => absurd z (Nat.lt_irrefl 0)⟩
  obtain ⟨M1, ⟨a1, a2⟩, a3⟩ := key
  try dsimp only at a3
  rw [show ((0 : Nat) : Int) = 0 from rfl] at a3
  rw [a3, s_GaugeNetModel_minorWithout_7, shl32_one (by omega), if_pos (by omega)]
  have key := pu_rel (S := mM) (G := fun S M' => gA 227 41 [rv 11 100, none, iv (left : Int), iv (mny W s : Int), iv ((S + 1 : Nat) : Int), none, none, none, none, none, none] [] M') (I := fun S M' => (∀ o, o ≠ 133 → M' o = M o) ∧ ∀ T, T < S + 1 → M' 133 T = om (skp (vec W s) left) (pop 8 T) T) (2 ^ mny W s - 1) (fun S M' hS hI => by
    obtain ⟨i1, i2⟩ := hI
    have hr1 : RW lv W M' := RW_k hr ⟨fun o h1 h2 => i1 o (by omega), fun k hk => by rw [i1 100 (by omega)]⟩
    have hb := popb (S := S + 1) (m := mny W s) (by omega) (by omega)
    have hpos : pop 8 (S + 1) ≠ 0 := fun z => by
      have := pop_pos (k := 8) (a := S + 1) (by omega) z
      omega
    obtain ⟨k, hk⟩ : ∃ k, pop 8 (S + 1) = k + 1 := ⟨pop 8 (S + 1) - 1, by omega⟩
    have hk8 := pop_le 8 (S + 1)
    have e1 : w32 ((pop 8 (S + 1) : Nat) - (1 : Int)) = (k : Int) := by rw [hk, pu_w32 (by omega) (by omega)]; omega
    have hkm : k + 1 ≤ mny W s := by
      have : pop 8 (S + 1) ≤ pop (mny W s) (S + 1) := by rw [pop_ext (show S + 1 < 2 ^ mny W s by omega) (by omega)]; exact Nat.le_refl _
      have := pop_le (mny W s) (S + 1)
      omega
    have L := r_minorLine hr1 h hs hn (left := left) (S := S + 1) (k := k) (fun i hi => by rw [i1 131 (by omega)]; exact h131 i hi) (fun u hu => by rw [i1 132 (by omega)]; exact h132 u hu) (by omega) hk i2
    try dsimp only
    rw [s_GaugeNetModel_minorWithout_41, shl32_one (by omega), if_neg (by omega), r_bits (by omega), bI_some, hb.2, e1, pu_inc (by omega)]
    rw [← sg_mod] at L
    refine ⟨st M' 133 (S + 1) (om (skp (vec W s) left) (pop 8 (S + 1)) (S + 1)), ⟨fun o ho => by rw [st_ob ho]; exact i1 o ho, fun T hT => ?_⟩, ?_⟩
    · rw [st_if]
      by_cases z : T = S + 1
      · rw [if_pos z, z]
      · rw [if_neg z]
        exact i2 T (by omega)
    · rw [← L]
      have em : ((pop 8 (S + 1) : Nat) : Int).tmod 2 = ((pop 8 (S + 1) % 2 : Nat) : Int) := rfl
      by_cases z : k < left
      · rw [if_neg (by omega), if_pos (by omega), r_bits (by omega), bI_some, hb.2, em, pu_nn, if_pos z, i1 131 (by omega), h131 k (by omega)]
        by_cases y : pop 8 (S + 1) % 2 = 1
        · rw [if_neg (by omega), if_pos y]
        · rw [if_pos (by omega), if_neg y]
      · rw [if_pos (by omega), if_pos (by omega), r_bits (by omega), bI_some, hb.2, em, pu_nn, if_neg z, i1 131 (by omega), h131 (k + 1) (by omega)]
        by_cases y : pop 8 (S + 1) % 2 = 1
        · rw [if_neg (by omega), if_pos y]
        · rw [if_pos (by omega), if_neg y]) 0 M1 (Nat.zero_le _) ⟨a1, fun T hT => by
        rw [show T = 0 by omega, a2 (by omega)]
        rfl⟩
  obtain ⟨M2, ⟨b1, b2⟩, b3⟩ := key
  try dsimp only at b3
  rw [show ((0 + 1 : Nat) : Int) = 1 from rfl, show 2 ^ mny W s - 1 + 1 = 2 ^ mny W s by omega] at b3
  have e2 : w32 (shl32 1 (mny W s : Int) - 1) = ((2 ^ mny W s - 1 : Nat) : Int) := by
    rw [shl32_one (by omega), pu_w32 (by omega) (by omega)]
    omega
  rw [b3, s_GaugeNetModel_minorWithout_41, e2, shl32_one (by omega), if_pos (by omega), if_pos (by omega), pu_nn, b2 _ (by omega), (pop_ones (mny W s) (by omega)).1]
  exact ⟨M2, rfl, b1⟩
end RM
