/-! odds -/
def nzm (W : mM) (s g : Nat) : Nat := if s.testBit (8 + g) = true then noiOf W (8 + g) else 0
def wzg (W : mM) (s g : Nat) : Int := wt W s (8 + g)
theorem nzm_le {W : mM} (h : WF W) (s : Nat) {g : Nat} (hg : g < 6) : nzm W s g ≤ 3 := by
  unfold nzm
  split
  · exact noi_le h (by omega)
  · omega
def abvs (W : mM) (s : Nat) (add mark : Int) : Nat := nsum (abv (nzm W s) (wzg W s) add mark) (rdx (nzm W s) 6)
theorem zs_trm_step (m d : Nat → Nat) (w : Nat → Int) (n : Nat) : zs (trm m w d) n + zs (fun g => w g * ((stp m d g : Int) - (d g : Int))) n = zs (trm m w (stp m d)) n := by
  rw [← zs_add]
  apply zs_congr
  intro g _
  unfold trm
  rw [← Int.mul_add]
  congr 1
  omega
theorem abv_le (m : Nat → Nat) (w : Nat → Int) (a k : Int) (i : Nat) : abv m w a k i ≤ 1 := by
  unfold abv
  split <;> omega
section OD
variable {w : Nat} {W M : mM}
theorem c_countAbove (hc : CW w W M) (h : WF W) (hT : TR W M) {t : Nat} (ht : t < (TL W).length) (hz : M 15 t ≠ 0) {add mark : Int} (ha : add.natAbs ≤ 240541569437400) : ∃ M', gC 28 [rv 2 25, rv 9 w, rv 7 13, iv (t : Int), jv add, jv mark] M = some (iv (abvs W (gd (TL W) t) add mark : Int), M') ∧ ∀ o, (o < 26 ∨ 28 < o) → M' o = M o := by
  generalize hs : gd (TL W) t = s
  have hm : ∀ g, g < 6 → nzm W s g ≤ 3 := fun g hg => nzm_le h s hg
  have hwa : ∀ g, g < 6 → (wzg W s g).natAbs ≤ 24056562600 := fun g hg => wt_abs h s _
  have htb : ∀ i g, g < 6 → (trm (nzm W s) (wzg W s) (sq (nzm W s) i) g).natAbs ≤ 72169687800 := fun i g hg => trm_abs2 (hm g hg) (sq_le _ g i) (hwa g hg)
  have hzb : ∀ i g, g ≤ 6 → (zs (trm (nzm W s) (wzg W s) (sq (nzm W s) i)) g).natAbs ≤ 6 * 72169687800 := fun i g hg => Nat.le_trans (zs_le g (fun j hj => htb i j (by omega))) (Nat.mul_le_mul_right _ hg)
  rw [e_Noises_countAbove]
  have key := pu_rel (S := mM) (G := fun g M' => gA 28 10 [rv 2 25, rv 9 w, rv 7 13, iv (t : Int), none, none, jv mark, none, jv (add + zs (trm (nzm W s) (wzg W s) (sq (nzm W s) 0)) g), none, iv (rdx (nzm W s) g : Int), iv (g : Int), none] [] M') (I := fun g M' => (∀ o, (o < 26 ∨ 28 < o) → M' o = M o) ∧ ∀ j, j < g → M' 26 j = wzg W s j ∧ M' 27 j = (nzm W s j : Int) ∧ M' 28 j = - (nzm W s j : Int)) 6 (fun g M' hg hI => by
    obtain ⟨i1, i2⟩ := hI
    have hc1 : CW w W M' := CW_k hc (fun o ho => i1 o (by omega))
    have hT1 : TR W M' := TR_s hT (fun o h1 h2 => i1 o (by omega))
    have hz1 : M' 15 t ≠ 0 := by rw [i1 15 (by omega)]; exact hz
    have hmg := hm g hg
    have hwg := hwa g hg
    have b1 := hzb 0 g (by omega)
    have b2 := hzb 0 (g + 1) (by omega)
    have hr := rdx_le (m := nzm W s) g (fun j hj => hm j (by omega))
    have hr2 := rdx_le (m := nzm W s) (g + 1) (fun j hj => hm j (by omega))
    have h76 : 7 ^ (g + 1) ≤ 7 ^ 6 := Nat.pow_le_pow_right (by omega) (by omega)
    have h77 : (7 : Nat) ^ 6 = 117649 := by decide
    have e1 : zs (trm (nzm W s) (wzg W s) (sq (nzm W s) 0)) (g + 1) = zs (trm (nzm W s) (wzg W s) (sq (nzm W s) 0)) g + wzg W s g * - (nzm W s g : Int) := by
      rw [zs_1]
      show _ + wzg W s g * (((0 : Nat) : Int) - (nzm W s g : Int)) = _
      rw [show ((0 : Nat) : Int) - (nzm W s g : Int) = - (nzm W s g : Int) by omega]
    have hx : (wzg W s g * - (nzm W s g : Int)).natAbs ≤ 24056562600 * 3 := by
      rw [Int.natAbs_mul]
      exact Nat.mul_le_mul hwg (by omega)
    have e2 : ((rdx (nzm W s) (g + 1) : Nat) : Int) = (rdx (nzm W s) g : Int) * (2 * (nzm W s g : Int) + 1) := by
      rw [rdx]
      push_cast
      rfl
    have fin : ∀ (N : mM) (c : Int), c = (nzm W s g : Int) → (∀ o, o ≠ 26 → N o = M' o) → (∀ j, N 26 j = if j = g then wzg W s g else M' 26 j) → (fun N' => (∀ o, (o < 26 ∨ 28 < o) → N' o = M o) ∧ ∀ j, j < g + 1 → N' 26 j = wzg W s j ∧ N' 27 j = (nzm W s j : Int) ∧ N' 28 j = - (nzm W s j : Int)) (st (st N 27 g c) 28 g (-c)) := by
      intro N c hcc n1 n2
      refine ⟨fun o ho => by rw [st_ob (by omega), st_ob (by omega), n1 o (by omega)]; exact i1 o ho, fun j hj => ?_⟩
      rw [st_ob (show 26 ≠ 28 by omega), st_ob (show 26 ≠ 27 by omega), n2, st_ob (show 27 ≠ 28 by omega), st_if, st_if, st_ob (show 28 ≠ 27 by omega), n1 27 (by omega), n1 28 (by omega)]
      by_cases y : j = g
      · rw [if_pos y, if_pos y, if_pos y, y, hcc]
        exact ⟨rfl, rfl, rfl⟩
      · rw [if_neg y, if_neg y, if_neg y]
        exact i2 j (by omega)
    have e8 : (8 : Int) + (g : Int) = ((8 + g : Nat) : Int) := by omega
    have hwz : wt W s (8 + g) = wzg W s g := rfl
    have hR : (0 : Int) ≤ (g : Int) ∧ (g : Int) < 6 := by omega
    try dsimp only
    rw [s_Noises_countAbove_10, if_neg (by omega), pu_w32 (x := 8 + (g : Int)) (by omega) (by omega), e8, c_weightOf hT1 ht hz1 (by omega), bJ_some, if_pos hR, pu_nn, hs, hwz]
    have hT2 : TR W (st M' 26 g (wzg W s g)) := TR_s hT1 (fun o h1 h2 => st_ob (by omega))
    have hc2 : CW w W (st M' 26 g (wzg W s g)) := CW_k hc1 (fun o ho => st_ob (by omega))
    rw [c_hasRow hT2 ht, bI_some, hB_nat, ite01_0, hs, e1, e2]
    by_cases z : s.testBit (8 + g) = true
    · have em : noiOf W (8 + g) = nzm W s g := by
        unfold nzm
        rw [if_pos z]
      rw [if_pos z, c_noiseOf hc2 h (8 + g) (by omega), bI_some, if_pos hR, if_pos hR, if_pos hR, if_pos hR, if_pos hR, if_pos hR, em, st_same (st M' 26 g (wzg W s g)) 27 g, pu_w32 (x := - (nzm W s g : Int)) (by omega) (by omega), st_same (st (st M' 26 g (wzg W s g)) 27 g (nzm W s g : Int)) 28 g, st_ob (show 27 ≠ 28 by omega), st_same (st M' 26 g (wzg W s g)) 27 g, st_ob (show 26 ≠ 28 by omega), st_ob (show 26 ≠ 27 by omega), st_same M' 26 g, pu_w64 (x := wzg W s g * - (nzm W s g : Int)) (by omega) (by omega), pu_w64 (by omega) (by omega), pu_w32 (x := 2 * (nzm W s g : Int)) (by omega) (by omega), pu_w32 (x := 2 * (nzm W s g : Int) + 1) (by omega) (by omega), pu_w32 (x := (rdx (nzm W s) g : Int) * (2 * (nzm W s g : Int) + 1)) (by omega) (by omega), pu_inc (by omega), Int.add_assoc]
      exact ⟨_, fin _ _ rfl (fun o ho => st_ob ho) (fun j => st_if _ _ _ _ _), rfl⟩
    · have em : nzm W s g = 0 := by
        unfold nzm
        rw [if_neg z]
      have em2 : (0 : Int) = (nzm W s g : Int) := by rw [em]; rfl
      rw [if_neg z, if_pos hR, if_pos hR, if_pos hR, if_pos hR, if_pos hR, if_pos hR, em2, st_same (st M' 26 g (wzg W s g)) 27 g, pu_w32 (x := - (nzm W s g : Int)) (by omega) (by omega), st_same (st (st M' 26 g (wzg W s g)) 27 g (nzm W s g : Int)) 28 g, st_ob (show 27 ≠ 28 by omega), st_same (st M' 26 g (wzg W s g)) 27 g, st_ob (show 26 ≠ 28 by omega), st_ob (show 26 ≠ 27 by omega), st_same M' 26 g, pu_w64 (x := wzg W s g * - (nzm W s g : Int)) (by omega) (by omega), pu_w64 (by omega) (by omega), pu_w32 (x := 2 * (nzm W s g : Int)) (by omega) (by omega), pu_w32 (x := 2 * (nzm W s g : Int) + 1) (by omega) (by omega), pu_w32 (x := (rdx (nzm W s) g : Int) * (2 * (nzm W s g : Int) + 1)) (by omega) (by omega), pu_inc (by omega), Int.add_assoc]
      exact ⟨_, fin _ _ rfl (fun o ho => st_ob ho) (fun j => st_if _ _ _ _ _), rfl⟩) 0 M (Nat.zero_le _) ⟨fun _ _ => rfl, fun j hj => absurd hj (Nat.not_lt_zero j)⟩
  obtain ⟨M1, ⟨k1, k2⟩, k3⟩ := key
  try dsimp only at k3
  rw [show zs (trm (nzm W s) (wzg W s) (sq (nzm W s) 0)) 0 = 0 from rfl, Int.add_zero, show ((rdx (nzm W s) 0 : Nat) : Int) = 1 from rfl, show ((0 : Nat) : Int) = 0 from rfl] at k3
  rw [k3, s_Noises_countAbove_10, if_pos (by omega)]
  have hr6 := rdx_le (m := nzm W s) 6 (fun j hj => hm j (by omega))
  have h77 : (7 : Nat) ^ 6 = 117649 := by decide
  have key := pu_rel (S := mM) (G := fun i M' => gA 28 129 [rv 2 25, none, none, none, none, none, jv mark, none, jv (add + zs (trm (nzm W s) (wzg W s) (sq (nzm W s) i)) 6), none, iv (rdx (nzm W s) 6 : Int), iv (nsum (abv (nzm W s) (wzg W s) add mark) i : Int), iv (i : Int)] [] M') (I := fun i M' => (∀ o, (o < 26 ∨ 28 < o) → M' o = M o) ∧ ∀ j, j < 6 → M' 26 j = wzg W s j ∧ M' 27 j = (nzm W s j : Int) ∧ M' 28 j = (sq (nzm W s) i j : Int) - (nzm W s j : Int)) (rdx (nzm W s) 6) (fun i M' hi hI => by
    obtain ⟨i1, i2⟩ := hI
    have b1 := hzb i 6 (by omega)
    have b2 := hzb (i + 1) 6 (by omega)
    have hn := nsum_le (f := abv (nzm W s) (wzg W s) add mark) (c := 1) i (fun j _ => abv_le _ _ _ _ j)
    obtain ⟨M2, a1, a2, a3⟩ := c_step (m := nzm W s) (d := sq (nzm W s) i) (w := wzg W s) M' hm (fun g _ => sq_le _ g i) hwa (fun g hg => (i2 g hg).1) (fun g hg => (i2 g hg).2.1) (fun g hg => (i2 g hg).2.2)
    have e1 := zs_trm_step (nzm W s) (sq (nzm W s) i) (wzg W s) 6
    have e1 : zs (trm (nzm W s) (wzg W s) (sq (nzm W s) i)) 6 + zs (fun g => wzg W s g * ((stp (nzm W s) (sq (nzm W s) i) g : Int) - (sq (nzm W s) i g : Int))) 6 = zs (trm (nzm W s) (wzg W s) (sq (nzm W s) (i + 1))) 6 := e1
    have e3 : add + zs (trm (nzm W s) (wzg W s) (sq (nzm W s) i)) 6 + zs (fun g => wzg W s g * ((stp (nzm W s) (sq (nzm W s) i) g : Int) - (sq (nzm W s) i g : Int))) 6 = add + zs (trm (nzm W s) (wzg W s) (sq (nzm W s) (i + 1))) 6 := by rw [← e1, Int.add_assoc]
    have fin : (∀ o, (o < 26 ∨ 28 < o) → M2 o = M o) ∧ ∀ j, j < 6 → M2 26 j = wzg W s j ∧ M2 27 j = (nzm W s j : Int) ∧ M2 28 j = (sq (nzm W s) (i + 1) j : Int) - (nzm W s j : Int) := by
      refine ⟨fun o ho => by rw [a2 o (by omega)]; exact i1 o ho, fun j hj => ?_⟩
      rw [a2 26 (by omega), a2 27 (by omega)]
      exact ⟨(i2 j hj).1, (i2 j hj).2.1, a3 j hj⟩
    try dsimp only
    rw [s_Noises_countAbove_129, if_neg (by omega), abs64_nat (by omega), a1, bJ_some, bJ_some, e3, pu_w64 (x := add + zs (trm (nzm W s) (wzg W s) (sq (nzm W s) (i + 1))) 6) (by omega) (by omega), pu_inc (i := i) (by omega), nsum_1]
    by_cases z : mark < ((add + zs (trm (nzm W s) (wzg W s) (sq (nzm W s) i)) 6).natAbs : Int)
    · have ea : abv (nzm W s) (wzg W s) add mark i = 1 := by
        unfold abv
        rw [if_pos z]
      rw [if_neg (fun q => by have := lcmp_le.mp q; omega), ea, pu_inc (by omega)]
      exact ⟨M2, fin, rfl⟩
    · have ea : abv (nzm W s) (wzg W s) add mark i = 0 := by
        unfold abv
        rw [if_neg z]
      rw [if_pos (lcmp_le.mpr (by omega)), ea, Int.add_zero, Nat.add_zero (nsum (abv (nzm W s) (wzg W s) add mark) i), pu_w32 (x := (nsum (abv (nzm W s) (wzg W s) add mark) i : Int)) (by omega) (by omega)]
      exact ⟨M2, fin, rfl⟩) 0 M1 (Nat.zero_le _) ⟨k1, fun j hj => by
      obtain ⟨q1, q2, q3⟩ := k2 j hj
      refine ⟨q1, q2, ?_⟩
      rw [q3]
      show _ = ((0 : Nat) : Int) - _
      omega⟩
  obtain ⟨M2, ⟨l1, l2⟩, l3⟩ := key
  try dsimp only at l3
  rw [show nsum (abv (nzm W s) (wzg W s) add mark) 0 = 0 from rfl, show ((0 : Nat) : Int) = 0 from rfl] at l3
  rw [l3, s_Noises_countAbove_129, if_pos (Int.le_refl _)]
  exact ⟨M2, rfl, l1⟩
end OD
