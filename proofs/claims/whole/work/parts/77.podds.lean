/-! odds in the reference, and the call -/
section OR
variable {lv : Nat} {W M : mM}
theorem r_noise (hr : RW lv W M) (hS : SR W M) (h : WF W) {k g : Nat} (hk : k < (TN W).length) (hg : g < 6) : gC 265 [rv 11 100, iv (k : Int), iv (g : Int)] M = some (iv (nzm W (gd (TN W) k) g : Int), M) := by
  have hL := TN_len W
  have hs := TN_lt hk
  have hlv := rw_lv hr
  obtain ⟨s1, s2, s3⟩ := hS.2 k hk
  rw [e_GaugeNetModel_noise, if_pos (by omega), pu_nn, s1, pu_w32 (x := 8 + (g : Int)) (by omega) (by omega), show 8 + (g : Int) = ((8 + g : Nat) : Int) by omega]
  unfold nzm
  by_cases z : (gd (TN W) k).testBit (8 + g) = true
  · obtain ⟨_, hrow⟩ := TN_row hk z
    have hE := (wf_E h).2
    have hgG : g < wG W := by
      rcases isRw_iff.mp hrow with y | y <;> omega
    have en : noiOf W (8 + g) = wNo W g := by
      unfold noiOf
      rw [if_pos (by omega), Nat.add_sub_cancel_left]
    rw [if_neg (fun q => q ((and1_eq1 (by omega) (by omega)).mpr z)), rw_live hr, show w32 (w32 (6 * (lv : Int)) + (g : Int)) = ((6 * lv + g : Nat) : Int) by
      rw [pu_w32 (x := 6 * (lv : Int)) (by omega) (by omega), pu_w32 (by omega) (by omega)]
      omega, if_pos (by omega), pu_nn, rw_noi hr g hgG, (wf_noi h g hg).1, if_pos z, en]
  · rw [if_pos (fun q => z ((and1_eq1 (by omega) (by omega)).mp q)), if_neg z]
    rfl
theorem r_wrap (hr : RW lv W M) (hS : SR W M) (h : WF W) {k : Nat} (hk : k < (TN W).length) {d : Nat → Nat} (hd : ∀ g, g < 6 → d g ≤ 2 * nzm W (gd (TN W) k) g) (by' mark x8 : Int) (hrs : ∀ N, (∀ o, o ≠ 135 → N o = M o) → RW lv W N ∧ SR W N) (h135 : ∀ g, g < 6 → M 135 g = (d g : Int) - (nzm W (gd (TN W) k) g : Int)) : ∃ (M' : mM) (p : Nat), gA 264 193 [rv 11 100, iv (k : Int), none, none, jv mark, none, jv by', none, iv x8, iv 0, none, none, none] [] M = gA 264 102 [rv 11 100, iv (k : Int), none, none, jv mark, none, jv by', none, iv x8, iv (p : Int), none, none, none] [] M' ∧ (∀ o, o ≠ 135 → M' o = M o) ∧ (p < 6 ∨ (p = 6 ∧ ∀ g, g < 6 → d g = 2 * nzm W (gd (TN W) k) g)) ∧ (p < 6 → ∃ g, g < 6 ∧ d g ≠ 2 * nzm W (gd (TN W) k) g) ∧ ∀ g, g < 6 → M' 135 g = (stp (nzm W (gd (TN W) k)) d g : Int) - (nzm W (gd (TN W) k) g : Int) := by
  generalize hm : nzm W (gd (TN W) k) = m at hd h135
  have hm3 : ∀ g, g < 6 → m g ≤ 3 := fun g hg => by rw [← hm]; exact nzm_le h _ hg
  refine pu_exit (S := mM) (G := fun g M' => gA 264 193 [rv 11 100, iv (k : Int), none, none, jv mark, none, jv by', none, iv x8, iv (g : Int), none, none, none] [] M') (I := fun g M' => (∀ j, j < g → d j = 2 * m j) ∧ (∀ o, o ≠ 135 → M' o = M o) ∧ ∀ j, j < 6 → M' 135 j = if j < g then - (m j : Int) else (d j : Int) - (m j : Int)) (Q := fun o => ∃ (M' : mM) (p : Nat), o = gA 264 102 [rv 11 100, iv (k : Int), none, none, jv mark, none, jv by', none, iv x8, iv (p : Int), none, none, none] [] M' ∧ (∀ o, o ≠ 135 → M' o = M o) ∧ (p < 6 ∨ (p = 6 ∧ ∀ g, g < 6 → d g = 2 * m g)) ∧ (p < 6 → ∃ g, g < 6 ∧ d g ≠ 2 * m g) ∧ ∀ g, g < 6 → M' 135 g = (stp m d g : Int) - (m g : Int)) 6 (fun g M' hg hI => ?_) (fun M' hI => ?_) 0 M (Nat.zero_le _) ⟨fun j hj => absurd hj (Nat.not_lt_zero j), fun _ _ => rfl, fun j hj => by rw [if_neg (Nat.not_lt_zero j)]; exact h135 j hj⟩
  · obtain ⟨i1, i2, i3⟩ := hI
    obtain ⟨hr1, hS1⟩ := hrs M' i2
    have e135 : M' 135 g = (d g : Int) - (m g : Int) := by rw [i3 g hg, if_neg (Nat.lt_irrefl g)]
    have hmg := hm3 g hg
    have hdg := hd g hg
    have es := stp_at (m := m) (d := d) (g := g) i1
    try dsimp only
    rw [s_GaugeNetModel_odds_193, if_neg (by omega), if_pos (by omega), r_noise hr1 hS1 h hk hg, bI_some, pu_nn, e135, hm]
    by_cases z : d g = 2 * m g
    · rw [if_pos z] at es
      rw [if_neg (fun q => q (by omega)), r_noise hr1 hS1 h hk hg, bI_some, if_pos (by omega), hm, pu_w32 (x := - (m g : Int)) (by omega) (by omega), pu_inc (by omega)]
      refine Or.inr ⟨_, ⟨fun j hj => ?_, fun o ho => by rw [st_ob ho]; exact i2 o ho, fun j hj => ?_⟩, rfl⟩
      · by_cases y : j = g
        · rw [y]; exact z
        · exact i1 j (by omega)
      · rw [st_if]
        by_cases y : j = g
        · rw [if_pos y, y, if_pos (Nat.lt_succ_self g)]
        · rw [if_neg y, i3 j hj]
          by_cases x : j < g
          · rw [if_pos x, if_pos (show j < g + 1 by omega)]
          · rw [if_neg x, if_neg (show ¬ j < g + 1 by omega)]
    · rw [if_neg z] at es
      rw [if_pos (by omega), if_neg (by omega), if_pos (by omega), if_pos (by omega), pu_w32 (x := (d g : Int) - (m g : Int) + 1) (by omega) (by omega)]
      refine Or.inl ⟨_, g, rfl, fun o ho => by rw [st_ob ho]; exact i2 o ho, Or.inl hg, fun _ => ⟨g, hg, z⟩, fun j hj => ?_⟩
      rw [st_if]
      by_cases y : j = g
      · rw [if_pos y, y, es]
        omega
      · rw [if_neg y, i3 j hj]
        by_cases x : j < g
        · have := i1 j x
          rw [if_pos x, stp_at (fun i hi => i1 i (by omega)), if_pos this]
          omega
        · rw [if_neg x, stp_past (show g < j by omega) z]
  · obtain ⟨i1, i2, i3⟩ := hI
    try dsimp only
    rw [s_GaugeNetModel_odds_193, if_pos (by omega), if_pos (by omega)]
    refine ⟨M', 6, rfl, i2, Or.inr ⟨rfl, i1⟩, fun q => absurd q (Nat.lt_irrefl 6), fun j hj => ?_⟩
    rw [i3 j hj, if_pos hj, stp_at (fun i hi => i1 i (by omega)), if_pos (i1 j hj)]
    omega
theorem r_sumUp (hr : RW lv W M) (hS : SR W M) (h : WF W) {k : Nat} (hk : k < (TN W).length) {d : Nat → Nat} (hd : ∀ g, g < 6 → d g ≤ 2 * nzm W (gd (TN W) k) g) {add : Int} (ha : add.natAbs ≤ 240541569437400) (mark x8 : Int) (h135 : ∀ g, g < 6 → M 135 g = (d g : Int) - (nzm W (gd (TN W) k) g : Int)) : gA 264 116 [rv 11 100, iv (k : Int), none, none, jv mark, none, jv add, none, iv x8, none, jv add, none, iv 0] [] M = gA 264 193 [rv 11 100, iv (k : Int), none, none, jv mark, none, jv add, none, iv (if mark < ((add + zs (trm (nzm W (gd (TN W) k)) (wzg W (gd (TN W) k)) d) 6).natAbs : Int) then w32 (x8 + 1) else x8), iv 0, none, none, none] [] M := by
  have hL := TN_len W
  have hs := TN_lt hk
  obtain ⟨s1, s2, s3⟩ := hS.2 k hk
  have hm : ∀ g, g < 6 → nzm W (gd (TN W) k) g ≤ 3 := fun g hg => nzm_le h _ hg
  have hwa : ∀ g, g < 6 → (wzg W (gd (TN W) k) g).natAbs ≤ 24056562600 := fun g hg => wt_abs h _ _
  have htb : ∀ g, g < 6 → (trm (nzm W (gd (TN W) k)) (wzg W (gd (TN W) k)) d g).natAbs ≤ 72169687800 := fun g hg => trm_abs2 (hm g hg) (hd g hg) (hwa g hg)
  have hzb : ∀ g, g ≤ 6 → (zs (trm (nzm W (gd (TN W) k)) (wzg W (gd (TN W) k)) d) g).natAbs ≤ 6 * 72169687800 := fun g hg => Nat.le_trans (zs_le g (fun j hj => htb j (by omega))) (Nat.mul_le_mul_right _ hg)
  have key := pu_up (fun g : Nat => gA 264 116 [rv 11 100, iv (k : Int), none, none, jv mark, none, jv add, none, iv x8, none, jv (add + zs (trm (nzm W (gd (TN W) k)) (wzg W (gd (TN W) k)) d) g), none, iv (g : Int)] [] M) 6 (fun g hg => by
    have b1 := hzb g (by omega)
    have b2 := hzb (g + 1) (by omega)
    have b3 := htb g hg
    try dsimp only
    rw [s_GaugeNetModel_odds_116, if_neg (by omega), if_pos (by omega), pu_nn, s1, pu_w32 (x := 8 + (g : Int)) (by omega) (by omega), show 8 + (g : Int) = ((8 + g : Nat) : Int) by omega]
    rw [zs_1] at b2 ⊢
    by_cases z : (gd (TN W) k).testBit (8 + g) = true
    · have et : wt W (gd (TN W) k) (8 + g) * ((d g : Int) - (nzm W (gd (TN W) k) g : Int)) = trm (nzm W (gd (TN W) k)) (wzg W (gd (TN W) k)) d g := rfl
      rw [if_neg (fun q => q ((and1_eq1 (by omega) (by omega)).mpr z)), show w32 (w32 (w32 (14 * (k : Int)) + 8) + (g : Int)) = ((14 * k + (8 + g) : Nat) : Int) by
        rw [pu_w32 (x := 14 * (k : Int)) (by omega) (by omega), pu_w32 (x := 14 * (k : Int) + 8) (by omega) (by omega), pu_w32 (by omega) (by omega)]
        omega, if_pos (by omega), if_pos (by omega), pu_nn, s3 (8 + g) (by omega), pu_nn, h135 g hg, et, pu_w64 (x := trm (nzm W (gd (TN W) k)) (wzg W (gd (TN W) k)) d g) (by omega) (by omega), pu_w64 (by omega) (by omega), pu_inc (by omega), Int.add_assoc]
    · have et : trm (nzm W (gd (TN W) k)) (wzg W (gd (TN W) k)) d g = 0 := by
        unfold trm wzg
        rw [wt_out (by rw [Bool.not_eq_true] at z; exact z), Int.zero_mul]
      rw [if_pos (fun q => z ((and1_eq1 (by omega) (by omega)).mp q)), et, Int.add_zero, pu_inc (by omega)])
  try dsimp only at key
  rw [show zs (trm (nzm W (gd (TN W) k)) (wzg W (gd (TN W) k)) d) 0 = 0 from rfl, Int.add_zero, show ((0 : Nat) : Int) = 0 from rfl] at key
  have b6 := hzb 6 (by omega)
  rw [key, s_GaugeNetModel_odds_116, if_pos (by omega), r_size (by omega), bJ_some]
  by_cases z : mark < ((add + zs (trm (nzm W (gd (TN W) k)) (wzg W (gd (TN W) k)) d) 6).natAbs : Int)
  · rw [if_neg (fun q => by have := lcmp_le.mp q; omega), if_pos z]
  · rw [if_pos (lcmp_le.mpr (by omega)), if_neg z]
theorem SR_o {W M N : mM} (h : SR W M) (k : ∀ o, o ≠ 135 → N o = M o) : SR W N := TT_k h (fun o ho => k o (by omega))
theorem RW_o {lv : Nat} {W M N : mM} (h : RW lv W M) (k : ∀ o, o ≠ 135 → N o = M o) : RW lv W N := RW_k h ⟨fun o _ h2 => k o (by omega), fun j _ => by rw [k 100 (by omega)]⟩
theorem r_odds (hr : RW lv W M) (hS : SR W M) (h : WF W) {k : Nat} (hk : k < (TN W).length) {add : Int} (ha : add.natAbs ≤ 240541569437400) (mark : Int) : ∃ M', gA 264 68 [rv 11 100, iv (k : Int), none, none, jv mark, none, jv add, none, iv 0, none, none, none, none] [] M = some (iv (abvs W (gd (TN W) k) add mark : Int), M') ∧ ∀ o, o ≠ 135 → M' o = M o := by
  generalize hm : nzm W (gd (TN W) k) = m
  have hm3 : ∀ g, g < 6 → m g ≤ 3 := fun g hg => by rw [← hm]; exact nzm_le h _ hg
  have key := pu_rel (S := mM) (G := fun g M' => gA 264 68 [rv 11 100, iv (k : Int), none, none, jv mark, none, jv add, none, iv (g : Int), none, none, none, none] [] M') (I := fun g M' => (∀ o, o ≠ 135 → M' o = M o) ∧ ∀ j, j < g → M' 135 j = - (m j : Int)) 6 (fun g M' hg hI => by
    obtain ⟨i1, i2⟩ := hI
    have hmg := hm3 g hg
    try dsimp only
    rw [s_GaugeNetModel_odds_68, if_neg (by omega), r_noise (RW_o hr i1) (SR_o hS i1) h hk hg, bI_some, if_pos (by omega), pu_nn, hm, pu_w32 (x := - (m g : Int)) (by omega) (by omega), pu_inc (by omega)]
    refine ⟨_, ⟨fun o ho => by rw [st_ob ho]; exact i1 o ho, fun j hj => ?_⟩, rfl⟩
    rw [st_if]
    by_cases y : j = g
    · rw [if_pos y, y]
    · rw [if_neg y]
      exact i2 j (by omega)) 0 M (Nat.zero_le _) ⟨fun _ _ => rfl, fun j hj => absurd hj (Nat.not_lt_zero j)⟩
  obtain ⟨M1, ⟨k1, k2⟩, k3⟩ := key
  try dsimp only at k3
  rw [show ((0 : Nat) : Int) = 0 from rfl] at k3
  rw [k3, s_GaugeNetModel_odds_68, if_pos (by omega)]
  have hr6 := rdx_le (m := m) 6 (fun j hj => hm3 j (by omega))
  have h77 : (7 : Nat) ^ 6 = 117649 := by decide
  have one : ∀ (i p : Nat) (M' : mM), i < rdx m 6 → p < 6 → (∀ o, o ≠ 135 → M' o = M o) → (∀ j, j < 6 → M' 135 j = (sq m i j : Int) - (m j : Int)) → ∃ (M2 : mM) (q : Nat), gA 264 102 [rv 11 100, iv (k : Int), none, none, jv mark, none, jv add, none, iv (nsum (abv m (wzg W (gd (TN W) k)) add mark) i : Int), iv (p : Int), none, none, none] [] M' = gA 264 102 [rv 11 100, iv (k : Int), none, none, jv mark, none, jv add, none, iv (nsum (abv m (wzg W (gd (TN W) k)) add mark) (i + 1) : Int), iv (q : Int), none, none, none] [] M2 ∧ (∀ o, o ≠ 135 → M2 o = M o) ∧ (∀ j, j < 6 → M2 135 j = (sq m (i + 1) j : Int) - (m j : Int)) ∧ ((q < 6 ∧ i + 1 < rdx m 6) ∨ (q = 6 ∧ i + 1 = rdx m 6)) := by
    intro i p M' hi hp i1 i2
    have hn := nsum_le (f := abv m (wzg W (gd (TN W) k)) add mark) (c := 1) i (fun j _ => abv_le _ _ _ _ j)
    have hrw := RW_o hr i1
    have hsr := SR_o hS i1
    have hle : ∀ g, g < 6 → sq m i g ≤ 2 * nzm W (gd (TN W) k) g := fun g _ => by rw [hm]; exact sq_le m g i
    have h35 : ∀ g, g < 6 → M' 135 g = (sq m i g : Int) - (nzm W (gd (TN W) k) g : Int) := fun g hg => by rw [hm]; exact i2 g hg
    have hsum := r_sumUp hrw hsr h hk hle ha mark (nsum (abv m (wzg W (gd (TN W) k)) add mark) i : Int) h35
    rw [hm] at hsum
    have ex : (if mark < ((add + zs (trm m (wzg W (gd (TN W) k)) (sq m i)) 6).natAbs : Int) then w32 ((nsum (abv m (wzg W (gd (TN W) k)) add mark) i : Int) + 1) else (nsum (abv m (wzg W (gd (TN W) k)) add mark) i : Int)) = (nsum (abv m (wzg W (gd (TN W) k)) add mark) (i + 1) : Int) := by
      rw [nsum_1]
      unfold abv
      by_cases z : mark < ((add + zs (trm m (wzg W (gd (TN W) k)) (sq m i)) 6).natAbs : Int)
      · rw [if_pos z, if_pos z]
        exact pu_inc (by unfold abv at hn; omega)
      · rw [if_neg z, if_neg z, Nat.add_zero]
    rw [ex] at hsum
    obtain ⟨M2, q, a1, a2, a3, a4, a5⟩ := r_wrap hrw hsr h hk hle add mark (nsum (abv m (wzg W (gd (TN W) k)) add mark) (i + 1) : Int) (fun N hN => ⟨RW_o hrw hN, SR_o hsr hN⟩) h35
    rw [hm] at a3 a4 a5
    refine ⟨M2, q, ?_, fun o ho => by rw [a2 o ho]; exact i1 o ho, a5, ?_⟩
    · rw [s_GaugeNetModel_odds_102, if_neg (by omega), hsum, a1]
    · have hmx := sq_max (m := m) (k := 6) hi
      rcases a3 with a3 | ⟨a3, a6⟩
      · refine Or.inl ⟨a3, ?_⟩
        obtain ⟨g, g1, g2⟩ := a4 a3
        have : ¬ i + 1 = rdx m 6 := fun e => g2 (hmx.mpr e g g1)
        omega
      · exact Or.inr ⟨a3, hmx.mp a6⟩
  have all : ∀ (n i p : Nat) (M' : mM), i + n = rdx m 6 → 0 < n → p < 6 → (∀ o, o ≠ 135 → M' o = M o) → (∀ j, j < 6 → M' 135 j = (sq m i j : Int) - (m j : Int)) → ∃ M2, gA 264 102 [rv 11 100, iv (k : Int), none, none, jv mark, none, jv add, none, iv (nsum (abv m (wzg W (gd (TN W) k)) add mark) i : Int), iv (p : Int), none, none, none] [] M' = some (iv (nsum (abv m (wzg W (gd (TN W) k)) add mark) (rdx m 6) : Int), M2) ∧ ∀ o, o ≠ 135 → M2 o = M o := by
    intro n
    induction n with
    | zero => intro i p M' _ h0; exact absurd h0 (Nat.lt_irrefl 0)
    | succ n ih =>
      intro i p M' hi _ hp i1 i2
      obtain ⟨M2, q, a1, a2, a3, a4⟩ := one i p M' (by omega) hp i1 i2
      rw [a1]
      rcases a4 with ⟨a4, a5⟩ | ⟨a4, a5⟩
      · exact ih (i + 1) q M2 (by omega) (by omega) a4 a2 a3
      · rw [s_GaugeNetModel_odds_102, if_pos (by omega), a5]
        exact ⟨M2, rfl, a2⟩
  obtain ⟨M2, b1, b2⟩ := all (rdx m 6) 0 0 M1 (by omega) (by omega) (by omega) k1 (fun j hj => by
    rw [k2 j hj]
    show _ = ((0 : Nat) : Int) - _
    omega)
  rw [show nsum (abv m (wzg W (gd (TN W) k)) add mark) 0 = 0 from rfl, show ((0 : Nat) : Int) = 0 from rfl] at b1
  unfold abvs
  rw [b1, hm]
  exact ⟨M2, rfl, b2⟩
end OR
noncomputable def odG (W : mM) (x f s mark : Int) : Bool := isRun W x && (decide (f = -1) || inR f (wF W)) && decide (-9999 ≤ s ∧ s ≤ 9999) && decide (-1 ≤ mark)
noncomputable def odA (W : mM) (x f s mark : Int) : Int := if isRun W x = true then (if (decide (f = -1) || inR f (wF W)) = true then (if -9999 ≤ s ∧ s ≤ 9999 then (if -1 ≤ mark then (abvs W (gd (TN W) x.toNat) (if f = -1 then 0 else wt W (gd (TN W) x.toNat) (wFr W f.toNat) * s) mark : Int) else -1) else -1) else -1) else -1
theorem odd_abs {W : mM} (h : WF W) (t r : Nat) {s : Int} (hs : -9999 ≤ s ∧ s ≤ 9999) : (wt W t r * s).natAbs ≤ 240541569437400 := by
  rw [Int.natAbs_mul]
  exact Nat.mul_le_mul (wt_abs h t r) (show s.natAbs ≤ 9999 by omega)
theorem p_odds (x f s mark : Int) : PureI Rel 165 264 [iv x, iv f, iv s, jv mark] := by
  refine pure_qI (fun W => odA W x f s mark) (fun W tl tp pl M h _ hc => ?_) (fun W tl tp pl M h hr => ?_)
  · obtain ⟨M', a2, a3⟩ := c_runningTestAt hc h x
    obtain ⟨w, w2, hb, h5, hP, hT, hZ⟩ := id a2
    have hcw := hb.2.2.2.1
    have fro : ∀ N : mM, (∀ o, (o < 26 ∨ 28 < o) → N o = M' o) → CI W tl tp pl N := fun N hN => CI_s (CZ_CI a2) (fun o ho => hN o (by omega))
    rw [e_GaugeNet_odds]
    unfold odA
    rcases a3 with ⟨t, i, t1, t2, t3, t4, t5, t6, t7⟩ | ⟨q1, q2⟩
    · rw [t7, bI_some, t3, isRun_of t2 t5, if_pos rfl, pu_nn]
      by_cases e : f = -1
      · rw [if_pos e, if_neg (by omega), decide_eq_true e, Bool.true_or, if_pos rfl, if_pos e]
        by_cases s1 : s < -9999
        · rw [if_pos s1, if_neg (by omega)]
          exact ⟨M', rfl, CZ_CI a2⟩
        · by_cases s2 : 9999 < s
          · rw [if_neg s1, if_pos s2, if_neg (by omega)]
            exact ⟨M', rfl, CZ_CI a2⟩
          · rw [if_neg s1, if_neg s2, if_pos (show -9999 ≤ s ∧ s ≤ 9999 by omega)]
            by_cases k : -1 ≤ mark
            · obtain ⟨M2, b1, b2⟩ := c_countAbove (add := 0) (mark := mark) hcw h hT t1 t6 (by omega)
              rw [if_pos (lcmp_ge.mpr k), if_neg (fun z => z e), CB_w hb, b1, bI_some, if_pos k, t4]
              exact ⟨M2, rfl, fro M2 b2⟩
            · rw [if_neg (fun z => k (lcmp_ge.mp z)), if_neg k]
              exact ⟨M', rfl, CZ_CI a2⟩
      · rw [if_neg e, CB_w hb, c_isFault hcw h, bI_some, ite01_0, decide_eq_false e, Bool.false_or, if_neg e]
        by_cases z : inR f (wF W) = true
        · have z2 := inR_iff.mp z
          rw [if_pos z, if_neg (by omega), if_pos z]
          by_cases s1 : s < -9999
          · rw [if_pos s1, if_neg (by omega)]
            exact ⟨M', rfl, CZ_CI a2⟩
          · by_cases s2 : 9999 < s
            · rw [if_neg s1, if_pos s2, if_neg (by omega)]
              exact ⟨M', rfl, CZ_CI a2⟩
            · have s3 : -9999 ≤ s ∧ s ≤ 9999 := by omega
              rw [if_neg s1, if_neg s2, if_pos s3]
              by_cases k : -1 ≤ mark
              · have hfr := (wf_frt h f.toNat (by omega)).1
                have hab := odd_abs h (gd (TL W) t) (wFr W f.toNat) s3
                obtain ⟨M2, b1, b2⟩ := c_countAbove (add := wt W (gd (TL W) t) (wFr W f.toNat) * s) (mark := mark) hcw h hT t1 t6 hab
                rw [if_pos (lcmp_ge.mpr k), if_pos e, CB_w hb, c_rowOf hcw h, bI_some, if_pos z, c_weightOf hT t1 t6 hfr, bJ_some, CB_w hb, pu_w64 (by omega) (by omega), b1, bI_some, if_pos k, t4]
                exact ⟨M2, rfl, fro M2 b2⟩
              · rw [if_neg (fun z => k (lcmp_ge.mp z)), if_neg k]
                exact ⟨M', rfl, CZ_CI a2⟩
        · rw [if_neg z, if_neg (by omega), if_neg z]
          exact ⟨M', rfl, CZ_CI a2⟩
    · refine ⟨M', ?_, CZ_CI a2⟩
      rw [q2, bI_some, q1, if_neg Bool.false_ne_true, if_pos rfl]
      by_cases e : f = -1
      · rw [if_pos e]
      · rw [if_neg e, CB_w hb, c_isFault hcw h, bI_some, ite01_0]
        by_cases z : inR f (wF W) = true
        · rw [if_pos z, if_pos rfl]
        · rw [if_neg z, if_pos rfl]
  · obtain ⟨M', a1, a2⟩ := r_isRun hr h x
    obtain ⟨lv, b1, b2, b3⟩ := id a2
    have fro : ∀ N : mM, (∀ o, o ≠ 135 → N o = M' o) → RI W tl tp pl N := fun N hN => RY_RI (RY_s a2 ⟨fun o _ h2 => hN o (by omega), fun j _ => by rw [hN 100 (by omega)]⟩)
    rw [e_GaugeNetModel_odds, a1, bI_some, ite01_0]
    unfold odA
    by_cases z : isRun W x = true
    · obtain ⟨u1, u2, u3, u4⟩ := isRun_no z
      rw [if_pos z, if_pos z]
      by_cases e : f = -1
      · rw [if_pos e, r_inRange, bI_some, decide_eq_true e, Bool.true_or, if_pos rfl, if_pos e]
        by_cases s3 : -9999 ≤ s ∧ s ≤ 9999
        · rw [if_pos s3, if_neg (by omega), if_pos s3]
          by_cases k : -1 ≤ mark
          · obtain ⟨M2, d1, d2⟩ := r_odds (add := 0) b1.1 b3 h u3 (by omega) mark
            rw [if_pos (lcmp_ge.mpr k), if_neg (fun z => z e), if_pos k, u2, d1, pu_nn]
            exact ⟨M2, rfl, fro M2 d2⟩
          · rw [if_neg (fun z => k (lcmp_ge.mp z)), if_neg k]
            exact ⟨M', rfl, RY_RI a2⟩
        · rw [if_neg s3, if_pos rfl, if_neg s3]
          exact ⟨M', rfl, RY_RI a2⟩
      · rw [if_neg e, r_isFault b1.1 h, bI_some, ite01_0, decide_eq_false e, Bool.false_or, if_neg e]
        by_cases y : inR f (wF W) = true
        · have y2 := inR_iff.mp y
          rw [if_pos y, if_pos y, r_inRange, bI_some]
          by_cases s3 : -9999 ≤ s ∧ s ≤ 9999
          · rw [if_pos s3, if_neg (by omega), if_pos s3]
            by_cases k : -1 ≤ mark
            · have hab := odd_abs h (gd (TN W) x.toNat) (wFr W f.toNat) s3
              obtain ⟨φ, rfl⟩ : ∃ φ : Nat, f = (φ : Int) := ⟨f.toNat, by omega⟩
              rw [pu_nn] at hab
              obtain ⟨M2, d1, d2⟩ := r_odds b1.1 b3 h u3 hab mark
              rw [if_pos (lcmp_ge.mpr k), if_pos e, u2, r_weightIn b1.1 b3 h u3 (by omega), bJ_some, pu_w64 (by omega) (by omega), d1, if_pos k, pu_nn, pu_nn]
              exact ⟨M2, rfl, fro M2 d2⟩
            · rw [if_neg (fun z => k (lcmp_ge.mp z)), if_neg k]
              exact ⟨M', rfl, RY_RI a2⟩
          · rw [if_neg s3, if_pos rfl, if_neg s3]
            exact ⟨M', rfl, RY_RI a2⟩
        · rw [if_neg y, if_neg y]
          exact ⟨M', rfl, RY_RI a2⟩
    · rw [if_neg z, if_neg z]
      exact ⟨M', rfl, RY_RI a2⟩
