/-! read -/
theorem byte_ok {x : Int} (h : -128 ≤ x ∧ x < 128) : 0 ≤ and32 x 255 ∧ and32 x 255 < 256 := by
  have h1 : ∀ n : Nat, n < 256 → 0 ≤ and32 ((n : Int) - 128) 255 ∧ and32 ((n : Int) - 128) 255 < 256 := by decide +kernel
  have h2 := h1 (x + 128).toNat (by omega)
  rw [show (((x + 128).toNat : Nat) : Int) - 128 = x by omega] at h2
  exact h2
theorem RW_q {lv : Nat} {W M M' : mM} (h : RW lv W M) (hE : wE W ≤ 8) (hU : wU W ≤ 7) (hG : wG W ≤ 6) (hF : wF W ≤ 8) (k : ∀ o i, kpR lv o i → M' o i = M o i) : RW lv W M' := by
  have c : ∀ i, i = 18 ∨ (35 ≤ i ∧ i ≤ 37) → M' 100 i = M 100 i := fun i hi => k 100 i (by unfold kpR; omega)
  have s : ∀ o, o = 111 ∨ o = 112 ∨ o = 115 ∨ o = 120 → M' o lv = M o lv := fun o ho => k o lv (by unfold kpR; omega)
  obtain ⟨a, b, ⟨c1, c2, c3, c4⟩, ⟨d1, d2, d3⟩, e, f, g, i, j, l, m, n⟩ := h
  refine ⟨a, by rw [c 18 (by omega)]; exact b, ⟨by rw [s 111 (by omega)]; exact c1, by rw [s 112 (by omega)]; exact c2, by rw [s 115 (by omega)]; exact c3, by rw [s 120 (by omega)]; exact c4⟩, ⟨by rw [c 35 (by omega)]; exact d1, by rw [c 36 (by omega)]; exact d2, by rw [c 37 (by omega)]; exact d3⟩, fun q u hq hu => ?_, fun q hq => ?_, fun q hq => ?_, fun q hq => ?_, fun q hq => ?_, fun q hq => ?_, fun q hq => ?_, fun q hq => ?_⟩
  · rw [k 113 _ (by unfold kpR; omega)]
    exact e q u hq hu
  · rw [k 113 _ (by unfold kpR; omega)]
    exact f q hq
  · rw [k 114 _ (by unfold kpR; omega)]
    exact g q hq
  · obtain ⟨x, x1, x2, x3⟩ := i q hq
    exact ⟨x, x1, by rw [k 116 _ (by unfold kpR; omega)]; exact x2, x3⟩
  · rw [k 117 _ (by unfold kpR; omega)]
    exact j q hq
  · rw [k 118 _ (by unfold kpR; omega)]
    exact l q hq
  · rw [k 121 _ (by unfold kpR; omega)]
    exact m q hq
  · rw [k 122 _ (by unfold kpR; omega)]
    exact n q hq
theorem SR_q {lv : Nat} {W M M' : mM} (h : SR W M) (k : ∀ o i, kpR lv o i → M' o i = M o i) : SR W M' := by
  have s : ∀ o, o = 127 ∨ o = 128 ∨ o = 129 → M' o = M o := fun o ho => funext (fun i => k o i (by unfold kpR; omega))
  unfold SR
  rw [k 100 45 (by unfold kpR; omega), s 127 (by omega), s 128 (by omega), s 129 (by omega)]
  exact h
section RG
variable {sd : Nat} {D M1 MR : mM} {t : Nat}
/-- the GAUGES that are IN at first -/
theorem r_219 (hsd : sd < 2) (hg : GDd sd t D M1) (hD : DW0 D) (hc : CNT sd D M1) (ho : ∀ o, o ≠ 100 → MR o = M1 o) (h18 : MR 100 18 = (sd : Int)) (h36 : MR 100 36 = 0) : ∃ M', gA 180 219 [rv 11 100, iv 0] [] MR = some (iv 0, M') ∧ (∀ o, o ≠ 100 → o ≠ 122 → M' o = MR o) ∧ (∀ g, g < 6 → M' 122 g = 0) ∧ (∀ k, k ≠ 36 → k ≠ 44 → M' 100 k = MR 100 k) ∧ M' 100 36 = (wI D : Int) ∧ M' 100 44 = 0 := by
  obtain ⟨⟨⟨d0, d0'⟩, ⟨d1, d1'⟩, ⟨d2, d2'⟩, ⟨d3, d3'⟩⟩, d5, d8⟩ := id hD
  have key := pu_rel (S := mM) (G := fun g M' => gA 180 219 [rv 11 100, iv (g : Int)] [] M') (I := fun g M' => (∀ o, o ≠ 100 → o ≠ 122 → M' o = MR o) ∧ (∀ j, j < g → M' 122 j = 0) ∧ (∀ k, k ≠ 36 → M' 100 k = MR 100 k) ∧ M' 100 36 = ((bset (fun j => decide (j < wG D) && (wI D).testBit j) g : Nat) : Int)) 6 (fun g M' hgl hI => by
    obtain ⟨i1, i2, i3, i4⟩ := hI
    have e18 : st M' 122 g 0 100 18 = (sd : Int) := by rw [st_ob (by omega), i3 18 (by omega)]; exact h18
    have e115 : st M' 122 g 0 115 sd = (wG D : Int) := by rw [st_ob (by omega), i1 115 (by omega) (by omega), ho 115 (by omega), hc.2.2.1]; exact d2
    have hidx : w32 (w32 (6 * (sd : Int)) + (g : Int)) = ((6 * sd + g : Nat) : Int) := by
      rw [pu_w32 (x := 6 * (sd : Int)) (by omega) (by omega), pu_w32 (by omega) (by omega)]
      omega
    have r12 : 0 ≤ ((6 * sd + g : Nat) : Int) ∧ ((6 * sd + g : Nat) : Int) < 12 := by clear hidx; omega
    have n6 : ¬ (6 : Int) ≤ (g : Int) := by clear hidx; omega
    have rg : 0 ≤ (g : Int) ∧ (g : Int) < 6 := by clear hidx; omega
    have rs : 0 ≤ (sd : Int) ∧ (sd : Int) < 2 := by clear hidx; omega
    have g31 : g < 2147483647 := by clear hidx; omega
    have bb := bset_lt (fun j => decide (j < wG D) && (wI D).testBit j) g
    have bb2 : bset (fun j => decide (j < wG D) && (wI D).testBit j) g < 2147483648 := by
      clear hidx
      have : 2 ^ g ≤ 2 ^ 6 := Nat.pow_le_pow_right (by omega) (by omega)
      omega
    have gb : g < 31 := by clear hidx; omega
    try dsimp only
    rw [s_GaugeNetModel_read_219, if_neg n6, if_pos rg, pu_nn, e18, if_pos rs, pu_nn, e115, hidx, pu_inc g31]
    clear hidx
    have same : ∀ M2 : mM, (∀ o, o ≠ 100 → o ≠ 122 → M2 o = MR o) → M2 122 = st M' 122 g 0 122 → ∀ j, j < g + 1 → M2 122 j = 0 := fun M2 _ h122 j hj => by
      rw [h122, st_if]
      by_cases z : j = g
      · rw [if_pos z]
      · rw [if_neg z]
        exact i2 j (by omega)
    have i36 : st M' 122 g 0 100 36 = ((bset (fun j => decide (j < wG D) && (wI D).testBit j) g : Nat) : Int) := by rw [st_ob (by omega)]; exact i4
    by_cases z : (wG D : Int) ≤ (g : Int)
    · rw [if_pos z]
      have hb : bset (fun j => decide (j < wG D) && (wI D).testBit j) (g + 1) = bset (fun j => decide (j < wG D) && (wI D).testBit j) g := by
        rw [bset, decide_eq_false (show ¬ g < wG D by omega), Bool.false_and, if_neg Bool.false_ne_true, Nat.or_zero]
      refine ⟨_, ⟨fun o h1 h2 => by rw [st_ob h2]; exact i1 o h1 h2, same _ (fun o h1 h2 => by rw [st_ob h2]; exact i1 o h1 h2) rfl, fun k hk => by rw [st_ob (by omega)]; exact i3 k hk, ?_⟩, rfl⟩
      rw [hb]
      exact i36
    · have hgw : g < wG D := by omega
      obtain ⟨_, _, _, _, h5, _⟩ := id hg
      have h119 := (h5 g hgw).2.2.2
      have e119 : st M' 122 g 0 119 (6 * sd + g) = M1 119 (6 * sd + g) := by rw [st_ob (by omega), i1 119 (by omega) (by omega), ho 119 (by omega)]
      rw [if_neg z, if_pos r12, pu_nn, e119]
      by_cases y : M1 119 (6 * sd + g) = 0
      · have hb : bset (fun j => decide (j < wG D) && (wI D).testBit j) (g + 1) = bset (fun j => decide (j < wG D) && (wI D).testBit j) g ||| 2 ^ g := by
          rw [bset, decide_eq_true hgw, h119.mp y, Bool.true_and, if_pos rfl]
        rw [if_neg (fun q => q y), i36, or1 bb2 gb]
        refine ⟨_, ⟨fun o h1 h2 => by rw [st_ob h1, st_ob h2]; exact i1 o h1 h2, same _ (fun o h1 h2 => by rw [st_ob h1, st_ob h2]; exact i1 o h1 h2) (st_ob (by omega)), fun k hk => by rw [st_nk hk, st_ob (by omega)]; exact i3 k hk, ?_⟩, rfl⟩
        rw [st_same, hb]
      · have hb : bset (fun j => decide (j < wG D) && (wI D).testBit j) (g + 1) = bset (fun j => decide (j < wG D) && (wI D).testBit j) g := by
          have hf : (wI D).testBit g = false := by
            rw [← Bool.not_eq_true]
            exact fun q => y (h119.mpr q)
          rw [bset, hf, Bool.and_false, if_neg Bool.false_ne_true, Nat.or_zero]
        rw [if_pos y]
        refine ⟨_, ⟨fun o h1 h2 => by rw [st_ob h2]; exact i1 o h1 h2, same _ (fun o h1 h2 => by rw [st_ob h2]; exact i1 o h1 h2) rfl, fun k hk => by rw [st_ob (by omega)]; exact i3 k hk, ?_⟩, rfl⟩
        rw [hb]
        exact i36) 0 MR (Nat.zero_le _) ⟨fun _ _ _ => rfl, fun j hj => absurd hj (Nat.not_lt_zero j), fun _ _ => rfl, h36⟩
  obtain ⟨M2, ⟨k1, k2, k3, k4⟩, k5⟩ := key
  try dsimp only at k5
  rw [show ((0 : Nat) : Int) = 0 from rfl] at k5
  rw [k5, s_GaugeNetModel_read_219, if_pos (by omega)]
  refine ⟨_, rfl, fun o h1 h2 => by rw [st_ob h1]; exact k1 o h1 h2, fun g hg => by rw [st_ob (by omega)]; exact k2 g hg, fun k h1 h2 => by rw [st_nk h2]; exact k3 k h1, ?_, st_same _ _ _ _⟩
  rw [st_nk (by omega), k4]
  have hI := (wf_I hg.1).2
  have e : bset (fun j => decide (j < wG D) && (wI D).testBit j) 6 = wI D := by
    apply Nat.eq_of_testBit_eq
    intro i
    rw [bset_tb]
    by_cases z : i < wG D
    · rw [decide_eq_true z, decide_eq_true (show i < 6 by omega), Bool.true_and, Bool.true_and]
    · rw [decide_eq_false z, Bool.false_and, Bool.and_false, tb_lt hI (by omega)]
  rw [e]
theorem RW_new (hsd : sd < 2) (hg : GDd sd t D M1) (hc : CNT sd D M1) {M : mM} (ho : ∀ o, o ≠ 100 → o ≠ 122 → M o = M1 o) (h122 : ∀ g, g < 6 → M 122 g = 0) (h18 : M 100 18 = (sd : Int)) (h35 : M 100 35 = 0) (h36 : M 100 36 = (wI D : Int)) (h37 : M 100 37 = 0) : RW sd D M := by
  obtain ⟨h1, ⟨_, _, ⟨f4, f6⟩, f7⟩, h3, h4, h5, h6⟩ := hg
  have hE := (wf_E h1).2
  have hU := (wf_U h1).2
  refine ⟨hsd, h18, ⟨by rw [ho 111 (by omega) (by omega)]; exact hc.1, by rw [ho 112 (by omega) (by omega)]; exact hc.2.1, by rw [ho 115 (by omega) (by omega)]; exact hc.2.2.1, by rw [ho 120 (by omega) (by omega)]; exact hc.2.2.2⟩, ⟨by rw [h35, f4], by rw [h36]; exact (wf_I h1).1.symm, by rw [h37, f6]⟩, fun e u he hu => ?_, fun e he => ?_, fun e he => ?_, fun g hg => ?_, fun g hg => ?_, fun g hg => ?_, fun f hf => ?_, fun g hg => ?_⟩
  · rw [ho 113 (by omega) (by omega)]
    exact (h4 e he).1 u (by omega)
  · rw [ho 113 (by omega) (by omega)]
    exact (h4 e he).2.1
  · rw [ho 114 (by omega) (by omega)]
    exact (h4 e he).2.2
  · obtain ⟨k, k1, k2, k3⟩ := (h5 g hg).1
    exact ⟨k, k1, by rw [ho 116 (by omega) (by omega)]; exact k2, k3⟩
  · rw [ho 117 (by omega) (by omega)]
    exact (h5 g hg).2.1
  · rw [ho 118 (by omega) (by omega)]
    exact (h5 g hg).2.2.1
  · rw [ho 121 (by omega) (by omega)]
    exact h6 f hf
  · rw [h122 g hg, f7.1 g hg]
end RG
/-- the class's start of a text -/
theorem c_start {w2 : Nat} (hw2 : w2 = 40 ∨ w2 = 50) {MC M1 : mM} (h21 : MC 2 1 = (w2 : Int)) (hk : Kc MC M1) {T : TKS} (hT : TCk T M1) : ∃ M3, gC 39 [rv 4 2] M1 = some (none, M3) ∧ CCp T w2 MC 0 (0, -1) M3 ∧ NCk (fun _ => ([], 0, 0)) 0 M3 ∧ W00 (fun j => M3 (w2 + j)) := by
  obtain ⟨M2, a1, a2, a3⟩ := z_clear M1 w2
  have e21 : M1 2 1 = (w2 : Int) := by rw [hk 2 (by omega)]; exact h21
  rw [e_Parser_begin, e21, pu_nn, a1, bV_none]
  refine ⟨_, rfl, ⟨TCk_s hT (fun o h1 h2 => by rw [st_ob (by omega), st_ob (by omega), st_ob (by omega), st_ob (by omega), st_ob (by omega), st_ob (by omega)]; exact a2 o (by omega)), ⟨?_, ?_, ?_, ?_, ?_⟩, fun o h1 h2 => ?_, hw2⟩, ⟨st_same _ _ _ _, fun i hi => absurd hi (Nat.not_lt_zero i)⟩, ?_⟩
  · rw [st_nk (by omega), st_nk (by omega), st_nk (by omega), st_nk (by omega), st_nk (by omega), st_nk (by omega), a2 2 (by omega)]
    exact e21
  · rw [st_nk (by omega), st_nk (by omega), st_nk (by omega), st_nk (by omega), st_nk (by omega)]
    exact st_same _ _ _ _
  · rw [st_nk (by omega), st_nk (by omega), st_nk (by omega), st_nk (by omega)]
    exact st_same _ _ _ _
  · rw [st_nk (by omega), st_nk (by omega)]
    exact st_same _ _ _ _
  · rw [st_nk (by omega)]
    exact st_same _ _ _ _
  · rw [st_ob (by omega), st_ob (by omega), st_ob (by omega), st_ob (by omega), st_ob (by omega), st_ob (by omega), a2 o (by omega)]
    exact hk o (by omega)
  · have e : (fun j => st (st (st (st (st (st M2 2 2 0) 2 3 0) 2 4 (-1)) 2 5 0) 2 6 (-1)) 2 10 0 (w2 + j)) = fun j => M2 (w2 + j) := by
      funext j
      rw [st_ob (by omega), st_ob (by omega), st_ob (by omega), st_ob (by omega), st_ob (by omega), st_ob (by omega)]
    rw [e]
    exact a3
/-- the reference takes the tape -/
theorem r_copy {tl : Nat} {tp : Nat → Int} (ht : TPok tl tp) (h2 : tl ≤ 2000) {MR : mM} (h4 : MR 100 4 = (tl : Int)) (h101 : ∀ i, i < tl → MR 101 i = tp i) : ∃ M', gA 180 10 [rv 11 100, iv 0] [] MR = gA 180 10 [rv 11 100, iv (tl : Int)] [] M' ∧ (∀ o, o ≠ 102 → M' o = MR o) ∧ ∀ i, i < tl → M' 102 i = tp i := by
  have key := pu_rel (S := mM) (G := fun i M' => gA 180 10 [rv 11 100, iv (i : Int)] [] M') (I := fun i M' => (∀ o, o ≠ 102 → M' o = MR o) ∧ ∀ j, j < i → M' 102 j = tp j) tl (fun i M' hi hI => by
    obtain ⟨i1, i2⟩ := hI
    have e4 : M' 100 4 = (tl : Int) := by rw [i1 100 (by omega)]; exact h4
    have e1 : w8 (M' 101 i) = tp i := by
      rw [i1 101 (by omega), h101 i hi]
      have := ht i hi
      unfold w8
      omega
    try dsimp only
    rw [s_GaugeNetModel_read_10, e4, if_neg (by omega), if_pos (by omega), if_pos (by omega), pu_nn, pu_inc (by omega), e1]
    refine ⟨_, ⟨fun o ho => by rw [st_ob ho]; exact i1 o ho, fun j hj => ?_⟩, rfl⟩
    rw [st_if]
    by_cases z : j = i
    · rw [if_pos z, z]
    · rw [if_neg z]
      exact i2 j (by omega)) 0 MR (Nat.zero_le _) ⟨fun _ _ => rfl, fun j hj => absurd hj (Nat.not_lt_zero j)⟩
  obtain ⟨M', ⟨k1, k2⟩, k3⟩ := key
  exact ⟨M', k3, k1, k2⟩
