/-! The reference's weights of one TEST. -/
def Wfr (t : Nat) (M M' : mM) : Prop := (∀ o, o ≠ 128 → o ≠ 131 → o ≠ 132 → o ≠ 133 → M' o = M o) ∧ ∀ x, (x < 14 * t ∨ 14 * t + 14 ≤ x) → M' 128 x = M 128 x
theorem Wfr_refl (t : Nat) (M : mM) : Wfr t M M := ⟨fun _ _ _ _ _ => rfl, fun _ _ => rfl⟩
theorem Wfr_trans {t : Nat} {A B C : mM} (h : Wfr t A B) (h' : Wfr t B C) : Wfr t A C := ⟨fun o a b c d => (h'.1 o a b c d).trans (h.1 o a b c d), fun x hx => (h'.2 x hx).trans (h.2 x hx)⟩
theorem Wfr_Rk {t : Nat} {M M' : mM} (h : Wfr t M M') : Rk M M' := ⟨fun o h1 h2 => h.1 o (by omega) (by omega) (by omega) (by omega), fun k hk => by rw [h.1 100 (by omega) (by omega) (by omega) (by omega)]⟩
theorem Wfr_st {t x : Nat} {M M' : mM} {v : Int} (h : Wfr t M M') (h1 : 14 * t ≤ x) (h2 : x < 14 * t + 14) : Wfr t M (st M' 128 x v) := ⟨fun o a b c d => by rw [st_ob a]; exact h.1 o a b c d, fun y hy => by rw [st_nk (by omega)]; exact h.2 y hy⟩
theorem Wfr_so {t o x : Nat} {M M' : mM} {v : Int} (h : Wfr t M M') (ho : o = 131 ∨ o = 132 ∨ o = 133) : Wfr t M (st M' o x v) := ⟨fun o' a b c d => by rw [st_ob (by omega)]; exact h.1 o' a b c d, fun y hy => by rw [st_ob (by omega)]; exact h.2 y hy⟩
theorem w32_14 {t r : Nat} (ht : t < 4096) (hr : r < 14) : w32 (w32 (14 * (t : Int)) + (r : Int)) = ((14 * t + r : Nat) : Int) := by
  rw [pu_w32 (x := 14 * (t : Int)) (by omega) (by omega), pu_w32 (by omega) (by omega)]
  omega
theorem pop_s1 (i s : Nat) (h : s.testBit i = true) : pop (i + 1) s = pop i s + 1 := by
  show pop i s + (if s.testBit i = true then 1 else 0) = _
  rw [if_pos h]
theorem pop_s0 (i s : Nat) (h : ¬ s.testBit i = true) : pop (i + 1) s = pop i s := by
  show pop i s + (if s.testBit i = true then 1 else 0) = _
  rw [if_neg h]
  exact Nat.add_zero _
theorem fs_s (f : Nat → Int) (n : Nat) : fs f (n + 1) = if fs f n = 0 then f n else fs f n := rfl
theorem fs_stay {f : Nat → Int} {k : Nat} (h : fs f k ≠ 0) : ∀ n, k ≤ n → fs f n = fs f k := by
  intro n hn
  induction n with
  | zero => rw [show k = 0 by omega]
  | succ n ih =>
    by_cases z : k = n + 1
    · rw [z]
    · rw [fs_s, ih (by omega), if_neg h]
theorem raw_mi (W : mM) (s k : Nat) : (raw W s k).natAbs = (mi W s k).natAbs := natAbs_sg k _
theorem nrm_turn {f : Nat → Int} {n k : Nat} (hk : k < n) : nrm f n k = if fs f (k + 1) < 0 then - (f k).tdiv (gcdTo f n : Int) else (f k).tdiv (gcdTo f n : Int) := by
  unfold nrm
  by_cases z : fs f (k + 1) = 0
  · have h0 := fs_zero.mp z k (by omega)
    rw [h0, z]
    simp
  · rw [fs_stay z n (by omega)]
    by_cases y : fs f (k + 1) < 0
    · rw [if_pos y, if_pos y, Int.tdiv_neg]
    · rw [if_neg y, if_neg y]
section RW9
variable {lv : Nat} {W M : mM}
theorem r_weighsA {s t : Nat} (ht : t < 4096) (hs : s < 16384) (c : Int) (h14 : pop 14 s ≤ 16) : ∃ M', gA 226 15 [rv 11 100, iv (t : Int), iv (s : Int), iv 0, iv c, iv 0, iv 0, none, none, none, none, none] [] M = gA 226 67 [rv 11 100, iv (t : Int), none, iv (pop 14 s : Int), iv c, iv 0, iv 0, none, none, none, none, none] [] M' ∧ Wfr t M M' ∧ (∀ r, r < 14 → M' 128 (14 * t + r) = 0) ∧ ∀ k, k < pop 14 s → M' 131 k = (sl s k 14 : Int) := by
  have key := pu_rel (S := mM) (G := fun i M' => gA 226 15 [rv 11 100, iv (t : Int), iv (s : Int), iv (pop i s : Int), iv c, iv 0, iv (i : Int), none, none, none, none, none] [] M') (I := fun i M' => Wfr t M M' ∧ (∀ r, r < i → M' 128 (14 * t + r) = 0) ∧ ∀ k, k < pop i s → M' 131 k = (sl s k 14 : Int)) 14 (fun i M' hi hI => by
    obtain ⟨i1, i2, i3⟩ := hI
    have hp := pop_le i s
    try dsimp only
    rw [s_GaugeNetModel_weighs_15, if_neg (by omega), w32_14 ht hi, if_pos (by omega), pu_nn, pu_inc (i := i) (by omega)]
    have z2 : ∀ r, r < i + 1 → st M' 128 (14 * t + i) 0 128 (14 * t + r) = 0 := fun r hr => by
      rw [st_if]
      by_cases e : r = i
      · rw [e, if_pos rfl]
      · rw [if_neg (by omega)]
        exact i2 r (by omega)
    by_cases z : s.testBit i = true
    · rw [if_pos (fun q => by rw [and1_eq0 (by omega) (by omega)] at q; rw [q] at z; exact Bool.false_ne_true z), if_pos (by omega), pu_nn, pu_inc (i := pop i s) (by omega), ← pop_s1 i s z]
      refine ⟨_, ⟨Wfr_so (Wfr_st i1 (by omega) (by omega)) (Or.inl rfl), fun r hr => by rw [st_ob (by omega)]; exact z2 r hr, fun k hk => ?_⟩, rfl⟩
      rw [pop_s1 i s z] at hk
      rw [st_if]
      by_cases e : k = pop i s
      · rw [if_pos e, e, sl_of z hi]
      · rw [if_neg e, st_ob (by omega)]
        exact i3 k (by omega)
    · rw [if_neg (fun q => q ((and1_eq0 (by omega) (by omega)).mpr (by rw [Bool.not_eq_true] at z; exact z)))]
      refine ⟨st M' 128 (14 * t + i) 0, ⟨Wfr_st i1 (by omega) (by omega), z2, fun k hk => ?_⟩, ?_⟩
      · rw [pop_s0 i s z] at hk
        rw [st_ob (by omega)]
        exact i3 k hk
      · rw [pop_s0 i s z]) 0 M (Nat.zero_le _) ⟨Wfr_refl t M, fun r hr => absurd hr (Nat.not_lt_zero r), fun k hk => absurd hk (Nat.not_lt_zero k)⟩
  obtain ⟨M', ⟨k1, k2, k3⟩, k4⟩ := key
  try dsimp only at k4
  rw [show pop 0 s = 0 from rfl, show ((0 : Nat) : Int) = 0 from rfl] at k4
  rw [k4, s_GaugeNetModel_weighs_15, if_pos (by omega)]
  exact ⟨M', rfl, k1, k2, k3⟩
theorem r_weighsB {u t : Nat} (hu : u < 128) (n : Int) : ∃ M', gA 226 67 [rv 11 100, iv (t : Int), none, iv n, iv (u : Int), iv 0, iv 0, none, none, none, none, none] [] M = gA 226 111 [rv 11 100, iv (t : Int), none, iv n, none, none, jv 0, none, iv 0, none, none, none] [] M' ∧ (∀ o, o ≠ 132 → M' o = M o) ∧ ∀ k, k < pop 7 u → M' 132 k = (sl u k 7 : Int) := by
  have key := pu_rel (S := mM) (G := fun i M' => gA 226 67 [rv 11 100, iv (t : Int), none, iv n, iv (u : Int), iv (pop i u : Int), iv (i : Int), none, none, none, none, none] [] M') (I := fun i M' => (∀ o, o ≠ 132 → M' o = M o) ∧ ∀ k, k < pop i u → M' 132 k = (sl u k 7 : Int)) 8 (fun i M' hi hI => by
    obtain ⟨i1, i3⟩ := hI
    have hp := pop_le i u
    try dsimp only
    rw [s_GaugeNetModel_weighs_67, if_neg (by omega), pu_inc (i := i) (by omega)]
    by_cases z : u.testBit i = true
    · have h7 : i < 7 := tb_in (n := 7) hu z
      rw [if_pos (fun q => by rw [and1_eq0 (by omega) (by omega)] at q; rw [q] at z; exact Bool.false_ne_true z), if_pos (by omega), pu_nn, pu_inc (by omega), ← pop_s1 i u z]
      refine ⟨_, ⟨fun o ho => by rw [st_ob ho]; exact i1 o ho, fun k hk => ?_⟩, rfl⟩
      rw [pop_s1 i u z] at hk
      rw [st_if]
      by_cases e : k = pop i u
      · rw [if_pos e, e, sl_of z h7]
      · rw [if_neg e]
        exact i3 k (by omega)
    · rw [if_neg (fun q => q ((and1_eq0 (by omega) (by omega)).mpr (by rw [Bool.not_eq_true] at z; exact z)))]
      refine ⟨M', ⟨i1, fun k hk => ?_⟩, ?_⟩
      · rw [pop_s0 i u z] at hk
        exact i3 k hk
      · rw [pop_s0 i u z]) 0 M (Nat.zero_le _) ⟨fun _ _ => rfl, fun k hk => absurd hk (Nat.not_lt_zero k)⟩
  obtain ⟨M', ⟨k1, k2⟩, k4⟩ := key
  try dsimp only at k4
  rw [show pop 0 u = 0 from rfl, show ((0 : Nat) : Int) = 0 from rfl] at k4
  rw [k4, s_GaugeNetModel_weighs_67, if_pos (by omega)]
  refine ⟨M', rfl, k1, fun k hk => k2 k ?_⟩
  have : pop 7 u ≤ pop 8 u := pop_le_pop (by omega)
  omega
theorem r_weighsC (hr : RW lv W M) (h : WF W) {s t : Nat} (ht : t < 4096) (hs : sbs s (told W)) (hn : pop 14 s = mny W s + 1) (h131 : ∀ i, i < pop 14 s → M 131 i = (sl s i 14 : Int)) (h132 : ∀ u, u < mny W s → M 132 u = (sl (nbW W s) u 7 : Int)) (h0 : ∀ r, r < 14 → M 128 (14 * t + r) = 0) : ∃ M', gA 226 111 [rv 11 100, iv (t : Int), none, iv (pop 14 s : Int), none, none, jv 0, none, iv 0, none, none, none] [] M = gA 226 111 [rv 11 100, iv (t : Int), none, iv (pop 14 s : Int), none, none, jv (gcdTo (raw W s) (pop 14 s) : Int), none, iv (pop 14 s : Int), none, none, none] [] M' ∧ Wfr t M M' ∧ (∀ i, i < pop 14 s → M' 131 i = (sl s i 14 : Int)) ∧ ∀ r, r < 14 → M' 128 (14 * t + r) = if s.testBit r = true then raw W s (pop r s) else 0 := by
  have hm := mny_le W s
  have key := pu_rel (S := mM) (G := fun k M' => gA 226 111 [rv 11 100, iv (t : Int), none, iv (pop 14 s : Int), none, none, jv (gcdTo (raw W s) k : Int), none, iv (k : Int), none, none, none] [] M') (I := fun k M' => Wfr t M M' ∧ (∀ i, i < pop 14 s → M' 131 i = (sl s i 14 : Int)) ∧ (∀ u, u < mny W s → M' 132 u = (sl (nbW W s) u 7 : Int)) ∧ ∀ r, r < 14 → M' 128 (14 * t + r) = if s.testBit r = true ∧ pop r s < k then raw W s (pop r s) else 0) (pop 14 s) (fun k M' hk hI => by
    obtain ⟨i1, i2, i3, i4⟩ := hI
    have hr1 : RW lv W M' := RW_k hr (Wfr_Rk i1)
    obtain ⟨M1, a1, a2⟩ := r_minorWithout hr1 h hs hn i2 i3 hk
    have hsl := sl_spec s k 14 hk
    have hra := raw_abs h s k
    have hrm := raw_mi W s k
    have hg := gcdTo_le (f := raw W s) (B := 24056562600) k (fun j _ => raw_abs h s j)
    have e1 : w32 (w32 (14 * (t : Int)) + M1 131 ((k : Nat) : Int).toNat) = ((14 * t + sl s k 14 : Nat) : Int) := by
      rw [pu_nn, a2 131 (by omega), i2 k hk, w32_14 ht hsl.1]
    have ek : ((k : Nat) : Int).tmod 2 = ((k % 2 : Nat) : Int) := rfl
    have ec : gC 228 [jv (gcdTo (raw W s) k : Int), jv (mi W s k)] (st M1 128 (14 * t + sl s k 14) (raw W s k)) = some (jv (gcdTo (raw W s) (k + 1) : Int), st M1 128 (14 * t + sl s k 14) (raw W s k)) := by
      rw [r_common (by omega) (by omega), Int.natAbs_natCast, gcdTo, raw_mi]
    try dsimp only
    rw [s_GaugeNetModel_weighs_111, if_neg (by omega), a1, bJ_some, if_pos (by omega), e1, ek, pu_inc (by omega), pu_nn]
    refine ⟨st M1 128 (14 * t + sl s k 14) (raw W s k), ⟨Wfr_st ⟨fun o b1 b2 b3 b4 => by rw [a2 o b4]; exact i1.1 o b1 b2 b3 b4, fun x hx => by rw [a2 128 (by omega)]; exact i1.2 x hx⟩ (by omega) (by omega), fun i hi => by rw [st_ob (by omega), a2 131 (by omega)]; exact i2 i hi, fun u hu => by rw [st_ob (by omega), a2 132 (by omega)]; exact i3 u hu, fun r hr14 => ?_⟩, ?_⟩
    · rw [st_if, a2 128 (by omega), i4 r hr14]
      by_cases e : r = sl s k 14
      · subst e
        rw [if_pos rfl, hsl.2.2, if_pos (show s.testBit (sl s k 14) = true ∧ k < k + 1 from ⟨hsl.2.1, Nat.lt_succ_self k⟩)]
      · rw [if_neg (show ¬ 14 * t + r = 14 * t + sl s k 14 by omega)]
        by_cases z : s.testBit r = true
        · have hne : pop r s ≠ k := fun y => e (by rw [← y]; exact (sl_of z hr14).symm)
          by_cases y : pop r s < k
          · rw [if_pos (show s.testBit r = true ∧ pop r s < k from ⟨z, y⟩), if_pos (show s.testBit r = true ∧ pop r s < k + 1 from ⟨z, by omega⟩)]
          · rw [if_neg (show ¬ (s.testBit r = true ∧ pop r s < k) from fun x => y x.2), if_neg (show ¬ (s.testBit r = true ∧ pop r s < k + 1) from fun x => by have := x.2; omega)]
        · rw [if_neg (show ¬ (s.testBit r = true ∧ pop r s < k) from fun x => z x.1), if_neg (show ¬ (s.testBit r = true ∧ pop r s < k + 1) from fun x => z x.1)]
    · by_cases z : k % 2 = 0
      · have er : raw W s k = mi W s k := by
          unfold raw sg
          rw [if_pos z, Int.one_mul]
        rw [er] at ec
        rw [if_neg (by omega), if_pos (by omega), er, ec, bJ_some]
      · have er : raw W s k = - mi W s k := by
          unfold raw sg
          rw [if_neg z, Int.neg_mul, Int.one_mul]
        rw [er] at ec
        rw [if_pos (by omega), if_pos (by omega), pu_w64 (x := - mi W s k) (by omega) (by omega), er, ec, bJ_some]) 0 M (Nat.zero_le _) ⟨Wfr_refl t M, h131, h132, fun r hr14 => by rw [h0 r hr14, if_neg (fun x => Nat.not_lt_zero _ x.2)]⟩
  obtain ⟨M', ⟨k1, k2, k3, k4⟩, k5⟩ := key
  try dsimp only at k5
  rw [show ((gcdTo (raw W s) 0 : Nat) : Int) = 0 from rfl, show ((0 : Nat) : Int) = 0 from rfl] at k5
  refine ⟨M', k5, k1, k2, fun r hr14 => ?_⟩
  rw [k4 r hr14]
  by_cases z : s.testBit r = true
  · rw [if_pos (show s.testBit r = true ∧ pop r s < pop 14 s from ⟨z, pop_lt_pop hr14 z⟩), if_pos z]
  · rw [if_neg (show ¬ (s.testBit r = true ∧ pop r s < pop 14 s) from fun x => z x.1), if_neg z]
/-- what the last loop keeps -/
def Jn (W M : mM) (s t i : Nat) (M' : mM) : Prop := Wfr t M M' ∧ (∀ k, k < pop 14 s → M' 131 k = (sl s k 14 : Int)) ∧ ∀ r, r < 14 → M' 128 (14 * t + r) = if s.testBit r = true then (if pop r s < i then nrm (raw W s) (pop 14 s) (pop r s) else raw W s (pop r s)) else 0
theorem Jn_step {W M M' N : mM} {s t i : Nat} (h : Jn W M s t i M') (hi : i < pop 14 s) (h1 : ∀ o, o ≠ 128 → N o = M' o) (h2 : ∀ x, N 128 x = if x = 14 * t + sl s i 14 then nrm (raw W s) (pop 14 s) i else M' 128 x) : Jn W M s t (i + 1) N := by
  obtain ⟨j1, j2, j3⟩ := h
  have hsl := sl_spec s i 14 hi
  refine ⟨⟨fun o a b c d => by rw [h1 o a]; exact j1.1 o a b c d, fun x hx => by rw [h2, if_neg (by omega)]; exact j1.2 x hx⟩, fun k hk => by rw [h1 131 (by omega)]; exact j2 k hk, fun r hr14 => ?_⟩
  rw [h2, j3 r hr14]
  by_cases e : r = sl s i 14
  · subst e
    rw [if_pos rfl, if_pos hsl.2.1, hsl.2.2, if_pos (Nat.lt_succ_self i)]
  · rw [if_neg (show ¬ 14 * t + r = 14 * t + sl s i 14 by omega)]
    by_cases z : s.testBit r = true
    · have hne : pop r s ≠ i := fun y => e (by rw [← y]; exact (sl_of z hr14).symm)
      rw [if_pos z, if_pos z]
      by_cases y : pop r s < i
      · rw [if_pos y, if_pos (show pop r s < i + 1 by omega)]
      · rw [if_neg y, if_neg (show ¬ pop r s < i + 1 by omega)]
    · rw [if_neg z, if_neg z]
theorem st_two (M : mM) (o X : Nat) (a b : Int) : ∀ x, st (st M o X a) o X b o x = if x = X then b else M o x := by
  intro x
  rw [st_if]
  by_cases e : x = X
  · rw [if_pos e, if_pos e]
  · rw [if_neg e, if_neg e, st_nk e]
theorem adr {M' : mM} {t i r : Nat} (h : M' 131 i = (r : Int)) (ht : t < 4096) (hr : r < 14) : w32 (w32 (14 * (t : Int)) + M' 131 ((i : Nat) : Int).toNat) = ((14 * t + r : Nat) : Int) := by
  rw [pu_nn, h, w32_14 ht hr]
theorem r_weighsD {W M : mM} (h : WF W) {s t : Nat} (ht : t < 4096) (h16 : pop 14 s ≤ 14) (hg : gcdTo (raw W s) (pop 14 s) ≠ 0) (hJ : Jn W M s t 0 M) : ∃ M', gA 226 191 [rv 11 100, iv (t : Int), none, iv (pop 14 s : Int), none, none, jv (gcdTo (raw W s) (pop 14 s) : Int), none, iv 0, iv 1, iv 0, none] [] M = some (iv 1, M') ∧ Jn W M s t (pop 14 s) M' := by
  have key := pu_rel (S := mM) (G := fun i M' => gA 226 191 [rv 11 100, iv (t : Int), none, iv (pop 14 s : Int), none, none, jv (gcdTo (raw W s) (pop 14 s) : Int), none, iv (if fs (raw W s) i < 0 then 1 else 0), iv (if fs (raw W s) i = 0 then 1 else 0), iv (i : Int), none] [] M') (I := fun i M' => Jn W M s t i M') (pop 14 s) (fun i M' hi hI => by
    have hsl := sl_spec s i 14 hi
    have hra := raw_abs h s i
    obtain ⟨e, he⟩ := gcdTo_dvd (raw W s) (pop 14 s) i hi
    have hgp : (0 : Int) < (gcdTo (raw W s) (pop 14 s) : Int) := by omega
    have hd : (raw W s i).tdiv (gcdTo (raw W s) (pop 14 s) : Int) = e := by
      rw [he]
      exact Int.mul_tdiv_cancel_left e (by omega)
    have heb : e.natAbs ≤ 24056562600 := by
      rw [← hd, Int.natAbs_tdiv]
      exact Nat.le_trans (Nat.div_le_self _ _) hra
    have hpos : 0 < e → 0 < raw W s i := fun y => by rw [he]; exact Int.mul_pos hgp y
    have hneg : e < 0 → raw W s i < 0 := fun y => by rw [he]; exact Int.mul_neg_of_pos_of_neg hgp y
    have hzer : e = 0 → raw W s i = 0 := fun y => by rw [he, y, Int.mul_zero]
    have hn := nrm_turn (f := raw W s) (n := pop 14 s) hi
    rw [hd] at hn
    have hX : M' 128 (14 * t + sl s i 14) = raw W s i := by
      rw [hI.2.2 _ hsl.1, if_pos hsl.2.1, hsl.2.2, if_neg (Nat.lt_irrefl i)]
    have hXr : 0 ≤ ((14 * t + sl s i 14 : Nat) : Int) ∧ ((14 * t + sl s i 14 : Nat) : Int) < 57344 := by omega
    have q1 : nrm (raw W s) (pop 14 s) i = e → Jn W M s t (i + 1) (st M' 128 (14 * t + sl s i 14) e) := fun y => Jn_step hI hi (fun o ho => st_ob ho) (fun x => by rw [st_if, y])
    have q2 : nrm (raw W s) (pop 14 s) i = -e → Jn W M s t (i + 1) (st (st M' 128 (14 * t + sl s i 14) e) 128 (14 * t + sl s i 14) (-e)) := fun y => Jn_step hI hi (fun o ho => by rw [st_ob ho, st_ob ho]) (fun x => by rw [st_two, y])
    try dsimp only
    rw [s_GaugeNetModel_weighs_191, if_neg (by omega), if_pos (by omega), adr (hI.2.1 i hi) ht hsl.1, pu_nn, hX, hd, pu_w64 (x := e) (by omega) (by omega), if_pos hXr, if_neg (by omega), if_pos hXr, st_same, pu_w64 (x := -e) (by omega) (by omega), pu_inc (by omega)]
    by_cases z : fs (raw W s) i = 0
    · have f1 : fs (raw W s) (i + 1) = raw W s i := by rw [fs_s, if_pos z]
      rw [f1] at hn
      rw [f1, if_pos z, if_neg (show ¬ ((1 : Int) = 0) by omega), if_pos hXr, if_neg (show ¬ fs (raw W s) i < 0 by omega)]
      by_cases y : e = 0
      · have hz := hzer y
        rw [hz, if_neg (show ¬ ((0 : Int) < 0) by omega)] at hn
        rw [if_pos (lcmp_0.mpr y), if_pos rfl, hz, if_neg (show ¬ ((0 : Int) < 0) by omega), if_pos rfl]
        exact ⟨_, q1 hn, rfl⟩
      · rw [if_neg (fun x => y (lcmp_0.mp x)), if_pos hXr]
        by_cases x : 0 ≤ e
        · have hp := hpos (by omega)
          rw [if_neg (show ¬ raw W s i < 0 by omega)] at hn
          rw [if_pos (lcmp_ge.mpr x), if_neg (show ¬ raw W s i < 0 by omega), if_neg (show ¬ raw W s i = 0 by omega)]
          exact ⟨_, q1 hn, rfl⟩
        · have hp := hneg (by omega)
          rw [if_pos hp] at hn
          rw [if_neg (fun v => x (lcmp_ge.mp v)), if_pos hXr, if_pos hXr, if_pos hp, if_neg (show ¬ raw W s i = 0 by omega)]
          exact ⟨_, q2 hn, rfl⟩
    · have f1 : fs (raw W s) (i + 1) = fs (raw W s) i := by rw [fs_s, if_neg z]
      rw [f1] at hn
      rw [f1, if_neg z, if_pos rfl]
      by_cases y : fs (raw W s) i < 0
      · rw [if_pos y] at hn
        rw [if_pos y, if_neg (show ¬ ((1 : Int) = 0) by omega), if_pos hXr, if_pos hXr]
        exact ⟨_, q2 hn, rfl⟩
      · rw [if_neg y] at hn
        rw [if_neg y, if_pos rfl]
        exact ⟨_, q1 hn, rfl⟩) 0 M (Nat.zero_le _) hJ
  obtain ⟨M', k1, k2⟩ := key
  try dsimp only at k2
  rw [show fs (raw W s) 0 = 0 from rfl, if_neg (show ¬ ((0 : Int) < 0) by omega), if_pos rfl, show ((0 : Nat) : Int) = 0 from rfl] at k2
  rw [k2, s_GaugeNetModel_weighs_191, if_pos (by omega)]
  exact ⟨M', rfl, k1⟩
theorem r_weighs (hr : RW lv W M) (h : WF W) {s t : Nat} (ht : t < 4096) (hs : sbs s (told W)) (hT : isTB W s = true) : ∃ M', gC 226 [rv 11 100, iv (t : Int), iv (s : Int)] M = some (iv (if cr W s = true then 1 else 0), M') ∧ Wfr t M M' ∧ ∀ r, r < 14 → M' 128 (14 * t + r) = wt W s r := by
  have h16 := told16 hs
  have hpop := isT_pop h16 hT
  have hm := mny_le W s
  have hn : pop 14 s = mny W s + 1 := hpop.1
  rw [e_GaugeNetModel_weighs, r_unknownsOf hr h hs, bI_some]
  obtain ⟨M1, a1, a2, a3, a4⟩ := r_weighsA (M := M) ht h16 ((nbW W s : Nat) : Int) (by omega)
  rw [a1]
  obtain ⟨M2, b1, b2, b3⟩ := r_weighsB (M := M1) (u := nbW W s) (t := t) (nbW_lt h s) (pop 14 s : Int)
  rw [b1]
  have hr2 : RW lv W M2 := RW_k (RW_k hr (Wfr_Rk a2)) ⟨fun o h1 h2 => b2 o (by omega), fun k hk => by rw [b2 100 (by omega)]⟩
  obtain ⟨M3, c1, c2, c3, c4⟩ := r_weighsC hr2 h ht hs hn (fun i hi => by rw [b2 131 (by omega)]; exact a4 i hi) b3 (fun r hr14 => by rw [b2 128 (by omega)]; exact a3 r hr14)
  rw [c1, s_GaugeNetModel_weighs_111, if_pos (by omega)]
  have hfr : Wfr t M M3 := Wfr_trans a2 (Wfr_trans ⟨fun o _ _ q _ => b2 o q, fun x _ => by rw [b2 128 (by omega)]⟩ c2)
  by_cases z : gcdTo (raw W s) (pop 14 s) = 0
  · have hcr : cr W s = false := by
      unfold cr
      rw [decide_eq_false_iff_not, Decidable.not_not]
      exact z
    rw [if_neg (fun q => q (lcmp_0.mpr (by omega))), hcr, if_neg Bool.false_ne_true]
    refine ⟨M3, rfl, hfr, fun r hr14 => ?_⟩
    rw [c4 r hr14, wt_no h16 hcr]
    by_cases y : s.testBit r = true
    · rw [if_pos y, gcdTo_zero.mp z _ (pop_lt_pop hr14 y)]
    · rw [if_neg y]
  · have hcr : cr W s = true := by
      unfold cr
      rw [decide_eq_true_iff]
      exact z
    obtain ⟨M4, d1, d2⟩ := r_weighsD (M := M3) h ht (s := s) (by omega) z ⟨Wfr_refl t M3, c3, fun r hr14 => by
      rw [c4 r hr14]
      by_cases y : s.testBit r = true
      · rw [if_pos y, if_pos y, if_neg (Nat.not_lt_zero _)]
      · rw [if_neg y, if_neg y]⟩
    rw [if_pos (fun q => z (by have := lcmp_0.mp q; omega)), d1, hcr, if_pos rfl]
    refine ⟨M4, rfl, Wfr_trans hfr d2.1, fun r hr14 => ?_⟩
    rw [d2.2.2 r hr14]
    unfold wt wtk
    by_cases y : s.testBit r = true
    · rw [if_pos y, if_pos y, if_pos (pop_lt_pop hr14 y)]
    · rw [if_neg y, if_neg y]
end RW9
