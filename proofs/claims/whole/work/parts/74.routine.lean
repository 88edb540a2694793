/-! uses, use, ring -/
def nxB (H : Nat → Nat) (L F r : Nat) : Bool := L.testBit r && decide (pop 7 (bdiff (H r) F) = 1)
noncomputable def nx (H : Nat → Nat) (L F : Nat) : Int := fstI (nxB H L F) 14 (-1)
noncomputable def rr (H : Nat → Nat) : Nat → Nat → Nat → List Nat
  | 0, _, _ => []
  | n + 1, L, F => if nx H L F = -1 then [] else (nx H L F).toNat :: rr H n (bdiff L (2 ^ (nx H L F).toNat)) (F ||| H (nx H L F).toNat)
noncomputable def rl (H : Nat → Nat) : Nat → Nat → Nat → Nat
  | 0, L, _ => L
  | n + 1, L, F => if nx H L F = -1 then L else rl H n (bdiff L (2 ^ (nx H L F).toNat)) (F ||| H (nx H L F).toNat)
theorem nx_spec (H : Nat → Nat) (L F : Nat) : isFst (nxB H L F) 14 (-1) (nx H L F) := Classical.choose_spec (isFst_ex (nxB H L F) 14 (-1))
theorem nx_some {H : Nat → Nat} {L F : Nat} (h : nx H L F ≠ -1) : ∃ r : Nat, nx H L F = (r : Int) ∧ r < 14 ∧ L.testBit r = true ∧ nxB H L F r = true ∧ ∀ i, i < r → nxB H L F i = false := by
  rcases nx_spec H L F with ⟨k, a, b, c, d⟩ | ⟨_, d⟩
  · have b2 := b
    unfold nxB at b2
    rw [Bool.and_eq_true] at b2
    exact ⟨k, d, a, b2.1, b, c⟩
  · exact absurd d h
theorem nx_none {H : Nat → Nat} {L F : Nat} (h : nx H L F = -1) : ∀ i, i < 14 → nxB H L F i = false := by
  rcases nx_spec H L F with ⟨k, a, b, c, d⟩ | ⟨a, _⟩
  · rw [h] at d
    omega
  · exact a
theorem nx_zero (H : Nat → Nat) (F : Nat) : nx H 0 F = -1 := by
  by_cases z : nx H 0 F = -1
  · exact z
  · obtain ⟨r, _, _, h, _⟩ := nx_some z
    rw [Nat.zero_testBit] at h
    cases h
theorem rr_none {H : Nat → Nat} {n L F : Nat} (h : nx H L F = -1) : rr H n L F = [] := by
  cases n with
  | zero => rfl
  | succ n => rw [rr, if_pos h]
theorem rl_none {H : Nat → Nat} {n L F : Nat} (h : nx H L F = -1) : rl H n L F = L := by
  cases n with
  | zero => rfl
  | succ n => rw [rl, if_pos h]
theorem rr_some {H : Nat → Nat} {n L F r : Nat} (h : nx H L F = (r : Int)) : rr H (n + 1) L F = r :: rr H n (bdiff L (2 ^ r)) (F ||| H r) := by
  rw [rr, if_neg (by omega), h, pu_nn]
theorem rl_some {H : Nat → Nat} {n L F r : Nat} (h : nx H L F = (r : Int)) : rl H (n + 1) L F = rl H n (bdiff L (2 ^ r)) (F ||| H r) := by
  rw [rl, if_neg (by omega), h, pu_nn]
theorem gd_0 (r : Nat) (T : List Nat) : gd (r :: T) 0 = r := rfl
theorem gd_s (r : Nat) (T : List Nat) (j : Nat) : gd (r :: T) (j + 1) = gd T j := rfl
theorem or128 {a b : Nat} (ha : a < 128) (hb : b < 128) : a ||| b < 128 := Nat.or_lt_two_pow (n := 7) ha hb
theorem rl_le (H : Nat → Nat) : ∀ n L F, rl H n L F ≤ L
  | 0, _, _ => Nat.le_refl _
  | n + 1, L, F => by
    rw [rl]
    split
    · exact Nat.le_refl _
    · exact Nat.le_trans (rl_le H n _ _) (bdiff_le _ _)
theorem rr_len (H : Nat → Nat) : ∀ n L F, (rr H n L F).length ≤ n
  | 0, _, _ => Nat.le_refl _
  | n + 1, L, F => by
    rw [rr]
    split
    · exact Nat.zero_le _
    · rw [List.length_cons]
      exact Nat.succ_le_succ (rr_len H n _ _)
section RO
variable {w : Nat} {W M : mM}
theorem c_nextRow (hc : CW w W M) (h : WF W) {L F : Nat} (hL : L < 16384) (hF : F < 128) (h2 : M 23 2 = (L : Int)) (h3 : M 23 3 = (F : Int)) : gC 60 [rv 5 23, rv 9 w] M = some (iv (nx (wH W) L F), M) := by
  rw [e_Routine_nextRow]
  have one : ∀ r : Nat, r < 14 → gA 60 2 [rv 5 23, rv 9 w, iv (r : Int)] [] M = if nxB (wH W) L F r = true then some (iv (r : Int), M) else gA 60 2 [rv 5 23, rv 9 w, iv ((r + 1 : Nat) : Int)] [] M := by
    intro r hr
    have hw := wH_128 h r
    have hbd := bdiff_le (wH W r) F
    rw [s_Routine_nextRow_2, if_neg (by omega), h2, c_hasBit (by omega), bI_some, ite01_0, hB_nat, pu_inc (by omega)]
    unfold nxB
    by_cases z : L.testBit r = true
    · rw [if_pos z, c_hasOf hc h, bI_some, h3, andnot32 (by omega) (by omega), c_bitCount (by omega), bI_some, z, Bool.true_and, pop_ext (k := 7) (by omega) (by omega)]
      by_cases y : pop 7 (bdiff (wH W r) F) = 1
      · rw [if_neg (fun q => q (by omega)), if_pos (decide_eq_true y)]
      · rw [if_pos (by omega), if_neg (by rw [decide_eq_true_iff]; exact y)]
    · rw [if_neg z, if_neg (by rw [Bool.and_eq_true]; exact fun q => z q.1)]
  rcases nx_spec (wH W) L F with ⟨k, a, b, c, d⟩ | ⟨a, d⟩
  · have key := pu_up (fun i : Nat => gA 60 2 [rv 5 23, rv 9 w, iv (i : Int)] [] M) k (fun i hi => by
      try dsimp only
      rw [one i (by omega), if_neg (by rw [c i hi]; exact Bool.false_ne_true)])
    try dsimp only at key
    rw [show ((0 : Nat) : Int) = 0 from rfl] at key
    rw [key, one k a, if_pos b, d]
  · have key := pu_up (fun i : Nat => gA 60 2 [rv 5 23, rv 9 w, iv (i : Int)] [] M) 14 (fun i hi => by
      try dsimp only
      rw [one i hi, if_neg (by rw [a i hi]; exact Bool.false_ne_true)])
    try dsimp only at key
    rw [show ((0 : Nat) : Int) = 0 from rfl] at key
    rw [key, s_Routine_nextRow_2, if_pos (by omega), d]
theorem c_runLoop (h : WF W) : ∀ (n i L F : Nat) (M : mM), CW w W M → n + i = 14 → pop 14 L ≤ n → L < 16384 → F < 128 → M 23 1 = (i : Int) → M 23 2 = (L : Int) → M 23 3 = (F : Int) → ∃ M', gA 59 24 [rv 5 23, rv 9 w, none, iv (nx (wH W) L F), iv (i : Int)] [] M = some (none, M') ∧ (∀ o, o ≠ 23 → o ≠ 24 → M' o = M o) ∧ M' 23 1 = ((i + (rr (wH W) n L F).length : Nat) : Int) ∧ M' 23 2 = (rl (wH W) n L F : Int) ∧ (∀ j, j < i → M' 24 j = M 24 j) ∧ ∀ j, j < (rr (wH W) n L F).length → M' 24 (i + j) = (gd (rr (wH W) n L F) j : Int) := by
  intro n
  induction n with
  | zero =>
    intro i L F M hc hi hp hL hF h1 h2 h3
    have hL0 : L = 0 := pop_pos (k := 14) hL (by omega)
    rw [s_Routine_run_24, if_pos (by omega)]
    exact ⟨M, rfl, fun _ _ _ => rfl, h1, h2, fun _ _ => rfl, fun j hj => absurd hj (Nat.not_lt_zero j)⟩
  | succ n ih =>
    intro i L F M hc hi hp hL hF h1 h2 h3
    rw [s_Routine_run_24, if_neg (by omega)]
    by_cases z : nx (wH W) L F = -1
    · rw [if_pos z, rr_none z, rl_none z]
      exact ⟨M, rfl, fun _ _ _ => rfl, h1, h2, fun _ _ => rfl, fun j hj => absurd hj (Nat.not_lt_zero j)⟩
    · obtain ⟨r, e, r14, rb, _⟩ := nx_some z
      have hbd := bdiff_le L (2 ^ r)
      have hpd := pop_del (a := L) (r := r) (k := 14) rb r14
      have hw := wH_128 h r
      generalize hN1 : st (st M 24 i (r : Int)) 23 1 ((i + 1 : Nat) : Int) = N1
      have n1 : N1 23 2 = (L : Int) := by rw [← hN1, st_nk (by omega), st_ob (by omega)]; exact h2
      have n2 : N1 23 3 = (F : Int) := by rw [← hN1, st_nk (by omega), st_ob (by omega)]; exact h3
      have n3 : N1 23 1 = ((i + 1 : Nat) : Int) := by rw [← hN1, st_same]
      have n4 : ∀ o, o ≠ 23 → o ≠ 24 → N1 o = M o := fun o ho1 ho2 => by rw [← hN1, st_ob ho1, st_ob ho2]
      have n5 : ∀ j, N1 24 j = if j = i then (r : Int) else M 24 j := fun j => by rw [← hN1, st_ob (by omega), st_if]
      rw [if_neg z, e, h1, if_neg (by omega), if_pos (by omega), pu_nn, st_ob (show 23 ≠ 24 by omega), h1, pu_inc (by omega), hN1, n1, andnot1 (by omega) (by omega)]
      generalize hN2 : st N1 23 2 (bdiff L (2 ^ r) : Int) = N2
      have m1 : N2 23 3 = (F : Int) := by rw [← hN2, st_nk (by omega)]; exact n2
      have m2 : N2 23 2 = (bdiff L (2 ^ r) : Int) := by rw [← hN2, st_same]
      have m3 : N2 23 1 = ((i + 1 : Nat) : Int) := by rw [← hN2, st_nk (by omega)]; exact n3
      have m4 : ∀ o, o ≠ 23 → N2 o = N1 o := fun o ho => by rw [← hN2, st_ob ho]
      have hc2 : CW w W N2 := CW_k hc (fun o ho => by rw [m4 o (by omega), n4 o (by omega) (by omega)])
      rw [c_hasOf hc2 h, bI_some, m1, or32_nat (by omega) (by omega)]
      generalize hN3 : st N2 23 3 ((F ||| wH W r : Nat) : Int) = N3
      have k1 : N3 23 3 = ((F ||| wH W r : Nat) : Int) := by rw [← hN3, st_same]
      have k2 : N3 23 2 = (bdiff L (2 ^ r) : Int) := by rw [← hN3, st_nk (by omega)]; exact m2
      have k3 : N3 23 1 = ((i + 1 : Nat) : Int) := by rw [← hN3, st_nk (by omega)]; exact m3
      have k4 : ∀ o, o ≠ 23 → N3 o = N1 o := fun o ho => by rw [← hN3, st_ob ho]; exact m4 o ho
      have hc3 : CW w W N3 := CW_k hc (fun o ho => by rw [k4 o (by omega), n4 o (by omega) (by omega)])
      rw [c_nextRow hc3 h (L := bdiff L (2 ^ r)) (F := F ||| wH W r) (by omega) (or128 hF hw) k2 k1, bI_some]
      obtain ⟨M', a1, a2, a3, a4, a5, a6⟩ := ih (i + 1) (bdiff L (2 ^ r)) (F ||| wH W r) N3 hc3 (by omega) (by omega) (by omega) (or128 hF hw) k3 k2 k1
      rw [rr_some e, rl_some e, a1]
      refine ⟨M', rfl, fun o h4 h5 => by rw [a2 o h4 h5, k4 o h4, n4 o h4 h5], ?_, a4, fun j hj => ?_, fun j hj => ?_⟩
      · rw [a3, List.length_cons]
        congr 1
        omega
      · rw [a5 j (by omega), k4 24 (by omega), n5, if_neg (by omega)]
      · cases j with
        | zero => rw [gd_0, Nat.add_zero i, a5 i (by omega), k4 24 (by omega), n5, if_pos rfl]
        | succ j =>
          rw [List.length_cons] at hj
          rw [gd_s, show i + (j + 1) = i + 1 + j by omega]
          exact a6 j (by omega)
theorem c_run (hc : CW w W M) (h : WF W) {L : Nat} (hL : L < 16384) : ∃ M', gC 59 [rv 5 23, rv 9 w, iv (L : Int)] M = some (none, M') ∧ (∀ o, o ≠ 23 → o ≠ 24 → M' o = M o) ∧ M' 23 1 = ((rr (wH W) 14 L 0).length : Int) ∧ M' 23 2 = (rl (wH W) 14 L 0 : Int) ∧ ∀ j, j < (rr (wH W) 14 L 0).length → M' 24 j = (gd (rr (wH W) 14 L 0) j : Int) := by
  rw [e_Routine_run]
  generalize hN : st (st (st M 23 1 0) 23 2 (L : Int)) 23 3 0 = N
  have n1 : N 23 1 = ((0 : Nat) : Int) := by rw [← hN, st_nk (by omega), st_nk (by omega), st_same]; rfl
  have n2 : N 23 2 = (L : Int) := by rw [← hN, st_nk (by omega), st_same]
  have n3 : N 23 3 = ((0 : Nat) : Int) := by rw [← hN, st_same]; rfl
  have n4 : ∀ o, o ≠ 23 → N o = M o := fun o ho => by rw [← hN, st_ob ho, st_ob ho, st_ob ho]
  have hc2 : CW w W N := CW_k hc (fun o ho => n4 o (by omega))
  rw [c_nextRow hc2 h hL (show 0 < 128 by omega) n2 n3, bI_some]
  obtain ⟨M', a1, a2, a3, a4, a5, a6⟩ := c_runLoop h 14 0 L 0 N hc2 (by omega) (pop_le 14 L) hL (by omega) n1 n2 n3
  rw [show ((0 : Nat) : Int) = 0 from rfl] at a1
  rw [a1]
  refine ⟨M', rfl, fun o h1 h2 => by rw [a2 o h1 h2, n4 o h1], ?_, a4, fun j hj => ?_⟩
  · rw [a3, Nat.zero_add]
  · have := a6 j hj
    rw [Nat.zero_add] at this
    exact this
def rtB (W : mM) (x y : Int) : Prop := isTst W x = true ∧ hB (gd (TN W) x.toNat) y = true
noncomputable def rtL (W : mM) (x y : Int) : Nat := bdiff (gd (TN W) x.toNat) (2 ^ y.toNat)
theorem hB_row {W : mM} {i : Nat} {y : Int} (hi : i < (TN W).length) (h : hB (gd (TN W) i) y = true) : ∃ r : Nat, y = (r : Int) ∧ r < 14 ∧ (gd (TN W) i).testBit r = true := by
  unfold hB at h
  rw [Bool.and_eq_true, decide_eq_true_iff] at h
  exact ⟨y.toNat, by omega, (TN_row hi h.2).1, h.2⟩
theorem c_runRoutine {W : mM} {tl : Nat} {tp : Nat → Int} {pl : Int} {M : mM} (hc : CI W tl tp pl M) (h : WF W) (x y : Int) : ∃ M', CI W tl tp pl M' ∧ ((rtB W x y ∧ gC 153 [rv 10 0, iv x, iv y] M = some (iv 1, M') ∧ M' 23 1 = ((rr (wH W) 14 (rtL W x y) 0).length : Int) ∧ M' 23 2 = (rl (wH W) 14 (rtL W x y) 0 : Int) ∧ ∀ j, j < (rr (wH W) 14 (rtL W x y) 0).length → M' 24 j = (gd (rr (wH W) 14 (rtL W x y) 0) j : Int)) ∨ (¬ rtB W x y ∧ gC 153 [rv 10 0, iv x, iv y] M = some (iv 0, M'))) := by
  obtain ⟨M1, a2, a3⟩ := c_testAt hc h x
  obtain ⟨w, w2, hb, h5, hP, hT⟩ := id a2
  rw [e_GaugeNet_runRoutine]
  rcases a3 with ⟨t, i, t1, t2, t3, t4, t5⟩ | ⟨q1, q2⟩
  · have e : isTst W x = true := by
      unfold isTst
      rw [t3, inR_nat]
      exact decide_eq_true t2
    rw [t5, bI_some, if_neg (by omega), c_hasRow hT t1, bI_some, ite01_n, t4]
    by_cases z : hB (gd (TN W) i) y = true
    · obtain ⟨r, r1, r2, r3⟩ := hB_row t2 z
      have hs := TN_lt t2
      have hbd := bdiff_le (gd (TN W) i) (2 ^ r)
      have eL : rtL W x y = bdiff (gd (TN W) i) (2 ^ r) := by
        unfold rtL
        rw [t3, r1, pu_nn, pu_nn]
      rw [if_pos z, c_rowsOf hT t t1, bI_some, hb.2.1, pu_nn, t4, r1, andnot1 (by omega) (by omega)]
      obtain ⟨M2, b1, b2, b3, b4, b5⟩ := c_run hb.2.2.2.1 h (L := bdiff (gd (TN W) i) (2 ^ r)) (by omega)
      rw [b1, bV_none, ← r1, eL]
      refine ⟨M2, CI_s (CY_CI a2) (fun o ho => b2 o (by omega) (by omega)), Or.inl ⟨⟨e, by rw [t3, pu_nn]; exact z⟩, rfl, b3, b4, b5⟩⟩
    · rw [if_neg z]
      refine ⟨M1, CY_CI a2, Or.inr ⟨fun q => z ?_, rfl⟩⟩
      have := q.2
      rw [t3, pu_nn] at this
      exact this
  · rw [q2, bI_some, if_pos rfl]
    refine ⟨M1, CY_CI a2, Or.inr ⟨fun q => ?_, rfl⟩⟩
    have q3 := q.1
    rw [q1] at q3
    exact Bool.false_ne_true q3
theorem nb_one {W : mM} {r : Nat} (hr : r < 14) : nbW W (2 ^ r) = wH W r := by
  apply Nat.eq_of_testBit_eq
  intro u
  rw [Bool.eq_iff_iff]
  unfold nbW
  rw [nbr_tb]
  constructor
  · rintro ⟨k, h1, h2, h3⟩
    rw [tb_pow, decide_eq_true_iff] at h2
    rw [h2]
    exact h3
  · intro q
    exact ⟨r, hr, by rw [tb_pow]; exact decide_eq_true rfl, q⟩
theorem or_bd (a b : Nat) : a ||| bdiff b a = a ||| b := by
  apply Nat.eq_of_testBit_eq
  intro i
  rw [Nat.testBit_or, Nat.testBit_or, bdiff_testBit]
  cases a.testBit i <;> cases b.testBit i <;> rfl
theorem Rs_so {M M' : mM} (h : Rs M M') {o k : Nat} {v : Int} (ho : 129 < o) : Rs M (st M' o k v) := ⟨fun o' h1 h2 => by rw [st_ob (by omega)]; exact h.1 o' h1 h2, fun j hj => by rw [st_ob (by omega)]; exact h.2 j hj⟩
theorem Rs_s1 {M M' : mM} (h : Rs M M') {k : Nat} {v : Int} (hk : 45 < k) : Rs M (st M' 100 k v) := ⟨fun o' h1 h2 => by rw [st_ob h1]; exact h.1 o' h1 h2, fun j hj => by rw [st_nk (by omega)]; exact h.2 j hj⟩
theorem r_runLoop {lv : Nat} {W : mM} (h : WF W) : ∀ (n c L F : Nat) (M : mM), RW lv W M → sbs L (told W) → pop 14 L ≤ n → F < 128 → c + n ≤ 16 → M 100 53 = (c : Int) → ∃ M', gA 249 57 [rv 11 100, none, none, iv (L : Int), iv (F : Int), iv 1, none, none] [] M = some (iv (rl (wH W) n L F : Int), M') ∧ Rs M M' ∧ M' 100 53 = ((c + (rr (wH W) n L F).length : Nat) : Int) ∧ (∀ j, j < c → M' 134 j = M 134 j) ∧ ∀ j, j < (rr (wH W) n L F).length → M' 134 (c + j) = (gd (rr (wH W) n L F) j : Int) := by
  intro n
  induction n with
  | zero =>
    intro c L F M hr hs hp hF hcn h53
    have hL := told16 hs
    have hL0 : L = 0 := pop_pos (k := 14) hL (by omega)
    have key := pu_up (fun i : Nat => gA 249 68 [rv 11 100, none, none, iv (L : Int), iv (F : Int), iv 0, iv (i : Int), none] [] M) 14 (fun i hi => by
      try dsimp only
      rw [s_GaugeNetModel_routine_68, if_neg (by omega), if_neg (fun q => q rfl), if_neg (fun q => q ((and1_eq0 (by omega) (by omega)).mpr (by rw [hL0]; exact Nat.zero_testBit i))), pu_inc (by omega)])
    try dsimp only at key
    rw [show ((0 : Nat) : Int) = 0 from rfl] at key
    rw [s_GaugeNetModel_routine_57, if_neg (by omega), key, s_GaugeNetModel_routine_68, if_pos (by omega), s_GaugeNetModel_routine_57, if_pos rfl]
    exact ⟨M, rfl, Rs_refl M, h53, fun _ _ => rfl, fun j hj => absurd hj (Nat.not_lt_zero j)⟩
  | succ n ih =>
    intro c L F M hr hs hp hF hcn h53
    have hL := told16 hs
    rw [s_GaugeNetModel_routine_57, if_neg (by omega)]
    have one : ∀ r : Nat, r < 14 → nxB (wH W) L F r = false → gA 249 68 [rv 11 100, none, none, iv (L : Int), iv (F : Int), iv 0, iv (r : Int), none] [] M = gA 249 68 [rv 11 100, none, none, iv (L : Int), iv (F : Int), iv 0, iv ((r + 1 : Nat) : Int), none] [] M := by
      intro r hr14 hno
      have hw := wH_128 h r
      have hbd := bdiff_le (wH W r) F
      have hp31 := pow31 (r := r) (by omega)
      rw [s_GaugeNetModel_routine_68, if_neg (by omega), if_neg (fun q => q rfl), pu_inc (by omega)]
      by_cases z : L.testBit r = true
      · have hst : sbs (2 ^ r) (told W) := fun i hi => by
          rw [tb_pow, decide_eq_true_iff] at hi
          rw [← hi]
          exact hs r z
        unfold nxB at hno
        rw [z, Bool.true_and, decide_eq_false_iff_not] at hno
        rw [if_pos (fun q => by rw [and1_eq0 (by omega) (by omega)] at q; rw [q] at z; exact Bool.false_ne_true z), shl32_one (by omega), r_unknownsOf hr h hst, bI_some, nb_one hr14, andnot32 (by omega) (by omega), r_bits (by omega), bI_some, pop_ext (k := 7) (by omega) (by omega), if_neg (by omega)]
      · rw [if_neg (fun q => q ((and1_eq0 (by omega) (by omega)).mpr (by rw [Bool.not_eq_true] at z; exact z)))]
    by_cases z : nx (wH W) L F = -1
    · have hno := nx_none z
      have key := pu_up (fun i : Nat => gA 249 68 [rv 11 100, none, none, iv (L : Int), iv (F : Int), iv 0, iv (i : Int), none] [] M) 14 (fun i hi => one i hi (hno i hi))
      try dsimp only at key
      rw [show ((0 : Nat) : Int) = 0 from rfl] at key
      rw [key, s_GaugeNetModel_routine_68, if_pos (by omega), s_GaugeNetModel_routine_57, if_pos rfl, rr_none z, rl_none z]
      exact ⟨M, rfl, Rs_refl M, h53, fun _ _ => rfl, fun j hj => absurd hj (Nat.not_lt_zero j)⟩
    · obtain ⟨r, e, r14, rb, ryes, rno⟩ := nx_some z
      have key := pu_up (fun i : Nat => gA 249 68 [rv 11 100, none, none, iv (L : Int), iv (F : Int), iv 0, iv (i : Int), none] [] M) r (fun i hi => one i (by omega) (rno i hi))
      try dsimp only at key
      rw [show ((0 : Nat) : Int) = 0 from rfl] at key
      have hw := wH_128 h r
      have hbw := bdiff_le (wH W r) F
      have hbd := bdiff_le L (2 ^ r)
      have hpd := pop_del (a := L) (r := r) (k := 14) rb r14
      have hp31 := pow31 (r := r) (by omega)
      have hst : sbs (2 ^ r) (told W) := fun i hi => by
        rw [tb_pow, decide_eq_true_iff] at hi
        rw [← hi]
        exact hs r rb
      unfold nxB at ryes
      rw [rb, Bool.true_and, decide_eq_true_iff] at ryes
      rw [key, s_GaugeNetModel_routine_68, if_neg (by omega), if_neg (fun q => q rfl), if_pos (fun q => by rw [and1_eq0 (by omega) (by omega)] at q; rw [q] at rb; exact Bool.false_ne_true rb), shl32_one (by omega), r_unknownsOf hr h hst, bI_some, nb_one r14, andnot32 (a := wH W r) (by omega) (by omega), r_bits (by omega), bI_some, pop_ext (k := 7) (x := bdiff (wH W r) F) (by omega) (by omega), if_pos (by omega), h53, if_pos (by omega), pu_nn, st_ob (show 100 ≠ 134 by omega), h53, ← shl32_one (r := r) (by omega), andnot1 (by omega) (by omega), or32_nat (by omega) (by omega), or_bd, pu_inc (by omega), pu_inc (by omega)]
      have e2 : ∀ N : mM, gA 249 68 [rv 11 100, none, none, iv (bdiff L (2 ^ r) : Int), iv ((F ||| wH W r : Nat) : Int), iv 1, iv ((r + 1 : Nat) : Int), none] [] N = gA 249 57 [rv 11 100, none, none, iv (bdiff L (2 ^ r) : Int), iv ((F ||| wH W r : Nat) : Int), iv 1, none, none] [] N := by
        intro N
        rw [s_GaugeNetModel_routine_68]
        by_cases q : 14 ≤ ((r + 1 : Nat) : Int)
        · rw [if_pos q]
        · rw [if_neg q, if_pos (by omega)]
      rw [e2]
      have hrs : Rs M (st (st M 134 c (r : Int)) 100 53 ((c + 1 : Nat) : Int)) := Rs_s1 (Rs_so (Rs_refl M) (by omega)) (by omega)
      obtain ⟨M', a1, a2, a3, a4, a5⟩ := ih (c + 1) (bdiff L (2 ^ r)) (F ||| wH W r) _ (RW_k hr (Rs_Rk hrs)) (sbs_trans (sbs_bdiff L _) hs) (by omega) (or128 hF hw) (by omega) (st_same (st M 134 c (r : Int)) 100 53 ((c + 1 : Nat) : Int))
      rw [rr_some e, rl_some e, a1]
      refine ⟨M', rfl, Rs_trans hrs a2, ?_, fun j hj => ?_, fun j hj => ?_⟩
      · rw [a3, List.length_cons]
        congr 1
        omega
      · rw [a4 j (by omega), st_ob (by omega), st_nk (by omega)]
      · cases j with
        | zero => rw [gd_0, Nat.add_zero c, a4 c (by omega), st_ob (by omega), st_same]
        | succ j =>
          rw [List.length_cons] at hj
          rw [gd_s, show c + (j + 1) = c + 1 + j by omega]
          exact a5 j (by omega)
theorem r_routine {W : mM} {tl : Nat} {tp : Nat → Int} {pl : Int} {M : mM} (hc : RI W tl tp pl M) (h : WF W) (x y : Int) : ∃ M', RI W tl tp pl M' ∧ ((rtB W x y ∧ gC 249 [rv 11 100, iv x, iv y] M = some (iv (rl (wH W) 14 (rtL W x y) 0 : Int), M') ∧ M' 100 53 = ((rr (wH W) 14 (rtL W x y) 0).length : Int) ∧ ∀ j, j < (rr (wH W) 14 (rtL W x y) 0).length → M' 134 j = (gd (rr (wH W) 14 (rtL W x y) 0) j : Int)) ∨ (¬ rtB W x y ∧ gC 249 [rv 11 100, iv x, iv y] M = some (iv (-1), M'))) := by
  have hc0 : RI W tl tp pl (st M 100 53 0) := RI_s hc (Rs_s1 (Rs_refl M) (by omega))
  obtain ⟨M1, a1, a2, a3⟩ := r_isTest2 hc0 h x
  obtain ⟨lv, b1, b2, b3⟩ := id a2
  have hL := TN_len W
  rw [e_GaugeNetModel_routine, a1, bI_some, ite01_0]
  by_cases z : isTst W x = true
  · have z2 := inR_iff.mp z
    obtain ⟨i, rfl⟩ : ∃ i : Nat, x = (i : Int) := ⟨x.toNat, by omega⟩
    have hi : i < (TN W).length := by omega
    have hs := TN_lt hi
    obtain ⟨s1, s2, s3⟩ := b3.2 i hi
    rw [if_pos z, r_inRange, bI_some]
    by_cases v : 0 ≤ y ∧ y ≤ 13
    · obtain ⟨r, rfl⟩ : ∃ r : Nat, y = (r : Int) := ⟨y.toNat, by omega⟩
      rw [if_pos v, if_neg (by omega), if_pos (by omega), pu_nn, s1]
      by_cases u : (gd (TN W) i).testBit r = true
      · have hbd := bdiff_le (gd (TN W) i) (2 ^ r)
        have e53 : M1 100 53 = ((0 : Nat) : Int) := by rw [a3.2 53 (by omega) (by omega), st_same]; rfl
        have eL : rtL W (i : Int) (r : Int) = bdiff (gd (TN W) i) (2 ^ r) := by
          unfold rtL
          rw [pu_nn, pu_nn]
        obtain ⟨M2, d1, d2, d3, d4, d5⟩ := r_runLoop (lv := lv) h 14 0 (bdiff (gd (TN W) i) (2 ^ r)) 0 M1 b1.1 (sbs_trans (sbs_bdiff _ _) (TN_told hi)) (pop_le 14 _) (by omega) (by omega) e53
        rw [if_pos (fun q => by rw [and1_eq0 (by omega) (by omega)] at q; rw [q] at u; exact Bool.false_ne_true u), if_pos (by omega), andnot1 (by omega) (by omega)]
        rw [show ((0 : Nat) : Int) = 0 from rfl] at d1
        rw [d1, eL]
        refine ⟨M2, RI_s (RY_RI a2) d2, Or.inl ⟨⟨z, by rw [pu_nn, hB_nat]; exact u⟩, rfl, ?_, fun j hj => ?_⟩⟩
        · rw [d3, Nat.zero_add]
        · have := d5 j hj
          rw [Nat.zero_add] at this
          exact this
      · rw [if_neg (fun q => q ((and1_eq0 (by omega) (by omega)).mpr (by rw [Bool.not_eq_true] at u; exact u)))]
        refine ⟨M1, RY_RI a2, Or.inr ⟨fun q => u ?_, rfl⟩⟩
        have := q.2
        rw [pu_nn, hB_nat] at this
        exact this
    · rw [if_neg v, if_pos rfl]
      refine ⟨M1, RY_RI a2, Or.inr ⟨fun q => v ?_, rfl⟩⟩
      have := q.2
      rw [pu_nn] at this
      obtain ⟨r, r1, r2, _⟩ := hB_row hi this
      omega
  · rw [if_neg z]
    exact ⟨M1, RY_RI a2, Or.inr ⟨fun q => z q.1, rfl⟩⟩
noncomputable def rtD (W : mM) (x y : Int) : Bool := isTst W x && hB (gd (TN W) x.toNat) y
theorem rtD_iff {W : mM} {x y : Int} : rtD W x y = true ↔ rtB W x y := by
  unfold rtD rtB
  rw [Bool.and_eq_true]
noncomputable def usA (W : mM) (x y : Int) : Int := if rtD W x y = true then ((rr (wH W) 14 (rtL W x y) 0).length : Int) else -1
noncomputable def uiA (W : mM) (x y i : Int) : Int := if rtD W x y = true then (if inR i (rr (wH W) 14 (rtL W x y) 0).length = true then (gd (rr (wH W) 14 (rtL W x y) 0) i.toNat : Int) else -1) else -1
noncomputable def urA (W : mM) (x y : Int) : Int := if rtD W x y = true then (rl (wH W) 14 (rtL W x y) 0 : Int) else -1
theorem p_uses (x y : Int) : PureI Rel 152 248 [iv x, iv y] := by
  refine pure_qI (fun W => usA W x y) (fun W tl tp pl M h _ hc => ?_) (fun W tl tp pl M h hr => ?_)
  · obtain ⟨M', a1, a2⟩ := c_runRoutine hc h x y
    refine ⟨M', ?_, a1⟩
    rw [e_GaugeNet_uses]
    unfold usA
    rcases a2 with ⟨q1, q2, q3, q4, q5⟩ | ⟨q1, q2⟩
    · rw [q2, bI_some, if_neg (by omega), if_pos (rtD_iff.mpr q1), q3]
    · rw [q2, bI_some, if_pos rfl, if_neg (fun z => q1 (rtD_iff.mp z))]
  · obtain ⟨M', a1, a2⟩ := r_routine hr h x y
    refine ⟨M', ?_, a1⟩
    rw [e_GaugeNetModel_uses]
    unfold usA
    rcases a2 with ⟨q1, q2, q3, q4⟩ | ⟨q1, q2⟩
    · rw [q2, bI_some, if_pos (by omega), if_pos (rtD_iff.mpr q1), q3]
    · rw [q2, bI_some, if_neg (fun z => z rfl), if_neg (fun z => q1 (rtD_iff.mp z))]
theorem p_use (x y i : Int) : PureI Rel 154 250 [iv x, iv y, iv i] := by
  refine pure_qI (fun W => uiA W x y i) (fun W tl tp pl M h _ hc => ?_) (fun W tl tp pl M h hr => ?_)
  · obtain ⟨M', a1, a2⟩ := c_runRoutine hc h x y
    refine ⟨M', ?_, a1⟩
    rw [e_GaugeNet_use]
    unfold uiA
    rcases a2 with ⟨q1, q2, q3, q4, q5⟩ | ⟨q1, q2⟩
    · have hl := rr_len (wH W) 14 (rtL W x y) 0
      rw [q2, bI_some, if_neg (by omega), if_pos (rtD_iff.mpr q1), e_Routine_rowAt, q3]
      by_cases z : i < 0
      · rw [if_pos z, bI_some, inR_no (by omega), if_neg Bool.false_ne_true]
      · by_cases v : ((rr (wH W) 14 (rtL W x y) 0).length : Int) ≤ i
        · rw [if_neg z, if_pos v, bI_some, inR_no (by omega), if_neg Bool.false_ne_true]
        · rw [if_neg z, if_neg v, if_neg (by omega), if_pos (by omega), bI_some, if_pos (inR_iff.mpr ⟨by omega, by omega⟩), q5 i.toNat (by omega)]
    · rw [q2, bI_some, if_pos rfl, if_neg (fun z => q1 (rtD_iff.mp z))]
  · obtain ⟨M', a1, a2⟩ := r_routine hr h x y
    refine ⟨M', ?_, a1⟩
    rw [e_GaugeNetModel_use]
    unfold uiA
    rcases a2 with ⟨q1, q2, q3, q4⟩ | ⟨q1, q2⟩
    · have hl := rr_len (wH W) 14 (rtL W x y) 0
      rw [q2, bI_some, if_neg (by omega), if_pos (rtD_iff.mpr q1), q3]
      by_cases z : i < 0
      · rw [if_pos z, inR_no (by omega), if_neg Bool.false_ne_true]
      · by_cases v : i < ((rr (wH W) 14 (rtL W x y) 0).length : Int)
        · rw [if_neg z, if_pos v, if_pos (by omega), if_pos (inR_iff.mpr ⟨by omega, by omega⟩), q4 i.toNat (by omega)]
        · rw [if_neg z, if_neg v, inR_no (by omega), if_neg Bool.false_ne_true]
    · rw [q2, bI_some, if_pos rfl, if_neg (fun z => q1 (rtD_iff.mp z))]
theorem p_ring (x y : Int) : PureI Rel 155 251 [iv x, iv y] := by
  refine pure_qI (fun W => urA W x y) (fun W tl tp pl M h _ hc => ?_) (fun W tl tp pl M h hr => ?_)
  · obtain ⟨M', a1, a2⟩ := c_runRoutine hc h x y
    refine ⟨M', ?_, a1⟩
    rw [e_GaugeNet_ring]
    unfold urA
    rcases a2 with ⟨q1, q2, q3, q4, q5⟩ | ⟨q1, q2⟩
    · rw [q2, bI_some, if_neg (by omega), if_pos (rtD_iff.mpr q1), q4]
    · rw [q2, bI_some, if_pos rfl, if_neg (fun z => q1 (rtD_iff.mp z))]
  · obtain ⟨M', a1, a2⟩ := r_routine hr h x y
    refine ⟨M', ?_, a1⟩
    rw [e_GaugeNetModel_ring]
    unfold urA
    rcases a2 with ⟨q1, q2, q3, q4⟩ | ⟨q1, q2⟩
    · rw [q2, bI_some, if_pos (rtD_iff.mpr q1)]
    · rw [q2, bI_some, if_neg (fun z => q1 (rtD_iff.mp z))]
end RO
