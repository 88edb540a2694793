/-! The class's TESTS: look-ups and weights. -/
def cnt (q : Nat → Bool) (L : List Nat) (i : Nat) : Nat := ((L.take i).filter q).length
theorem take_gd {L : List Nat} {i : Nat} (h : i < L.length) : L.take (i + 1) = L.take i ++ [gd L i] := by
  unfold gd
  rw [List.getD_eq_getElem?_getD, List.getElem?_eq_getElem h, List.take_succ, List.getElem?_eq_getElem h]
  rfl
theorem cnt_0 (q : Nat → Bool) (L : List Nat) : cnt q L 0 = 0 := rfl
theorem cnt_succ {q : Nat → Bool} {L : List Nat} {i : Nat} (h : i < L.length) : cnt q L (i + 1) = cnt q L i + (if q (gd L i) = true then 1 else 0) := by
  unfold cnt
  rw [take_gd h, List.filter_append, List.length_append, List.filter_cons]
  split <;> rfl
theorem cnt_all (q : Nat → Bool) (L : List Nat) : cnt q L L.length = (L.filter q).length := by
  unfold cnt
  rw [List.take_length]
theorem gd_mid (A B : List Nat) (c : Nat) : gd (A ++ c :: B) A.length = c := by
  unfold gd
  rw [List.getD_eq_getElem?_getD, List.getElem?_append_right (Nat.le_refl _), Nat.sub_self]
  rfl
theorem drop_gd {L : List Nat} {i : Nat} (h : i < L.length) : L.drop i = gd L i :: L.drop (i + 1) := by
  unfold gd
  rw [List.getD_eq_getElem?_getD, List.getElem?_eq_getElem h, List.drop_eq_getElem_cons h]
  rfl
theorem gd_cnt {q : Nat → Bool} {L : List Nat} {i : Nat} (h : i < L.length) (hq : q (gd L i) = true) : cnt q L i < (L.filter q).length ∧ gd (L.filter q) (cnt q L i) = gd L i := by
  have e : L.filter q = (L.take i).filter q ++ gd L i :: (L.drop (i + 1)).filter q := by
    have e1 : L = L.take i ++ L.drop i := (List.take_append_drop i L).symm
    rw [drop_gd h] at e1
    have e2 : (L.take i ++ gd L i :: L.drop (i + 1)).filter q = (L.take i).filter q ++ gd L i :: (L.drop (i + 1)).filter q := by
      rw [List.filter_append, List.filter_cons, if_pos hq]
    rw [← e1] at e2
    exact e2
  rw [e]
  unfold cnt
  refine ⟨?_, gd_mid _ _ _⟩
  rw [List.length_append, List.length_cons]
  omega
theorem cnt_le {q : Nat → Bool} {L : List Nat} : ∀ i, i ≤ L.length → cnt q L i ≤ i
  | 0, _ => Nat.le_refl 0
  | i + 1, h => by
    have := cnt_le (q := q) (L := L) i (by omega)
    rw [cnt_succ (by omega)]
    split <;> omega
theorem cnt_find {q : Nat → Bool} {L : List Nat} {k : Nat} : ∀ n, n ≤ L.length → k < cnt q L n → ∃ t, t < n ∧ q (gd L t) = true ∧ cnt q L t = k
  | 0, _, h => absurd h (Nat.not_lt_zero k)
  | n + 1, hn, h => by
    rw [cnt_succ (by omega)] at h
    by_cases z : k < cnt q L n
    · obtain ⟨t, t1, t2, t3⟩ := cnt_find n (by omega) z
      exact ⟨t, by omega, t2, t3⟩
    · by_cases y : q (gd L n) = true
      · rw [if_pos y] at h
        exact ⟨n, by omega, y, by omega⟩
      · rw [if_neg y] at h
        omega
section CT
variable {w : Nat} {W M : mM}
theorem TL_lt {W : mM} {t : Nat} (ht : t < (TL W).length) : gd (TL W) t < 16384 := told16 (TL_mem.mp (gd_mem ht)).1
theorem TL_is {W : mM} {t : Nat} (ht : t < (TL W).length) : isTB W (gd (TL W) t) = true := (TL_mem.mp (gd_mem ht)).2
theorem c_rowsOf (hT : TR W M) (t : Nat) (ht : t < (TL W).length) : gC 78 [rv 7 13, iv (t : Int)] M = some (iv (gd (TL W) t : Int), M) := by
  have hL := TL_len W
  rw [e_Tests_rowsOf, hT.1, if_neg (by omega), if_neg (by omega), if_neg (by omega), if_pos (by omega), pu_nn, (hT.2 t ht).1]
theorem c_rowsOf_no (x : Int) (hx : x < 0) : gC 78 [rv 7 13, iv x] M = some (iv (-1), M) := by
  rw [e_Tests_rowsOf, if_pos hx]
theorem c_isIn (hT : TR W M) {t n : Nat} (ht : t < (TL W).length) (hn : n < 2147483648) : gC 77 [rv 7 13, iv (t : Int), iv (n : Int)] M = some (iv (if decide (bdiff (gd (TL W) t) n = 0) = true then 1 else 0), M) := by
  have hs := TL_lt ht
  rw [e_Tests_isIn, c_rowsOf hT t ht, bI_some, if_neg (by omega), andnot32 (by omega) hn]
  by_cases z : bdiff (gd (TL W) t) n = 0
  · rw [if_neg (by omega), if_pos (decide_eq_true z)]
  · rw [if_pos (by omega), if_neg (by rw [decide_eq_true_iff]; exact z)]
theorem c_hasRow (hT : TR W M) {t : Nat} (ht : t < (TL W).length) (r : Int) : gC 80 [rv 7 13, iv (t : Int), iv r] M = some (iv (if hB (gd (TL W) t) r = true then 1 else 0), M) := by
  have hs := TL_lt ht
  rw [e_Tests_hasRow, c_rowsOf hT t ht, bI_some, if_neg (by omega), c_hasBit (by omega), bI_some, ite01_0]
  split <;> rfl
theorem c_hasRow_no (r : Int) : gC 80 [rv 7 13, iv (-1), iv r] M = some (iv 0, M) := by
  rw [e_Tests_hasRow, c_rowsOf_no _ (by omega), bI_some, if_pos rfl]
theorem c_countIn (hT : TR W M) {n : Nat} (hn : n < 2147483648) : gC 76 [rv 7 13, iv (n : Int)] M = some (iv ((((TL W).filter (fun s => decide (bdiff s n = 0))).length : Nat) : Int), M) := by
  have hL := TL_len W
  rw [e_Tests_countIn]
  have key := pu_up (fun i : Nat => gA 76 4 [rv 7 13, iv (n : Int), iv ((cnt (fun s => decide (bdiff s n = 0)) (TL W) i : Nat) : Int), iv (i : Int)] [] M) (TL W).length (fun i hi => by
    have hc := cnt_le (q := fun s => decide (bdiff s n = 0)) (L := TL W) i (by omega)
    try dsimp only
    rw [s_Tests_countIn_4, hT.1, if_neg (by omega), c_isIn hT hi hn, bI_some, ite01_0, cnt_succ hi]
    by_cases z : decide (bdiff (gd (TL W) i) n = 0) = true
    · rw [if_pos z, if_pos z, pu_inc (by omega), pu_inc (by omega)]
    · rw [if_neg z, if_neg z, Int.add_zero, pu_w32 (x := ((cnt (fun s => decide (bdiff s n = 0)) (TL W) i : Nat) : Int)) (by omega) (by omega), Nat.add_zero (cnt (fun s => decide (bdiff s n = 0)) (TL W) i), pu_inc (by omega)])
  try dsimp only at key
  rw [cnt_0, cnt_all, show ((0 : Nat) : Int) = 0 from rfl] at key
  rw [key, s_Tests_countIn_4, hT.1, if_pos (by omega)]
theorem c_find (hT : TR W M) {n : Nat} (hn : n < 2147483648) (k : Int) : (∃ t, t < (TL W).length ∧ bdiff (gd (TL W) t) n = 0 ∧ k = ((cnt (fun s => decide (bdiff s n = 0)) (TL W) t : Nat) : Int) ∧ gC 79 [rv 7 13, iv k, iv (n : Int)] M = some (iv (t : Int), M)) ∨ (inR k ((TL W).filter (fun s => decide (bdiff s n = 0))).length = false ∧ gC 79 [rv 7 13, iv k, iv (n : Int)] M = some (iv (-1), M)) := by
  have hL := TL_len W
  rw [e_Tests_find]
  by_cases k0 : k < 0
  · refine Or.inr ⟨inR_no (by omega), ?_⟩
    rw [s_Tests_find_5]
    by_cases z : M 13 4 ≤ 0
    · rw [if_pos z]
    · rw [if_neg z, if_pos k0]
  · obtain ⟨κ, rfl⟩ : ∃ κ : Nat, k = (κ : Int) := ⟨k.toNat, by omega⟩
    have up : ∀ N, N ≤ (TL W).length → (∀ i, i < N → (decide (bdiff (gd (TL W) i) n = 0) && decide (cnt (fun s => decide (bdiff s n = 0)) (TL W) i = κ)) = false) → gA 79 5 [rv 7 13, iv (κ : Int), iv (n : Int), iv 0, iv 0] [] M = gA 79 5 [rv 7 13, iv (κ : Int), iv (n : Int), iv ((cnt (fun s => decide (bdiff s n = 0)) (TL W) N : Nat) : Int), iv (N : Int)] [] M := by
      intro N hN hno
      have key := pu_up (fun i : Nat => gA 79 5 [rv 7 13, iv (κ : Int), iv (n : Int), iv ((cnt (fun s => decide (bdiff s n = 0)) (TL W) i : Nat) : Int), iv (i : Int)] [] M) N (fun i hi => by
        have hc := cnt_le (q := fun s => decide (bdiff s n = 0)) (L := TL W) i (by omega)
        have h1 := hno i hi
        try dsimp only
        rw [s_Tests_find_5, hT.1, if_neg (by omega), if_neg (by omega), c_isIn hT (by omega) hn, bI_some, ite01_0, cnt_succ (by omega)]
        by_cases z : decide (bdiff (gd (TL W) i) n = 0) = true
        · rw [z, Bool.true_and, decide_eq_false_iff_not] at h1
          rw [if_pos z, if_pos z, if_pos (by omega), pu_inc (by omega), pu_inc (by omega)]
        · rw [if_neg z, if_neg z, pu_inc (by omega), Nat.add_zero (cnt (fun s => decide (bdiff s n = 0)) (TL W) i)])
      exact key
    rcases pu_first (fun i => decide (bdiff (gd (TL W) i) n = 0) && decide (cnt (fun s => decide (bdiff s n = 0)) (TL W) i = κ)) (TL W).length with hno | ⟨t, t1, t2, t3⟩
    · refine Or.inr ⟨inR_no (fun z => ?_), ?_⟩
      · rw [← cnt_all] at z
        obtain ⟨t, t1, t2, t3⟩ := cnt_find (q := fun s => decide (bdiff s n = 0)) (L := TL W) (k := κ) (TL W).length (Nat.le_refl _) (by omega)
        have e := hno t t1
        rw [show decide (bdiff (gd (TL W) t) n = 0) = true from t2, decide_eq_true t3] at e
        exact absurd e (by decide)
      · rw [up _ (Nat.le_refl _) hno, s_Tests_find_5, hT.1, if_pos (by omega)]
    · rw [Bool.and_eq_true, decide_eq_true_iff, decide_eq_true_iff] at t2
      refine Or.inl ⟨t, t1, t2.1, by rw [t2.2], ?_⟩
      rw [up t (by omega) t3, s_Tests_find_5, hT.1, if_neg (by omega), if_neg (by omega), c_isIn hT t1 hn, bI_some, ite01_0, if_pos (decide_eq_true t2.1), if_neg (fun z => z (by rw [t2.2]))]
theorem c_findN (hT : TR W M) (h : WF W) (k : Int) : (∃ t i, t < (TL W).length ∧ i < (TN W).length ∧ k = (i : Int) ∧ gd (TL W) t = gd (TN W) i ∧ gC 79 [rv 7 13, iv k, iv ((net W : Nat) : Int)] M = some (iv (t : Int), M)) ∨ (inR k (TN W).length = false ∧ gC 79 [rv 7 13, iv k, iv ((net W : Nat) : Int)] M = some (iv (-1), M)) := by
  have hn := net_lt h
  rcases c_find hT (n := net W) (by omega) k with ⟨t, t1, t2, t3, t4⟩ | q
  · have := gd_cnt (q := fun s => decide (bdiff s (net W) = 0)) t1 (decide_eq_true t2)
    exact Or.inl ⟨t, _, t1, this.1, t3, this.2.symm, t4⟩
  · exact Or.inr q
/-- the TESTS of the net have their weights -/
def TZ (W M : mM) : Prop := ∀ t, t < (TL W).length → bdiff (gd (TL W) t) (net W) = 0 → M 15 t ≠ 0
theorem w32_t8 {t k : Nat} (ht : t < 3432) (hk : k < 8) : w32 (w32 ((t : Int) * 8) + (k : Int)) = ((t * 8 + k : Nat) : Int) := by
  rw [pu_w32 (x := (t : Int) * 8) (by omega) (by omega), pu_w32 (by omega) (by omega)]
  omega
theorem c_weigh (hc : CW w W M) (h : WF W) (hT : TR W M) : ∃ M', gC 81 [rv 7 13, rv 9 w, iv ((net W : Nat) : Int)] M = some (none, M') ∧ (∀ o, (o < 15 ∨ 20 < o) → M' o = M o) ∧ TR W M' ∧ TZ W M' := by
  have hL := TL_len W
  have hn := net_lt h
  rw [e_Tests_weigh]
  have key := pu_rel (S := mM) (G := fun i M' => gA 81 2 [rv 7 13, rv 9 w, iv ((net W : Nat) : Int), iv (i : Int), none] [] M') (I := fun i M' => (∀ o, (o < 15 ∨ 20 < o) → M' o = M o) ∧ TR W M' ∧ ∀ t, t < i → t < (TL W).length → bdiff (gd (TL W) t) (net W) = 0 → M' 15 t ≠ 0) (TL W).length (fun i M' hi hI => by
    obtain ⟨i1, i2, i3⟩ := hI
    have hs := TL_lt hi
    try dsimp only
    rw [s_Tests_weigh_2, i2.1, if_neg (by omega), if_neg (by omega), if_pos (by omega), pu_nn]
    by_cases z : M' 15 i = 0
    · rw [if_neg (fun y => y z), if_pos (by omega), (i2.2 i hi).1, andnot32 (by omega) (by omega)]
      by_cases y : bdiff (gd (TL W) i) (net W) = 0
      · have hc1 : CW w W M' := CW_k hc (fun o ho => i1 o (by omega))
        obtain ⟨M1, a1, a2, a3⟩ := c_solve hc1 h hs (TL_is hi)
        have e1 : ∃ M2 : mM, (bI (gC 16 [rv 1 17, rv 9 w, iv (gd (TL W) i : Int)] M') fun c1 M1 =>
            if c1 = 0 then
            if 0 ≤ (i : Int) ∧ (i : Int) < 3432 then
            gA 81 70 [rv 7 13, rv 9 w, iv ((net W : Nat) : Int), iv (i : Int), iv 0] [] (st M1 15 i 2)
            else none
            else
            if 0 ≤ (i : Int) ∧ (i : Int) < 3432 then
            gA 81 70 [rv 7 13, rv 9 w, iv ((net W : Nat) : Int), iv (i : Int), iv 0] [] (st M1 15 i 1)
            else none) = gA 81 70 [rv 7 13, rv 9 w, iv ((net W : Nat) : Int), iv (i : Int), iv 0] [] M2 ∧ M2 = st M1 15 i (if cr W (gd (TL W) i) = true then 1 else 2) := by
          refine ⟨_, ?_, rfl⟩
          rw [a1, bI_some, ite01_0]
          by_cases x : cr W (gd (TL W) i) = true
          · rw [if_pos x, if_pos (by omega), if_pos x]
          · rw [if_neg x, if_pos (by omega), if_neg x]
        obtain ⟨B, e1, hB⟩ := e1
        rw [if_neg (by omega), if_pos (by omega), e1]
        have b15 : ∀ t, B 15 t = if t = i then (if cr W (gd (TL W) i) = true then 1 else 2) else M' 15 t := fun t => by rw [hB, st_if, a2 15 (by omega)]
        have bo : ∀ o, (o < 15 ∨ 20 < o ∨ o = 16) → B o = M' o := fun o ho => by rw [hB, st_ob (by omega), a2 o (by omega)]
        have b20 : ∀ k, k < 8 → B 20 k = if k < pop 14 (gd (TL W) i) then wtk W (gd (TL W) i) k else 0 := fun k hk => by rw [hB, st_ob (by omega), a3 k hk]
        have key2 := pu_rel (S := mM) (G := fun k M2 => gA 81 70 [rv 7 13, rv 9 w, iv ((net W : Nat) : Int), iv (i : Int), iv (k : Int)] [] M2) (I := fun k M2 => (∀ o, o ≠ 16 → M2 o = B o) ∧ ∀ x, M2 16 x = if i * 8 ≤ x ∧ x < i * 8 + k then B 20 (x - i * 8) else B 16 x) 8 (fun k M2 hk hJ => by
          obtain ⟨j1, j2⟩ := hJ
          try dsimp only
          rw [s_Tests_weigh_70, if_neg (by omega), e_Elimination_weightAt, if_neg (by omega), if_neg (by omega), if_pos (by omega), bJ_some, w32_t8 (by omega) hk, if_pos (by omega), pu_nn, pu_nn, pu_inc (by omega)]
          refine ⟨_, ⟨fun o ho => by rw [st_ob ho]; exact j1 o ho, fun x => ?_⟩, rfl⟩
          rw [st_if, j2 x, j1 20 (by omega)]
          by_cases e : x = i * 8 + k
          · subst e
            rw [if_pos rfl, if_pos (show i * 8 ≤ i * 8 + k ∧ i * 8 + k < i * 8 + (k + 1) by omega), Nat.add_sub_cancel_left]
          · rw [if_neg e]
            by_cases f : i * 8 ≤ x ∧ x < i * 8 + k
            · rw [if_pos f, if_pos (show i * 8 ≤ x ∧ x < i * 8 + (k + 1) by omega)]
            · rw [if_neg f, if_neg (show ¬ (i * 8 ≤ x ∧ x < i * 8 + (k + 1)) by omega)]) 0 B (Nat.zero_le _) ⟨fun _ _ => rfl, fun x => by rw [if_neg (by omega)]⟩
        obtain ⟨M3, ⟨k1, k2⟩, k3⟩ := key2
        try dsimp only at k3
        rw [show ((0 : Nat) : Int) = 0 from rfl] at k3
        rw [k3, s_Tests_weigh_70, if_pos (by omega), pu_inc (by omega)]
        refine ⟨M3, ⟨fun o ho => by rw [k1 o (by omega), bo o (by omega), i1 o ho], ⟨by rw [k1 13 (by omega), bo 13 (by omega)]; exact i2.1, fun t ht => ?_⟩, fun t ht1 ht2 ht3 => ?_⟩, rfl⟩
        · obtain ⟨u1, u2⟩ := i2.2 t ht
          refine ⟨by rw [k1 14 (by omega), bo 14 (by omega)]; exact u1, ?_⟩
          rw [k1 15 (by omega), b15]
          by_cases e : t = i
          · subst e
            rw [if_pos rfl]
            refine Or.inr ⟨rfl, fun k hk => ?_⟩
            rw [k2, if_pos (by omega), Nat.add_sub_cancel_left, b20 k hk]
          · rw [if_neg e]
            rcases u2 with u2 | ⟨u2, u3⟩
            · exact Or.inl u2
            · refine Or.inr ⟨u2, fun k hk => ?_⟩
              rw [k2, if_neg (by omega), bo 16 (by omega), u3 k hk]
        · rw [k1 15 (by omega), b15]
          by_cases e : t = i
          · rw [if_pos e]
            split <;> omega
          · rw [if_neg e]
            exact i3 t (by omega) ht2 ht3
      · rw [if_pos (by omega), pu_inc (by omega)]
        refine ⟨M', ⟨i1, i2, fun t ht1 ht2 ht3 => ?_⟩, rfl⟩
        by_cases e : t = i
        · rw [e] at ht3
          exact absurd ht3 y
        · exact i3 t (by omega) ht2 ht3
    · rw [if_pos z, pu_inc (by omega)]
      refine ⟨M', ⟨i1, i2, fun t ht1 ht2 ht3 => ?_⟩, rfl⟩
      by_cases e : t = i
      · rw [e]; exact z
      · exact i3 t (by omega) ht2 ht3) 0 M (Nat.zero_le _) ⟨fun _ _ => rfl, hT, fun t ht => absurd ht (Nat.not_lt_zero t)⟩
  obtain ⟨M', ⟨k1, k2, k3⟩, k4⟩ := key
  try dsimp only at k4
  rw [show ((0 : Nat) : Int) = 0 from rfl] at k4
  rw [k4, s_Tests_weigh_2, k2.1, if_pos (by omega)]
  exact ⟨M', rfl, k1, k2, fun t ht ht3 => k3 t ht ht ht3⟩
end CT
