/-! sets, set, look -/
def fq (x : Int) (S : Nat) : Bool := decide (x = -1) || hB S x
noncomputable def sfB (W : mM) (strict : Bool) (x : Int) (S : Nat) : Bool := stR W (rgB W) strict S && fq x S
theorem szl_cap (p : Nat → Bool) (n c : Nat) : (szl p n c).length ≤ c := by
  have h : (szl p n c).length ≤ (List.range c).length := List.length_filter_le _ _
  rw [List.length_range] at h
  exact h
theorem szl_len1 (p : Nat → Bool) (n c : Nat) : (szl p n (c + 1)).length = (szl p n c).length + (if (p c && decide (pop 14 c = n)) = true then 1 else 0) := by
  rw [szl_succ, List.length_append]
  split <;> rfl
theorem fq_m1 (S : Nat) : fq (-1) S = true := rfl
theorem fq_nat (f S : Nat) : fq (f : Int) S = S.testBit f := by
  unfold fq
  rw [decide_eq_false (by omega), Bool.false_or, hB_nat]
theorem sfB_m1 (W : mM) (strict : Bool) : sfB W strict (-1) = stR W (rgB W) strict := by
  funext S
  unfold sfB
  rw [fq_m1, Bool.and_true]
theorem szl_sf (W : mM) (strict : Bool) (x : Int) (n c : Nat) : szl (sfB W strict x) n c = (szl (stR W (rgB W) strict) n c).filter (fq x) := by
  unfold szl
  rw [List.filter_filter]
  apply List.filter_congr
  intro s _
  unfold sfB
  cases stR W (rgB W) strict s <;> cases fq x s <;> cases decide (pop 14 s = n) <;> rfl
theorem sl4_sf (W : mM) (strict : Bool) (x : Int) (c : Nat) : ∀ n, sl4 (sfB W strict x) c n = (sl4 (stR W (rgB W) strict) c n).filter (fq x)
  | 0 => rfl
  | n + 1 => by
    rw [sl4, sl4, List.filter_append, ← sl4_sf W strict x c n, szl_sf]
theorem szl_pre (p : Nat → Bool) (n d : Nat) : ∀ e, ∃ R, szl p n (d + e) = szl p n d ++ R
  | 0 => ⟨[], by rw [List.append_nil]; rfl⟩
  | e + 1 => by
    obtain ⟨R, hR⟩ := szl_pre p n d e
    refine ⟨R ++ (if (p (d + e) && decide (pop 14 (d + e) = n)) = true then [d + e] else []), ?_⟩
    rw [← Nat.add_assoc, szl_succ, hR, List.append_assoc]
theorem sl4_up (p : Nat → Bool) (c n : Nat) : ∀ e, ∃ R, sl4 p c (n + e) = sl4 p c n ++ R
  | 0 => ⟨[], by rw [List.append_nil]; rfl⟩
  | e + 1 => by
    obtain ⟨R, hR⟩ := sl4_up p c n e
    refine ⟨R ++ szl p (n + e) c, ?_⟩
    rw [← Nat.add_assoc, sl4, hR, List.append_assoc]
theorem sl4_pre {p : Nat → Bool} {c n d : Nat} (hn : n < 4) (hd : d ≤ c) : ∃ R, sl4 p c 4 = (sl4 p c n ++ szl p n d) ++ R := by
  obtain ⟨R1, h1⟩ := szl_pre p n d (c - d)
  obtain ⟨R2, h2⟩ := sl4_up p c (n + 1) (4 - (n + 1))
  rw [show d + (c - d) = c by omega] at h1
  rw [show n + 1 + (4 - (n + 1)) = 4 by omega, show sl4 p c (n + 1) = sl4 p c n ++ szl p n c from rfl, h1] at h2
  exact ⟨R1 ++ R2, by rw [h2]; simp only [List.append_assoc]⟩
theorem sl4_lt {p : Nat → Bool} {c s : Nat} : ∀ n, s ∈ sl4 p c n → s < c
  | 0, h => by cases h
  | n + 1, h => by
    rw [sl4, List.mem_append] at h
    rcases h with h | h
    · exact sl4_lt n h
    · exact (szl_mem.mp h).1
/-- the best of the first k -/
def lk (d : Int) (g : Nat → Nat) : Nat → Int × Nat
  | 0 => (d, 0)
  | k + 1 => if k = 0 ∨ g k < (lk d g k).2 then ((k : Int), g k) else lk d g k
theorem lk_nn (d : Int) (g : Nat → Nat) : ∀ k, 0 ≤ (lk d g (k + 1)).1
  | 0 => by
    rw [lk, if_pos (Or.inl rfl)]
    exact Int.le_refl 0
  | k + 1 => by
    have ih := lk_nn d g k
    rw [lk]
    split
    · show 0 ≤ ((k + 1 : Nat) : Int)
      omega
    · exact ih
theorem lk_1 (d : Int) (g : Nat → Nat) : lk d g 1 = ((0 : Int), g 0) := by
  show (if 0 = 0 ∨ g 0 < (lk d g 0).2 then (((0 : Nat) : Int), g 0) else lk d g 0) = _
  rw [if_pos (Or.inl rfl)]
  rfl
theorem lk_dd (d d' : Int) (g : Nat → Nat) : ∀ k, lk d g (k + 1) = lk d' g (k + 1)
  | 0 => (lk_1 d g).trans (lk_1 d' g).symm
  | k + 1 => by
    have ih := lk_dd d d' g k
    show (if k + 1 = 0 ∨ g (k + 1) < (lk d g (k + 1)).2 then (((k + 1 : Nat) : Int), g (k + 1)) else lk d g (k + 1)) = (if k + 1 = 0 ∨ g (k + 1) < (lk d' g (k + 1)).2 then (((k + 1 : Nat) : Int), g (k + 1)) else lk d' g (k + 1))
    rw [ih]
def cfW (L : List Nat) (f : Nat) : Nat := (L.filter (fq (f : Int))).length
def grW (L : List Nat) (f : Nat) : Nat := if cfW L f < L.length - cfW L f then L.length - cfW L f else cfW L f
theorem cfW_le (L : List Nat) (f : Nat) : cfW L f ≤ L.length := List.length_filter_le _ _
section CS
variable {w : Nat} {W M : mM}
theorem wF256 (h : WF W) : 2 ^ wF W ≤ 256 := Nat.le_trans (Nat.pow_le_pow_right (by omega) (wf_F h).2) (Nat.le_refl 256)
theorem stL_len (h : WF W) (strict : Bool) : (stL W (rgB W) strict).length ≤ 93 := by
  have := sl4_len (p := stR W (rgB W) strict) (n := 3) (c := 2 ^ wF W) (d := 2 ^ wF W) (by omega) (wF256 h) (Nat.le_refl _)
  exact this
theorem c_countSetsOf (hQ : BH W M) (h : WF W) (strict : Bool) (n : Nat) (x : Int) : gC 5 [rv 0 29, iv (if strict = true then 1 else 0), iv (n : Int), iv x] M = some (iv (((szl (sfB W strict x) n (2 ^ wF W)).length : Nat) : Int), M) := by
  have hF := (wf_F h).2
  have h256 := wF256 h
  rw [e_Blame_countSetsOf]
  have key := pu_up (fun i : Nat => gA 5 6 [rv 0 29, iv (if strict = true then 1 else 0), iv (n : Int), iv x, iv (((szl (sfB W strict x) n i).length : Nat) : Int), iv (i : Int), none] [] M) (2 ^ wF W) (fun i hi => by
    have hcap := szl_cap (sfB W strict x) n i
    have e1 := szl_len1 (sfB W strict x) n i
    have e0 : sfB W strict x i = (stR W (rgB W) strict i && fq x i) := rfl
    try dsimp only
    rw [s_Blame_countSetsOf_6, hQ.2.2, shl32_one (by omega), if_neg (by omega), c_bitCount (by omega), bI_some, e1, pu_inc (i := i) (by omega), e0]
    generalize (szl (sfB W strict x) n i).length = L at hcap ⊢
    have add0 : w32 ((L : Int) + 0) = ((L + 0 : Nat) : Int) := by
      rw [Int.add_zero, pu_w32 (x := (L : Int)) (by omega) (by omega)]
      rfl
    have add1 : w32 ((L : Int) + 1) = ((L + 1 : Nat) : Int) := pu_inc (by omega)
    rw [add0, add1]
    by_cases z : pop 14 i = n
    · rw [if_neg (fun q => q (by omega)), decide_eq_true z, Bool.and_true]
      by_cases y : x = -1
      · have e : fq x i = true := by rw [y]; rfl
        rw [if_pos y, c_isSet hQ h strict (by omega), bI_some, ite01_0, e, Bool.and_true]
        cases stR W (rgB W) strict i <;> rfl
      · have e : fq x i = hB i x := by
          unfold fq
          rw [decide_eq_false y, Bool.false_or]
        rw [if_neg y, c_hasBit (by omega), bI_some, ite01_0, e]
        cases v : hB i x with
        | false =>
          rw [if_neg Bool.false_ne_true, Bool.and_false]
          rfl
        | true =>
          rw [if_pos rfl, c_isSet hQ h strict (by omega), bI_some, ite01_0, Bool.and_true]
          cases stR W (rgB W) strict i <;> rfl
    · rw [if_pos (by omega), decide_eq_false z, Bool.and_false]
      rfl)
  try dsimp only at key
  rw [show (szl (sfB W strict x) n 0).length = 0 from rfl, show ((0 : Nat) : Int) = 0 from rfl] at key
  rw [key, s_Blame_countSetsOf_6, hQ.2.2, shl32_one (by omega), if_pos (by omega)]
theorem c_countSets (hQ : BH W M) (h : WF W) (strict : Bool) : gC 4 [rv 0 29, iv (if strict = true then 1 else 0)] M = some (iv (((stL W (rgB W) strict).length : Nat) : Int), M) := by
  have h256 := wF256 h
  rw [e_Blame_countSets]
  have key := pu_up (fun i : Nat => gA 4 4 [rv 0 29, iv (if strict = true then 1 else 0), iv (((sl4 (stR W (rgB W) strict) (2 ^ wF W) i).length : Nat) : Int), iv (i : Int)] [] M) 4 (fun i hi => by
    have hlen := sl4_len (p := stR W (rgB W) strict) (n := i) (c := 2 ^ wF W) (d := 2 ^ wF W) hi h256 (Nat.le_refl _)
    try dsimp only
    rw [s_Blame_countSets_4, if_neg (by omega), c_countSetsOf hQ h strict i (-1), bI_some, sfB_m1, sl4, pu_inc (by omega)]
    rw [List.length_append] at hlen ⊢
    rw [← Int.natCast_add, pu_w32 (by omega) (by omega)])
  try dsimp only at key
  rw [show (sl4 (stR W (rgB W) strict) (2 ^ wF W) 0).length = 0 from rfl, show ((0 : Nat) : Int) = 0 from rfl] at key
  rw [key, s_Blame_countSets_4, if_pos (by omega)]
  rfl
noncomputable def setA (W : mM) (strict : Bool) (x : Int) : Int := if inR x (stL W (rgB W) strict).length = true then (gd (stL W (rgB W) strict) x.toNat : Int) else -1
theorem c_setAt (hQ : BH W M) (h : WF W) (strict : Bool) (x : Int) : gC 8 [rv 0 29, iv (if strict = true then 1 else 0), iv x] M = some (iv (setA W strict x), M) := by
  have hF := (wf_F h).2
  have h256 := wF256 h
  rw [e_Blame_setAt]
  by_cases x0 : x < 0
  · rw [s_Blame_setAt_5, if_neg (by omega), if_pos x0]
    unfold setA
    rw [inR_no (by omega), if_neg Bool.false_ne_true]
  · obtain ⟨κ, rfl⟩ : ∃ κ : Nat, x = (κ : Int) := ⟨x.toNat, by omega⟩
    have main := pu_exit (S := Unit) (G := fun n _ => gA 8 5 [rv 0 29, iv (if strict = true then 1 else 0), iv (κ : Int), iv (((sl4 (stR W (rgB W) strict) (2 ^ wF W) n).length : Nat) : Int), iv (n : Int), none] [] M) (I := fun n _ => (sl4 (stR W (rgB W) strict) (2 ^ wF W) n).length ≤ κ) (Q := fun r => r = some (iv (setA W strict (κ : Int)), M)) 4 (fun n u hn hI => by
      try dsimp only at hI ⊢
      rw [s_Blame_setAt_5, if_neg (by omega), if_neg (by omega)]
      have inner := pu_exit (S := Unit) (G := fun d _ => gA 8 18 [rv 0 29, iv (if strict = true then 1 else 0), iv (κ : Int), iv (((sl4 (stR W (rgB W) strict) (2 ^ wF W) n ++ szl (stR W (rgB W) strict) n d).length : Nat) : Int), iv (n : Int), iv (d : Int)] [] M) (I := fun d _ => (sl4 (stR W (rgB W) strict) (2 ^ wF W) n ++ szl (stR W (rgB W) strict) n d).length ≤ κ) (Q := fun r => r = some (iv (setA W strict (κ : Int)), M) ∨ ∃ s' : Unit, (sl4 (stR W (rgB W) strict) (2 ^ wF W) (n + 1)).length ≤ κ ∧ r = gA 8 5 [rv 0 29, iv (if strict = true then 1 else 0), iv (κ : Int), iv (((sl4 (stR W (rgB W) strict) (2 ^ wF W) (n + 1)).length : Nat) : Int), iv ((n + 1 : Nat) : Int), none] [] M) (2 ^ wF W) (fun d u hd hJ => by
        have hlen := sl4_len (p := stR W (rgB W) strict) (n := n) (c := 2 ^ wF W) (d := d) hn h256 (by omega)
        try dsimp only at hJ ⊢
        rw [s_Blame_setAt_18, hQ.2.2, shl32_one (by omega), if_neg (by omega), c_bitCount (by omega), bI_some, pu_inc (i := d) (by omega)]
        by_cases z : pop 14 d = n
        · rw [if_neg (fun q => q (by omega)), c_isSet hQ h strict (by omega), bI_some, ite01_0]
          by_cases y : stR W (rgB W) strict d = true
          · have yes : (stR W (rgB W) strict d && decide (pop 14 d = n)) = true := by rw [y, decide_eq_true z]; rfl
            rw [if_pos y]
            by_cases v : (sl4 (stR W (rgB W) strict) (2 ^ wF W) n ++ szl (stR W (rgB W) strict) n d).length = κ
            · rw [if_neg (fun q => q (by rw [v]))]
              refine Or.inl (Or.inl ?_)
              obtain ⟨R, hR⟩ := sl4_pre (p := stR W (rgB W) strict) (c := 2 ^ wF W) (n := n) (d := d + 1) hn (by omega)
              rw [szl_succ, if_pos yes, ← List.append_assoc] at hR
              have e : stL W (rgB W) strict = (sl4 (stR W (rgB W) strict) (2 ^ wF W) n ++ szl (stR W (rgB W) strict) n d ++ [d]) ++ R := hR
              generalize sl4 (stR W (rgB W) strict) (2 ^ wF W) n ++ szl (stR W (rgB W) strict) n d = A at v e
              unfold setA
              rw [e, inR_nat, decide_eq_true (by rw [List.length_append, List.length_append, v]; exact Nat.lt_of_lt_of_le (Nat.lt_succ_self κ) (Nat.le_add_right _ _)), if_pos rfl, pu_nn, gd_left (by rw [List.length_append, v]; exact Nat.lt_succ_self κ), ← v, gd_snoc]
            · rw [if_pos (fun q => v (by omega)), pu_inc (by omega)]
              have e : (sl4 (stR W (rgB W) strict) (2 ^ wF W) n ++ szl (stR W (rgB W) strict) n (d + 1)).length = (sl4 (stR W (rgB W) strict) (2 ^ wF W) n ++ szl (stR W (rgB W) strict) n d).length + 1 := by
                rw [szl_succ, if_pos yes, ← List.append_assoc]
                simp only [List.length_append, List.length_singleton]
              refine Or.inr ⟨(), ?_, ?_⟩
              · rw [e]
                omega
              · rw [e]
          · rw [if_neg y]
            rw [Bool.not_eq_true] at y
            refine Or.inr ⟨(), ?_⟩
            rw [szl_skip (by rw [y]; rfl)]
            exact ⟨hJ, rfl⟩
        · rw [if_pos (by omega)]
          refine Or.inr ⟨(), ?_⟩
          rw [szl_skip (by rw [decide_eq_false z, Bool.and_false])]
          exact ⟨hJ, rfl⟩) (fun u hJ => by
        try dsimp only at hJ ⊢
        rw [s_Blame_setAt_18, hQ.2.2, shl32_one (by omega), if_pos (by omega), pu_inc (by omega)]
        exact Or.inr ⟨(), hJ, rfl⟩) 0 () (Nat.zero_le _) (by
        show (sl4 (stR W (rgB W) strict) (2 ^ wF W) n ++ []).length ≤ κ
        rw [List.append_nil]
        exact hI)
      try dsimp only at inner
      rw [show szl (stR W (rgB W) strict) n 0 = [] from rfl, List.append_nil, show ((0 : Nat) : Int) = 0 from rfl] at inner
      rcases inner with q | ⟨s', q1, q2⟩
      · exact Or.inl q
      · exact Or.inr ⟨(), q1, q2⟩) (fun u hI => by
      try dsimp only at hI ⊢
      rw [s_Blame_setAt_5, if_pos (by omega)]
      unfold setA
      rw [inR_nat, decide_eq_false (by
        have hI : (stL W (rgB W) strict).length ≤ κ := hI
        omega), if_neg Bool.false_ne_true]) 0 () (Nat.zero_le _) (by
      show 0 ≤ κ
      omega)
    exact main
theorem c_bestLook (hQ : BH W M) (h : WF W) : gC 9 [rv 0 29] M = some (iv (lk (-2) (grW (stL W (rgB W) false)) (wF W)).1, M) := by
  have hF := (wf_F h).2
  have h256 := wF256 h
  have hcs := c_countSets hQ h false
  have hco := fun n x => c_countSetsOf hQ h false n x
  rw [if_neg Bool.false_ne_true] at hcs
  rw [e_Blame_bestLook, hcs, bI_some]
  have hL := stL_len h false
  have having : ∀ (f : Nat) (a b : Int), gA 9 29 [rv 0 29, iv (((stL W (rgB W) false).length : Nat) : Int), iv a, iv b, iv (f : Int), iv 0, iv 0] [] M = gA 9 29 [rv 0 29, iv (((stL W (rgB W) false).length : Nat) : Int), iv a, iv b, iv (f : Int), iv ((cfW (stL W (rgB W) false) f : Nat) : Int), iv 4] [] M := by
    intro f a b
    have key := pu_up (fun i : Nat => gA 9 29 [rv 0 29, iv (((stL W (rgB W) false).length : Nat) : Int), iv a, iv b, iv (f : Int), iv (((sl4 (sfB W false (f : Int)) (2 ^ wF W) i).length : Nat) : Int), iv (i : Int)] [] M) 4 (fun i hi => by
      have hlen := sl4_len (p := sfB W false (f : Int)) (n := i) (c := 2 ^ wF W) (d := 2 ^ wF W) hi h256 (Nat.le_refl _)
      have hc1 := hco i (f : Int)
      rw [if_neg Bool.false_ne_true] at hc1
      try dsimp only
      rw [s_Blame_bestLook_29, if_neg (by omega), hc1, bI_some, sl4, pu_inc (by omega)]
      rw [List.length_append] at hlen ⊢
      rw [← Int.natCast_add, pu_w32 (by omega) (by omega)])
    try dsimp only at key
    rw [show (sl4 (sfB W false (f : Int)) (2 ^ wF W) 0).length = 0 from rfl, show ((0 : Nat) : Int) = 0 from rfl, sl4_sf] at key
    exact key
  generalize stL W (rgB W) false = L at hL having ⊢
  have key := pu_up (fun i : Nat => gA 9 14 [rv 0 29, iv ((L.length : Nat) : Int), iv (lk (-2) (grW L) i).1, iv ((lk (-2) (grW L) i).2 : Int), iv (i : Int), none, none] [] M) (wF W) (fun i hi => by
    have hcf := cfW_le L i
    try dsimp only
    rw [s_Blame_bestLook_14, hQ.2.2, if_neg (by omega), having, s_Blame_bestLook_29, if_pos (by omega), pu_inc (by omega), pu_w32 (x := ((L.length : Nat) : Int) - ((cfW L i : Nat) : Int)) (by omega) (by omega), lk]
    have eg : max32 ((cfW L i : Nat) : Int) (((L.length : Nat) : Int) - ((cfW L i : Nat) : Int)) = (grW L i : Int) := by
      unfold max32 grW
      by_cases q : cfW L i < L.length - cfW L i
      · rw [if_pos (by omega), if_pos q]
        omega
      · rw [if_neg (by omega), if_neg q]
    rw [eg]
    cases i with
    | zero =>
      rw [if_pos (show (lk (-2) (grW L) 0).1 = -2 from rfl), if_pos (Or.inl rfl)]
    | succ k =>
      have hk := lk_nn (-2) (grW L) k
      rw [if_neg (by omega)]
      by_cases q : grW L (k + 1) < (lk (-2) (grW L) (k + 1)).2
      · rw [if_neg (by omega), if_pos (Or.inr q)]
      · rw [if_pos (by omega), if_neg (fun v => by omega)])
  try dsimp only at key
  rw [show (lk (-2) (grW L) 0) = (-2, 0) from rfl, show ((0 : Nat) : Int) = 0 from rfl] at key
  try dsimp only at key
  rw [key, s_Blame_bestLook_14, hQ.2.2, if_pos (by omega)]
theorem c_hearRings {tl : Nat} {tp : Nat → Int} {pl : Int} (hc : CI W tl tp pl M) (h : WF W) : ∃ M', gC 167 [rv 10 0] M = some (none, M') ∧ BH W M' ∧ CI W tl tp pl M' := by
  obtain ⟨M1, a1, a2⟩ := c_makeWeighed hc h
  obtain ⟨w, w2, hb, h5, hP, hT, hZ⟩ := id a2
  obtain ⟨M2, b1, b2, b3⟩ := c_hear hb.2.2.2.1 h hT hZ
  refine ⟨M2, ?_, b3, CI_s (CZ_CI a2) (fun o ho => b2 o (by omega) (by omega))⟩
  rw [e_GaugeNet_hearRings, a1, bV_none, hb.2.1, pu_nn, b1, bV_none]
end CS
theorem bol01 {b : Int} (hb : b = 0 ∨ b = 1) : b = if decide (b ≠ 0) = true then 1 else 0 := by
  rcases hb with rfl | rfl <;> rfl
theorem LH_stL {W : mM} {strict : Bool} {M : mM} (h : LH (stL W (rgB W) strict) M) : M 100 57 = ((stL W (rgB W) strict).length : Int) := h.1
theorem r_heard {W : mM} {tl : Nat} {tp : Nat → Int} {pl : Int} {M : mM} (hc : RI W tl tp pl M) (h : WF W) (strict : Bool) : ∃ M1 M2, gC 267 [rv 11 100] M = some (none, M1) ∧ gC 268 [rv 11 100, iv (if strict = true then 1 else 0)] M1 = some (none, M2) ∧ RY W tl tp pl M2 ∧ LH (stL W (rgB W) strict) M2 := by
  obtain ⟨M1, a1, a2, a3⟩ := r_hears hc h
  obtain ⟨lv, b1, b2, b3⟩ := id a2
  obtain ⟨M2, c1, c2, c3⟩ := r_hits b1.1 b3 h a3 strict
  exact ⟨M1, M2, a1, c1, RY_s a2 (Hf_Rs c2), c3⟩
theorem p_sets {b : Int} (hb : b = 0 ∨ b = 1) : PureI Rel 166 266 [iv b] := by
  rw [bol01 hb]
  generalize decide (b ≠ 0) = strict
  refine pure_qI (fun W => ((stL W (rgB W) strict).length : Int)) (fun W tl tp pl M h _ hc => ?_) (fun W tl tp pl M h hr => ?_)
  · obtain ⟨M1, a1, a2, a3⟩ := c_hearRings hc h
    rw [e_GaugeNet_sets, a1, bV_none, c_countSets a2 h, bI_some]
    exact ⟨M1, rfl, a3⟩
  · obtain ⟨M1, M2, a1, a2, a3, a4⟩ := r_heard hr h strict
    rw [e_GaugeNetModel_sets, a1, bV_none, a2, bV_none, a4.1]
    exact ⟨M2, rfl, RY_RI a3⟩
theorem p_set {b : Int} (hb : b = 0 ∨ b = 1) (x : Int) : PureI Rel 168 272 [iv b, iv x] := by
  rw [bol01 hb]
  generalize decide (b ≠ 0) = strict
  refine pure_qI (fun W => setA W strict x) (fun W tl tp pl M h _ hc => ?_) (fun W tl tp pl M h hr => ?_)
  · obtain ⟨M1, a1, a2, a3⟩ := c_hearRings hc h
    rw [e_GaugeNet_set, a1, bV_none, c_setAt a2 h, bI_some]
    exact ⟨M1, rfl, a3⟩
  · obtain ⟨M1, M2, a1, a2, a3, a4⟩ := r_heard hr h strict
    have hL := stL_len h strict
    rw [e_GaugeNetModel_set, a1, bV_none, a2, bV_none, a4.1]
    refine ⟨M2, ?_, RY_RI a3⟩
    unfold setA
    by_cases z : x < 0
    · rw [if_pos z, inR_no (by omega), if_neg Bool.false_ne_true]
    · rw [if_neg z]
      by_cases y : ((stL W (rgB W) strict).length : Int) ≤ x
      · rw [if_pos y, inR_no (by omega), if_neg Bool.false_ne_true]
      · rw [if_neg y, if_pos (by omega), if_pos (inR_iff.mpr ⟨by omega, by omega⟩), a4.2 x.toNat (by omega)]
theorem p_look : PureI Rel 169 273 [] := by
  refine pure_qI (fun W => (lk (-2) (grW (stL W (rgB W) false)) (wF W)).1) (fun W tl tp pl M h _ hc => ?_) (fun W tl tp pl M h hr => ?_)
  · obtain ⟨M1, a1, a2, a3⟩ := c_hearRings hc h
    rw [e_GaugeNet_look, a1, bV_none, c_bestLook a2 h, bI_some]
    exact ⟨M1, rfl, a3⟩
  · obtain ⟨lv0, hb0, _⟩ := id hr
    have hF := (wf_F h).2
    have hL := stL_len h false
    rw [e_GaugeNetModel_look, if_pos (rw_in hb0.1), rw_F2 hb0.1 h]
    by_cases z : wF W = 0
    · rw [if_neg (fun q => q (by omega)), z]
      exact ⟨M, rfl, hr⟩
    · obtain ⟨M1, M2, a1, a2, a3, a4⟩ := r_heard hr h false
      rw [if_neg Bool.false_ne_true] at a2
      obtain ⟨lv, b1, b2, b3⟩ := id a3
      rw [if_pos (by omega), a1, bV_none, a2, bV_none]
      refine ⟨M2, ?_, RY_RI a3⟩
      have hm : ∀ i, i < (stL W (rgB W) false).length → gd (stL W (rgB W) false) i < 256 := fun i hi => by
        have h1 : gd (stL W (rgB W) false) i < 2 ^ wF W := sl4_lt 4 (gd_mem hi)
        have h2 := wF256 h
        omega
      obtain ⟨l1, l2⟩ := a4
      generalize stL W (rgB W) false = L at hL l1 l2 hm ⊢
      have having : ∀ (f : Nat) (a b : Int), f < 8 → gA 273 49 [rv 11 100, iv a, iv b, iv (f : Int), iv 0, iv 0] [] M2 = gA 273 49 [rv 11 100, iv a, iv b, iv (f : Int), iv ((cfW L f : Nat) : Int), iv (L.length : Int)] [] M2 := by
        intro f a b hf
        have key := pu_up (fun i : Nat => gA 273 49 [rv 11 100, iv a, iv b, iv (f : Int), iv ((cnt (fq (f : Int)) L i : Nat) : Int), iv (i : Int)] [] M2) L.length (fun i hi => by
          have hc := cnt_le (q := fq (f : Int)) (L := L) i (by omega)
          have hg := hm i hi
          try dsimp only
          rw [s_GaugeNetModel_look_49, l1, if_neg (by omega), if_pos (by omega), pu_nn, l2 i hi, cnt_succ hi, fq_nat, pu_inc (i := i) (by omega)]
          by_cases v : (gd L i).testBit f = true
          · rw [(and1_eq1 (by omega) (by omega)).mpr v, if_pos v, pu_inc (by omega)]
          · rw [if_neg v]
            rw [Bool.not_eq_true] at v
            rw [(and1_eq0 (by omega) (by omega)).mpr v, Int.add_zero, pu_w32 (x := ((cnt (fq (f : Int)) L i : Nat) : Int)) (by omega) (by omega), Nat.add_zero (cnt (fq (f : Int)) L i)])
        try dsimp only at key
        rw [cnt_0, cnt_all, show ((0 : Nat) : Int) = 0 from rfl] at key
        exact key
      have key := pu_up (fun i : Nat => gA 273 30 [rv 11 100, iv (lk (-1) (grW L) i).1, iv ((lk (-1) (grW L) i).2 : Int), iv (i : Int), none, none] [] M2) (wF W) (fun i hi => by
        have hcf := cfW_le L i
        try dsimp only
        rw [s_GaugeNetModel_look_30, if_pos (rw_in b1.1), rw_F2 b1.1 h, if_neg (by omega), having _ _ _ (by omega), s_GaugeNetModel_look_49, l1, if_pos (by omega), pu_inc (by omega), pu_w32 (x := ((L.length : Nat) : Int) - ((cfW L i : Nat) : Int)) (by omega) (by omega), lk]
        have step : ∀ v : Int, v = (grW L i : Int) → (if (lk (-1) (grW L) i).1 = -1 then gA 273 30 [rv 11 100, iv (i : Int), iv v, iv ((i + 1 : Nat) : Int), none, none] [] M2 else if v < ((lk (-1) (grW L) i).2 : Int) then gA 273 30 [rv 11 100, iv (i : Int), iv v, iv ((i + 1 : Nat) : Int), none, none] [] M2 else gA 273 30 [rv 11 100, iv (lk (-1) (grW L) i).1, iv ((lk (-1) (grW L) i).2 : Int), iv ((i + 1 : Nat) : Int), none, none] [] M2) = gA 273 30 [rv 11 100, iv (if i = 0 ∨ grW L i < (lk (-1) (grW L) i).2 then ((i : Int), grW L i) else lk (-1) (grW L) i).1, iv ((if i = 0 ∨ grW L i < (lk (-1) (grW L) i).2 then ((i : Int), grW L i) else lk (-1) (grW L) i).2 : Int), iv ((i + 1 : Nat) : Int), none, none] [] M2 := by
          intro v hv
          rw [hv]
          cases i with
          | zero => rw [if_pos (show (lk (-1) (grW L) 0).1 = -1 from rfl), if_pos (Or.inl rfl)]
          | succ k =>
            have hk := lk_nn (-1) (grW L) k
            rw [if_neg (by omega)]
            by_cases q : grW L (k + 1) < (lk (-1) (grW L) (k + 1)).2
            · rw [if_pos (by omega), if_pos (Or.inr q)]
            · rw [if_neg (by omega), if_neg (fun v => by omega)]
        by_cases q : ((cfW L i : Nat) : Int) ≤ ((L.length : Nat) : Int) - ((cfW L i : Nat) : Int)
        · rw [if_pos q]
          refine step _ ?_
          unfold grW
          by_cases r : cfW L i < L.length - cfW L i
          · rw [if_pos r]
            omega
          · rw [if_neg r]
            omega
        · rw [if_neg q]
          refine step _ ?_
          unfold grW
          rw [if_neg (by omega)])
      try dsimp only at key
      rw [show (lk (-1) (grW L) 0) = (-1, 0) from rfl, show ((0 : Nat) : Int) = 0 from rfl] at key
      try dsimp only at key
      rw [key, s_GaugeNetModel_look_30, if_pos (rw_in b1.1), rw_F2 b1.1 h, if_pos (by omega)]
      obtain ⟨m, hm2⟩ : ∃ m, wF W = m + 1 := ⟨wF W - 1, by omega⟩
      rw [hm2, lk_dd (-1) (-2)]
