/-! The reference's list of SETS. -/
def Hf (M M' : mM) : Prop := (∀ o, o ≠ 100 → o ≠ 137 → M' o = M o) ∧ ∀ k, k ≠ 57 → M' 100 k = M 100 k
theorem Hf_refl (M : mM) : Hf M M := ⟨fun _ _ _ => rfl, fun _ _ => rfl⟩
theorem Hf_Rs {M M' : mM} (h : Hf M M') : Rs M M' := ⟨fun o h1 h2 => h.1 o h1 (by omega), fun k hk => h.2 k (by omega)⟩
theorem RH_f {W : mM} {ρ : Nat → Bool} {M M' : mM} (h : RH W ρ M) (k : Hf M M') : RH W ρ M' := by
  unfold RH
  rw [k.1 136 (by omega) (by omega)]
  exact h
def LH (L : List Nat) (M : mM) : Prop := M 100 57 = (L.length : Int) ∧ ∀ i, i < L.length → M 137 i = (gd L i : Int)
section RH9
variable {lv : Nat} {W M : mM} {ρ : Nat → Bool}
theorem le_wF {W : mM} (h : WF W) {L : List Nat} {S : Nat} (hS : S < 2 ^ wF W) : allB (fun f => !(S.testBit f && enB W L ρ (bdiff S (2 ^ f)))) (wF W) = leB W L ρ S := by
  have hF := (wf_F h).2
  unfold leB
  rw [Bool.eq_iff_iff, allB_iff, allB_iff]
  constructor
  · intro a i hi
    by_cases z : i < wF W
    · exact a i z
    · rw [tb_lt hS (by omega)]
      rfl
  · exact fun a i hi => a i (by omega)
theorem r_least (hr : RW lv W M) (hS : SR W M) (h : WF W) (hH : RH W ρ M) {S : Nat} (hs : S < 2 ^ wF W) (x n : Int) : gA 268 54 [rv 11 100, iv x, iv n, iv (S : Int), iv 1, iv 0] [] M = gA 268 54 [rv 11 100, iv x, iv n, iv (S : Int), iv (if leB W (TN W) ρ S = true then 1 else 0), iv (wF W : Int)] [] M := by
  have hF := (wf_F h).2
  have hS8 : S < 256 := Nat.lt_of_lt_of_le hs (Nat.le_trans (Nat.pow_le_pow_right (by omega) hF) (Nat.le_refl 256))
  have key := pu_up (fun i : Nat => gA 268 54 [rv 11 100, iv x, iv n, iv (S : Int), iv (if allB (fun f => !(S.testBit f && enB W (TN W) ρ (bdiff S (2 ^ f)))) i = true then 1 else 0), iv (i : Int)] [] M) (wF W) (fun i hi => by
    have hbd := bdiff_le S (2 ^ i)
    try dsimp only
    rw [s_GaugeNetModel_hits_54, if_pos (rw_in hr), rw_F2 hr h, if_neg (by omega), allB, pu_inc (by omega)]
    by_cases z : S.testBit i = true
    · rw [if_neg (fun q => q ((and1_eq1 (by omega) (by omega)).mpr z)), andnot1 (by omega) (by omega), r_isHit hr hS h hH (by omega), bI_some, ite01_0, z, Bool.true_and]
      by_cases y : enB W (TN W) ρ (bdiff S (2 ^ i)) = true
      · rw [if_pos y, y, Bool.not_true, Bool.and_false, if_neg Bool.false_ne_true]
      · rw [if_neg y]
        rw [Bool.not_eq_true] at y
        rw [y, Bool.not_false, Bool.and_true]
    · rw [if_pos (fun q => z ((and1_eq1 (by omega) (by omega)).mp q))]
      rw [Bool.not_eq_true] at z
      rw [z, Bool.false_and, Bool.not_false, Bool.and_true])
  try dsimp only at key
  rw [le_wF h hs, show ((0 : Nat) : Int) = 0 from rfl] at key
  rw [← key]
  rfl
noncomputable def stR (W : mM) (ρ : Nat → Bool) (strict : Bool) (S : Nat) : Bool := stB W (TN W) ρ (fun s => cr W s && !ρ s) strict S
theorem LH_add {L : List Nat} {M M' : mM} {S t : Nat} (h : LH L M) (ht : t = L.length) (h1 : M' 100 57 = ((t + 1 : Nat) : Int)) (h2 : ∀ i, M' 137 i = if i = t then (S : Int) else M 137 i) : LH (L ++ [S]) M' := by
  have hl : (L ++ [S]).length = t + 1 := by rw [List.length_append, ht]; rfl
  refine ⟨by rw [hl]; exact h1, fun i hi => ?_⟩
  rw [hl] at hi
  rw [h2]
  by_cases z : i = t
  · subst z
    rw [if_pos rfl, ht, gd_snoc]
  · rw [if_neg z, gd_left (by omega)]
    exact h.2 i (by omega)
theorem r_hitOne (hr : RW lv W M) (hS : SR W M) (h : WF W) (hH : RH W ρ M) {strict : Bool} {n S : Nat} (hn : n < 4) (hs : S < 2 ^ wF W) {M' : mM} (i1 : Hf M M') (i2 : LH (sl4 (stR W ρ strict) (2 ^ wF W) n ++ szl (stR W ρ strict) n S) M') : ∃ M2, (Hf M M2 ∧ LH (sl4 (stR W ρ strict) (2 ^ wF W) n ++ szl (stR W ρ strict) n (S + 1)) M2) ∧ gA 268 14 [rv 11 100, iv (if strict = true then 1 else 0), iv (n : Int), iv (S : Int), none, none] [] M' = gA 268 14 [rv 11 100, iv (if strict = true then 1 else 0), iv (n : Int), iv ((S + 1 : Nat) : Int), none, none] [] M2 := by
  have hF := (wf_F h).2
  have h256 : 2 ^ wF W ≤ 256 := Nat.le_trans (Nat.pow_le_pow_right (by omega) hF) (Nat.le_refl 256)
  have hr1 : RW lv W M' := RW_k hr (Rs_Rk (Hf_Rs i1))
  have hS1 : SR W M' := SR_s hS (Hf_Rs i1)
  have hH1 := RH_f hH i1
  have skip : (stR W ρ strict S && decide (pop 14 S = n)) = false → LH (sl4 (stR W ρ strict) (2 ^ wF W) n ++ szl (stR W ρ strict) n (S + 1)) M' := fun q => by
    rw [szl_skip q]
    exact i2
  generalize hx : (if strict = true then (1 : Int) else 0) = xs
  have hx0 : xs = 0 ↔ strict = false := by
    rw [← hx]
    cases strict
    · exact ⟨fun _ => rfl, fun _ => rfl⟩
    · exact ⟨fun q => absurd q (by decide), fun q => absurd q (by decide)⟩
  rw [s_GaugeNetModel_hits_14, if_pos (rw_in hr1), rw_F2 hr1 h, shl32_one (by omega), if_neg (by omega), r_bits (by omega), bI_some, pop_ext (k := 14) (by omega) (by omega), pu_inc (by omega)]
  by_cases z : pop 14 S = n
  · rw [if_neg (fun q => q (by omega)), r_isHit hr1 hS1 h hH1 (by omega), bI_some, ite01_n]
    by_cases y : enB W (TN W) ρ S = true
    · rw [if_pos y, r_least hr1 hS1 h hH1 hs, s_GaugeNetModel_hits_54, if_pos (rw_in hr1), rw_F2 hr1 h, if_pos (by omega), ite01_0, pu_inc (i := S) (by omega)]
      by_cases x : leB W (TN W) ρ S = true
      · have hlen := sl4_len (p := stR W ρ strict) (n := n) (c := 2 ^ wF W) (d := S) hn h256 (by omega)
        generalize hL : sl4 (stR W ρ strict) (2 ^ wF W) n ++ szl (stR W ρ strict) n S = L at i2 hlen
        have add : (stR W ρ strict S && decide (pop 14 S = n)) = true → Hf M (st (st M' 137 L.length (S : Int)) 100 57 ((L.length + 1 : Nat) : Int)) ∧ LH (sl4 (stR W ρ strict) (2 ^ wF W) n ++ szl (stR W ρ strict) n (S + 1)) (st (st M' 137 L.length (S : Int)) 100 57 ((L.length + 1 : Nat) : Int)) := fun q => by
          refine ⟨⟨fun o h1 h2 => by rw [st_ob h1, st_ob h2]; exact i1.1 o h1 h2, fun k hk => by rw [st_nk hk, st_ob (by omega)]; exact i1.2 k hk⟩, ?_⟩
          rw [szl_succ, if_pos q, ← List.append_assoc, hL]
          exact LH_add i2 rfl (st_same _ _ _ _) (fun i => by rw [st_ob (by omega), st_if])
        have e57 : M' 100 57 = (L.length : Int) := i2.1
        rw [if_pos x]
        by_cases hst : strict = false
        · have yes : (stR W ρ strict S && decide (pop 14 S = n)) = true := by
            rw [decide_eq_true z, Bool.and_true]
            unfold stR stB
            rw [y, x, hst]
            rfl
          rw [if_pos (hx0.mpr hst), e57, if_pos (by omega), pu_nn, st_ob (show 100 ≠ 137 by omega), e57, pu_inc (by omega)]
          exact ⟨_, add yes, rfl⟩
        · rw [if_neg (fun q => hst (hx0.mp q)), r_isQuiet hr1 hS1 h hH1 (by omega), bI_some, ite01_n]
          rw [Bool.not_eq_false] at hst
          by_cases v : quB W (TN W) (fun s => cr W s && !ρ s) S = true
          · have yes : (stR W ρ strict S && decide (pop 14 S = n)) = true := by
              rw [decide_eq_true z, Bool.and_true]
              unfold stR stB
              rw [y, x, v, hst]
              rfl
            rw [if_pos v, e57, if_pos (by omega), pu_nn, st_ob (show 100 ≠ 137 by omega), e57, pu_inc (by omega)]
            exact ⟨_, add yes, rfl⟩
          · have no : (stR W ρ strict S && decide (pop 14 S = n)) = false := by
              unfold stR stB
              rw [Bool.not_eq_true] at v
              rw [y, x, v, hst]
              rfl
            rw [if_neg v]
            refine ⟨M', ⟨i1, ?_⟩, rfl⟩
            rw [szl_skip no, hL]
            exact i2
      · rw [if_neg x]
        refine ⟨M', ⟨i1, skip ?_⟩, rfl⟩
        unfold stR stB
        rw [Bool.not_eq_true] at x
        rw [x, Bool.and_false, Bool.false_and, Bool.false_and]
    · rw [if_neg y]
      refine ⟨M', ⟨i1, skip ?_⟩, rfl⟩
      unfold stR stB
      rw [Bool.not_eq_true] at y
      rw [y, Bool.false_and, Bool.false_and, Bool.false_and]
  · rw [if_pos (by omega)]
    exact ⟨M', ⟨i1, skip (by rw [decide_eq_false z, Bool.and_false])⟩, rfl⟩
noncomputable def stL (W : mM) (ρ : Nat → Bool) (strict : Bool) : List Nat := sl4 (stR W ρ strict) (2 ^ wF W) 4
theorem r_hits (hr : RW lv W M) (hS : SR W M) (h : WF W) (hH : RH W ρ M) (strict : Bool) : ∃ M', gC 268 [rv 11 100, iv (if strict = true then 1 else 0)] M = some (none, M') ∧ Hf M M' ∧ LH (stL W ρ strict) M' := by
  have hF := (wf_F h).2
  have h256 : 2 ^ wF W ≤ 256 := Nat.le_trans (Nat.pow_le_pow_right (by omega) hF) (Nat.le_refl 256)
  rw [e_GaugeNetModel_hits]
  have key := pu_rel (S := mM) (G := fun n M' => gA 268 7 [rv 11 100, iv (if strict = true then 1 else 0), iv (n : Int), none, none, none] [] M') (I := fun n M' => Hf M M' ∧ LH (sl4 (stR W ρ strict) (2 ^ wF W) n) M') 4 (fun n M' hn hI => by
    obtain ⟨i1, i2⟩ := hI
    try dsimp only
    rw [s_GaugeNetModel_hits_7, if_neg (by omega)]
    have key := pu_rel (S := mM) (G := fun S M' => gA 268 14 [rv 11 100, iv (if strict = true then 1 else 0), iv (n : Int), iv (S : Int), none, none] [] M') (I := fun S M' => Hf M M' ∧ LH (sl4 (stR W ρ strict) (2 ^ wF W) n ++ szl (stR W ρ strict) n S) M') (2 ^ wF W) (fun S M' hs hI => r_hitOne hr hS h hH hn hs hI.1 hI.2) 0 M' (Nat.zero_le _) ⟨i1, by
      show LH (sl4 (stR W ρ strict) (2 ^ wF W) n ++ []) M'
      rw [List.append_nil]
      exact i2⟩
    obtain ⟨M2, ⟨b1, b2⟩, b3⟩ := key
    try dsimp only at b3
    rw [show ((0 : Nat) : Int) = 0 from rfl] at b3
    have hr2 : RW lv W M2 := RW_k hr (Rs_Rk (Hf_Rs b1))
    rw [b3, s_GaugeNetModel_hits_14, if_pos (rw_in hr2), rw_F2 hr2 h, shl32_one (by omega), if_pos (by omega), pu_inc (by omega)]
    exact ⟨M2, ⟨b1, b2⟩, rfl⟩) 0 (st M 100 57 0) (Nat.zero_le _) ⟨⟨fun o h1 _ => st_ob h1, fun k hk => st_nk hk⟩, st_same _ _ _ _, fun i hi => absurd hi (Nat.not_lt_zero i)⟩
  obtain ⟨M2, ⟨b1, b2⟩, b3⟩ := key
  try dsimp only at b3
  rw [show ((0 : Nat) : Int) = 0 from rfl] at b3
  rw [b3, s_GaugeNetModel_hits_7, if_pos (by omega)]
  exact ⟨M2, rfl, b1, b2⟩
end RH9
noncomputable def rgB (W : mM) (s : Nat) : Bool := cr W s && rng W s
theorem r_hears {W : mM} {tl : Nat} {tp : Nat → Int} {pl : Int} {M : mM} (hc : RI W tl tp pl M) (h : WF W) : ∃ M', gC 267 [rv 11 100] M = some (none, M') ∧ RY W tl tp pl M' ∧ RH W (rgB W) M' := by
  obtain ⟨M1, a1, a2⟩ := r_seeks hc h
  obtain ⟨lv, b1, b2, b3⟩ := id a2
  have hL := TN_len W
  rw [e_GaugeNetModel_hears, a1, bV_none]
  have key := pu_rel (S := mM) (G := fun i M' => gA 267 6 [rv 11 100, iv (i : Int)] [] M') (I := fun i M' => (∀ o, o ≠ 136 → M' o = M1 o) ∧ ∀ k, k < i → M' 136 k = if rgB W (gd (TN W) k) = true then 1 else 0) (TN W).length (fun i M' hi hI => by
    obtain ⟨i1, i2⟩ := hI
    have hrs : Rs M1 M' := ⟨fun o _ h2 => i1 o (by omega), fun k _ => by rw [i1 100 (by omega)]⟩
    have hr1 : RW lv W M' := RW_k b1.1 (Rs_Rk hrs)
    have hS1 : SR W M' := SR_s b3 hrs
    obtain ⟨s1, s2, s3⟩ := hS1.2 i hi
    try dsimp only
    rw [s_GaugeNetModel_hears_6, hS1.1, if_neg (by omega), if_pos (by omega), pu_nn, s2, ite01_0, pu_inc (by omega)]
    have fin : ∀ v : Int, v = (if rgB W (gd (TN W) i) = true then 1 else 0) → ∃ M2 : mM, ((∀ o, o ≠ 136 → M2 o = M1 o) ∧ ∀ k, k < i + 1 → M2 136 k = if rgB W (gd (TN W) k) = true then 1 else 0) ∧ gA 267 6 [rv 11 100, iv ((i + 1 : Nat) : Int)] [] (st M' 136 i v) = gA 267 6 [rv 11 100, iv ((i + 1 : Nat) : Int)] [] M2 := fun v hb => by
      refine ⟨_, ⟨fun o ho => by rw [st_ob ho]; exact i1 o ho, fun k hk => ?_⟩, rfl⟩
      rw [st_if]
      by_cases e : k = i
      · rw [if_pos e, e, hb]
      · rw [if_neg e]
        exact i2 k (by omega)
    by_cases z : cr W (gd (TN W) i) = true
    · rw [if_pos z, r_isRinging hr1 hS1 h hi, bI_some, ite01_0]
      by_cases y : rng W (gd (TN W) i) = true
      · rw [if_pos y, if_pos (by omega)]
        refine fin 1 ?_
        unfold rgB
        rw [z, y]
        rfl
      · rw [if_neg y, if_pos (by omega)]
        refine fin 0 ?_
        unfold rgB
        rw [Bool.not_eq_true] at y
        rw [y, Bool.and_false]
        rfl
    · rw [if_neg z, if_pos (by omega)]
      refine fin 0 ?_
      unfold rgB
      rw [Bool.not_eq_true] at z
      rw [z, Bool.false_and]
      rfl) 0 M1 (Nat.zero_le _) ⟨fun _ _ => rfl, fun k hk => absurd hk (Nat.not_lt_zero k)⟩
  obtain ⟨M2, ⟨k1, k2⟩, k3⟩ := key
  try dsimp only at k3
  rw [show ((0 : Nat) : Int) = 0 from rfl] at k3
  have hrs : Rs M1 M2 := ⟨fun o _ h2 => k1 o (by omega), fun k _ => by rw [k1 100 (by omega)]⟩
  have hS2 : SR W M2 := SR_s b3 hrs
  rw [k3, s_GaugeNetModel_hears_6, hS2.1, if_pos (by omega)]
  exact ⟨M2, rfl, RY_s a2 hrs, k2⟩
