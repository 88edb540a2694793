/-! ADDING, TAKING, POSITIONS -/
noncomputable def doesB (W : mM) (s : Nat) (sp : Bool) : Bool := allT W (2 ^ wP W) (wI W ||| s) (wD W) (fbW W (-1)) && (!sp || allB (fun g => !(bdiff (wI W ||| s) (wD W)).testBit g || allT W (2 ^ wP W) (wI W ||| s) (wD W ||| 2 ^ g) (fbW W ((8 + g : Nat) : Int))) 6)
def bestA (ok : Nat → Bool) (c : Nat → Nat) : Nat → Int
  | 0 => -2
  | n + 1 => if (ok n && (decide (bestA ok c n = -2) || decide (c n < c (bestA ok c n).toNat))) = true then (n : Int) else bestA ok c n
theorem bestA_rng (ok : Nat → Bool) (c : Nat → Nat) : ∀ n, bestA ok c n = -2 ∨ (0 ≤ bestA ok c n ∧ bestA ok c n < (n : Int)) := by
  intro n
  induction n with
  | zero => exact Or.inl rfl
  | succ n ih =>
    rw [bestA]
    split
    · exact Or.inr ⟨by omega, by omega⟩
    · rcases ih with q | q
      · exact Or.inl q
      · exact Or.inr ⟨q.1, by omega⟩
theorem bestA_ext {ok : Nat → Bool} {c : Nat → Nat} {n m : Nat} (hnm : n ≤ m) (h : ∀ i, n ≤ i → i < m → ok i = false) : bestA ok c m = bestA ok c n := by
  induction m with
  | zero => rw [show n = 0 by omega]
  | succ m ih =>
    by_cases e : n = m + 1
    · rw [e]
    · rw [bestA, h m (by omega) (by omega), Bool.false_and, if_neg Bool.false_ne_true]
      exact ih (by omega) (fun i h1 h2 => h i h1 (by omega))
theorem bestA_congr {ok ok' : Nat → Bool} {c : Nat → Nat} : ∀ n, (∀ i, i < n → ok i = ok' i) → bestA ok c n = bestA ok' c n := by
  intro n
  induction n with
  | zero => intro _; rfl
  | succ n ih =>
    intro h
    rw [bestA, bestA, ih (fun i hi => h i (by omega)), h n (by omega)]
/-- what may be added -/
noncomputable def addOk (W : mM) (sp : Bool) (s : Nat) : Bool := decide (s < 2 ^ wG W) && (decide (s &&& (wI W ||| wD W) = 0) && doesB W s sp)
noncomputable def addA (W : mM) (sp : Bool) : Int := bestA (addOk W sp) (costW W) (2 ^ wG W)
def bestT (ok : Nat → Bool) (c : Nat → Nat) : Nat → Nat
  | 0 => 0
  | n + 1 => if (ok n && decide (c (bestT ok c n) < c n)) = true then n else bestT ok c n
theorem bestT_lt (ok : Nat → Bool) (c : Nat → Nat) : ∀ n, 0 < n → bestT ok c n < n := by
  intro n
  induction n with
  | zero => intro h; omega
  | succ n ih =>
    intro _
    rw [bestT]
    split
    · omega
    · by_cases e : n = 0
      · rw [e]; exact Nat.one_pos
      · have := ih (by omega)
        omega
theorem bestT_ext {ok : Nat → Bool} {c : Nat → Nat} {n m : Nat} (hnm : n ≤ m) (h : ∀ i, n ≤ i → i < m → ok i = false) : bestT ok c m = bestT ok c n := by
  induction m with
  | zero => rw [show n = 0 by omega]
  | succ m ih =>
    by_cases e : n = m + 1
    · rw [e]
    · rw [bestT, h m (by omega) (by omega), Bool.false_and, if_neg Bool.false_ne_true]
      exact ih (by omega) (fun i h1 h2 => h i h1 (by omega))
def isTk (W : mM) (s f : Nat) : Bool := decide (8 ≤ wFr W f) && s.testBit (wFr W f - 8)
noncomputable def staF (W : mM) (s f : Nat) : Bool := isTk W s f || ((!isMoreB W (net W) (wFr W f) || isMoreB W (bdiff (net W) (s * 256)) (wFr W f)) && allB (fun o => decide (o = f) || (isTk W s o || (!isPartB W (net W) (wFr W f) (wFr W o) || isPartB W (bdiff (net W) (s * 256)) (wFr W f) (wFr W o)))) (wF W))
noncomputable def stayB (W : mM) (s : Nat) : Bool := allB (staF W s) (wF W)
noncomputable def takOk (W : mM) (s : Nat) : Bool := decide (bdiff s (bdiff (wI W) (wD W)) = 0) && stayB W s
noncomputable def takA (W : mM) : Nat := bestT (takOk W) (costW W) (2 ^ wG W)
theorem or_lt2 {a b n : Nat} (ha : a < 2 ^ n) (hb : b < 2 ^ n) : a ||| b < 2 ^ n := Nat.or_lt_two_pow ha hb
theorem bI_lt {W : mM} (h : WF W) : bdiff (wI W) (wD W) < 2 ^ wG W := bdiff_lt (wf_I h).2
section CA
variable {w : Nat} {W M : mM}
theorem c_isToldWith (hc : CW w W M) (h : WF W) (hP : PR W M) {s : Nat} {b : Int} (hs : s < 2 ^ wG W) (hb : b = 0 ∨ b = 1) : ∃ M', gC 68 [rv 6 21, rv 9 w, rv 3 10, iv (s : Int), iv b] M = some (iv (if doesB W s (decide (b ≠ 0)) = true then 1 else 0), M') ∧ ∀ o, o ≠ 22 → M' o = M o := by
  have hw := hc.1
  have h64 := wf_G64 h
  have hG := (wf_G h).2
  have hI := wf_I64 h
  have hD := wf_D64 h
  have hor : wI W ||| s < 2 ^ wG W := or_lt2 (wf_I h).2 hs
  have hp4 := (wf_P h).2
  have hpp : 2 ^ wP W ≤ 8 := Nat.le_trans (Nat.pow_le_pow_right (by omega) (show wP W ≤ 3 by omega)) (Nat.le_refl 8)
  have hf := c_faultsOf hc h (x := 16383) (by omega)
  rw [show ((16383 : Nat) : Int) = 16383 from rfl, flt_all h] at hf
  obtain ⟨M1, a1, a2, a3⟩ := c_setNets hc h (ps := 2 ^ wP W) (ins := wI W ||| s) (dea := wD W) (by omega) (by omega) hD
  have hc1 : CW w W M1 := CW_k hc (fun o ho => a2 o (by omega))
  have hP1 : PR W M1 := PR_s hP (a2 11 (by omega))
  rw [e_Telling_isToldWith, hf, bI_some, CW_0 hc, (wf_P h).1, (wf_I h).1, (wf_D h).1, shl32_one (by omega), or32_nat (by omega) (by omega), a1, bV_none, c_isAllTold hc1 h hP1 hor a3, bI_some]
  unfold doesB
  cases h0 : allT W (2 ^ wP W) (wI W ||| s) (wD W) (fbW W (-1)) with
  | false =>
    rw [if_neg Bool.false_ne_true, Bool.false_and, if_neg Bool.false_ne_true, s_Telling_isToldWith_51, if_neg (by decide), if_pos rfl, if_pos (by decide)]
    exact ⟨M1, rfl, a2⟩
  | true =>
    rw [if_pos rfl, Bool.true_and]
    rcases hb with e | e
    · subst e
      rw [s_Telling_isToldWith_51, if_neg (by decide), if_neg (by decide), if_pos rfl, if_pos (by decide)]
      exact ⟨M1, rfl, a2⟩
    · subst e
      rw [show decide ((1 : Int) ≠ 0) = true from rfl, Bool.not_true, Bool.false_or]
      refine loop_allR (S := mM) (G := fun g M' => gA 68 51 [rv 6 21, rv 9 w, rv 3 10, none, iv 1, iv ((2 ^ wP W : Nat) : Int), iv ((wI W ||| s : Nat) : Int), iv ((fbW W (-1) : Nat) : Int), iv 1, iv (g : Int)] [] M') (F := fun M' => ∀ o, o ≠ 22 → M' o = M o) (p := fun g => !(bdiff (wI W ||| s) (wD W)).testBit g || allT W (2 ^ wP W) (wI W ||| s) (wD W ||| 2 ^ g) (fbW W ((8 + g : Nat) : Int))) (N := 6) (Q := fun b o => ∃ M', o = some (iv (if b = true then 1 else 0), M') ∧ ∀ o, o ≠ 22 → M' o = M o) (fun g M2 hg hM2 => ?_) (fun M2 hM2 => ?_) M1 a2
      · try dsimp only
        have hc2 : CW w W M2 := CW_k hc (fun o ho => hM2 o (by omega))
        have hP2 : PR W M2 := PR_s hP (hM2 11 (by omega))
        have hbl := bdiff_le (wI W ||| s) (wD W)
        rw [s_Telling_isToldWith_51, if_neg (by omega), if_neg (by decide), if_neg (by decide), CW_0 hc2, (wf_D h).1, andnot32 (by omega) (by omega), c_hasBit (by omega), bI_some, hB_nat, ite01_0, pu_inc (by omega)]
        by_cases q : (bdiff (wI W ||| s) (wD W)).testBit g = true
        · have hgp : 2 ^ g ≤ 32 := Nat.le_trans (Nat.pow_le_pow_right (by omega) (show g ≤ 5 by omega)) (Nat.le_refl 32)
          have hdg : wD W ||| 2 ^ g < 64 := Nat.or_lt_two_pow (n := 6) hD (by omega)
          obtain ⟨M3, b1, b2, b3⟩ := c_setNets hc2 h (ps := 2 ^ wP W) (ins := wI W ||| s) (dea := wD W ||| 2 ^ g) (by omega) (by omega) hdg
          have hc3 : CW w W M3 := CW_k hc2 (fun o ho => b2 o (by omega))
          have hP3 : PR W M3 := PR_s hP2 (b2 11 (by omega))
          have hpw := pow31 (show 8 + g < 31 by omega)
          have hfl := fbW_lt h (-1)
          have hff := fltOf_lt h (2 ^ (8 + g))
          have ha := c_isAllTold hc3 h hP3 (x := ((8 + g : Nat) : Int)) hor b3
          rw [if_pos q, CW_0 hc2, (wf_D h).1, or1 (by omega) (by omega), b1, bV_none, pu_w32 (x := 8 + (g : Int)) (by omega) (by omega), show (8 : Int) + (g : Int) = ((8 + g : Nat) : Int) by omega, shl32_one (by omega), c_faultsOf hc3 h (by omega), bI_some, andnot32 (by omega) (by omega), flt_one, ha, bI_some, q, Bool.not_true, Bool.false_or]
          cases hT : allT W (2 ^ wP W) (wI W ||| s) (wD W ||| 2 ^ g) (fbW W ((8 + g : Nat) : Int)) with
          | true => exact Or.inl ⟨rfl, M3, fun o ho => by rw [b2 o ho, hM2 o ho], rfl⟩
          | false =>
            refine Or.inr ⟨rfl, M3, ?_, fun o ho => by rw [b2 o ho, hM2 o ho]⟩
            rw [if_neg Bool.false_ne_true, s_Telling_isToldWith_51]
            by_cases e6 : (6 : Int) ≤ ((g + 1 : Nat) : Int)
            · rw [if_pos e6, if_pos (by decide)]
            · rw [if_neg e6, if_pos rfl, if_pos (by decide)]
        · rw [if_neg q, tb_not.mp q]
          exact Or.inl ⟨rfl, M2, hM2, rfl⟩
      · try dsimp only
        rw [s_Telling_isToldWith_51, if_pos (by omega), if_pos (by decide)]
        exact ⟨M2, rfl, hM2⟩
theorem c_cheapest (hc : CW w W M) (h : WF W) (hP : PR W M) {b : Int} (hb : b = 0 ∨ b = 1) : ∃ M', gC 67 [rv 6 21, rv 9 w, rv 3 10, iv b] M = some (iv (addA W (decide (b ≠ 0))), M') ∧ ∀ o, o ≠ 22 → M' o = M o := by
  have hw := hc.1
  have h64 := wf_G64 h
  have hG := (wf_G h).2
  have hI := wf_I64 h
  have hD := wf_D64 h
  have hp1 := Nat.two_pow_pos (wG W)
  have hfree : bdiff (bdiff (2 ^ wG W - 1) (wI W)) (wD W) < 64 := by
    have h1 := bdiff_le (bdiff (2 ^ wG W - 1) (wI W)) (wD W)
    have h2 := bdiff_le (2 ^ wG W - 1) (wI W)
    omega
  have hok : ∀ s, s < 64 → (decide (bdiff s (bdiff (bdiff (2 ^ wG W - 1) (wI W)) (wD W)) = 0) = true ↔ s < 2 ^ wG W ∧ s &&& (wI W ||| wD W) = 0) := by
    intro s hs
    rw [decide_eq_true_iff, sbs_zero, and_zero_iff]
    constructor
    · intro hz
      constructor
      · apply Nat.lt_pow_two_of_testBit
        intro i hi
        rw [← Bool.not_eq_true]
        intro q
        have := hz i q
        rw [bd_true, bd_true, Nat.testBit_two_pow_sub_one, decide_eq_true_iff] at this
        omega
      · rintro i ⟨q1, q2⟩
        have := hz i q1
        rw [bd_true, bd_true] at this
        rw [Nat.testBit_or, this.1.2, this.2] at q2
        cases q2
    · rintro ⟨h1, h2⟩ i hi
      have := h2 i
      rw [hi, Nat.testBit_or] at this
      rw [bd_true, bd_true, Nat.testBit_two_pow_sub_one, decide_eq_true (tb_in h1 hi)]
      cases q1 : (wI W).testBit i <;> cases q2 : (wD W).testBit i <;> simp_all
  rw [e_Telling_cheapestAdded, CW_0 hc, (wf_G h).1, (wf_I h).1, (wf_D h).1, shl32_one (by omega), pu_w32 (by omega) (by omega), show ((2 ^ wG W : Nat) : Int) - 1 = ((2 ^ wG W - 1 : Nat) : Int) by omega, andnot32 (by omega) (by omega), andnot32 (by have := bdiff_le (2 ^ wG W - 1) (wI W); omega) (by omega)]
  have hext : addA W (decide (b ≠ 0)) = bestA (addOk W (decide (b ≠ 0))) (costW W) 64 := by
    unfold addA
    refine (bestA_ext h64 (fun i h1 _ => ?_)).symm
    unfold addOk
    rw [decide_eq_false (by omega), Bool.false_and]
  rw [hext]
  have key := pu_rel (S := Int × mM) (G := fun i s => gA 67 34 [rv 6 21, rv 9 w, rv 3 10, iv b, iv ((bdiff (bdiff (2 ^ wG W - 1) (wI W)) (wD W) : Nat) : Int), iv (bestA (addOk W (decide (b ≠ 0))) (costW W) i), iv s.1, iv (i : Int), none, none] [] s.2) (I := fun i s => (∀ o, o ≠ 22 → s.2 o = M o) ∧ (bestA (addOk W (decide (b ≠ 0))) (costW W) i ≠ -2 → s.1 = ((costW W (bestA (addOk W (decide (b ≠ 0))) (costW W) i).toNat : Nat) : Int))) 64 (fun i s hi hI' => by
    obtain ⟨x, M1⟩ := s
    obtain ⟨i1, i2⟩ := hI'
    try dsimp only at i1 i2 ⊢
    have hc1 : CW w W M1 := CW_k hc (fun o ho => i1 o (by omega))
    have hP1 : PR W M1 := PR_s hP (i1 11 (by omega))
    have hrng := bestA_rng (addOk W (decide (b ≠ 0))) (costW W) i
    have hsub := hok i hi
    have hbd := bdiff_le i (bdiff (bdiff (2 ^ wG W - 1) (wI W)) (wD W))
    have L := s_Telling_cheapestAdded_34 w b ((bdiff (bdiff (2 ^ wG W - 1) (wI W)) (wD W) : Nat) : Int) (bestA (addOk W (decide (b ≠ 0))) (costW W) i) x (i : Int) M1
    rw [if_neg (by omega), c_costOf hc1 h (by omega), bI_some, andnot32 (by omega) (by omega), pu_inc (by omega)] at L
    have B : bestA (addOk W (decide (b ≠ 0))) (costW W) (i + 1) = if (addOk W (decide (b ≠ 0)) i && (decide (bestA (addOk W (decide (b ≠ 0))) (costW W) i = -2) || decide (costW W i < costW W (bestA (addOk W (decide (b ≠ 0))) (costW W) i).toNat))) = true then (i : Int) else bestA (addOk W (decide (b ≠ 0))) (costW W) i := rfl
    by_cases hz : bdiff i (bdiff (bdiff (2 ^ wG W - 1) (wI W)) (wD W)) = 0
    · have hz2 := hsub.mp (decide_eq_true hz)
      obtain ⟨M2, b1, b2⟩ := c_isToldWith hc1 h hP1 hz2.1 hb
      have eok : addOk W (decide (b ≠ 0)) i = doesB W i (decide (b ≠ 0)) := by
        unfold addOk
        rw [decide_eq_true hz2.1, decide_eq_true hz2.2]
        rfl
      have f2 : ∀ o, o ≠ 22 → M2 o = M o := fun o ho => by rw [b2 o ho, i1 o ho]
      rw [eok] at B
      by_cases hm : bestA (addOk W (decide (b ≠ 0))) (costW W) i = -2
      · rw [decide_eq_true hm, Bool.true_or, Bool.and_true] at B
        rw [if_pos hm, if_neg (by omega), b1, bI_some, ite01_0] at L
        cases hd : doesB W i (decide (b ≠ 0)) with
        | true =>
          rw [hd, if_pos rfl] at B L
          refine ⟨(((costW W i : Nat) : Int), M2), ⟨f2, fun _ => by rw [B, pu_nn]⟩, ?_⟩
          rw [B]
          exact L
        | false =>
          rw [hd, if_neg Bool.false_ne_true] at B L
          refine ⟨(x, M2), ⟨f2, ?_⟩, ?_⟩
          · rw [B]; exact i2
          · rw [B]; exact L
      · have hx := i2 hm
        rw [decide_eq_false hm, Bool.false_or] at B
        rw [if_neg hm] at L
        by_cases hlt : costW W i < costW W (bestA (addOk W (decide (b ≠ 0))) (costW W) i).toNat
        · rw [decide_eq_true hlt, Bool.and_true] at B
          rw [if_neg (by omega), if_neg (by omega), b1, bI_some, ite01_0] at L
          cases hd : doesB W i (decide (b ≠ 0)) with
          | true =>
            rw [hd, if_pos rfl] at B L
            refine ⟨(((costW W i : Nat) : Int), M2), ⟨f2, fun _ => by rw [B, pu_nn]⟩, ?_⟩
            rw [B]
            exact L
          | false =>
            rw [hd, if_neg Bool.false_ne_true] at B L
            refine ⟨(x, M2), ⟨f2, ?_⟩, ?_⟩
            · rw [B]; exact i2
            · rw [B]; exact L
        · rw [decide_eq_false hlt, Bool.and_false, if_neg Bool.false_ne_true] at B
          rw [if_pos (by omega), if_neg (by omega)] at L
          refine ⟨(x, M1), ⟨i1, ?_⟩, ?_⟩
          · rw [B]; exact i2
          · rw [B]; exact L
    · have eok : addOk W (decide (b ≠ 0)) i = false := by
        rw [← Bool.not_eq_true]
        intro q
        unfold addOk at q
        rw [Bool.and_eq_true, Bool.and_eq_true, decide_eq_true_iff, decide_eq_true_iff] at q
        exact hz (of_decide_eq_true (hsub.mpr ⟨q.1, q.2.1⟩))
      rw [eok, Bool.false_and, if_neg Bool.false_ne_true] at B
      refine ⟨(x, M1), ⟨i1, ?_⟩, ?_⟩
      · rw [B]; exact i2
      · rw [B]
        refine L.trans ?_
        by_cases hm : bestA (addOk W (decide (b ≠ 0))) (costW W) i = -2
        · rw [if_pos hm, if_pos (by omega)]
        · rw [if_neg hm]
          by_cases hlt : x ≤ ((costW W i : Nat) : Int)
          · rw [if_pos hlt, if_pos (by omega)]
          · rw [if_neg hlt, if_pos (by omega)]) 0 (0, M) (Nat.zero_le _) ⟨fun _ _ => rfl, fun q => absurd rfl q⟩
  obtain ⟨⟨x, M1⟩, ⟨i1, i2⟩, i3⟩ := key
  try dsimp only at i1 i3
  rw [show ((0 : Nat) : Int) = 0 from rfl, show bestA (addOk W (decide (b ≠ 0))) (costW W) 0 = -2 from rfl] at i3
  rw [i3, s_Telling_cheapestAdded_34, if_pos (by omega)]
  exact ⟨M1, rfl, i1⟩
end CA
section RA
variable {lv : Nat} {W M : mM}
theorem r_does (hr : RW lv W M) (h : WF W) {s : Nat} {b : Int} (hs : s < 2 ^ wG W) : ∃ M', gC 243 [rv 11 100, iv (s : Int), iv b] M = some (iv (if doesB W s (decide (b ≠ 0)) = true then 1 else 0), M') ∧ Rf M M' := by
  have h64 := wf_G64 h
  have hG := (wf_G h).2
  have hI := wf_I64 h
  have hD := wf_D64 h
  have hlv := rw_lv hr
  have hor : wI W ||| s < 2 ^ wG W := or_lt2 (wf_I h).2 hs
  have hp4 := (wf_P h).2
  have hpp : 2 ^ wP W ≤ 8 := Nat.le_trans (Nat.pow_le_pow_right (by omega) (show wP W ≤ 3 by omega)) (Nat.le_refl 8)
  obtain ⟨M1, a1, a2⟩ := r_isAllTold hr h (ps := 2 ^ wP W) (ins := wI W ||| s) (dea := wD W) (x := -1) (by omega) hor hD
  rw [e_GaugeNetModel_does, rw_P hr, rw_I hr, rw_D hr, (wf_P h).1, (wf_I h).1, (wf_D h).1, shl32_one (by omega), or32_nat (by omega) (by omega), a1, bI_some, ite01_n]
  unfold doesB
  cases h0 : allT W (2 ^ wP W) (wI W ||| s) (wD W) (fbW W (-1)) with
  | false =>
    rw [if_neg Bool.false_ne_true, Bool.false_and, if_neg Bool.false_ne_true]
    exact ⟨M1, rfl, a2⟩
  | true =>
    rw [if_pos rfl, Bool.true_and]
    have hr1 := RW_f hr a2
    by_cases hb : b = 0
    · rw [s_GaugeNetModel_does_31, if_pos (rw_in hr1), rw_live hr1, pu_nn, rw_G hr1, (wf_G h).1, decide_eq_false (fun z => z hb)]
      refine ⟨M1, ?_, a2⟩
      by_cases e : ((wG W : Nat) : Int) ≤ 0
      · rw [if_pos e]; rfl
      · rw [if_neg e, if_pos hb]; rfl
    · rw [decide_eq_true (show b ≠ 0 from hb), Bool.not_true, Bool.false_or]
      have e6 : allB (fun g => !(bdiff (wI W ||| s) (wD W)).testBit g || allT W (2 ^ wP W) (wI W ||| s) (wD W ||| 2 ^ g) (fbW W ((8 + g : Nat) : Int))) 6 = allB (fun g => !(bdiff (wI W ||| s) (wD W)).testBit g || allT W (2 ^ wP W) (wI W ||| s) (wD W ||| 2 ^ g) (fbW W ((8 + g : Nat) : Int))) (wG W) := by
        refine allB_ext hG (fun i h1 _ => ?_)
        rw [tb_lt (bdiff_lt hor) h1]
        rfl
      rw [e6]
      refine loop_allR (S := mM) (G := fun g M' => gA 243 31 [rv 11 100, none, iv b, iv ((wI W ||| s : Nat) : Int), iv (g : Int)] [] M') (F := fun M' => Rf M M') (p := fun g => !(bdiff (wI W ||| s) (wD W)).testBit g || allT W (2 ^ wP W) (wI W ||| s) (wD W ||| 2 ^ g) (fbW W ((8 + g : Nat) : Int))) (N := wG W) (Q := fun b o => ∃ M', o = some (iv (if b = true then 1 else 0), M') ∧ Rf M M') (fun g M2 hg hM2 => ?_) (fun M2 hM2 => ?_) M1 a2
      · try dsimp only
        have hr2 := RW_f hr hM2
        have hbl := bdiff_le (wI W ||| s) (wD W)
        rw [s_GaugeNetModel_does_31, if_pos (rw_in hr2), rw_live hr2, pu_nn, rw_G hr2, (wf_G h).1, if_neg (by omega), if_neg hb, rw_D hr2, (wf_D h).1, andnot32 (by omega) (by omega), pu_inc (by omega)]
        by_cases q : (bdiff (wI W ||| s) (wD W)).testBit g = true
        · have hgp : 2 ^ g ≤ 32 := Nat.le_trans (Nat.pow_le_pow_right (by omega) (show g ≤ 5 by omega)) (Nat.le_refl 32)
          have hdg : wD W ||| 2 ^ g < 64 := Nat.or_lt_two_pow (n := 6) hD (by omega)
          obtain ⟨M3, b1, b2⟩ := r_isAllTold hr2 h (ps := 2 ^ wP W) (ins := wI W ||| s) (dea := wD W ||| 2 ^ g) (x := ((8 + g : Nat) : Int)) (by omega) hor hdg
          rw [if_neg (fun z => z ((and1_eq1 (by omega) (by omega)).mpr q)), rw_P hr2, (wf_P h).1, shl32_one (by omega), or1 (by omega) (by omega), pu_w32 (x := 8 + (g : Int)) (by omega) (by omega), show (8 : Int) + (g : Int) = ((8 + g : Nat) : Int) by omega, b1, bI_some, ite01_n, q, Bool.not_true, Bool.false_or]
          cases hT : allT W (2 ^ wP W) (wI W ||| s) (wD W ||| 2 ^ g) (fbW W ((8 + g : Nat) : Int)) with
          | true =>
            rw [if_pos rfl]
            exact Or.inl ⟨rfl, M3, Rf_trans hM2 b2, rfl⟩
          | false =>
            rw [if_neg Bool.false_ne_true]
            exact Or.inr ⟨rfl, M3, rfl, Rf_trans hM2 b2⟩
        · rw [if_pos (fun z => q ((and1_eq1 (by omega) (by omega)).mp z)), tb_not.mp q]
          exact Or.inl ⟨rfl, M2, hM2, rfl⟩
      · try dsimp only
        have hr2 := RW_f hr hM2
        rw [s_GaugeNetModel_does_31, if_pos (rw_in hr2), rw_live hr2, pu_nn, rw_G hr2, (wf_G h).1, if_pos (by omega)]
        exact ⟨M2, rfl, hM2⟩
theorem r_adding (hr : RW lv W M) (h : WF W) {b : Int} : ∃ M', gC 242 [rv 11 100, iv b] M = some (iv (addA W (decide (b ≠ 0))), M') ∧ Rf M M' := by
  have h64 := wf_G64 h
  have hG := (wf_G h).2
  have hI := wf_I64 h
  have hD := wf_D64 h
  have hlv := rw_lv hr
  have hor : wI W ||| wD W < 64 := Nat.or_lt_two_pow (n := 6) hI hD
  rw [e_GaugeNetModel_adding]
  unfold addA
  have key := pu_rel (S := mM) (G := fun i M' => gA 242 5 [rv 11 100, iv b, iv (bestA (addOk W (decide (b ≠ 0))) (costW W) i), iv (i : Int)] [] M') (I := fun i M' => Rf M M') (2 ^ wG W) (fun i M1 hi hM1 => by
    try dsimp only
    have hr1 := RW_f hr hM1
    have hrng := bestA_rng (addOk W (decide (b ≠ 0))) (costW W) i
    rw [s_GaugeNetModel_adding_5, if_pos (rw_in hr1), rw_live hr1, pu_nn, rw_G hr1, (wf_G h).1, shl32_one (by omega), if_neg (by omega), rw_I hr1, rw_D hr1, (wf_I h).1, (wf_D h).1, or32_nat (by omega) (by omega), and32_nat (by omega) (by omega), pu_inc (by omega), bestA]
    by_cases hz : i &&& (wI W ||| wD W) = 0
    · obtain ⟨M2, b1, b2⟩ := r_does hr1 h (s := i) (b := b) hi
      have eok : addOk W (decide (b ≠ 0)) i = doesB W i (decide (b ≠ 0)) := by
        unfold addOk
        rw [decide_eq_true hi, decide_eq_true hz]
        rfl
      rw [if_neg (fun z => z (by rw [hz]; rfl)), eok]
      by_cases hm : bestA (addOk W (decide (b ≠ 0))) (costW W) i = -2
      · rw [if_pos hm, b1, bI_some, ite01_0, decide_eq_true hm, Bool.true_or, Bool.and_true]
        refine ⟨M2, Rf_trans hM1 b2, ?_⟩
        cases doesB W i (decide (b ≠ 0)) <;> rfl
      · obtain ⟨k, hk⟩ : ∃ k : Nat, bestA (addOk W (decide (b ≠ 0))) (costW W) i = (k : Int) := ⟨(bestA (addOk W (decide (b ≠ 0))) (costW W) i).toNat, by omega⟩
        rw [if_neg hm, r_costBy hr1 h (by omega), bI_some, hk, r_costBy hr1 h (by omega), bI_some, decide_eq_false (show ¬ ((k : Int) = -2) by omega), Bool.false_or, pu_nn]
        by_cases hlt : costW W i < costW W k
        · rw [if_pos (by omega), b1, bI_some, ite01_0, decide_eq_true hlt, Bool.and_true]
          refine ⟨M2, Rf_trans hM1 b2, ?_⟩
          cases doesB W i (decide (b ≠ 0)) <;> rfl
        · rw [if_neg (by omega), decide_eq_false hlt, Bool.and_false, if_neg Bool.false_ne_true]
          exact ⟨M1, hM1, rfl⟩
    · have eok : addOk W (decide (b ≠ 0)) i = false := by
        unfold addOk
        rw [decide_eq_false hz, Bool.false_and, Bool.and_false]
      rw [if_pos (by omega), eok, Bool.false_and, if_neg Bool.false_ne_true]
      exact ⟨M1, hM1, rfl⟩) 0 M (Nat.zero_le _) (Rf_refl M)
  obtain ⟨M1, i1, i3⟩ := key
  try dsimp only at i3
  rw [show ((0 : Nat) : Int) = 0 from rfl, show bestA (addOk W (decide (b ≠ 0))) (costW W) 0 = -2 from rfl] at i3
  have hr1 := RW_f hr i1
  rw [i3, s_GaugeNetModel_adding_5, if_pos (rw_in hr1), rw_live hr1, pu_nn, rw_G hr1, (wf_G h).1, shl32_one (by omega), if_pos (by omega)]
  exact ⟨M1, rfl, i1⟩
end RA
theorem p_adding {b : Int} (hb : b = 0 ∨ b = 1) : PureI Rel 148 242 [iv b] := by
  refine pure_qI (fun W => addA W (decide (b ≠ 0))) (fun W tl tp pl M h hK hc => ?_) (fun W tl tp pl M h hr => ?_)
  · obtain ⟨M1, a1, a2⟩ := c_makeReady hc h
    obtain ⟨w, w2, hcb, h5, hP, hT⟩ := id a2
    obtain ⟨M2, b1, b2⟩ := c_cheapest hcb.2.2.2.1 h hP hb
    rw [e_GaugeNet_adding, a1, bV_none, CB_w hcb, b1, bI_some]
    exact ⟨M2, rfl, CI_s (CY_CI a2) (fun o ho => b2 o (by omega))⟩
  · obtain ⟨lv, hrb, _⟩ := id hr
    obtain ⟨M1, a1, a2⟩ := r_adding hrb.1 h (b := b)
    exact ⟨M1, a1, RI_s hr (Rs_of a2)⟩
