/-! TAKING, POSITIONS -/
theorem net_hi {W : mM} (h : WF W) {s r : Nat} (hs : sbs s (bdiff (wI W) (wD W))) (h8 : 8 ≤ r) (hr : s.testBit (r - 8) = true) : (net W).testBit r = true := by
  have := hs _ hr
  rw [bd_true] at this
  unfold net
  rw [netA_tb, decide_eq_true h8, this.1, this.2]
  simp
noncomputable def kepB (W : mM) (s f : Nat) : Bool := (!isMoreB W (net W) (wFr W f) || isMoreB W (bdiff (net W) (s * 256)) (wFr W f)) && allB (fun o => (bdiff (net W) (bdiff (net W) (s * 256))).testBit (wFr W o) || (!isPartB W (net W) (wFr W f) (wFr W o) || isPartB W (bdiff (net W) (s * 256)) (wFr W f) (wFr W o))) (wF W)
theorem isTk_tb {W : mM} (s f : Nat) : isTk W s f = (s * 256).testBit (wFr W f) := by
  unfold isTk
  rw [tb_256]
theorem sta_eq {W : mM} (h : WF W) {s f : Nat} (hs : sbs s (bdiff (wI W) (wD W))) (hf : f < wF W) : (!(bdiff (net W) (s * 256)).testBit (wFr W f) || kepB W s f) = staF W s f := by
  unfold staF
  have hn : ∀ o, isTk W s o = true → (net W).testBit (wFr W o) = true := by
    intro o ho
    unfold isTk at ho
    rw [Bool.and_eq_true, decide_eq_true_iff] at ho
    exact net_hi h hs ho.1 ho.2
  rw [bdiff_testBit, ← isTk_tb]
  cases hk : isTk W s f with
  | true => simp
  | false =>
    rw [Bool.not_false, Bool.and_true, Bool.false_or]
    cases hN : (net W).testBit (wFr W f) with
    | false =>
      have e1 : isMoreB W (net W) (wFr W f) = false := by unfold isMoreB; rw [hN]; rfl
      rw [Bool.not_false, Bool.true_or, e1, Bool.not_false, Bool.true_or, Bool.true_and]
      symm
      rw [allB_iff]
      intro o _
      rw [isPart_not hN]
      simp
    | true =>
      rw [Bool.not_true, Bool.false_or]
      unfold kepB
      congr 1
      refine allB_congr (fun o ho => ?_)
      have e2 : (bdiff (net W) (bdiff (net W) (s * 256))).testBit (wFr W o) = isTk W s o := by
        rw [bdiff_testBit, bdiff_testBit, ← isTk_tb]
        cases hko : isTk W s o with
        | true => rw [hn o hko]; rfl
        | false => cases (net W).testBit (wFr W o) <;> rfl
      rw [e2]
      by_cases e : o = f
      · rw [decide_eq_true e, e, isPart_self]
        simp
      · rw [decide_eq_false e, Bool.false_or]
section CK
variable {w : Nat} {W M : mM}
theorem c_isKept (hc : CW w W M) (h : WF W) (hP : PR W M) {s f : Nat} (hs64 : s < 64) : gC 71 [rv 9 w, rv 3 10, iv ((net W : Nat) : Int), iv ((bdiff (net W) (s * 256) : Nat) : Int), iv ((wFr W f : Nat) : Int)] M = some (iv (if kepB W s f = true then 1 else 0), M) := by
  have hF := (wf_F h).2
  have hnt := net_told h
  have hn16 := told16 hnt
  have hbl := bdiff_le (net W) (s * 256)
  have hbt : sbs (bdiff (net W) (s * 256)) (told W) := sbs_trans (sbs_bdiff _ _) hnt
  have inner := loop_all (G := fun o : Nat => gA 71 25 [rv 9 w, rv 3 10, iv ((net W : Nat) : Int), iv ((bdiff (net W) (s * 256) : Nat) : Int), iv ((wFr W f : Nat) : Int), iv (o : Int), none, none] [] M) (p := fun o => (bdiff (net W) (bdiff (net W) (s * 256))).testBit (wFr W o) || (!isPartB W (net W) (wFr W f) (wFr W o) || isPartB W (bdiff (net W) (s * 256)) (wFr W f) (wFr W o))) (N := wF W) (A := some (iv 0, M)) (B := some (iv 1, M)) (fun o ho => by
    have hb2 := bdiff_le (net W) (bdiff (net W) (s * 256))
    try dsimp only
    rw [s_Telling_isKept_25, CW_0 hc, (wf_F h).1, if_neg (by omega), c_rowOf hc h, bI_some, if_pos (inR_iff.mpr (by omega)), pu_nn, andnot32 (by omega) (by omega), c_hasBit (by omega), bI_some, hB_nat, ite01_n, pu_inc (by omega)]
    cases hT : (bdiff (net W) (bdiff (net W) (s * 256))).testBit (wFr W o) with
    | true => rfl
    | false =>
      rw [if_neg Bool.false_ne_true, Bool.false_or, c_isParted hP hnt, bI_some, ite01_0]
      cases hA : isPartB W (net W) (wFr W f) (wFr W o) with
      | false => rfl
      | true =>
        rw [if_pos rfl, c_isParted hP hbt, bI_some, ite01_n, Bool.not_true, Bool.false_or]) (by
    try dsimp only
    rw [s_Telling_isKept_25, CW_0 hc, (wf_F h).1, if_pos (by omega)])
  try dsimp only at inner
  rw [show ((0 : Nat) : Int) = 0 from rfl] at inner
  rw [e_Telling_isKept, c_isMore hP hnt, bI_some, ite01_0]
  unfold kepB
  cases hA : isMoreB W (net W) (wFr W f) with
  | false =>
    rw [if_neg Bool.false_ne_true, Bool.not_false, Bool.true_or, Bool.true_and, inner]
    split <;> rfl
  | true =>
    rw [if_pos rfl, c_isMore hP hbt, bI_some, ite01_n, Bool.not_true, Bool.false_or]
    cases hB : isMoreB W (bdiff (net W) (s * 256)) (wFr W f) with
    | false => rfl
    | true =>
      rw [if_pos rfl, Bool.true_and, inner]
      split <;> rfl
theorem c_isToldWithout (hc : CW w W M) (h : WF W) (hP : PR W M) {s : Nat} (hs : sbs s (bdiff (wI W) (wD W))) : gC 70 [rv 9 w, rv 3 10, iv ((s * 256 : Nat) : Int)] M = some (iv (if stayB W s = true then 1 else 0), M) := by
  have hF := (wf_F h).2
  have hn16 := net_lt h
  have hs64 : s < 64 := Nat.lt_of_le_of_lt (sbs_le hs) (Nat.lt_of_lt_of_le (bI_lt h) (wf_G64 h))
  have hbl := bdiff_le (net W) (s * 256)
  rw [e_Telling_isToldWithout, c_netNow hc h, bI_some, andnot32 (by omega) (by omega)]
  have key := loop_all (G := fun f : Nat => gA 70 15 [rv 9 w, rv 3 10, none, iv ((net W : Nat) : Int), iv ((bdiff (net W) (s * 256) : Nat) : Int), iv (f : Int), none] [] M) (p := staF W s) (N := wF W) (A := some (iv 0, M)) (B := some (iv 1, M)) (fun f hf => by
    try dsimp only
    rw [s_Telling_isToldWithout_15, CW_0 hc, (wf_F h).1, if_neg (by omega), c_rowOf hc h, bI_some, if_pos (inR_iff.mpr (by omega)), pu_nn, c_hasBit (by omega), bI_some, hB_nat, ite01_0, pu_inc (by omega), ← sta_eq h hs hf]
    cases hT : (bdiff (net W) (s * 256)).testBit (wFr W f) with
    | false => rfl
    | true =>
      rw [if_pos rfl, c_isKept hc h hP hs64, bI_some, ite01_n, Bool.not_true, Bool.false_or]) (by
    try dsimp only
    rw [s_Telling_isToldWithout_15, CW_0 hc, (wf_F h).1, if_pos (by omega)])
  refine Eq.trans key ?_
  unfold stayB
  split <;> rfl
theorem c_dearest (hc : CW w W M) (h : WF W) (hP : PR W M) : gC 69 [rv 6 21, rv 9 w, rv 3 10] M = some (iv ((takA W : Nat) : Int), M) := by
  have h64 := wf_G64 h
  have hI := wf_I64 h
  have hD := wf_D64 h
  have hl := bI_lt h
  have hp1 := Nat.two_pow_pos (wG W)
  have hext : takA W = bestT (takOk W) (costW W) 64 := by
    unfold takA
    refine (bestT_ext h64 (fun i h1 _ => ?_)).symm
    unfold takOk
    rw [decide_eq_false, Bool.false_and]
    intro z
    have := sbs_le (sbs_zero.mp z)
    omega
  rw [hext, e_Telling_dearestTaken, CW_0 hc, (wf_I h).1, (wf_D h).1, andnot32 (by omega) (by omega)]
  have e1 : bestT (takOk W) (costW W) 1 = 0 := by
    rw [bestT]
    split
    · rfl
    · rfl
  have key := pu_up (fun i : Nat => gA 69 18 [none, rv 9 w, rv 3 10, iv ((bdiff (wI W) (wD W) : Nat) : Int), iv ((bestT (takOk W) (costW W) (i + 1) : Nat) : Int), iv ((i + 1 : Nat) : Int), none] [] M) 63 (fun i hi => by
    have hb := bestT_lt (takOk W) (costW W) (i + 1) (by omega)
    have hbd := bdiff_le (i + 1) (bdiff (wI W) (wD W))
    have B : bestT (takOk W) (costW W) (i + 1 + 1) = if (takOk W (i + 1) && decide (costW W (bestT (takOk W) (costW W) (i + 1)) < costW W (i + 1))) = true then i + 1 else bestT (takOk W) (costW W) (i + 1) := rfl
    try dsimp only
    rw [B, s_Telling_dearestTaken_18, if_neg (by omega), c_costOf hc h (by omega), bI_some, c_costOf hc h (by omega), bI_some, andnot32 (by omega) (by omega), pu_inc (by omega)]
    by_cases hlt : costW W (bestT (takOk W) (costW W) (i + 1)) < costW W (i + 1)
    · rw [if_neg (by omega), decide_eq_true hlt, Bool.and_true]
      by_cases hz : bdiff (i + 1) (bdiff (wI W) (wD W)) = 0
      · rw [if_neg (by omega), shl32_8 (by omega), c_isToldWithout hc h hP (sbs_zero.mp hz), bI_some, ite01_0]
        have : takOk W (i + 1) = stayB W (i + 1) := by
          unfold takOk
          rw [decide_eq_true hz]
          rfl
        rw [this]
        cases stayB W (i + 1) <;> rfl
      · have : takOk W (i + 1) = false := by
          unfold takOk
          rw [decide_eq_false hz]
          rfl
        rw [if_pos (by omega), this]
        rfl
    · rw [if_pos (by omega), decide_eq_false hlt, Bool.and_false, if_neg Bool.false_ne_true]
      split <;> rfl)
  try dsimp only at key
  rw [e1, show ((0 + 1 : Nat) : Int) = 1 from rfl, show ((0 : Nat) : Int) = 0 from rfl] at key
  rw [key, s_Telling_dearestTaken_18, if_pos (by omega)]
end CK
section RK
variable {lv : Nat} {W M : mM}
theorem r_isTaken (hr : RW lv W M) (h : WF W) {s f : Nat} (hs : s < 64) (hf : f < wF W) : gC 246 [rv 11 100, iv (f : Int), iv (s : Int)] M = some (iv (if isTk W s f = true then 1 else 0), M) := by
  have h14 := (wf_frt h f hf).1
  rw [e_GaugeNetModel_isTaken, r_faultRow hr h hf, bI_some]
  unfold isTk
  by_cases q : wFr W f < 8
  · rw [if_pos (by omega), decide_eq_false (by omega)]
    rfl
  · rw [if_neg (by omega), r_faultRow hr h hf, bI_some, pu_w32 (by omega) (by omega), show ((wFr W f : Nat) : Int) - 8 = ((wFr W f - 8 : Nat) : Int) by omega, decide_eq_true (by omega), Bool.true_and]
    by_cases z : s.testBit (wFr W f - 8) = true
    · rw [if_neg (fun y => y ((and1_eq1 (by omega) (by omega)).mpr z)), if_pos z]
    · rw [if_pos (fun y => z ((and1_eq1 (by omega) (by omega)).mp y)), if_neg z]
theorem r_staysWithout (hr : RW lv W M) (h : WF W) {s : Nat} (hs : s < 64) : ∃ M', gC 245 [rv 11 100, iv (s : Int)] M = some (iv (if stayB W s = true then 1 else 0), M') ∧ Rf M M' := by
  have hF := (wf_F h).2
  have hlv := rw_lv hr
  have hnt := net_told h
  have hn16 := net_lt h
  have hbl := bdiff_le (net W) (s * 256)
  have hbt : sbs (bdiff (net W) (s * 256)) (told W) := sbs_trans (sbs_bdiff _ _) hnt
  rw [e_GaugeNetModel_staysWithout, r_netNow hr h, bI_some, shl32_8 hs, andnot32 (by omega) (by omega)]
  unfold stayB
  refine loop_allR (S := mM) (G := fun f M' => gA 245 17 [rv 11 100, iv (s : Int), iv ((net W : Nat) : Int), iv ((bdiff (net W) (s * 256) : Nat) : Int), iv (f : Int), none] [] M') (F := fun M' => Rf M M') (p := staF W s) (N := wF W) (Q := fun b o => ∃ M', o = some (iv (if b = true then 1 else 0), M') ∧ Rf M M') (fun f M1 hf hM1 => ?_) (fun M1 hM1 => ?_) M (Rf_refl M)
  · try dsimp only
    have hr1 := RW_f hr hM1
    have inner : ∀ M2, Rf M M2 → (allB (fun o => decide (o = f) || (isTk W s o || (!isPartB W (net W) (wFr W f) (wFr W o) || isPartB W (bdiff (net W) (s * 256)) (wFr W f) (wFr W o)))) (wF W) = true ∧ ∃ M', Rf M M' ∧ gA 245 69 [rv 11 100, iv (s : Int), iv ((net W : Nat) : Int), iv ((bdiff (net W) (s * 256) : Nat) : Int), iv (f : Int), iv 0] [] M2 = gA 245 17 [rv 11 100, iv (s : Int), iv ((net W : Nat) : Int), iv ((bdiff (net W) (s * 256) : Nat) : Int), iv ((f + 1 : Nat) : Int), none] [] M') ∨ (allB (fun o => decide (o = f) || (isTk W s o || (!isPartB W (net W) (wFr W f) (wFr W o) || isPartB W (bdiff (net W) (s * 256)) (wFr W f) (wFr W o)))) (wF W) = false ∧ ∃ M', gA 245 69 [rv 11 100, iv (s : Int), iv ((net W : Nat) : Int), iv ((bdiff (net W) (s * 256) : Nat) : Int), iv (f : Int), iv 0] [] M2 = some (iv (if false = true then 1 else 0), M') ∧ Rf M M') := by
      intro M2 hM2
      refine loop_allR (S := mM) (G := fun o M' => gA 245 69 [rv 11 100, iv (s : Int), iv ((net W : Nat) : Int), iv ((bdiff (net W) (s * 256) : Nat) : Int), iv (f : Int), iv (o : Int)] [] M') (F := fun M' => Rf M M') (p := fun o => decide (o = f) || (isTk W s o || (!isPartB W (net W) (wFr W f) (wFr W o) || isPartB W (bdiff (net W) (s * 256)) (wFr W f) (wFr W o)))) (N := wF W) (Q := fun b o => (b = true ∧ ∃ M', Rf M M' ∧ o = gA 245 17 [rv 11 100, iv (s : Int), iv ((net W : Nat) : Int), iv ((bdiff (net W) (s * 256) : Nat) : Int), iv ((f + 1 : Nat) : Int), none] [] M') ∨ (b = false ∧ ∃ M', o = some (iv (if false = true then 1 else 0), M') ∧ Rf M M')) (fun o M3 ho hM3 => ?_) (fun M3 hM3 => ?_) M2 hM2
      · try dsimp only
        have hr3 := RW_f hr hM3
        rw [s_GaugeNetModel_staysWithout_69, if_pos (rw_in hr3), rw_live hr3, pu_nn, rw_F hr3, (wf_F h).1, if_neg (by omega), pu_inc (by omega)]
        by_cases e : o = f
        · rw [if_pos (by omega), decide_eq_true e]
          exact Or.inl ⟨rfl, M3, hM3, rfl⟩
        · rw [if_neg (by omega), decide_eq_false e, Bool.false_or, r_isTaken hr3 h hs ho, bI_some, ite01_n]
          cases hk : isTk W s o with
          | true => exact Or.inl ⟨rfl, M3, hM3, rfl⟩
          | false =>
            obtain ⟨M4, c1, c2⟩ := r_isPartedIn hr3 h (s := net W) (f := f) (o := o) hnt hf ho
            rw [if_neg Bool.false_ne_true, Bool.false_or, c1, bI_some, ite01_0]
            cases hA : isPartB W (net W) (wFr W f) (wFr W o) with
            | false => exact Or.inl ⟨rfl, M4, Rf_trans hM3 c2, rfl⟩
            | true =>
              obtain ⟨M5, d1, d2⟩ := r_isPartedIn (RW_f hr3 c2) h (s := bdiff (net W) (s * 256)) (f := f) (o := o) hbt hf ho
              rw [if_pos rfl, d1, bI_some, ite01_n, Bool.not_true, Bool.false_or]
              cases hB : isPartB W (bdiff (net W) (s * 256)) (wFr W f) (wFr W o) with
              | true => exact Or.inl ⟨rfl, M5, Rf_trans hM3 (Rf_trans c2 d2), rfl⟩
              | false => exact Or.inr ⟨rfl, Or.inr ⟨rfl, M5, rfl, Rf_trans hM3 (Rf_trans c2 d2)⟩⟩
      · try dsimp only
        have hr3 := RW_f hr hM3
        rw [s_GaugeNetModel_staysWithout_69, if_pos (rw_in hr3), rw_live hr3, pu_nn, rw_F hr3, (wf_F h).1, if_pos (by omega), pu_inc (by omega)]
        exact Or.inl ⟨rfl, M3, hM3, rfl⟩
    rw [s_GaugeNetModel_staysWithout_17, if_pos (rw_in hr1), rw_live hr1, pu_nn, rw_F hr1, (wf_F h).1, if_neg (by omega), r_isTaken hr1 h hs hf, bI_some, ite01_0]
    unfold staF
    cases hk : isTk W s f with
    | true =>
      rw [if_pos rfl, pu_inc (by omega)]
      exact Or.inl ⟨rfl, M1, hM1, rfl⟩
    | false =>
      obtain ⟨M2, c1, c2⟩ := r_isSeenIn hr1 h (s := net W) (f := f) hnt hf
      have f2 := Rf_trans hM1 c2
      rw [if_neg Bool.false_ne_true, Bool.false_or, c1, bI_some, ite01_0]
      cases hA : isMoreB W (net W) (wFr W f) with
      | false =>
        rw [if_neg Bool.false_ne_true, Bool.not_false, Bool.true_or, Bool.true_and]
        rcases inner M2 f2 with ⟨q1, M', q2, q3⟩ | ⟨q1, M', q2, q3⟩
        · exact Or.inl ⟨q1, M', q2, q3⟩
        · exact Or.inr ⟨q1, M', q2, q3⟩
      | true =>
        obtain ⟨M3, d1, d2⟩ := r_isSeenIn (RW_f hr f2) h (s := bdiff (net W) (s * 256)) (f := f) hbt hf
        have f3 := Rf_trans f2 d2
        rw [if_pos rfl, d1, bI_some, ite01_n, Bool.not_true, Bool.false_or]
        cases hB : isMoreB W (bdiff (net W) (s * 256)) (wFr W f) with
        | false => exact Or.inr ⟨rfl, M3, rfl, f3⟩
        | true =>
          rw [if_pos rfl, Bool.true_and]
          rcases inner M3 f3 with ⟨q1, M', q2, q3⟩ | ⟨q1, M', q2, q3⟩
          · exact Or.inl ⟨q1, M', q2, q3⟩
          · exact Or.inr ⟨q1, M', q2, q3⟩
  · try dsimp only
    have hr1 := RW_f hr hM1
    rw [s_GaugeNetModel_staysWithout_17, if_pos (rw_in hr1), rw_live hr1, pu_nn, rw_F hr1, (wf_F h).1, if_pos (by omega)]
    exact ⟨M1, rfl, hM1⟩
theorem r_taking (hr : RW lv W M) (h : WF W) : ∃ M', gC 244 [rv 11 100] M = some (iv ((takA W : Nat) : Int), M') ∧ Rf M M' := by
  have h64 := wf_G64 h
  have hI := wf_I64 h
  have hD := wf_D64 h
  have hlv := rw_lv hr
  have hG := (wf_G h).2
  have hp1 := Nat.two_pow_pos (wG W)
  have hl := bI_lt h
  have hbl := bdiff_le (wI W) (wD W)
  rw [e_GaugeNetModel_taking]
  have e1 : bestT (takOk W) (costW W) 1 = 0 := by
    rw [bestT]
    split
    · rfl
    · rfl
  unfold takA
  obtain ⟨N, hN⟩ : ∃ N, 2 ^ wG W = N + 1 := ⟨2 ^ wG W - 1, by omega⟩
  rw [hN]
  have key := pu_rel (S := mM) (G := fun i M' => gA 244 4 [rv 11 100, iv ((bestT (takOk W) (costW W) (i + 1) : Nat) : Int), iv ((i + 1 : Nat) : Int)] [] M') (I := fun i M' => Rf M M') N (fun i M1 hi hM1 => by
    try dsimp only
    have hr1 := RW_f hr hM1
    have hb := bestT_lt (takOk W) (costW W) (i + 1) (by omega)
    have hbd := bdiff_le (i + 1) (bdiff (wI W) (wD W))
    have B : bestT (takOk W) (costW W) (i + 1 + 1) = if (takOk W (i + 1) && decide (costW W (bestT (takOk W) (costW W) (i + 1)) < costW W (i + 1))) = true then i + 1 else bestT (takOk W) (costW W) (i + 1) := rfl
    rw [B, s_GaugeNetModel_taking_4, if_pos (rw_in hr1), rw_live hr1, pu_nn, rw_G hr1, (wf_G h).1, shl32_one (by omega), if_neg (by omega), rw_I hr1, rw_D hr1, (wf_I h).1, (wf_D h).1, andnot32 (by omega) (by omega), andnot32 (by omega) (by omega), pu_inc (by omega)]
    by_cases hz : bdiff (i + 1) (bdiff (wI W) (wD W)) = 0
    · have hok : takOk W (i + 1) = stayB W (i + 1) := by
        unfold takOk
        rw [decide_eq_true hz]
        rfl
      rw [if_neg (by omega), r_costBy hr1 h (by omega), bI_some, r_costBy hr1 h (by omega), bI_some, hok]
      by_cases hlt : costW W (bestT (takOk W) (costW W) (i + 1)) < costW W (i + 1)
      · obtain ⟨M2, c1, c2⟩ := r_staysWithout hr1 h (s := i + 1) (by omega)
        rw [if_neg (by omega), decide_eq_true hlt, Bool.and_true, c1, bI_some, ite01_0]
        refine ⟨M2, Rf_trans hM1 c2, ?_⟩
        cases stayB W (i + 1) <;> rfl
      · rw [if_pos (by omega), decide_eq_false hlt, Bool.and_false, if_neg Bool.false_ne_true]
        exact ⟨M1, hM1, rfl⟩
    · have : takOk W (i + 1) = false := by
        unfold takOk
        rw [decide_eq_false hz]
        rfl
      rw [if_pos (by omega), this, Bool.false_and, if_neg Bool.false_ne_true]
      exact ⟨M1, hM1, rfl⟩) 0 M (Nat.zero_le _) (Rf_refl M)
  obtain ⟨M1, i1, i3⟩ := key
  try dsimp only at i3
  rw [e1, show ((0 + 1 : Nat) : Int) = 1 from rfl, show ((0 : Nat) : Int) = 0 from rfl] at i3
  have hr1 := RW_f hr i1
  rw [i3, s_GaugeNetModel_taking_4, if_pos (rw_in hr1), rw_live hr1, pu_nn, rw_G hr1, (wf_G h).1, shl32_one (by omega), if_pos (by omega)]
  exact ⟨M1, rfl, i1⟩
end RK
theorem p_taking : PureI Rel 149 244 [] := by
  refine pure_qI (fun W => ((takA W : Nat) : Int)) (fun W tl tp pl M h hK hc => ?_) (fun W tl tp pl M h hr => ?_)
  · obtain ⟨M1, a1, a2⟩ := c_makeReady hc h
    obtain ⟨w, w2, hcb, h5, hP, hT⟩ := id a2
    rw [e_GaugeNet_taking, a1, bV_none, CB_w hcb, c_dearest hcb.2.2.2.1 h hP, bI_some]
    exact ⟨M1, rfl, CY_CI a2⟩
  · obtain ⟨lv, hrb, _⟩ := id hr
    obtain ⟨M1, a1, a2⟩ := r_taking hrb.1 h
    exact ⟨M1, a1, RI_s hr (Rs_of a2)⟩
/-! POSITIONS -/
noncomputable def tB (W : mM) (s : Nat) : Bool := allT W s (wI W) (wD W) (fbW W (-1))
noncomputable def bestP (W : mM) : Nat → Int
  | 0 => -2
  | n + 1 => if (tB W (n + 1) && (decide (bestP W n = -2) || decide (pop 14 (n + 1) < pop 14 (bestP W n).toNat))) = true then ((n + 1 : Nat) : Int) else bestP W n
theorem bestP_spec (W : mM) : ∀ n, (bestP W n = -2 ∧ ∀ s, 1 ≤ s → s ≤ n → tB W s = false) ∨ ∃ b : Nat, bestP W n = (b : Int) ∧ 1 ≤ b ∧ b ≤ n ∧ tB W b = true ∧ ∀ s, 1 ≤ s → s ≤ n → tB W s = true → pop 14 b < pop 14 s ∨ (pop 14 b = pop 14 s ∧ b ≤ s) := by
  intro n
  induction n with
  | zero => exact Or.inl ⟨rfl, fun s h1 h2 => by omega⟩
  | succ n ih =>
    rw [bestP]
    cases ht : tB W (n + 1) with
    | false =>
      rw [Bool.false_and, if_neg Bool.false_ne_true]
      rcases ih with ⟨a, b⟩ | ⟨b, b1, b2, b3, b4, b5⟩
      · refine Or.inl ⟨a, fun s h1 h2 => ?_⟩
        by_cases e : s = n + 1
        · rw [e]; exact ht
        · exact b s h1 (by omega)
      · refine Or.inr ⟨b, b1, b2, by omega, b4, fun s h1 h2 h3 => ?_⟩
        by_cases e : s = n + 1
        · rw [e, ht] at h3; cases h3
        · exact b5 s h1 (by omega) h3
    | true =>
      rw [Bool.true_and]
      rcases ih with ⟨a, b⟩ | ⟨b, b1, b2, b3, b4, b5⟩
      · rw [decide_eq_true a, Bool.true_or, if_pos rfl]
        refine Or.inr ⟨n + 1, rfl, by omega, by omega, ht, fun s h1 h2 h3 => ?_⟩
        by_cases e : s = n + 1
        · rw [e]; exact Or.inr ⟨rfl, Nat.le_refl _⟩
        · rw [b s h1 (by omega)] at h3; cases h3
      · rw [b1, decide_eq_false (show ¬ ((b : Nat) : Int) = -2 by omega), Bool.false_or, pu_nn]
        by_cases hlt : pop 14 (n + 1) < pop 14 b
        · rw [decide_eq_true hlt, if_pos rfl]
          refine Or.inr ⟨n + 1, rfl, by omega, by omega, ht, fun s h1 h2 h3 => ?_⟩
          by_cases e : s = n + 1
          · rw [e]; exact Or.inr ⟨rfl, Nat.le_refl _⟩
          · have := b5 s h1 (by omega) h3
            omega
        · rw [decide_eq_false hlt, if_neg Bool.false_ne_true]
          refine Or.inr ⟨b, rfl, b2, by omega, b4, fun s h1 h2 h3 => ?_⟩
          by_cases e : s = n + 1
          · rw [e]; omega
          · exact b5 s h1 (by omega) h3
theorem c_fewest {w : Nat} {W M : mM} (hc : CW w W M) (h : WF W) (hP : PR W M) : ∃ M', gC 72 [rv 6 21, rv 9 w, rv 3 10] M = some (iv (bestP W 15), M') ∧ ∀ o, o ≠ 22 → M' o = M o := by
  have hw := hc.1
  rw [e_Telling_fewestPositions]
  have key := pu_rel (S := mM) (G := fun i M' => gA 72 6 [rv 6 21, rv 9 w, rv 3 10, iv (bestP W i), iv ((i + 1 : Nat) : Int), none] [] M') (I := fun i M' => ∀ o, o ≠ 22 → M' o = M o) 15 (fun i M1 hi hM1 => by
    try dsimp only
    have hc1 : CW w W M1 := CW_k hc (fun o ho => hM1 o (by omega))
    have hP1 : PR W M1 := PR_s hP (hM1 11 (by omega))
    have B : bestP W (i + 1) = if (tB W (i + 1) && (decide (bestP W i = -2) || decide (pop 14 (i + 1) < pop 14 (bestP W i).toNat))) = true then ((i + 1 : Nat) : Int) else bestP W i := rfl
    have hs := bestP_spec W i
    obtain ⟨M2, c1, c2⟩ := c_isToldBy hc1 h hP1 (ps := i + 1) (by omega)
    have f2 : ∀ o, o ≠ 22 → M2 o = M o := fun o ho => by rw [c2 o ho, hM1 o ho]
    rw [B, s_Telling_fewestPositions_6, if_neg (by omega), pu_inc (by omega)]
    by_cases hm : bestP W i = -2
    · rw [if_pos hm, c1, bI_some, ite01_0, decide_eq_true hm, Bool.true_or, Bool.and_true]
      refine ⟨M2, f2, ?_⟩
      show _ = gA 72 6 [rv 6 21, rv 9 w, rv 3 10, iv (if tB W (i + 1) = true then _ else _), _, _] [] M2
      unfold tB
      split <;> rfl
    · obtain ⟨b, hb, hb1⟩ : ∃ b : Nat, bestP W i = (b : Int) ∧ b ≤ i := by
        rcases hs with ⟨q, _⟩ | ⟨b, b1, _, b3, _⟩
        · exact absurd q hm
        · exact ⟨b, b1, b3⟩
      rw [if_neg hm, c_bitCount (by omega), bI_some, hb, c_bitCount (by omega), bI_some, decide_eq_false (show ¬ ((b : Nat) : Int) = -2 by omega), Bool.false_or, pu_nn]
      by_cases hlt : pop 14 (i + 1) < pop 14 b
      · rw [if_neg (by omega), c1, bI_some, ite01_0, decide_eq_true hlt, Bool.and_true]
        refine ⟨M2, f2, ?_⟩
        show _ = gA 72 6 [rv 6 21, rv 9 w, rv 3 10, iv (if tB W (i + 1) = true then _ else _), _, _] [] M2
        unfold tB
        split <;> rfl
      · rw [if_pos (by omega), decide_eq_false hlt, Bool.and_false, if_neg Bool.false_ne_true]
        exact ⟨M1, hM1, rfl⟩) 0 M (Nat.zero_le _) (fun _ _ => rfl)
  obtain ⟨M1, i1, i3⟩ := key
  try dsimp only at i3
  rw [show bestP W 0 = -2 from rfl, show ((0 + 1 : Nat) : Int) = 1 from rfl] at i3
  rw [i3, s_Telling_fewestPositions_6, if_pos (by omega)]
  exact ⟨M1, rfl, i1⟩
theorem r_positions {lv : Nat} {W M : mM} (hr : RW lv W M) (h : WF W) : ∃ M', gC 247 [rv 11 100] M = some (iv (bestP W 15), M') ∧ Rf M M' := by
  have hs := bestP_spec W 15
  have p4 : ∀ s, s < 16 → 1 ≤ s → 1 ≤ pop 14 s ∧ pop 14 s ≤ 4 := by decide +kernel
  rw [e_GaugeNetModel_positions]
  refine pu_exit (S := mM) (G := fun n M' => gA 247 2 [rv 11 100, iv ((n + 1 : Nat) : Int), none] [] M') (I := fun n M' => Rf M M' ∧ ∀ s, 1 ≤ s → s ≤ 15 → pop 14 s ≤ n → tB W s = false) (Q := fun o => ∃ M', o = some (iv (bestP W 15), M') ∧ Rf M M') 4 (fun n M1 hn hI => ?_) (fun M1 hI => ?_) 0 M (Nat.zero_le _) ⟨Rf_refl M, fun s h1 h2 h3 => by have := p4 s (by omega) h1; omega⟩
  · obtain ⟨i1, i2⟩ := hI
    try dsimp only
    rw [s_GaugeNetModel_positions_2, if_neg (by omega)]
    have key := pu_exit (S := mM) (G := fun j M' => gA 247 9 [rv 11 100, iv ((n + 1 : Nat) : Int), iv ((j + 1 : Nat) : Int)] [] M') (I := fun j M' => Rf M M' ∧ ∀ s, 1 ≤ s → s ≤ j → pop 14 s = n + 1 → tB W s = false) (Q := fun o => (∃ M', o = some (iv (bestP W 15), M') ∧ Rf M M') ∨ ∃ M', (Rf M M' ∧ ∀ s, 1 ≤ s → s ≤ 15 → pop 14 s ≤ n + 1 → tB W s = false) ∧ o = gA 247 2 [rv 11 100, iv ((n + 1 + 1 : Nat) : Int), none] [] M') 15 (fun j M2 hj hJ => ?_) (fun M2 hJ => ?_) 0 M1 (Nat.zero_le _) ⟨i1, fun s h1 h2 => by omega⟩
    · rcases key with q | q
      · exact Or.inl q
      · exact Or.inr q
    · obtain ⟨j1, j2⟩ := hJ
      try dsimp only
      have hr2 := RW_f hr j1
      rw [s_GaugeNetModel_positions_9, if_neg (by omega), r_bits (by omega), bI_some, pop_ext (k := 14) (show j + 1 < 2 ^ 14 by omega) (by omega), pu_inc (by omega)]
      by_cases hp : pop 14 (j + 1) = n + 1
      · obtain ⟨M3, c1, c2⟩ := r_isAllTold hr2 h (ps := j + 1) (x := -1) (by omega) (wf_I h).2 (wf_D64 h)
        have c1' : gC 239 [rv 11 100, iv ((j + 1 : Nat) : Int), iv ((wI W : Nat) : Int), iv ((wD W : Nat) : Int), iv (-1)] M2 = some (iv (if tB W (j + 1) = true then 1 else 0), M3) := c1
        rw [if_neg (by omega), rw_I hr2, rw_D hr2, (wf_I h).1, (wf_D h).1, c1', bI_some, ite01_0]
        cases ht : tB W (j + 1) with
        | true =>
          refine Or.inl (Or.inl ⟨M3, ?_, Rf_trans j1 c2⟩)
          rw [if_pos rfl]
          have hbest : bestP W 15 = ((j + 1 : Nat) : Int) := by
            rcases hs with ⟨_, q⟩ | ⟨b, b1, b2, b3, b4, b5⟩
            · rw [q (j + 1) (by omega) (by omega)] at ht; cases ht
            · have h5 := b5 (j + 1) (by omega) (by omega) ht
              have h6 : ¬ pop 14 b ≤ n := fun z => by rw [i2 b b2 b3 z] at b4; cases b4
              have h7 : ¬ (b ≤ j ∧ pop 14 b = n + 1) := fun z => by rw [j2 b b2 z.1 z.2] at b4; cases b4
              rw [b1]
              omega
          rw [hbest]
        | false =>
          refine Or.inr ⟨M3, ⟨Rf_trans j1 c2, fun s h1 h2 h3 => ?_⟩, ?_⟩
          · by_cases e : s = j + 1
            · rw [e]; exact ht
            · exact j2 s h1 (by omega) h3
          · rw [if_neg Bool.false_ne_true]
      · rw [if_pos (by omega)]
        refine Or.inr ⟨M2, ⟨j1, fun s h1 h2 h3 => ?_⟩, rfl⟩
        by_cases e : s = j + 1
        · rw [e] at h3; exact absurd h3 hp
        · exact j2 s h1 (by omega) h3
    · obtain ⟨j1, j2⟩ := hJ
      try dsimp only
      rw [s_GaugeNetModel_positions_9, if_pos (by omega), pu_inc (by omega)]
      refine Or.inr ⟨M2, ⟨j1, fun s h1 h2 h3 => ?_⟩, rfl⟩
      by_cases e : pop 14 s = n + 1
      · exact j2 s h1 h2 e
      · exact i2 s h1 h2 (by omega)
  · obtain ⟨i1, i2⟩ := hI
    try dsimp only
    rw [s_GaugeNetModel_positions_2, if_pos (by omega)]
    refine ⟨M1, ?_, i1⟩
    have hbest : bestP W 15 = -2 := by
      rcases hs with ⟨q, _⟩ | ⟨b, b1, b2, b3, b4, _⟩
      · exact q
      · rw [i2 b b2 b3 (p4 b (by omega) b2).2] at b4
        cases b4
    rw [hbest]
theorem p_positions : PureI Rel 150 247 [] := by
  refine pure_qI (fun W => bestP W 15) (fun W tl tp pl M h hK hc => ?_) (fun W tl tp pl M h hr => ?_)
  · obtain ⟨M1, a1, a2⟩ := c_makeReady hc h
    obtain ⟨w, w2, hcb, h5, hP, hT⟩ := id a2
    obtain ⟨M2, b1, b2⟩ := c_fewest hcb.2.2.2.1 h hP
    rw [e_GaugeNet_positions, a1, bV_none, CB_w hcb, b1, bI_some]
    exact ⟨M2, rfl, CI_s (CY_CI a2) (fun o ho => b2 o (by omega))⟩
  · obtain ⟨lv, hrb, _⟩ := id hr
    obtain ⟨M1, a1, a2⟩ := r_positions hrb.1 h
    exact ⟨M1, a1, RI_s hr (Rs_of a2)⟩
