/-! By what ALL IS TOLD. -/
theorem loop_any {G : Nat → Option mR} {p : Nat → Bool} {N : Nat} {A B : Option mR} (h1 : ∀ i, i < N → G i = if p i = true then A else G (i + 1)) (h2 : G N = B) : G 0 = if anyB p N = true then A else B := by
  rcases pu_first p N with hall | ⟨k, k1, k2, k3⟩
  · rw [anyB_no.mpr hall, if_neg Bool.false_ne_true, ← h2]
    exact pu_up G N (fun i hi => by rw [h1 i hi, hall i hi, if_neg Bool.false_ne_true])
  · rw [if_pos (anyB_iff.mpr ⟨k, k1, k2⟩)]
    rw [pu_up G k (fun i hi => by rw [h1 i (by omega), k3 i hi, if_neg Bool.false_ne_true]), h1 k k1, if_pos k2]
theorem allB_no {p : Nat → Bool} {N k : Nat} (hk : k < N) (h : p k = false) : allB p N = false := by
  rw [← Bool.not_eq_true, allB_iff]
  intro z
  rw [z k hk] at h
  cases h
theorem loop_all {G : Nat → Option mR} {p : Nat → Bool} {N : Nat} {A B : Option mR} (h1 : ∀ i, i < N → G i = if p i = true then G (i + 1) else A) (h2 : G N = B) : G 0 = if allB p N = true then B else A := by
  rcases pu_first (fun i => !p i) N with hall | ⟨k, k1, k2, k3⟩
  · have hall : ∀ i, i < N → p i = true := fun i hi => by
      have := hall i hi
      rw [Bool.not_eq_false'] at this
      exact this
    rw [if_pos (allB_iff.mpr hall), ← h2]
    exact pu_up G N (fun i hi => by rw [h1 i hi, if_pos (hall i hi)])
  · rw [Bool.not_eq_true'] at k2
    rw [allB_no k1 k2, if_neg Bool.false_ne_true]
    rw [pu_up G k (fun i hi => by
      have := k3 i hi
      rw [Bool.not_eq_false'] at this
      rw [h1 i (by omega), if_pos this]), h1 k k1, k2, if_neg Bool.false_ne_true]
theorem loop_allR {S : Type} {G : Nat → S → Option mR} {F : S → Prop} {p : Nat → Bool} {N : Nat} {Q : Bool → Option mR → Prop} (h1 : ∀ i M, i < N → F M → (p i = true ∧ ∃ M', F M' ∧ G i M = G (i + 1) M') ∨ (p i = false ∧ Q false (G i M))) (h2 : ∀ M, F M → Q true (G N M)) : ∀ M, F M → Q (allB p N) (G 0 M) := by
  intro M hM
  refine pu_exit (S := S) (G := G) (I := fun i M => F M ∧ ∀ j, j < i → p j = true) (Q := Q (allB p N)) N (fun i M hi hI => ?_) (fun M hI => ?_) 0 M (Nat.zero_le _) ⟨hM, fun j hj => by omega⟩
  · rcases h1 i M hi hI.1 with ⟨a, M', b, c⟩ | ⟨a, b⟩
    · refine Or.inr ⟨M', ⟨b, fun j hj => ?_⟩, c⟩
      by_cases e : j = i
      · rw [e]; exact a
      · exact hI.2 j (by omega)
    · rw [allB_no hi a]
      exact Or.inl b
  · rw [allB_iff.mpr hI.2]
    exact h2 M hI.1
theorem loop_anyR {S : Type} {G : Nat → S → Option mR} {F : S → Prop} {p : Nat → Bool} {N : Nat} {Q : Bool → Option mR → Prop} (h1 : ∀ i M, i < N → F M → (p i = false ∧ ∃ M', F M' ∧ G i M = G (i + 1) M') ∨ (p i = true ∧ Q true (G i M))) (h2 : ∀ M, F M → Q false (G N M)) : ∀ M, F M → Q (anyB p N) (G 0 M) := by
  intro M hM
  refine pu_exit (S := S) (G := G) (I := fun i M => F M ∧ ∀ j, j < i → p j = false) (Q := Q (anyB p N)) N (fun i M hi hI => ?_) (fun M hI => ?_) 0 M (Nat.zero_le _) ⟨hM, fun j hj => by omega⟩
  · rcases h1 i M hi hI.1 with ⟨a, M', b, c⟩ | ⟨a, b⟩
    · refine Or.inr ⟨M', ⟨b, fun j hj => ?_⟩, c⟩
      by_cases e : j = i
      · rw [e]; exact a
      · exact hI.2 j (by omega)
    · rw [anyB_iff.mpr ⟨i, hi, a⟩]
      exact Or.inl b
  · rw [anyB_no.mpr hI.2]
    exact h2 M hI.1
theorem allB_ext {p : Nat → Bool} {n m : Nat} (hnm : n ≤ m) (h : ∀ i, n ≤ i → i < m → p i = true) : allB p m = allB p n := by
  rw [Bool.eq_iff_iff, allB_iff, allB_iff]
  constructor
  · intro q i hi
    exact q i (by omega)
  · intro q i hi
    by_cases e : i < n
    · exact q i e
    · exact h i (by omega) hi
theorem allB_congr {p q : Nat → Bool} {n : Nat} (h : ∀ i, i < n → p i = q i) : allB p n = allB q n := by
  rw [Bool.eq_iff_iff, allB_iff, allB_iff]
  constructor
  · intro z i hi
    rw [← h i hi]; exact z i hi
  · intro z i hi
    rw [h i hi]; exact z i hi
def netsP (W : mM) (ps ins dea p : Nat) : Nat := if ps.testBit p = true then netA W p ins dea else 0
theorem netsP_told {W : mM} (h : WF W) {ps ins dea p : Nat} (hi : ins < 2 ^ wG W) : sbs (netsP W ps ins dea p) (told W) := by
  unfold netsP
  split
  · exact netA_told h hi
  · intro i q
    rw [Nat.zero_testBit] at q
    cases q
noncomputable def seenP (W : mM) (ps ins dea f : Nat) : Bool := anyB (fun p => isMoreB W (netsP W ps ins dea p) (wFr W f)) 4
noncomputable def partP (W : mM) (ps ins dea f o : Nat) : Bool := anyB (fun p => isPartB W (netsP W ps ins dea p) (wFr W f) (wFr W o)) 4
noncomputable def okO (W : mM) (ps ins dea fb f o : Nat) : Bool := !fb.testBit o || (decide (o = f) || partP W ps ins dea f o)
noncomputable def okF (W : mM) (ps ins dea fb f : Nat) : Bool := !fb.testBit f || (seenP W ps ins dea f && allB (okO W ps ins dea fb f) 8)
noncomputable def allT (W : mM) (ps ins dea fb : Nat) : Bool := allB (okF W ps ins dea fb) 8
def fbW (W : mM) (x : Int) : Nat := bset (fun f => decide (((wFr W f : Nat) : Int) ≠ x)) (wF W)
theorem fbW_tb (W : mM) (x : Int) (f : Nat) : (fbW W x).testBit f = true ↔ f < wF W ∧ ((wFr W f : Nat) : Int) ≠ x := by
  unfold fbW
  rw [bset_tb, Bool.and_eq_true, decide_eq_true_iff, decide_eq_true_iff]
theorem flt_all {W : mM} (h : WF W) : fltOf W 16383 = fbW W (-1) := by
  unfold fltOf fbW
  refine bset_congr (fun f hf => ?_)
  have h14 := (wf_frt h f hf).1
  rw [show (16383 : Nat) = 2 ^ 14 - 1 from rfl, Nat.testBit_two_pow_sub_one, decide_eq_true h14, decide_eq_true (by omega)]
theorem flt_one {W : mM} (g : Nat) : bdiff (fbW W (-1)) (fltOf W (2 ^ (8 + g))) = fbW W ((8 + g : Nat) : Int) := by
  apply Nat.eq_of_testBit_eq
  intro f
  unfold fbW fltOf
  rw [bdiff_testBit, bset_tb, bset_tb, bset_tb, tb_pow]
  by_cases hf : f < wF W
  · rw [decide_eq_true hf, Bool.true_and, Bool.true_and, Bool.true_and, decide_eq_true (show ((wFr W f : Nat) : Int) ≠ -1 by omega), Bool.true_and]
    by_cases e : 8 + g = wFr W f
    · rw [decide_eq_true e, decide_eq_false (by omega)]; rfl
    · rw [decide_eq_false e, decide_eq_true (by omega)]; rfl
  · rw [decide_eq_false hf]; rfl
theorem fbW_lt {W : mM} (h : WF W) (x : Int) : fbW W x < 256 := Nat.lt_of_lt_of_le (bset_lt _ _) (Nat.le_trans (Nat.pow_le_pow_right (by omega) (wf_F h).2) (Nat.le_refl 256))
section CT
variable {w : Nat} {W M : mM}
theorem c_setNets (hc : CW w W M) (h : WF W) {ps ins dea : Nat} (hps : ps < 2147483648) (hi : ins < 64) (hd : dea < 64) : ∃ M', gC 63 [rv 6 21, rv 9 w, iv (ps : Int), iv (ins : Int), iv (dea : Int)] M = some (none, M') ∧ (∀ o, o ≠ 22 → M' o = M o) ∧ ∀ p, p < 4 → M' 22 p = ((netsP W ps ins dea p : Nat) : Int) := by
  have hw := hc.1
  rw [e_Telling_setNets]
  have key := pu_rel (S := mM) (G := fun i M' => gA 63 3 [rv 6 21, rv 9 w, iv (ps : Int), iv (ins : Int), iv (dea : Int), iv (i : Int)] [] M') (I := fun i M' => (∀ o, o ≠ 22 → M' o = M o) ∧ ∀ p, p < i → M' 22 p = ((netsP W ps ins dea p : Nat) : Int)) 4 (fun i M' hi' hI => by
    obtain ⟨i1, i2⟩ := hI
    try dsimp only
    have hcw : CW w W M' := CW_k hc (fun o ho => i1 o (by omega))
    have go : ((∀ o, o ≠ 22 → st M' 22 i ((netsP W ps ins dea i : Nat) : Int) o = M o) ∧ ∀ p, p < i + 1 → st M' 22 i ((netsP W ps ins dea i : Nat) : Int) 22 p = ((netsP W ps ins dea p : Nat) : Int)) := by
      refine ⟨fun o ho => by rw [st_ob ho]; exact i1 o ho, fun p hp => ?_⟩
      rw [st_if]
      by_cases e : p = i
      · rw [if_pos e, e]
      · rw [if_neg e]; exact i2 p (by omega)
    refine ⟨_, go, ?_⟩
    rw [s_Telling_setNets_3, if_neg (by omega), c_hasBit hps, bI_some, hB_nat, ite01_0, pu_inc (by omega)]
    unfold netsP
    by_cases q : ps.testBit i = true
    · rw [if_pos q, if_pos q, c_netAt hcw h hi' hi hd, bI_some, if_pos (by omega), pu_nn]
    · rw [if_neg q, if_neg q, if_pos (by omega), pu_nn]
      rfl) 0 M (Nat.zero_le _) ⟨fun _ _ => rfl, fun p hp => by omega⟩
  obtain ⟨M', ⟨k1, k2⟩, k3⟩ := key
  try dsimp only at k3
  rw [show ((0 : Nat) : Int) = 0 from rfl] at k3
  rw [k3, s_Telling_setNets_3, if_pos (by omega)]
  exact ⟨M', rfl, k1, k2⟩
theorem c_isSeen (h : WF W) (hP : PR W M) {ps ins dea f : Nat} (hi : ins < 2 ^ wG W) (hn : ∀ p, p < 4 → M 22 p = ((netsP W ps ins dea p : Nat) : Int)) : gC 65 [rv 6 21, rv 3 10, iv ((wFr W f : Nat) : Int)] M = some (iv (if seenP W ps ins dea f = true then 1 else 0), M) := by
  rw [e_Telling_isSeen]
  have key := loop_any (G := fun i : Nat => gA 65 2 [rv 6 21, rv 3 10, iv ((wFr W f : Nat) : Int), iv (i : Int)] [] M) (p := fun p => isMoreB W (netsP W ps ins dea p) (wFr W f)) (N := 4) (A := some (iv 1, M)) (B := some (iv 0, M)) (fun i hi' => by
    try dsimp only
    rw [s_Telling_isSeen_2, if_neg (by omega), if_pos (by omega), pu_nn, hn i hi', c_isMore hP (netsP_told h hi), bI_some, ite01_0, pu_inc (by omega)]) (by
    try dsimp only
    rw [s_Telling_isSeen_2, if_pos (by omega)])
  refine Eq.trans key ?_
  unfold seenP
  split <;> rfl
theorem c_isPartedP (h : WF W) (hP : PR W M) {ps ins dea f o : Nat} (hi : ins < 2 ^ wG W) (hn : ∀ p, p < 4 → M 22 p = ((netsP W ps ins dea p : Nat) : Int)) : gC 66 [rv 6 21, rv 3 10, iv ((wFr W f : Nat) : Int), iv ((wFr W o : Nat) : Int)] M = some (iv (if partP W ps ins dea f o = true then 1 else 0), M) := by
  rw [e_Telling_isParted]
  have key := loop_any (G := fun i : Nat => gA 66 3 [rv 6 21, rv 3 10, iv ((wFr W f : Nat) : Int), iv ((wFr W o : Nat) : Int), iv (i : Int)] [] M) (p := fun p => isPartB W (netsP W ps ins dea p) (wFr W f) (wFr W o)) (N := 4) (A := some (iv 1, M)) (B := some (iv 0, M)) (fun i hi' => by
    try dsimp only
    rw [s_Telling_isParted_3, if_neg (by omega), if_pos (by omega), pu_nn, hn i hi', c_isParted hP (netsP_told h hi), bI_some, ite01_0, pu_inc (by omega)]) (by
    try dsimp only
    rw [s_Telling_isParted_3, if_pos (by omega)])
  refine Eq.trans key ?_
  unfold partP
  split <;> rfl
theorem c_isAllTold (hc : CW w W M) (h : WF W) (hP : PR W M) {ps ins dea : Nat} {x : Int} (hi : ins < 2 ^ wG W) (hn : ∀ p, p < 4 → M 22 p = ((netsP W ps ins dea p : Nat) : Int)) : gC 64 [rv 6 21, rv 9 w, rv 3 10, iv ((fbW W x : Nat) : Int)] M = some (iv (if allT W ps ins dea (fbW W x) = true then 1 else 0), M) := by
  have hfb := fbW_lt h x
  have hF := (wf_F h).2
  rw [e_Telling_isAllTold]
  have key := loop_all (G := fun i : Nat => gA 64 3 [rv 6 21, rv 9 w, rv 3 10, iv ((fbW W x : Nat) : Int), iv (i : Int), none, none] [] M) (p := okF W ps ins dea (fbW W x)) (N := 8) (A := some (iv 0, M)) (B := some (iv 1, M)) (fun i hi' => by
    try dsimp only
    rw [s_Telling_isAllTold_3, if_neg (by omega), c_hasBit (by omega), bI_some, hB_nat, ite01_0]
    unfold okF
    by_cases q : (fbW W x).testBit i = true
    · have q2 := (fbW_tb W x i).mp q
      have inner := loop_all (G := fun j : Nat => gA 64 38 [rv 6 21, rv 9 w, rv 3 10, iv ((fbW W x : Nat) : Int), iv (i : Int), iv (j : Int), none] [] M) (p := okO W ps ins dea (fbW W x) i) (N := 8) (A := some (iv 0, M)) (B := gA 64 3 [rv 6 21, rv 9 w, rv 3 10, iv ((fbW W x : Nat) : Int), iv ((i + 1 : Nat) : Int), none, none] [] M) (fun j hj => by
        try dsimp only
        rw [s_Telling_isAllTold_38, if_neg (by omega), c_hasBit (by omega), bI_some, hB_nat, ite01_0, if_pos q, c_hasBit (by omega), bI_some, hB_nat, ite01_0, pu_inc (by omega)]
        unfold okO
        by_cases z : (fbW W x).testBit j = true
        · have z2 := (fbW_tb W x j).mp z
          rw [if_pos z, z]
          by_cases e : i = j
          · rw [if_pos (by omega), decide_eq_true e.symm]
            rfl
          · rw [if_neg (by omega), decide_eq_false (fun y => e y.symm), c_rowOf hc h, bI_some, if_pos (inR_iff.mpr (by omega)), pu_nn, c_rowOf hc h, bI_some, if_pos (inR_iff.mpr (by omega)), pu_nn, c_isPartedP h hP hi hn, bI_some, ite01_n]
            cases partP W ps ins dea i j <;> rfl
        · rw [if_neg z, tb_not.mp z]
          rfl) (by
        try dsimp only
        rw [s_Telling_isAllTold_38, if_pos (by omega), pu_inc (by omega)])
      try dsimp only at inner
      rw [show ((0 : Nat) : Int) = 0 from rfl] at inner
      rw [if_pos q, c_rowOf hc h, bI_some, if_pos (inR_iff.mpr (by omega)), pu_nn, c_isSeen h hP hi hn, bI_some, ite01_n, inner, q]
      cases seenP W ps ins dea i <;> rfl
    · have inner := pu_up (fun j : Nat => gA 64 38 [rv 6 21, rv 9 w, rv 3 10, iv ((fbW W x : Nat) : Int), iv (i : Int), iv (j : Int), none] [] M) 8 (fun j hj => by
        try dsimp only
        rw [s_Telling_isAllTold_38, if_neg (by omega), c_hasBit (by omega), bI_some, hB_nat, ite01_0, if_neg q, pu_inc (by omega)])
      try dsimp only at inner
      rw [show ((0 : Nat) : Int) = 0 from rfl] at inner
      rw [if_neg q, inner, s_Telling_isAllTold_38, if_pos (by omega), pu_inc (by omega), tb_not.mp q]
      rfl) (by
    try dsimp only
    rw [s_Telling_isAllTold_3, if_pos (by omega)])
  refine Eq.trans key ?_
  unfold allT
  split <;> rfl
theorem c_isToldBy (hc : CW w W M) (h : WF W) (hP : PR W M) {ps : Nat} (hps : ps < 16) : ∃ M', gC 62 [rv 6 21, rv 9 w, rv 3 10, iv (ps : Int)] M = some (iv (if allT W ps (wI W) (wD W) (fbW W (-1)) = true then 1 else 0), M') ∧ ∀ o, o ≠ 22 → M' o = M o := by
  obtain ⟨M1, a1, a2, a3⟩ := c_setNets hc h (ps := ps) (ins := wI W) (dea := wD W) (by omega) (wf_I64 h) (wf_D64 h)
  have hw := hc.1
  have hcw : CW w W M1 := CW_k hc (fun o ho => a2 o (by omega))
  have hf := c_faultsOf hcw h (x := 16383) (by omega)
  rw [show ((16383 : Nat) : Int) = 16383 from rfl, flt_all h] at hf
  rw [e_Telling_isToldBy, CW_0 hc, (wf_I h).1, (wf_D h).1, a1, bV_none, hf, bI_some, c_isAllTold hcw h (PR_s hP (a2 11 (by omega))) (wf_I h).2 a3, bI_some, if_pos if01]
  exact ⟨M1, rfl, a2⟩
end CT
section RT
variable {lv : Nat} {W M : mM}
theorem r_isAllTold (hr : RW lv W M) (h : WF W) {ps ins dea : Nat} {x : Int} (hps : ps < 16) (hi : ins < 2 ^ wG W) (hd : dea < 64) : ∃ M', gC 239 [rv 11 100, iv (ps : Int), iv (ins : Int), iv (dea : Int), iv x] M = some (iv (if allT W ps ins dea (fbW W x) = true then 1 else 0), M') ∧ Rf M M' := by
  have hF := (wf_F h).2
  have hlv := rw_lv hr
  have h64 := wf_G64 h
  have hi64 : ins < 64 := by omega
  rw [e_GaugeNetModel_isAllTold]
  have e8 : allT W ps ins dea (fbW W x) = allB (okF W ps ins dea (fbW W x)) (wF W) := by
    unfold allT
    refine allB_ext hF (fun i h1 _ => ?_)
    unfold okF
    have : (fbW W x).testBit i = false := by
      rw [← tb_not, fbW_tb]
      omega
    rw [this]
    rfl
  rw [e8]
  refine loop_allR (S := mM) (G := fun i M' => gA 239 3 [rv 11 100, iv (ps : Int), iv (ins : Int), iv (dea : Int), iv x, iv (i : Int), none, none, none, none] [] M') (F := fun M' => Rf M M') (p := okF W ps ins dea (fbW W x)) (N := wF W) (Q := fun b o => ∃ M', o = some (iv (if b = true then 1 else 0), M') ∧ Rf M M') (fun f M1 hf hM1 => ?_) (fun M1 hM1 => ?_) M (Rf_refl M)
  · try dsimp only
    have hr1 := RW_f hr hM1
    rw [s_GaugeNetModel_isAllTold_3, if_pos (rw_in hr1), rw_live hr1, pu_nn, rw_F hr1, (wf_F h).1, if_neg (by omega), r_faultRow hr1 h hf, bI_some]
    by_cases e : ((wFr W f : Nat) : Int) = x
    · refine Or.inl ⟨?_, M1, hM1, ?_⟩
      · unfold okF
        have : (fbW W x).testBit f = false := by
          rw [← tb_not, fbW_tb]
          exact fun z => z.2 e
        rw [this]
        rfl
      · rw [if_neg (fun z => z e), pu_inc (by omega)]
    · have hfb : (fbW W x).testBit f = true := (fbW_tb W x f).mpr ⟨hf, e⟩
      rw [if_pos e]
      -- seen
      have key := pu_rel (S := mM) (G := fun p M' => gA 239 37 [rv 11 100, iv (ps : Int), iv (ins : Int), iv (dea : Int), iv x, iv (f : Int), iv (if anyB (fun p => isMoreB W (netsP W ps ins dea p) (wFr W f)) p = true then 1 else 0), iv (p : Int), none, none] [] M') (I := fun _ M' => Rf M M') 4 (fun p M2 hp hM2 => by
        have hr2 := RW_f hr hM2
        try dsimp only
        rw [s_GaugeNetModel_isAllTold_37, if_neg (by omega), ite01_n, pu_inc (by omega), anyB]
        cases ha : anyB (fun p => isMoreB W (netsP W ps ins dea p) (wFr W f)) p with
        | true =>
          rw [if_pos rfl, Bool.true_or, if_pos rfl]
          exact ⟨M2, hM2, rfl⟩
        | false =>
          rw [if_neg Bool.false_ne_true, Bool.false_or]
          by_cases q : ps.testBit p = true
          · obtain ⟨M3, c1, c2⟩ := r_isSeenIn hr2 h (s := netA W p ins dea) (f := f) (netA_told h hi) hf
            have en : netsP W ps ins dea p = netA W p ins dea := by unfold netsP; rw [if_pos q]
            rw [if_neg (fun z => z ((and1_eq1 (by omega) (by omega)).mpr q)), r_netOf hr2 h hp hi64 hd, bI_some, c1, bI_some, ite01_0, en]
            refine ⟨M3, Rf_trans hM2 c2, ?_⟩
            cases isMoreB W (netA W p ins dea) (wFr W f) <;> rfl
          · have en : netsP W ps ins dea p = 0 := by unfold netsP; rw [if_neg q]
            rw [if_pos (fun z => q ((and1_eq1 (by omega) (by omega)).mp z)), en]
            refine ⟨M2, hM2, ?_⟩
            unfold isMoreB
            rw [Nat.zero_testBit]
            rfl) 0 M1 (Nat.zero_le _) hM1
      obtain ⟨M2, hM2, k2⟩ := key
      try dsimp only at k2
      rw [show (if anyB (fun p => isMoreB W (netsP W ps ins dea p) (wFr W f)) 0 = true then (1 : Int) else 0) = 0 from rfl, show ((0 : Nat) : Int) = 0 from rfl] at k2
      rw [k2, s_GaugeNetModel_isAllTold_37, if_pos (by omega), ite01_n]
      show (okF W ps ins dea (fbW W x) f = true ∧ _) ∨ (okF W ps ins dea (fbW W x) f = false ∧ _)
      unfold okF
      rw [hfb]
      have es : seenP W ps ins dea f = anyB (fun p => isMoreB W (netsP W ps ins dea p) (wFr W f)) 4 := rfl
      rw [← es]
      cases hseen : seenP W ps ins dea f with
      | false =>
        rw [if_neg Bool.false_ne_true]
        exact Or.inr ⟨rfl, M2, rfl, hM2⟩
      | true =>
        rw [if_pos rfl, Bool.not_true, Bool.false_or, Bool.true_and]
        have e8o : allB (okO W ps ins dea (fbW W x) f) 8 = allB (okO W ps ins dea (fbW W x) f) (wF W) := by
          refine allB_ext hF (fun i h1 _ => ?_)
          unfold okO
          have : (fbW W x).testBit i = false := by
            rw [← tb_not, fbW_tb]
            omega
          rw [this]
          rfl
        rw [e8o]
        refine loop_allR (S := mM) (G := fun o M' => gA 239 98 [rv 11 100, iv (ps : Int), iv (ins : Int), iv (dea : Int), iv x, iv (f : Int), none, iv (o : Int), none, none] [] M') (F := fun M' => Rf M M') (p := okO W ps ins dea (fbW W x) f) (N := wF W) (Q := fun b o => (b = true ∧ ∃ M', Rf M M' ∧ o = gA 239 3 [rv 11 100, iv (ps : Int), iv (ins : Int), iv (dea : Int), iv x, iv ((f + 1 : Nat) : Int), none, none, none, none] [] M') ∨ (b = false ∧ ∃ M', o = some (iv (if false = true then 1 else 0), M') ∧ Rf M M')) (fun o M3 ho hM3 => ?_) (fun M3 hM3 => ?_) M2 hM2
        · have hr3 := RW_f hr hM3
          try dsimp only
          rw [s_GaugeNetModel_isAllTold_98, if_pos (rw_in hr3), rw_live hr3, pu_nn, rw_F hr3, (wf_F h).1, if_neg (by omega)]
          by_cases eo : o = f
          · refine Or.inl ⟨?_, M3, hM3, ?_⟩
            · unfold okO
              rw [decide_eq_true eo]
              simp
            · rw [if_pos (by omega), pu_inc (by omega)]
          · rw [if_neg (by omega), r_faultRow hr3 h ho, bI_some]
            by_cases ex : ((wFr W o : Nat) : Int) = x
            · refine Or.inl ⟨?_, M3, hM3, ?_⟩
              · unfold okO
                have : (fbW W x).testBit o = false := by
                  rw [← tb_not, fbW_tb]
                  exact fun z => z.2 ex
                rw [this]
                rfl
              · rw [if_neg (fun z => z ex), pu_inc (by omega)]
            · have hfo : (fbW W x).testBit o = true := (fbW_tb W x o).mpr ⟨ho, ex⟩
              rw [if_pos ex]
              have key := pu_rel (S := mM) (G := fun p M' => gA 239 139 [rv 11 100, iv (ps : Int), iv (ins : Int), iv (dea : Int), iv x, iv (f : Int), none, iv (o : Int), iv (if anyB (fun p => isPartB W (netsP W ps ins dea p) (wFr W f) (wFr W o)) p = true then 1 else 0), iv (p : Int)] [] M') (I := fun _ M' => Rf M M') 4 (fun p M4 hp hM4 => by
                have hr4 := RW_f hr hM4
                try dsimp only
                rw [s_GaugeNetModel_isAllTold_139, if_neg (by omega), ite01_n, pu_inc (by omega), anyB]
                cases ha : anyB (fun p => isPartB W (netsP W ps ins dea p) (wFr W f) (wFr W o)) p with
                | true =>
                  rw [if_pos rfl, Bool.true_or, if_pos rfl]
                  exact ⟨M4, hM4, rfl⟩
                | false =>
                  rw [if_neg Bool.false_ne_true, Bool.false_or]
                  by_cases q : ps.testBit p = true
                  · obtain ⟨M5, c1, c2⟩ := r_isPartedIn hr4 h (s := netA W p ins dea) (f := f) (o := o) (netA_told h hi) hf ho
                    have en : netsP W ps ins dea p = netA W p ins dea := by unfold netsP; rw [if_pos q]
                    rw [if_neg (fun z => z ((and1_eq1 (by omega) (by omega)).mpr q)), r_netOf hr4 h hp hi64 hd, bI_some, c1, bI_some, ite01_0, en]
                    refine ⟨M5, Rf_trans hM4 c2, ?_⟩
                    cases isPartB W (netA W p ins dea) (wFr W f) (wFr W o) <;> rfl
                  · have en : netsP W ps ins dea p = 0 := by unfold netsP; rw [if_neg q]
                    rw [if_pos (fun z => q ((and1_eq1 (by omega) (by omega)).mp z)), en]
                    refine ⟨M4, hM4, ?_⟩
                    rw [isPart_not (Nat.zero_testBit _)]
                    rfl) 0 M3 (Nat.zero_le _) hM3
              obtain ⟨M4, hM4, k4⟩ := key
              try dsimp only at k4
              rw [show (if anyB (fun p => isPartB W (netsP W ps ins dea p) (wFr W f) (wFr W o)) 0 = true then (1 : Int) else 0) = 0 from rfl, show ((0 : Nat) : Int) = 0 from rfl] at k4
              rw [k4, s_GaugeNetModel_isAllTold_139, if_pos (by omega), ite01_n]
              have ep : partP W ps ins dea f o = anyB (fun p => isPartB W (netsP W ps ins dea p) (wFr W f) (wFr W o)) 4 := rfl
              rw [← ep]
              have eok : okO W ps ins dea (fbW W x) f o = partP W ps ins dea f o := by
                unfold okO
                rw [hfo, decide_eq_false eo]
                rfl
              rw [eok]
              cases hpart : partP W ps ins dea f o with
              | true =>
                rw [if_pos rfl, pu_inc (by omega)]
                exact Or.inl ⟨rfl, M4, hM4, rfl⟩
              | false =>
                rw [if_neg Bool.false_ne_true]
                exact Or.inr ⟨rfl, Or.inr ⟨rfl, M4, rfl, hM4⟩⟩
        · have hr3 := RW_f hr hM3
          try dsimp only
          rw [s_GaugeNetModel_isAllTold_98, if_pos (rw_in hr3), rw_live hr3, pu_nn, rw_F hr3, (wf_F h).1, if_pos (by omega), pu_inc (by omega)]
          exact Or.inl ⟨rfl, M3, hM3, rfl⟩
  · try dsimp only
    have hr1 := RW_f hr hM1
    rw [s_GaugeNetModel_isAllTold_3, if_pos (rw_in hr1), rw_live hr1, pu_nn, rw_F hr1, (wf_F h).1, if_pos (by omega)]
    exact ⟨M1, rfl, hM1⟩
end RT
noncomputable def toldA (W : mM) (x : Int) : Int := if 1 ≤ x ∧ x ≤ 15 then (if allT W x.toNat (wI W) (wD W) (fbW W (-1)) = true then 1 else 0) else -1
theorem p_told (x : Int) : PureI Rel 147 238 [iv x] := by
  refine pure_qI (fun W => toldA W x) (fun W tl tp pl M h hK hc => ?_) (fun W tl tp pl M h hr => ?_)
  · rw [e_GaugeNet_told]
    unfold toldA
    by_cases q : 1 ≤ x ∧ x ≤ 15
    · obtain ⟨k, rfl⟩ : ∃ k : Nat, x = (k : Int) := ⟨x.toNat, by omega⟩
      obtain ⟨M1, a1, a2⟩ := c_makeReady hc h
      obtain ⟨w, w2, hb, h5, hP, hT⟩ := id a2
      obtain ⟨M2, b1, b2⟩ := c_isToldBy hb.2.2.2.1 h hP (ps := k) (by omega)
      rw [if_neg (by omega), if_pos q.2, a1, bV_none, CB_w hb, b1, bI_some, ite01_0, if_pos q, pu_nn]
      refine ⟨M2, ?_, CI_s (CY_CI a2) (fun o ho => b2 o (by omega))⟩
      cases allT W k (wI W) (wD W) (fbW W (-1)) <;> rfl
    · rw [if_neg q]
      refine ⟨M, ?_, hc⟩
      by_cases z : x < 1
      · rw [if_pos z]
      · rw [if_neg z, if_neg (by omega)]
  · obtain ⟨lv, hb, _⟩ := id hr
    rw [e_GaugeNetModel_told, r_inRange, bI_some]
    unfold toldA
    by_cases q : 1 ≤ x ∧ x ≤ 15
    · obtain ⟨k, rfl⟩ : ∃ k : Nat, x = (k : Int) := ⟨x.toNat, by omega⟩
      obtain ⟨M1, a1, a2⟩ := r_isAllTold hb.1 h (ps := k) (x := -1) (by omega) (wf_I h).2 (wf_D64 h)
      rw [if_pos q, if_pos (by decide), rw_I hb.1, rw_D hb.1, (wf_I h).1, (wf_D h).1, a1, bI_some, ite01_0, if_pos q, pu_nn]
      refine ⟨M1, ?_, RI_s hr (Rs_of a2)⟩
      cases allT W k (wI W) (wD W) (fbW W (-1)) <;> rfl
    · rw [if_neg q, if_neg (by decide), if_neg q]
      exact ⟨M, rfl, hr⟩
