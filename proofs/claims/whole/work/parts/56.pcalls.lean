/-! pairs, row, unknown, seen, parted -/
def anyB (p : Nat → Bool) : Nat → Bool
  | 0 => false
  | n + 1 => anyB p n || p n
theorem anyB_iff {p : Nat → Bool} {n : Nat} : anyB p n = true ↔ ∃ i, i < n ∧ p i = true := by
  induction n with
  | zero => exact ⟨fun h => (by cases h), fun ⟨i, h, _⟩ => (by omega)⟩
  | succ n ih =>
    rw [anyB, Bool.or_eq_true, ih]
    constructor
    · rintro (⟨i, h1, h2⟩ | h)
      · exact ⟨i, by omega, h2⟩
      · exact ⟨n, by omega, h⟩
    · rintro ⟨i, h1, h2⟩
      by_cases e : i = n
      · rw [e] at h2; exact Or.inr h2
      · exact Or.inl ⟨i, by omega, h2⟩
def allB (p : Nat → Bool) : Nat → Bool
  | 0 => true
  | n + 1 => allB p n && p n
theorem allB_iff {p : Nat → Bool} {n : Nat} : allB p n = true ↔ ∀ i, i < n → p i = true := by
  induction n with
  | zero => exact ⟨fun _ i hi => (by omega), fun _ => rfl⟩
  | succ n ih =>
    rw [allB, Bool.and_eq_true, ih]
    constructor
    · rintro ⟨h1, h2⟩ i hi
      by_cases e : i = n
      · rw [e]; exact h2
      · exact h1 i (by omega)
    · intro h
      exact ⟨fun i hi => h i (by omega), h n (by omega)⟩
theorem anyB_no {p : Nat → Bool} {n : Nat} : anyB p n = false ↔ ∀ i, i < n → p i = false := by
  rw [← Bool.not_eq_true, anyB_iff]
  constructor
  · intro h i hi
    rw [← Bool.not_eq_true]
    exact fun z => h ⟨i, hi, z⟩
  · rintro h ⟨i, hi, z⟩
    rw [h i hi] at z
    cases z
theorem CB_w {w w2 : Nat} {W : mM} {tl : Nat} {tp : Nat → Int} {pl : Int} {M : mM} (hb : CB w w2 W tl tp pl M) : (M 0 4).toNat = w := by
  rw [hb.2.1, pu_nn]
theorem q_pairsC {W : mM} {tl : Nat} {tp : Nat → Int} {pl : Int} {M : mM} (h : WF W) (hc : CI W tl tp pl M) : ∃ M', gC 137 [rv 10 0] M = some (iv ((mu (wH W) 0 (net W) : Nat) : Int), M') ∧ CI W tl tp pl M' := by
  obtain ⟨M1, a1, a2⟩ := c_makeReady hc h
  obtain ⟨w, w2, hb, h5, hP, hT⟩ := id a2
  rw [e_GaugeNet_pairs, a1, bV_none, CB_w hb, c_netNow hb.2.2.2.1 h, bI_some, c_of (net_lt h), bI_some, hP _ (net_told h)]
  exact ⟨M1, rfl, CY_CI a2⟩
theorem p_pairs : PureI Rel 137 214 [] := by
  refine pure_qI (fun W => ((mu (wH W) 0 (net W) : Nat) : Int)) (fun W tl tp pl M h _ hc => q_pairsC h hc) (fun W tl tp pl M h hr => ?_)
  obtain ⟨lv, hb, _⟩ := id hr
  obtain ⟨M', a1, a2, _⟩ := r_pairsOf hb.1 h (set := net W) (x := -1) (net_told h)
  rw [e_GaugeNetModel_pairs, r_netNow hb.1 h, bI_some, a1, bI_some]
  exact ⟨M', rfl, RI_s hr (Rs_of a2)⟩
/-- what a search writes -/
def Rf (M M' : mM) : Prop := ∀ o, (o < 123 ∨ 126 < o) → M' o = M o
theorem Rf_refl (M : mM) : Rf M M := fun _ _ => rfl
theorem Rf_trans {A B C : mM} (h : Rf A B) (h' : Rf B C) : Rf A C := fun o ho => (h' o ho).trans (h o ho)
theorem RW_f {lv : Nat} {W M M' : mM} (h : RW lv W M) (k : Rf M M') : RW lv W M' := RW_k h (Rs_Rk (Rs_of k))
section RM
variable {lv : Nat} {W M : mM}
theorem r_isMoreIn (hr : RW lv W M) (h : WF W) {s r : Nat} (hs : sbs s (told W)) (hr14 : r < 14) : ∃ M', gC 220 [rv 11 100, iv (r : Int), iv (s : Int)] M = some (iv (if isMoreB W s r = true then 1 else 0), M') ∧ Rf M M' := by
  have hs16 := told16 hs
  rw [e_GaugeNetModel_isMoreIn]
  unfold isMoreB
  by_cases q : s.testBit r = true
  · obtain ⟨M1, a1, a2, _⟩ := r_pairsOf hr h (set := bdiff s (2 ^ r)) (x := -1) (sbs_trans (sbs_bdiff _ _) hs)
    obtain ⟨M2, b1, b2, _⟩ := r_pairsOf (RW_f hr a2) h (set := s) (x := -1) hs
    rw [if_neg (fun z => z ((and1_eq1 (by omega) (by omega)).mpr q)), andnot1 (by omega) (by omega), a1, bI_some, b1, bI_some, woB_neg, q, Bool.true_and]
    by_cases e : mu (wH W) 0 (bdiff s (2 ^ r)) = mu (wH W) 0 s
    · rw [if_neg (by omega), decide_eq_true e, if_pos rfl]
      exact ⟨M2, rfl, Rf_trans a2 b2⟩
    · rw [if_pos (by omega), decide_eq_false e, if_neg Bool.false_ne_true]
      exact ⟨M2, rfl, Rf_trans a2 b2⟩
  · rw [if_pos (fun z => q ((and1_eq1 (by omega) (by omega)).mp z)), tb_not.mp q, Bool.false_and, if_neg Bool.false_ne_true]
    exact ⟨M, rfl, Rf_refl M⟩
theorem r_isSeenIn (hr : RW lv W M) (h : WF W) {s f : Nat} (hs : sbs s (told W)) (hf : f < wF W) : ∃ M', gC 235 [rv 11 100, iv (f : Int), iv (s : Int)] M = some (iv (if isMoreB W s (wFr W f) = true then 1 else 0), M') ∧ Rf M M' := by
  obtain ⟨M1, a1, a2⟩ := r_isMoreIn hr h (s := s) (r := wFr W f) hs ((wf_frt h f hf).1)
  rw [e_GaugeNetModel_isSeenIn, r_faultRow hr h hf, bI_some, a1, bI_some, if_pos if01]
  exact ⟨M1, rfl, a2⟩
theorem r_isPartedIn (hr : RW lv W M) (h : WF W) {s f o : Nat} (hs : sbs s (told W)) (hf : f < wF W) (ho : o < wF W) : ∃ M', gC 237 [rv 11 100, iv (f : Int), iv (o : Int), iv (s : Int)] M = some (iv (if isPartB W s (wFr W f) (wFr W o) = true then 1 else 0), M') ∧ Rf M M' := by
  have hs16 := told16 hs
  have h14 := (wf_frt h o ho).1
  obtain ⟨M1, a1, a2⟩ := r_isMoreIn hr h (s := bdiff s (2 ^ wFr W o)) (r := wFr W f) (sbs_trans (sbs_bdiff _ _) hs) ((wf_frt h f hf).1)
  rw [e_GaugeNetModel_isPartedIn, r_faultRow hr h hf, bI_some, r_faultRow hr h ho, bI_some, andnot1 (by omega) (by omega), a1, bI_some, if_pos if01]
  exact ⟨M1, rfl, a2⟩
end RM
noncomputable def rowA (W : mM) (x : Int) : Int := if hB (net W) x = true then (if isMoreB W (net W) x.toNat = true then 2 else if (wH W x.toNat &&& bset (leftB W (net W)) (wU W)) = 0 then 1 else 0) else -1
theorem and_zero_iff {a b : Nat} : a &&& b = 0 ↔ ∀ i, ¬ (a.testBit i = true ∧ b.testBit i = true) := by
  constructor
  · rintro h i ⟨h1, h2⟩
    have := Nat.testBit_and a b i
    rw [h, h1, h2, Nat.zero_testBit] at this
    cases this
  · intro h
    apply Nat.eq_of_testBit_eq
    intro i
    rw [Nat.testBit_and, Nat.zero_testBit, Bool.and_eq_false_iff]
    cases h1 : a.testBit i with
    | false => exact Or.inl rfl
    | true =>
      refine Or.inr ?_
      rw [← tb_not]
      exact fun h2 => h i ⟨h1, h2⟩
theorem p_row (x : Int) : PureI Rel 139 219 [iv x] := by
  refine pure_qI (fun W => rowA W x) (fun W tl tp pl M h hK hc => ?_) (fun W tl tp pl M h hr => ?_)
  · obtain ⟨w, w2, hb, _⟩ := id hc
    have hn := net_lt h
    have hU := (wf_U h).2
    rw [e_GaugeNet_row, CB_w hb, c_netNow hb.2.2.2.1 h, bI_some, c_hasBit (by omega), bI_some, ite01_n]
    unfold rowA
    by_cases q : hB (net W) x = true
    · obtain ⟨M1, a1, a2⟩ := c_makeReady hc h
      obtain ⟨w, w2, hb, h5, hP, hT⟩ := id a2
      obtain ⟨k, rfl⟩ : ∃ k : Nat, x = (k : Int) := by
        rcases Int.lt_or_le x 0 with z | z
        · rw [hB_neg _ z] at q; cases q
        · exact ⟨x.toNat, by omega⟩
      rw [if_pos q, if_pos q, a1, bV_none, c_isMore hP (net_told h), bI_some, ite01_0, pu_nn]
      by_cases q2 : isMoreB W (net W) k = true
      · rw [if_pos q2, if_pos q2]
        exact ⟨M1, rfl, CY_CI a2⟩
      · obtain ⟨M2, b1, b2⟩ := c_leftOut hb.2.2.2.1 h hP hK (net_told h)
        have hb7 := bset_lt (leftB W (net W)) (wU W)
        have hp7 : 2 ^ wU W ≤ 128 := Nat.le_trans (Nat.pow_le_pow_right (by omega) hU) (Nat.le_refl 128)
        have hk := wH_128 h k
        rw [if_neg q2, if_neg q2, CB_w hb, c_hasOf hb.2.2.2.1 h, bI_some, CB_w hb, b1, bI_some, and32_nat (by omega) (by omega)]
        have hcs : CI W tl tp pl M2 := CI_s (CY_CI a2) (fun o ho => b2 o (by omega))
        by_cases q3 : (wH W k &&& bset (leftB W (net W)) (wU W)) = 0
        · rw [if_pos (by rw [q3]; rfl), if_pos q3]
          exact ⟨M2, rfl, hcs⟩
        · rw [if_neg (fun z => q3 (by omega)), if_neg q3]
          exact ⟨M2, rfl, hcs⟩
    · rw [if_neg q, if_neg q]
      exact ⟨M, rfl, hc⟩
  · obtain ⟨lv, hb, _⟩ := id hr
    have hn := net_lt h
    have hU := (wf_U h).2
    have hlv := rw_lv hb.1
    rw [e_GaugeNetModel_row, r_netNow hb.1 h, bI_some, r_inRange, bI_some]
    unfold rowA
    by_cases q : hB (net W) x = true
    · obtain ⟨k, rfl⟩ : ∃ k : Nat, x = (k : Int) := by
        rcases Int.lt_or_le x 0 with z | z
        · rw [hB_neg _ z] at q; cases q
        · exact ⟨x.toNat, by omega⟩
      have q' := q
      rw [hB_nat] at q
      have hk14 : k < 14 := tb_in (n := 14) hn q
      have hrw : isRw W k = true := told_row (net_told h k q)
      obtain ⟨M1, a1, a2⟩ := r_isMoreIn hb.1 h (net_told h) hk14
      rw [if_pos (show (0 : Int) ≤ (k : Int) ∧ (k : Int) ≤ 13 by omega), if_neg (show ¬ (1 : Int) = 0 by decide), if_pos (fun z => by rw [and1_eq0 (by omega) (by omega), q] at z; cases z), a1, bI_some, ite01_0, if_pos q', pu_nn]
      by_cases q2 : isMoreB W (net W) k = true
      · rw [if_pos q2, if_pos q2]
        exact ⟨M1, rfl, RI_s hr (Rs_of a2)⟩
      · obtain ⟨M2, b1, b2, _⟩ := r_pairsOf (RW_f hb.1 a2) h (set := net W) (x := -1) (net_told h)
        rw [if_neg q2, if_neg q2, b1, bI_some, woB_neg]
        have key := pu_exit (S := mM) (G := fun u M' => gA 219 46 [rv 11 100, iv (k : Int), iv ((net W : Nat) : Int), iv ((mu (wH W) 0 (net W) : Nat) : Int), iv (u : Int)] [] M') (I := fun u M' => Rf M M' ∧ ∀ v, v < u → ¬ ((wH W k).testBit v = true ∧ leftB W (net W) v = true)) (Q := fun o => ∃ M', o = some (iv (if (wH W k &&& bset (leftB W (net W)) (wU W)) = 0 then 1 else 0), M') ∧ Rf M M') (wU W) (fun u M' hu hI => by
          obtain ⟨i1, i2⟩ := hI
          try dsimp only
          have hrM := RW_f hb.1 i1
          rw [s_GaugeNetModel_row_46, if_pos (rw_in hrM), rw_live hrM, pu_nn, rw_U hrM, (wf_U h).1, if_neg (by omega), r_has hrM h hrw hu, bI_some, ite01_0, pu_inc (by omega)]
          by_cases q3 : (wH W k).testBit u = true
          · obtain ⟨M3, c1, c2, _⟩ := r_pairsOf hrM h (set := net W) (x := (u : Int)) (net_told h)
            rw [if_pos q3, c1, bI_some, woB_nat]
            by_cases e : mu (wH W) (2 ^ u) (net W) = mu (wH W) 0 (net W)
            · refine Or.inl ⟨M3, ?_, Rf_trans i1 c2⟩
              have hne : ¬ (wH W k &&& bset (leftB W (net W)) (wU W)) = 0 := fun z => and_zero_iff.mp z u ⟨q3, by rw [bset_tb, decide_eq_true hu]; unfold leftB; rw [decide_eq_true e]; rfl⟩
              rw [if_neg (by omega), if_neg hne]
            · refine Or.inr ⟨M3, ⟨Rf_trans i1 c2, fun v hv => ?_⟩, ?_⟩
              · by_cases ev : v = u
                · rw [ev]
                  rintro ⟨_, z⟩
                  unfold leftB at z
                  exact e (of_decide_eq_true z)
                · exact i2 v (by omega)
              · rw [if_pos (by omega)]
          · refine Or.inr ⟨M', ⟨i1, fun v hv => ?_⟩, ?_⟩
            · by_cases ev : v = u
              · rw [ev]
                exact fun z => q3 z.1
              · exact i2 v (by omega)
            · rw [if_neg q3]) (fun M' hI => by
          obtain ⟨i1, i2⟩ := hI
          try dsimp only
          have hrM := RW_f hb.1 i1
          have hz : (wH W k &&& bset (leftB W (net W)) (wU W)) = 0 := and_zero_iff.mpr (fun i z => by
            rw [bset_tb, Bool.and_eq_true, decide_eq_true_iff] at z
            exact i2 i z.2.1 ⟨z.1, z.2.2⟩)
          rw [s_GaugeNetModel_row_46, if_pos (rw_in hrM), rw_live hrM, pu_nn, rw_U hrM, (wf_U h).1, if_pos (by omega), if_pos hz]
          exact ⟨M', rfl, i1⟩) 0 M2 (Nat.zero_le _) ⟨Rf_trans a2 b2, fun v hv => by omega⟩
        obtain ⟨M', k1, k2⟩ := key
        exact ⟨M', k1, RI_s hr (Rs_of k2)⟩
    · rw [if_neg q]
      by_cases z : 0 ≤ x ∧ x ≤ 13
      · obtain ⟨k, rfl⟩ : ∃ k : Nat, x = (k : Int) := ⟨x.toNat, by omega⟩
        rw [hB_nat] at q
        rw [if_pos z, if_neg (show ¬ (1 : Int) = 0 by decide), if_neg (fun y => y (by rw [and1_eq0 (by omega) (by omega)]; exact tb_not.mp q))]
        exact ⟨M, rfl, hr⟩
      · rw [if_neg z, if_pos rfl]
        exact ⟨M, rfl, hr⟩
noncomputable def unkA (W : mM) (x : Int) : Int := if inR x (wU W) = true then (if anyB (fun r => (wH W r).testBit x.toNat && isMoreB W (net W) r) 14 = true then 2 else if leftB W (net W) x.toNat = true then 0 else 1) else -1
theorem p_unknown (x : Int) : PureI Rel 140 221 [iv x] := by
  refine pure_qI (fun W => unkA W x) (fun W tl tp pl M h hK hc => ?_) (fun W tl tp pl M h hr => ?_)
  · obtain ⟨w, w2, hb, _⟩ := id hc
    have hn := net_lt h
    have hU := (wf_U h).2
    rw [e_GaugeNet_unknown, CB_w hb, c_isUnknown hb.2.2.2.1 h, bI_some, ite01_n]
    unfold unkA
    by_cases q : inR x (wU W) = true
    · obtain ⟨M1, a1, a2⟩ := c_makeReady hc h
      obtain ⟨w, w2, hb, h5, hP, hT⟩ := id a2
      have hcw := hb.2.2.2.1
      have q2 := inR_iff.mp q
      obtain ⟨k, rfl⟩ : ∃ k : Nat, x = (k : Int) := ⟨x.toNat, by omega⟩
      rw [if_pos q, if_pos q, a1, bV_none, CB_w hb, c_netNow hcw h, bI_some, pu_nn]
      have step : ∀ i, i < 14 → ((wH W i).testBit k && isMoreB W (net W) i) = false → gA 140 27 [rv 10 0, iv (k : Int), iv ((net W : Nat) : Int), iv (i : Int)] [] M1 = gA 140 27 [rv 10 0, iv (k : Int), iv ((net W : Nat) : Int), iv ((i + 1 : Nat) : Int)] [] M1 := by
        intro i hi hp
        have hH := wH_128 h i
        rw [s_GaugeNet_unknown_27, if_neg (by omega), CB_w hb, c_hasOf hcw h, bI_some, c_hasBit (by omega), bI_some, hB_nat, ite01_0, pu_inc (by omega)]
        by_cases z : (wH W i).testBit k = true
        · rw [z, Bool.true_and] at hp
          rw [if_pos z, c_isMore hP (net_told h), bI_some, ite01_0, hp, if_neg Bool.false_ne_true]
        · rw [if_neg z]
      rcases pu_first (fun i => (wH W i).testBit k && isMoreB W (net W) i) 14 with hall | ⟨j, j1, j2, j3⟩
      · have key := pu_up (fun i : Nat => gA 140 27 [rv 10 0, iv (k : Int), iv ((net W : Nat) : Int), iv (i : Int)] [] M1) 14 (fun i hi => step i hi (hall i hi))
        try dsimp only at key
        rw [show ((0 : Nat) : Int) = 0 from rfl] at key
        obtain ⟨M2, b1, b2⟩ := c_leftOut hcw h hP hK (net_told h)
        have hb7 := bset_lt (leftB W (net W)) (wU W)
        have hp7 : 2 ^ wU W ≤ 128 := Nat.le_trans (Nat.pow_le_pow_right (by omega) hU) (Nat.le_refl 128)
        rw [key, s_GaugeNet_unknown_27, if_pos (by omega), CB_w hb, b1, bI_some, c_hasBit (by omega), bI_some, hB_nat, ite01_0, anyB_no.mpr hall, if_neg Bool.false_ne_true, bset_tb, decide_eq_true (show k < wU W by omega), Bool.true_and]
        have hcs : CI W tl tp pl M2 := CI_s (CY_CI a2) (fun o ho => b2 o (by omega))
        by_cases z : leftB W (net W) k = true
        · rw [if_pos z, if_pos z]
          exact ⟨M2, rfl, hcs⟩
        · rw [if_neg z, if_neg z]
          exact ⟨M2, rfl, hcs⟩
      · have key := pu_up (fun i : Nat => gA 140 27 [rv 10 0, iv (k : Int), iv ((net W : Nat) : Int), iv (i : Int)] [] M1) j (fun i hi => step i (by omega) (j3 i hi))
        try dsimp only at key
        rw [show ((0 : Nat) : Int) = 0 from rfl] at key
        have hH := wH_128 h j
        have j4 := Bool.and_eq_true_iff.mp j2
        rw [key, s_GaugeNet_unknown_27, if_neg (by omega), CB_w hb, c_hasOf hcw h, bI_some, c_hasBit (by omega), bI_some, hB_nat, ite01_0, if_pos j4.1, c_isMore hP (net_told h), bI_some, ite01_0, if_pos j4.2, if_pos (anyB_iff.mpr ⟨j, j1, j2⟩)]
        exact ⟨M1, rfl, CY_CI a2⟩
    · rw [if_neg q, if_neg q]
      exact ⟨M, rfl, hc⟩
  · obtain ⟨lv, hb, _⟩ := id hr
    have hn := net_lt h
    have hU := (wf_U h).2
    have hlv := rw_lv hb.1
    rw [e_GaugeNetModel_unknown, if_pos (rw_in hb.1), rw_live hb.1, pu_nn, rw_U hb.1, (wf_U h).1, pu_w32 (by omega) (by omega), r_inRange, bI_some, ifR, ite01_n]
    unfold unkA
    by_cases q : inR x (wU W) = true
    · have q2 := inR_iff.mp q
      obtain ⟨k, rfl⟩ : ∃ k : Nat, x = (k : Int) := ⟨x.toNat, by omega⟩
      rw [if_pos q, if_pos q, r_netNow hb.1 h, bI_some, pu_nn]
      have key := pu_exit (S := mM) (G := fun i M' => gA 221 28 [rv 11 100, iv (k : Int), iv ((net W : Nat) : Int), iv (i : Int)] [] M') (I := fun i M' => Rf M M' ∧ ∀ j, j < i → ((wH W j).testBit k && isMoreB W (net W) j) = false) (Q := fun o => ∃ M', o = some (iv (if anyB (fun r => (wH W r).testBit k && isMoreB W (net W) r) 14 = true then 2 else if leftB W (net W) k = true then 0 else 1), M') ∧ Rf M M') 14 (fun i M' hi hI => by
        obtain ⟨i1, i2⟩ := hI
        try dsimp only
        have hrM := RW_f hb.1 i1
        have more : ((wH W i).testBit k && isMoreB W (net W) i) = false → ∀ j, j < i + 1 → ((wH W j).testBit k && isMoreB W (net W) j) = false := by
          intro hz j hj
          by_cases e : j = i
          · rw [e]; exact hz
          · exact i2 j (by omega)
        rw [s_GaugeNetModel_unknown_28, if_neg (by omega), pu_inc (by omega)]
        by_cases q3 : (net W).testBit i = true
        · rw [if_neg (fun z => z ((and1_eq1 (by omega) (by omega)).mpr q3)), r_has hrM h (told_row (net_told h i q3)) (by omega), bI_some, ite01_0]
          by_cases q4 : (wH W i).testBit k = true
          · obtain ⟨M3, c1, c2⟩ := r_isMoreIn hrM h (s := net W) (r := i) (net_told h) hi
            rw [if_pos q4, c1, bI_some, ite01_0]
            by_cases q5 : isMoreB W (net W) i = true
            · refine Or.inl ⟨M3, ?_, Rf_trans i1 c2⟩
              rw [if_pos q5, if_pos (anyB_iff.mpr ⟨i, hi, by rw [q4, q5]; rfl⟩)]
            · refine Or.inr ⟨M3, ⟨Rf_trans i1 c2, more (by rw [Bool.eq_false_iff.mpr q5]; simp)⟩, ?_⟩
              rw [if_neg q5]
          · refine Or.inr ⟨M', ⟨i1, more (by rw [tb_not.mp q4]; rfl)⟩, ?_⟩
            rw [if_neg q4]
        · refine Or.inr ⟨M', ⟨i1, more ?_⟩, ?_⟩
          · unfold isMoreB
            rw [tb_not.mp q3]
            simp
          · rw [if_pos (fun z => q3 ((and1_eq1 (by omega) (by omega)).mp z))]) (fun M' hI => by
        obtain ⟨i1, i2⟩ := hI
        try dsimp only
        have hrM := RW_f hb.1 i1
        obtain ⟨M3, c1, c2, _⟩ := r_pairsOf hrM h (set := net W) (x := (k : Int)) (net_told h)
        obtain ⟨M4, d1, d2, _⟩ := r_pairsOf (RW_f hrM c2) h (set := net W) (x := -1) (net_told h)
        rw [s_GaugeNetModel_unknown_28, if_pos (by omega), c1, bI_some, d1, bI_some, woB_nat, woB_neg, anyB_no.mpr i2, if_neg Bool.false_ne_true]
        refine ⟨M4, ?_, Rf_trans i1 (Rf_trans c2 d2)⟩
        unfold leftB
        by_cases e : mu (wH W) (2 ^ k) (net W) = mu (wH W) 0 (net W)
        · rw [if_neg (by omega), decide_eq_true e, if_pos rfl]
        · rw [if_pos (by omega), decide_eq_false e, if_neg Bool.false_ne_true]) 0 M (Nat.zero_le _) ⟨Rf_refl M, fun j hj => by omega⟩
      obtain ⟨M', k1, k2⟩ := key
      exact ⟨M', k1, RI_s hr (Rs_of k2)⟩
    · rw [if_neg q, if_neg q]
      exact ⟨M, rfl, hr⟩
noncomputable def seenA (W : mM) (x : Int) : Int := if inR x (wF W) = true then (if isMoreB W (net W) (wFr W x.toNat) = true then 1 else 0) else -1
theorem p_seen (x : Int) : PureI Rel 145 234 [iv x] := by
  refine pure_qI (fun W => seenA W x) (fun W tl tp pl M h hK hc => ?_) (fun W tl tp pl M h hr => ?_)
  · obtain ⟨w, w2, hb, _⟩ := id hc
    rw [e_GaugeNet_seen, CB_w hb, c_isFault hb.2.2.2.1 h, bI_some, ite01_n]
    unfold seenA
    by_cases q : inR x (wF W) = true
    · obtain ⟨M1, a1, a2⟩ := c_makeReady hc h
      obtain ⟨w, w2, hb, h5, hP, hT⟩ := id a2
      rw [if_pos q, if_pos q, a1, bV_none, CB_w hb, c_netNow hb.2.2.2.1 h, bI_some, CB_w hb, c_rowOf hb.2.2.2.1 h, bI_some, if_pos q, c_isMore hP (net_told h), bI_some, ite01_0]
      by_cases z : isMoreB W (net W) (wFr W x.toNat) = true
      · rw [if_pos z, if_pos z]
        exact ⟨M1, rfl, CY_CI a2⟩
      · rw [if_neg z, if_neg z]
        exact ⟨M1, rfl, CY_CI a2⟩
    · rw [if_neg q, if_neg q]
      exact ⟨M, rfl, hc⟩
  · obtain ⟨lv, hb, _⟩ := id hr
    rw [e_GaugeNetModel_seen, r_isFault hb.1 h, bI_some, ite01_n]
    unfold seenA
    by_cases q : inR x (wF W) = true
    · have q2 := inR_iff.mp q
      obtain ⟨k, rfl⟩ : ∃ k : Nat, x = (k : Int) := ⟨x.toNat, by omega⟩
      obtain ⟨M1, a1, a2⟩ := r_isSeenIn hb.1 h (s := net W) (f := k) (net_told h) (by omega)
      rw [if_pos q, if_pos q, r_netNow hb.1 h, bI_some, a1, bI_some, ite01_0, pu_nn]
      by_cases z : isMoreB W (net W) (wFr W k) = true
      · rw [if_pos z, if_pos z]
        exact ⟨M1, rfl, RI_s hr (Rs_of a2)⟩
      · rw [if_neg z, if_neg z]
        exact ⟨M1, rfl, RI_s hr (Rs_of a2)⟩
    · rw [if_neg q, if_neg q]
      exact ⟨M, rfl, hr⟩
noncomputable def partedA (W : mM) (x y : Int) : Int := if inR x (wF W) = true then (if inR y (wF W) = true then (if x = y then -1 else if isPartB W (net W) (wFr W x.toNat) (wFr W y.toNat) = true then 1 else 0) else -1) else -1
theorem p_parted (x y : Int) : PureI Rel 146 236 [iv x, iv y] := by
  refine pure_qI (fun W => partedA W x y) (fun W tl tp pl M h hK hc => ?_) (fun W tl tp pl M h hr => ?_)
  · obtain ⟨w, w2, hb, _⟩ := id hc
    rw [e_GaugeNet_parted, CB_w hb, c_isFault hb.2.2.2.1 h, bI_some, ite01_0]
    unfold partedA
    by_cases q : inR x (wF W) = true
    · rw [if_pos q, if_pos q, CB_w hb, c_isFault hb.2.2.2.1 h, bI_some, ite01_0]
      by_cases q2 : inR y (wF W) = true
      · rw [if_pos q2, if_pos q2]
        by_cases e : x = y
        · rw [if_neg (fun z => z e), if_pos e]
          exact ⟨M, rfl, hc⟩
        · obtain ⟨M1, a1, a2⟩ := c_makeReady hc h
          obtain ⟨w, w2, hb, h5, hP, hT⟩ := id a2
          rw [if_pos e, if_neg e, a1, bV_none, CB_w hb, c_netNow hb.2.2.2.1 h, bI_some, CB_w hb, c_rowOf hb.2.2.2.1 h, bI_some, if_pos q, CB_w hb, c_rowOf hb.2.2.2.1 h, bI_some, if_pos q2, c_isParted hP (net_told h), bI_some, ite01_0]
          by_cases z : isPartB W (net W) (wFr W x.toNat) (wFr W y.toNat) = true
          · rw [if_pos z, if_pos z]
            exact ⟨M1, rfl, CY_CI a2⟩
          · rw [if_neg z, if_neg z]
            exact ⟨M1, rfl, CY_CI a2⟩
      · rw [if_neg q2, if_neg q2]
        exact ⟨M, rfl, hc⟩
    · rw [if_neg q, if_neg q]
      exact ⟨M, rfl, hc⟩
  · obtain ⟨lv, hb, _⟩ := id hr
    rw [e_GaugeNetModel_parted, r_isFault hb.1 h, bI_some, ite01_0]
    unfold partedA
    by_cases q : inR x (wF W) = true
    · rw [if_pos q, if_pos q, r_isFault hb.1 h, bI_some, ite01_0]
      by_cases q2 : inR y (wF W) = true
      · rw [if_pos q2, if_pos q2]
        by_cases e : x = y
        · rw [if_neg (fun z => z e), if_pos e]
          exact ⟨M, rfl, hr⟩
        · have x2 := inR_iff.mp q
          have y2 := inR_iff.mp q2
          obtain ⟨k, rfl⟩ : ∃ k : Nat, x = (k : Int) := ⟨x.toNat, by omega⟩
          obtain ⟨j, rfl⟩ : ∃ j : Nat, y = (j : Int) := ⟨y.toNat, by omega⟩
          obtain ⟨M1, a1, a2⟩ := r_isPartedIn hb.1 h (s := net W) (f := k) (o := j) (net_told h) (by omega) (by omega)
          rw [if_pos e, if_neg e, r_netNow hb.1 h, bI_some, a1, bI_some, ite01_0, pu_nn, pu_nn]
          by_cases z : isPartB W (net W) (wFr W k) (wFr W j) = true
          · rw [if_pos z, if_pos z]
            exact ⟨M1, rfl, RI_s hr (Rs_of a2)⟩
          · rw [if_neg z, if_neg z]
            exact ⟨M1, rfl, RI_s hr (Rs_of a2)⟩
      · rw [if_neg q2, if_neg q2]
        exact ⟨M, rfl, hr⟩
    · rw [if_neg q, if_neg q]
      exact ⟨M, rfl, hr⟩
