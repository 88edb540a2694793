/-! Which UNKNOWNS a greatest matching can leave out. -/
/-- the sets of unknowns that rows below k of R can take -/
def Tk (H : Nat → Nat) (R : Nat) : Nat → Nat → Prop
  | 0, s => s = 0
  | k + 1, s => Tk H R k s ∨ (R.testBit k = true ∧ ∃ u, u < 7 ∧ s.testBit u = true ∧ (H k).testBit u = true ∧ Tk H R k (bdiff s (2 ^ u)))
theorem tb_neq {a b i : Nat} (h1 : a.testBit i = true) (h2 : b.testBit i = false) : a ≠ b := fun e => by rw [e, h2] at h1; cases h1
theorem Tk_match {H : Nat → Nat} {R : Nat} (hR : R < 16384) : ∀ k s, s < 128 → Tk H R k s → ∃ m, VM H 0 (lowb R k) m ∧ Dm m = s := by
  intro k
  induction k with
  | zero =>
    intro s _ h
    refine ⟨fun _ => -1, ⟨fun u _ => Or.inl rfl, fun u v _ _ _ hne => absurd rfl hne⟩, ?_⟩
    rw [show s = 0 from h]
    apply Nat.eq_of_testBit_eq
    intro i
    rw [Nat.zero_testBit, ← tb_not, Dm_tb]
    exact fun z => z.2 rfl
  | succ k ih =>
    intro s hs h
    rcases h with h | ⟨hk, u, hu, hsu, hHu, h⟩
    · obtain ⟨m, m1, m2⟩ := ih s hs h
      exact ⟨m, VM_mono (fun i hi => by
        rw [lowb_tb, Bool.and_eq_true, decide_eq_true_iff] at hi ⊢
        exact ⟨by omega, hi.2⟩) m1, m2⟩
    · obtain ⟨m, m1, m2⟩ := ih (bdiff s (2 ^ u)) (Nat.lt_of_le_of_lt (bdiff_le _ _) hs) h
      have hmu : m u = -1 := by
        have := Dm_tb m u
        rw [m2, tb_del, decide_eq_true rfl] at this
        by_cases q : m u = -1
        · exact q
        · have := this.mpr ⟨hu, q⟩
          rw [hsu] at this
          cases this
      have hno : ∀ v, v < 7 → m v ≠ (k : Int) := by
        intro v hv e
        rcases m1.1 v hv with q | ⟨r, q1, q2, _⟩
        · omega
        · rw [lowb_tb, Bool.and_eq_true, decide_eq_true_iff] at q2
          omega
      refine ⟨fun v => if v = u then (k : Int) else m v, ⟨fun v hv => ?_, fun v v' hv hv' he hne => ?_⟩, ?_⟩
      · try dsimp only
        by_cases e : v = u
        · rw [if_pos e]
          exact Or.inr ⟨k, rfl, by rw [lowb_tb, decide_eq_true (by omega), hk]; rfl, by rw [e]; exact hHu, Nat.zero_testBit _⟩
        · rw [if_neg e]
          rcases m1.1 v hv with q | ⟨r, q1, q2, q3⟩
          · exact Or.inl q
          · refine Or.inr ⟨r, q1, ?_, q3⟩
            rw [lowb_tb, Bool.and_eq_true, decide_eq_true_iff] at q2 ⊢
            exact ⟨by omega, q2.2⟩
      · try dsimp only at he hne
        by_cases e : v = u
        · by_cases e' : v' = u
          · omega
          · rw [if_pos e, if_neg e'] at he
            exact absurd he.symm (hno v' hv')
        · by_cases e' : v' = u
          · rw [if_neg e, if_pos e'] at he
            exact absurd he (hno v hv)
          · rw [if_neg e] at he hne
            rw [if_neg e'] at he
            exact m1.2 v v' hv hv' he hne
      · apply Nat.eq_of_testBit_eq
        intro i
        have h1 := Dm_tb (fun v => if v = u then (k : Int) else m v) i
        try dsimp only at h1
        have h2 := Dm_tb m i
        rw [m2, tb_del] at h2
        cases hsi : s.testBit i with
        | true =>
          rw [h1]
          have hi7 : i < 7 := tb_in (n := 7) hs hsi
          refine ⟨hi7, ?_⟩
          by_cases e : i = u
          · rw [if_pos e]; omega
          · rw [if_neg e]
            exact (h2.mp (by rw [hsi, decide_eq_false (by omega)]; rfl)).2
        | false =>
          rw [← tb_not, h1]
          rintro ⟨q1, q2⟩
          by_cases e : i = u
          · rw [e, hsu] at hsi; cases hsi
          · rw [if_neg e] at q2
            have := h2.mpr ⟨q1, q2⟩
            rw [hsi] at this
            cases this
theorem match_Tk {H : Nat → Nat} {R : Nat} {m : Nat → Int} (hR : R < 16384) (hv : VM H 0 R m) : Tk H R 14 (Dm m) := by
  have key : ∀ k, k ≤ 14 → Tk H R k (D1 m (lowb R k)) := by
    intro k
    induction k with
    | zero =>
      intro _
      show D1 m (lowb R 0) = 0
      apply Nat.eq_of_testBit_eq
      intro i
      rw [Nat.zero_testBit, ← tb_not, D1_tb, lowb_tb]
      rintro ⟨_, _, q⟩
      rw [decide_eq_false (by omega)] at q
      cases q
    | succ k ih =>
      intro hk
      have ih := ih (by omega)
      by_cases q : ∃ u, u < 7 ∧ m u = (k : Int)
      · obtain ⟨u, hu, hmu⟩ := q
        rcases hv.1 u hu with z | ⟨r, r1, r2, r3, _⟩
        · omega
        · have hrk : r = k := by omega
          subst hrk
          refine Or.inr ⟨r2, u, hu, ?_, r3, ?_⟩
          · rw [D1_tb, hmu, pu_nn, lowb_tb, decide_eq_true (by omega), r2]
            exact ⟨hu, by omega, rfl⟩
          · have e : bdiff (D1 m (lowb R (r + 1))) (2 ^ u) = D1 m (lowb R r) := by
              apply Nat.eq_of_testBit_eq
              intro i
              have h1 := D1_tb m (lowb R (r + 1)) i
              have h2 := D1_tb m (lowb R r) i
              have key2 : (bdiff (D1 m (lowb R (r + 1))) (2 ^ u)).testBit i = true ↔ (D1 m (lowb R r)).testBit i = true := by
                rw [bd_true, tb_pow, decide_eq_false_iff_not, h1, h2, lowb_tb, lowb_tb, Bool.and_eq_true, Bool.and_eq_true, decide_eq_true_iff, decide_eq_true_iff]
                constructor
                · rintro ⟨⟨a, b, c, d⟩, e⟩
                  refine ⟨a, b, ?_, d⟩
                  rcases Nat.lt_or_ge (m i).toNat r with z | z
                  · exact z
                  · exfalso
                    apply e
                    have : (m i).toNat = r := by omega
                    refine hv.2 u i hu a ?_ (by omega)
                    rcases hv.1 i a with y | ⟨t, t1, _⟩
                    · exact absurd y b
                    · rw [t1, pu_nn] at this
                      rw [hmu, t1, this]
                · rintro ⟨a, b, c, d⟩
                  refine ⟨⟨a, b, by omega, d⟩, fun z => ?_⟩
                  rw [← z, hmu, pu_nn] at c
                  omega
              cases q1 : (bdiff (D1 m (lowb R (r + 1))) (2 ^ u)).testBit i with
              | true => exact (key2.mp q1).symm
              | false =>
                cases q2 : (D1 m (lowb R r)).testBit i with
                | false => rfl
                | true => rw [key2.mpr q2] at q1; cases q1
            rw [e]
            exact ih
      · refine Or.inl ?_
        have e : D1 m (lowb R (k + 1)) = D1 m (lowb R k) := by
          apply Nat.eq_of_testBit_eq
          intro i
          have h1 := D1_tb m (lowb R (k + 1)) i
          have h2 := D1_tb m (lowb R k) i
          have key2 : (D1 m (lowb R (k + 1))).testBit i = true ↔ (D1 m (lowb R k)).testBit i = true := by
            rw [h1, h2, lowb_tb, lowb_tb, Bool.and_eq_true, Bool.and_eq_true, decide_eq_true_iff, decide_eq_true_iff]
            constructor
            · rintro ⟨a, b, c, d⟩
              refine ⟨a, b, ?_, d⟩
              rcases Nat.lt_or_ge (m i).toNat k with z | z
              · exact z
              · exfalso
                have : (m i).toNat = k := by omega
                rcases hv.1 i a with y | ⟨t, t1, _⟩
                · exact b y
                · rw [t1, pu_nn] at this
                  exact q ⟨i, a, by rw [t1, this]⟩
            · rintro ⟨a, b, c, d⟩
              exact ⟨a, b, by omega, d⟩
          cases q1 : (D1 m (lowb R (k + 1))).testBit i with
          | true => exact (key2.mp q1).symm
          | false =>
            cases q2 : (D1 m (lowb R k)).testBit i with
            | false => rfl
            | true => rw [key2.mpr q2] at q1; cases q1
        rw [e]
        exact ih
  have h14 := key 14 (Nat.le_refl _)
  rw [lowb_all (j := 14) hR] at h14
  have e : D1 m R = Dm m := by
    apply Nat.eq_of_testBit_eq
    intro i
    have h1 := D1_tb m R i
    have h2 := Dm_tb m i
    cases q2 : (Dm m).testBit i with
    | true =>
      obtain ⟨a, b⟩ := h2.mp q2
      rw [h1]
      refine ⟨a, b, ?_⟩
      rcases hv.1 i a with y | ⟨t, t1, t2, _⟩
      · exact absurd y b
      · rw [t1, pu_nn]; exact t2
    | false =>
      rw [← tb_not, h1]
      rintro ⟨a, b, _⟩
      rw [h2.mpr ⟨a, b⟩] at q2
      cases q2
  rw [e] at h14
  exact h14
theorem cov_wo (H : Nat → Nat) (wo R S : Nat) : cov H wo R S ≤ cov H 0 R S := by
  unfold cov
  rw [bdiff_zero]
  have := pop_sbs (sbs_bdiff (nbr H 14 S) wo) 7
  omega
theorem mu_wo (H : Nat → Nat) (wo R : Nat) : mu H wo R ≤ mu H 0 R := by
  obtain ⟨⟨S, s1, s2⟩, _⟩ := mu_spec H 0 R
  have := (mu_spec H wo R).2 S s1
  have := cov_wo H wo R S
  omega
/-- there are matchings as great as that -/
def KM (W : mM) : Prop := ∀ R (x : Int), sbs R (told W) → ∃ m, VM (wH W) (woB x) R m ∧ pop 7 (Dm m) = mu (wH W) (woB x) R
theorem KM_of {lv : Nat} {W M : mM} (hr : RW lv W M) (h : WF W) : KM W := fun R x hR => by
  obtain ⟨M', _, _, h1, h2⟩ := r_pairsOf hr h (set := R) (x := x) hR
  exact ⟨M' 123, h1, h2⟩
noncomputable def leftB (W : mM) (R k : Nat) : Bool := decide (mu (wH W) (2 ^ k) R = mu (wH W) 0 R)
theorem woB_nat (k : Nat) : woB (k : Int) = 2 ^ k := by
  unfold woB
  rw [if_pos (by omega), pu_nn]
theorem woB_neg : woB (-1) = 0 := rfl
theorem leftB_iff {W : mM} (h : WF W) (hK : KM W) {R k : Nat} (hR : sbs R (told W)) : leftB W R k = true ↔ ∃ s, s < 128 ∧ Tk (wH W) R 14 s ∧ pop 7 s = mu (wH W) 0 R ∧ s.testBit k = false := by
  have hR16 := told16 hR
  unfold leftB
  rw [decide_eq_true_iff]
  constructor
  · intro e
    obtain ⟨m, m1, m2⟩ := hK R (k : Int) hR
    rw [woB_nat] at m1 m2
    have v0 : VM (wH W) 0 R m := by
      refine ⟨fun u hu => ?_, m1.2⟩
      rcases m1.1 u hu with q | ⟨r, r1, r2, r3, _⟩
      · exact Or.inl q
      · exact Or.inr ⟨r, r1, r2, r3, Nat.zero_testBit _⟩
    refine ⟨Dm m, bset_lt _ 7, match_Tk hR16 v0, by rw [m2, e], ?_⟩
    rw [← tb_not, Dm_tb]
    rintro ⟨q1, q2⟩
    rcases m1.1 k q1 with q | ⟨r, _, _, _, r4⟩
    · exact q2 q
    · rw [tb_pow, decide_eq_true rfl] at r4
      cases r4
  · rintro ⟨s, s1, s2, s3, s4⟩
    obtain ⟨m, m1, m2⟩ := Tk_match hR16 14 s s1 s2
    rw [lowb_all (j := 14) hR16] at m1
    have vk : VM (wH W) (2 ^ k) R m := by
      refine ⟨fun u hu => ?_, m1.2⟩
      rcases m1.1 u hu with q | ⟨r, r1, r2, r3, _⟩
      · exact Or.inl q
      · refine Or.inr ⟨r, r1, r2, r3, ?_⟩
        rw [tb_pow, decide_eq_false_iff_not]
        intro e
        have := (Dm_tb m u).mpr ⟨hu, by omega⟩
        rw [m2, ← e, s4] at this
        cases this
    obtain ⟨⟨S, t1, t2⟩, _⟩ := mu_spec (wH W) (2 ^ k) R
    have h1 := match_cov (S := S) hR16 vk
    rw [m2, s3, t2] at h1
    have h2 := mu_wo (wH W) (2 ^ k) R
    omega
/-! The class: sets of unknowns that are taken. -/
theorem or_not {a b : Nat} (ha : a < 2147483648) (hb : b < 2147483648) : or32 (xor32 (a : Int) (-1)) (xor32 (b : Int) (-1)) = xor32 ((a &&& b : Nat) : Int) (-1) := by
  have h1 : a &&& b ≤ a := Nat.and_le_left
  unfold or32 xor32
  rw [Int32.ofInt_toInt, Int32.ofInt_toInt]
  congr 1
  apply Int32.toBitVec_inj.mp
  rw [Int32.toBitVec_or, Int32.toBitVec_xor, Int32.toBitVec_xor, Int32.toBitVec_xor, i32_nat ha, i32_nat hb, i32_nat (by omega)]
  show (BitVec.ofNat 32 a ^^^ BitVec.allOnes 32) ||| (BitVec.ofNat 32 b ^^^ BitVec.allOnes 32) = BitVec.ofNat 32 (a &&& b) ^^^ BitVec.allOnes 32
  apply BitVec.eq_of_getLsbD_eq
  intro i hi
  rw [BitVec.getLsbD_or, BitVec.getLsbD_xor, BitVec.getLsbD_xor, BitVec.getLsbD_xor, BitVec.getLsbD_allOnes, BitVec.getLsbD_ofNat, BitVec.getLsbD_ofNat, BitVec.getLsbD_ofNat, Nat.testBit_and, decide_eq_true hi]
  cases a.testBit i <;> cases b.testBit i <;> rfl
theorem or_zero_not {a : Nat} (ha : a < 2147483648) : or32 0 (xor32 (a : Int) (-1)) = xor32 (a : Int) (-1) := by
  unfold or32 xor32
  rw [Int32.ofInt_toInt]
  congr 1
  apply Int32.toBitVec_inj.mp
  rw [Int32.toBitVec_or]
  show 0#32 ||| _ = _
  rw [BitVec.zero_or]
theorem and_not_l {a b : Nat} (ha : a < 2147483648) (hb : b < 2147483648) : and32 (xor32 (a : Int) (-1)) (b : Int) = ((bdiff b a : Nat) : Int) := by
  rw [← andnot32 hb ha]
  unfold and32
  congr 1
  exact Int32.and_comm _ _
section LO
variable {w : Nat} {W M0 : mM}
theorem c_pairRow {m : Nat} (hm : m < 128) (M0 : mM) : ∃ M', gC 35 [rv 3 10, iv (m : Int)] M0 = some (none, M') ∧ (∀ o, o ≠ 12 → M' o = M0 o) ∧ ∀ s, s < 128 → (M' 12 s ≠ 0 ↔ M0 12 s ≠ 0 ∨ ∃ u, u < 7 ∧ s.testBit u = true ∧ m.testBit u = true ∧ M0 12 (bdiff s (2 ^ u)) ≠ 0) := by
  rw [e_Pairs_pairRow]
  have hlt : ∀ s u : Nat, s.testBit u = true → bdiff s (2 ^ u) < s := by
    intro s u hu
    have h1 := bdiff_le s (2 ^ u)
    have h2 : bdiff s (2 ^ u) ≠ s := by
      intro e
      have := tb_del s u u
      rw [e, hu, decide_eq_true rfl] at this
      cases this
    omega
  have key := pu_rel (S := mM) (G := fun i M => gA 35 3 [rv 3 10, iv (m : Int), iv (127 - (i : Int)), none] [] M) (I := fun i M => (∀ o, o ≠ 12 → M o = M0 o) ∧ ∀ s, s < 128 → (M 12 s ≠ 0 ↔ M0 12 s ≠ 0 ∨ ∃ u, u < 7 ∧ s.testBit u = true ∧ m.testBit u = true ∧ 128 ≤ bdiff s (2 ^ u) + i ∧ M0 12 (bdiff s (2 ^ u)) ≠ 0)) 128 (fun i M hi hI => by
    obtain ⟨i1, i2⟩ := hI
    try dsimp only
    obtain ⟨c, hc⟩ : ∃ c, c + i = 127 := ⟨127 - i, by omega⟩
    rw [show (127 : Int) - (i : Int) = (c : Int) by omega, s_Pairs_pairRow_3, if_neg (by omega)]
    have hdec : w32 ((c : Int) + -1) = 127 - ((i + 1 : Nat) : Int) := by rw [pu_w32 (by omega) (by omega)]; omega
    have hcc : M 12 c ≠ 0 ↔ M0 12 c ≠ 0 := by
      rw [i2 c (by omega)]
      constructor
      · rintro (q | ⟨u, _, u2, _, u4, _⟩)
        · exact q
        · have := hlt c u u2
          omega
      · exact Or.inl
    by_cases hz : M0 12 c = 0
    · refine ⟨M, ⟨i1, fun s hs => ?_⟩, ?_⟩
      · rw [i2 s hs]
        constructor
        · rintro (q | ⟨u, u1, u2, u3, u4, u5⟩)
          · exact Or.inl q
          · exact Or.inr ⟨u, u1, u2, u3, by omega, u5⟩
        · rintro (q | ⟨u, u1, u2, u3, u4, u5⟩)
          · exact Or.inl q
          · refine Or.inr ⟨u, u1, u2, u3, ?_, u5⟩
            have : bdiff s (2 ^ u) ≠ c := fun e => by rw [e] at u5; exact u5 hz
            omega
      · have : M 12 c = 0 := by
          apply Classical.byContradiction
          intro q
          exact (hcc.mp q) hz
        rw [s_Pairs_pairRow_9, if_neg (by omega), if_pos (by omega), pu_nn, if_pos this, hdec]
    · have k2 := pu_rel (S := mM) (G := fun j M => gA 35 9 [rv 3 10, iv (m : Int), iv (c : Int), iv (j : Int)] [] M) (I := fun j M => (∀ o, o ≠ 12 → M o = M0 o) ∧ ∀ s, s < 128 → (M 12 s ≠ 0 ↔ M0 12 s ≠ 0 ∨ ∃ u, u < 7 ∧ s.testBit u = true ∧ m.testBit u = true ∧ (128 ≤ bdiff s (2 ^ u) + i ∨ bdiff s (2 ^ u) = c ∧ u < j) ∧ M0 12 (bdiff s (2 ^ u)) ≠ 0)) 7 (fun j M2 hj hJ => by
        obtain ⟨j1, j2⟩ := hJ
        try dsimp only
        have hc2 : M2 12 c ≠ 0 := (j2 c (by omega)).mpr (Or.inl hz)
        rw [s_Pairs_pairRow_9, if_neg (by omega), if_pos (by omega), pu_nn, if_neg hc2, c_hasBit (by omega), bI_some, hB_nat, pu_inc (by omega)]
        have skip : (m.testBit j = false ∨ c.testBit j = true) → ∀ s, s < 128 → (M2 12 s ≠ 0 ↔ M0 12 s ≠ 0 ∨ ∃ u, u < 7 ∧ s.testBit u = true ∧ m.testBit u = true ∧ (128 ≤ bdiff s (2 ^ u) + i ∨ bdiff s (2 ^ u) = c ∧ u < j + 1) ∧ M0 12 (bdiff s (2 ^ u)) ≠ 0) := by
          intro hno s hs
          rw [j2 s hs]
          constructor
          · rintro (q | ⟨u, u1, u2, u3, u4, u5⟩)
            · exact Or.inl q
            · exact Or.inr ⟨u, u1, u2, u3, u4.imp id (fun z => ⟨z.1, by omega⟩), u5⟩
          · rintro (q | ⟨u, u1, u2, u3, u4, u5⟩)
            · exact Or.inl q
            · refine Or.inr ⟨u, u1, u2, u3, ?_, u5⟩
              rcases u4 with u4 | ⟨u4, u6⟩
              · exact Or.inl u4
              · refine Or.inr ⟨u4, ?_⟩
                by_cases e : u = j
                · exfalso
                  rcases hno with z | z
                  · rw [e, z] at u3; cases u3
                  · rw [← u4, tb_del, ← e, decide_eq_true rfl] at z
                    simp at z
                · omega
        by_cases hmj : m.testBit j = true
        · rw [if_pos hmj, if_neg (by decide), c_hasBit (by omega), bI_some, hB_nat]
          by_cases hcj : c.testBit j = true
          · rw [if_pos hcj, if_pos (by decide)]
            exact ⟨M2, ⟨j1, skip (Or.inr hcj)⟩, rfl⟩
          · have hcj' := tb_not.mp hcj
            have hor : c ||| 2 ^ j < 128 := Nat.or_lt_two_pow (n := 7) (by omega) (Nat.pow_lt_pow_right (by omega) (by omega))
            rw [if_neg hcj, if_neg (by decide), or1 (by omega) (by omega), if_pos (by omega), pu_nn]
            have hdel : bdiff (c ||| 2 ^ j) (2 ^ j) = c := by
              apply Nat.eq_of_testBit_eq
              intro i
              rw [tb_del, Nat.testBit_or, tb_pow]
              by_cases e : j = i
              · subst e; rw [hcj']; simp
              · simp [e]
            refine ⟨_, ⟨fun o ho => by rw [st_ob ho]; exact j1 o ho, fun s hs => ?_⟩, rfl⟩
            rw [st_if]
            by_cases e : s = c ||| 2 ^ j
            · rw [if_pos e]
              refine ⟨fun _ => Or.inr ⟨j, by omega, ?_, hmj, Or.inr ⟨by rw [e, hdel], by omega⟩, ?_⟩, fun _ => by decide⟩
              · rw [e, Nat.testBit_or, tb_pow]; simp
              · rw [e, hdel]; exact hz
            · rw [if_neg e, j2 s hs]
              constructor
              · rintro (q | ⟨u, u1, u2, u3, u4, u5⟩)
                · exact Or.inl q
                · exact Or.inr ⟨u, u1, u2, u3, u4.imp id (fun z => ⟨z.1, by omega⟩), u5⟩
              · rintro (q | ⟨u, u1, u2, u3, u4, u5⟩)
                · exact Or.inl q
                · refine Or.inr ⟨u, u1, u2, u3, ?_, u5⟩
                  rcases u4 with u4 | ⟨u4, u6⟩
                  · exact Or.inl u4
                  · refine Or.inr ⟨u4, ?_⟩
                    by_cases e2 : u = j
                    · exfalso
                      apply e
                      apply Nat.eq_of_testBit_eq
                      intro i
                      rw [← u4, Nat.testBit_or, tb_del, tb_pow, e2]
                      by_cases e3 : j = i
                      · subst e3; rw [← e2, u2]; simp
                      · simp [e3]
                    · omega
        · rw [if_neg hmj, if_pos rfl]
          exact ⟨M2, ⟨j1, skip (Or.inl (tb_not.mp hmj))⟩, rfl⟩) 0 M (by omega) ⟨i1, fun s hs => by
            rw [i2 s hs]
            constructor
            · rintro (q | ⟨u, u1, u2, u3, u4, u5⟩)
              · exact Or.inl q
              · exact Or.inr ⟨u, u1, u2, u3, Or.inl u4, u5⟩
            · rintro (q | ⟨u, u1, u2, u3, u4, u5⟩)
              · exact Or.inl q
              · exact Or.inr ⟨u, u1, u2, u3, u4.resolve_right (fun z => by omega), u5⟩⟩
      obtain ⟨M2, ⟨j1, j2⟩, j3⟩ := k2
      try dsimp only at j3
      rw [show ((0 : Nat) : Int) = 0 from rfl] at j3
      refine ⟨M2, ⟨j1, fun s hs => ?_⟩, ?_⟩
      · rw [j2 s hs]
        constructor
        · rintro (q | ⟨u, u1, u2, u3, u4, u5⟩)
          · exact Or.inl q
          · exact Or.inr ⟨u, u1, u2, u3, by omega, u5⟩
        · rintro (q | ⟨u, u1, u2, u3, u4, u5⟩)
          · exact Or.inl q
          · exact Or.inr ⟨u, u1, u2, u3, by omega, u5⟩
      · rw [j3, s_Pairs_pairRow_9, if_pos (by omega), hdec]) 0 M0 (by omega) ⟨fun _ _ => rfl, fun s hs => by
        constructor
        · exact Or.inl
        · rintro (q | ⟨u, u1, u2, u3, u4, u5⟩)
          · exact q
          · have := hlt s u u2
            omega⟩
  obtain ⟨M, ⟨i1, i2⟩, i3⟩ := key
  try dsimp only at i3
  rw [show (127 : Int) - ((0 : Nat) : Int) = 127 from rfl] at i3
  rw [i3, s_Pairs_pairRow_3, if_pos (by omega)]
  refine ⟨M, rfl, i1, fun s hs => ?_⟩
  rw [i2 s hs]
  constructor
  · rintro (q | ⟨u, u1, u2, u3, u4, u5⟩)
    · exact Or.inl q
    · exact Or.inr ⟨u, u1, u2, u3, u5⟩
  · rintro (q | ⟨u, u1, u2, u3, u5⟩)
    · exact Or.inl q
    · exact Or.inr ⟨u, u1, u2, u3, by omega, u5⟩
theorem c_leftOut (hc : CW w W M0) (h : WF W) (hP : PR W M0) (hK : KM W) {R : Nat} (hR : sbs R (told W)) : ∃ M', gC 34 [rv 3 10, rv 9 w, iv (R : Int)] M0 = some (iv ((bset (leftB W R) (wU W) : Nat) : Int), M') ∧ ∀ o, o ≠ 12 → M' o = M0 o := by
  have hR16 := told16 hR
  have hU := (wf_U h).2
  rw [e_Pairs_leftOut]
  have key := pu_rel (S := mM) (G := fun i M => gA 34 2 [rv 3 10, rv 9 w, iv (R : Int), iv (i : Int), none, none] [] M) (I := fun i M => (∀ o, o ≠ 12 → M o = M0 o) ∧ ∀ s, s < i → (M 12 s ≠ 0 ↔ s = 0)) 128 (fun i M hi hI => by
    obtain ⟨i1, i2⟩ := hI
    try dsimp only
    have go : ∀ x : Int, (x ≠ 0 ↔ i = 0) → ((∀ o, o ≠ 12 → st M 12 i x o = M0 o) ∧ ∀ s, s < i + 1 → (st M 12 i x 12 s ≠ 0 ↔ s = 0)) := by
      intro x hx
      refine ⟨fun o ho => by rw [st_ob ho]; exact i1 o ho, fun s hs => ?_⟩
      rw [st_if]
      by_cases e : s = i
      · rw [if_pos e, e]; exact hx
      · rw [if_neg e]; exact i2 s (by omega)
    rw [s_Pairs_leftOut_2, if_neg (by omega), pu_inc (by omega)]
    by_cases e : i = 0
    · rw [if_neg (by omega), if_pos (by omega), pu_nn]
      exact ⟨_, go 1 (by simp [e]), rfl⟩
    · rw [if_pos (by omega), if_pos (by omega), pu_nn]
      exact ⟨_, go 0 (by simp [e]), rfl⟩) 0 M0 (by omega) ⟨fun _ _ => rfl, fun s hs => by omega⟩
  obtain ⟨M1, ⟨a1, a2⟩, a3⟩ := key
  try dsimp only at a3
  rw [show ((0 : Nat) : Int) = 0 from rfl] at a3
  rw [a3, s_Pairs_leftOut_2, if_pos (by omega)]
  have key := pu_rel (S := mM) (G := fun i M => gA 34 32 [rv 3 10, rv 9 w, iv (R : Int), iv (i : Int), none, none] [] M) (I := fun i M => (∀ o, o ≠ 12 → M o = M0 o) ∧ ∀ s, s < 128 → (M 12 s ≠ 0 ↔ Tk (wH W) R i s)) 14 (fun i M hi hI => by
    obtain ⟨i1, i2⟩ := hI
    try dsimp only
    rw [s_Pairs_leftOut_32, if_neg (by omega), c_hasBit (by omega), bI_some, hB_nat, pu_inc (by omega)]
    by_cases q : R.testBit i = true
    · have hcM : CW w W M := CW_k hc (fun o ho => i1 o (by omega))
      obtain ⟨M', p1, p2, p3⟩ := c_pairRow (wH_128 h i) M
      rw [if_pos q, if_neg (by decide), c_hasOf hcM h, bI_some, p1, bV_none]
      refine ⟨M', ⟨fun o ho => by rw [p2 o ho, i1 o ho], fun s hs => ?_⟩, rfl⟩
      rw [p3 s hs, i2 s hs]
      show _ ↔ Tk (wH W) R i s ∨ _
      constructor
      · rintro (z | ⟨u, u1, u2, u3, u4⟩)
        · exact Or.inl z
        · exact Or.inr ⟨q, u, u1, u2, u3, (i2 _ (Nat.lt_of_le_of_lt (bdiff_le _ _) hs)).mp u4⟩
      · rintro (z | ⟨_, u, u1, u2, u3, u4⟩)
        · exact Or.inl z
        · exact Or.inr ⟨u, u1, u2, u3, (i2 _ (Nat.lt_of_le_of_lt (bdiff_le _ _) hs)).mpr u4⟩
    · rw [if_neg q, if_pos rfl]
      refine ⟨M, ⟨i1, fun s hs => ?_⟩, rfl⟩
      rw [i2 s hs]
      show _ ↔ Tk (wH W) R i s ∨ _
      constructor
      · exact Or.inl
      · rintro (z | ⟨z, _⟩)
        · exact z
        · exact absurd z q) 0 M1 (by omega) ⟨a1, fun s hs => a2 s hs⟩
  obtain ⟨M2, ⟨b1, b2⟩, b3⟩ := key
  try dsimp only at b3
  rw [show ((0 : Nat) : Int) = 0 from rfl] at b3
  rw [b3, s_Pairs_leftOut_32, if_pos (by omega), c_of hR16, bI_some, b1 11 (by omega), hP R hR]
  -- the sets with as many as there are PAIRS
  have key := pu_rel (S := Int) (G := fun i x => gA 34 73 [rv 3 10, rv 9 w, none, iv ((mu (wH W) 0 R : Nat) : Int), iv x, iv (i : Int)] [] M2) (I := fun i x => (x = 0 ∧ ∀ s, s < i → ¬ (Tk (wH W) R 14 s ∧ pop 7 s = mu (wH W) 0 R)) ∨ ∃ a : Nat, x = xor32 (a : Int) (-1) ∧ a < 128 ∧ ∀ k, a.testBit k = false ↔ k ≥ 7 ∨ ∃ s, s < i ∧ (Tk (wH W) R 14 s ∧ pop 7 s = mu (wH W) 0 R) ∧ s.testBit k = false) 128 (fun i x hi hI => by
    try dsimp only
    rw [s_Pairs_leftOut_73, if_neg (by omega), if_pos (by omega), pu_nn, pu_inc (by omega)]
    have skip : ¬ (Tk (wH W) R 14 i ∧ pop 7 i = mu (wH W) 0 R) → ((x = 0 ∧ ∀ s, s < i + 1 → ¬ (Tk (wH W) R 14 s ∧ pop 7 s = mu (wH W) 0 R)) ∨ ∃ a : Nat, x = xor32 (a : Int) (-1) ∧ a < 128 ∧ ∀ k, a.testBit k = false ↔ k ≥ 7 ∨ ∃ s, s < i + 1 ∧ (Tk (wH W) R 14 s ∧ pop 7 s = mu (wH W) 0 R) ∧ s.testBit k = false) := by
      intro hno
      rcases hI with ⟨x0, hx⟩ | ⟨a, a1, a2, a3⟩
      · refine Or.inl ⟨x0, fun s hs => ?_⟩
        by_cases e : s = i
        · rw [e]; exact hno
        · exact hx s (by omega)
      · refine Or.inr ⟨a, a1, a2, fun k => ?_⟩
        rw [a3 k]
        constructor
        · rintro (z | ⟨s, s1, s2, s3⟩)
          · exact Or.inl z
          · exact Or.inr ⟨s, by omega, s2, s3⟩
        · rintro (z | ⟨s, s1, s2, s3⟩)
          · exact Or.inl z
          · by_cases e : s = i
            · rw [e] at s2; exact absurd s2 hno
            · exact Or.inr ⟨s, by omega, s2, s3⟩
    by_cases hz : M2 12 i = 0
    · rw [if_pos hz]
      exact ⟨x, skip (fun z => (b2 i hi).mpr z.1 hz), rfl⟩
    · rw [if_neg hz, c_bitCount (by omega), bI_some, pop_ext (k := 7) hi (by omega)]
      have hT := (b2 i hi).mp hz
      by_cases hp : pop 7 i = mu (wH W) 0 R
      · rw [if_neg (by omega)]
        rcases hI with ⟨x0, hx⟩ | ⟨a, a1, a2, a3⟩
        · refine ⟨_, Or.inr ⟨i, ?_, hi, fun k => ?_⟩, rfl⟩
          · rw [x0, or_zero_not (by omega)]
          · constructor
            · intro z
              exact Or.inr ⟨i, by omega, ⟨hT, hp⟩, z⟩
            · rintro (z | ⟨s, s1, s2, s3⟩)
              · exact tb_lt (n := 7) hi z
              · by_cases e : s = i
                · rw [← e]; exact s3
                · exact absurd s2 (hx s (by omega))
        · refine ⟨_, Or.inr ⟨a &&& i, ?_, Nat.lt_of_le_of_lt Nat.and_le_left a2, fun k => ?_⟩, rfl⟩
          · rw [a1, or_not (by omega) (by omega)]
          · rw [Nat.testBit_and, Bool.and_eq_false_iff, a3 k]
            constructor
            · rintro ((z | ⟨s, s1, s2, s3⟩) | z)
              · exact Or.inl z
              · exact Or.inr ⟨s, by omega, s2, s3⟩
              · exact Or.inr ⟨i, by omega, ⟨hT, hp⟩, z⟩
            · rintro (z | ⟨s, s1, s2, s3⟩)
              · exact Or.inl (Or.inl z)
              · by_cases e : s = i
                · rw [e] at s3; exact Or.inr s3
                · exact Or.inl (Or.inr ⟨s, by omega, s2, s3⟩)
      · rw [if_pos (by omega)]
        exact ⟨x, skip (fun z => hp z.2), rfl⟩) 0 0 (by omega) (Or.inl ⟨rfl, fun s hs => by omega⟩)
  obtain ⟨x, x1, x2⟩ := key
  try dsimp only at x2
  rw [show ((0 : Nat) : Int) = 0 from rfl] at x2
  have hcM : CW w W M2 := CW_k hc (fun o ho => b1 o (by omega))
  rw [x2, s_Pairs_leftOut_73, if_pos (by omega), CW_0 hcM, (wf_U h).1, shl32_one (by omega)]
  refine ⟨M2, ?_, b1⟩
  have hpU := pow31 (show wU W < 31 by omega)
  have hp1 := Nat.two_pow_pos (wU W)
  rw [pu_w32 (by omega) (by omega), show ((2 ^ wU W : Nat) : Int) - 1 = ((2 ^ wU W - 1 : Nat) : Int) by omega]
  congr 3
  rcases x1 with ⟨x0, hx⟩ | ⟨a, a1, a2, a3⟩
  · obtain ⟨m, m1, m2⟩ := hK R (-1) hR
    rw [woB_neg] at m1 m2
    exact absurd ⟨match_Tk hR16 m1, m2⟩ (hx (Dm m) (bset_lt _ 7))
  · rw [a1, and_not_l (by omega) (by omega)]
    congr 1
    apply Nat.eq_of_testBit_eq
    intro k
    have hl := leftB_iff h hK (k := k) hR
    rw [bset_tb, bdiff_testBit, Nat.testBit_two_pow_sub_one]
    by_cases hk : k < wU W
    · rw [decide_eq_true hk, Bool.true_and, Bool.true_and]
      cases q : leftB W R k with
      | true =>
        obtain ⟨s, s1, s2, s3, s4⟩ := hl.mp q
        rw [(a3 k).mpr (Or.inr ⟨s, s1, ⟨s2, s3⟩, s4⟩)]
        rfl
      | false =>
        cases z : a.testBit k with
        | true => rfl
        | false =>
          rcases (a3 k).mp z with y | ⟨s, s1, s2, s3⟩
          · omega
          · rw [hl.mpr ⟨s, s1, s2.1, s2.2, s3⟩] at q
            cases q
    · rw [decide_eq_false hk, Bool.false_and, Bool.false_and]
end LO
