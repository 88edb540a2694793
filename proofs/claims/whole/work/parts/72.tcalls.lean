/-! The calls on TESTS. -/
def isFst (p : Nat → Bool) (n : Nat) (d x : Int) : Prop := (∃ k, k < n ∧ p k = true ∧ (∀ i, i < k → p i = false) ∧ x = (k : Int)) ∨ ((∀ i, i < n → p i = false) ∧ x = d)
theorem isFst_ex (p : Nat → Bool) (n : Nat) (d : Int) : ∃ x, isFst p n d x := by
  rcases pu_first p n with h | ⟨k, h1, h2, h3⟩
  · exact ⟨d, Or.inr ⟨h, rfl⟩⟩
  · exact ⟨k, Or.inl ⟨k, h1, h2, h3, rfl⟩⟩
theorem isFst_one {p : Nat → Bool} {n : Nat} {d x y : Int} (h : isFst p n d x) (h' : isFst p n d y) : x = y := by
  rcases h with ⟨k, a, b, c, e⟩ | ⟨a, e⟩
  · rcases h' with ⟨k', a', b', c', e'⟩ | ⟨a', e'⟩
    · have : k = k' := by
        rcases Nat.lt_trichotomy k k' with z | z | z
        · rw [c' k z] at b; cases b
        · exact z
        · rw [c k' z] at b'; cases b'
      rw [e, e', this]
    · rw [a' k a] at b; cases b
  · rcases h' with ⟨k', a', b', c', e'⟩ | ⟨a', e'⟩
    · rw [a k' a'] at b'; cases b'
    · rw [e, e']
noncomputable def fstI (p : Nat → Bool) (n : Nat) (d : Int) : Int := Classical.choose (isFst_ex p n d)
theorem fstI_eq {p : Nat → Bool} {n : Nat} {d x : Int} (h : isFst p n d x) : x = fstI p n d := isFst_one h (Classical.choose_spec (isFst_ex p n d))
theorem nth_of {q : Nat → Bool} {L : List Nat} {n i : Nat} (hn : n ≤ L.length) (hi : i < cnt q L n) : ∃ t, t < n ∧ q (gd L t) = true ∧ gd (L.filter q) i = gd L t := by
  obtain ⟨t, t1, t2, t3⟩ := cnt_find n hn hi
  refine ⟨t, t1, t2, ?_⟩
  rw [← t3]
  exact (gd_cnt (by omega) t2).2
section TC
variable {W : mM} {tl : Nat} {tp : Nat → Int} {pl : Int} {M : mM}
theorem c_readyId (h : M 0 5 = 1) : gC 138 [rv 10 0] M = some (none, M) := by
  rw [e_GaugeNet_makeReady, if_pos (by omega)]
theorem c_testAtY {w w2 : Nat} (hb : CB w w2 W tl tp pl M) (h5 : M 0 5 = 1) (hT : TR W M) (h : WF W) (x : Int) : (∃ t i, t < (TL W).length ∧ i < (TN W).length ∧ x = ((i : Nat) : Int) ∧ gd (TL W) t = gd (TN W) i ∧ gC 143 [rv 10 0, iv x] M = some (iv (t : Int), M)) ∨ (isTst W x = false ∧ gC 143 [rv 10 0, iv x] M = some (iv (-1), M)) := by
  rw [e_GaugeNet_testAt, c_readyId h5, bV_none, hb.2.1, pu_nn, c_netNow hb.2.2.2.1 h, bI_some]
  rcases c_findN hT h x with ⟨t, i, t1, t2, t3, t4, t5⟩ | ⟨q1, q2⟩
  · refine Or.inl ⟨t, i, t1, t2, t3, t4, ?_⟩
    rw [t5, bI_some]
  · refine Or.inr ⟨q1, ?_⟩
    rw [q2, bI_some]
theorem c_testAt (hc : CI W tl tp pl M) (h : WF W) (x : Int) : ∃ M', CY W tl tp pl M' ∧ ((∃ t i, t < (TL W).length ∧ i < (TN W).length ∧ x = ((i : Nat) : Int) ∧ gd (TL W) t = gd (TN W) i ∧ gC 143 [rv 10 0, iv x] M = some (iv (t : Int), M')) ∨ (isTst W x = false ∧ gC 143 [rv 10 0, iv x] M = some (iv (-1), M'))) := by
  obtain ⟨M', a1, a2⟩ := c_makeReady hc h
  refine ⟨M', a2, ?_⟩
  obtain ⟨w, w2, hb, h5, hP, hT⟩ := id a2
  have e : gC 143 [rv 10 0, iv x] M = gC 143 [rv 10 0, iv x] M' := by
    rw [e_GaugeNet_testAt, a1, bV_none, e_GaugeNet_testAt, c_readyId h5, bV_none]
  rw [e]
  exact c_testAtY hb h5 hT h x
theorem c_runningTestAt (hc : CI W tl tp pl M) (h : WF W) (x : Int) : ∃ M', CZ W tl tp pl M' ∧ ((∃ t i, t < (TL W).length ∧ i < (TN W).length ∧ x = ((i : Nat) : Int) ∧ gd (TL W) t = gd (TN W) i ∧ cr W (gd (TN W) i) = true ∧ M' 15 t ≠ 0 ∧ gC 160 [rv 10 0, iv x] M = some (iv (t : Int), M')) ∨ (isRun W x = false ∧ gC 160 [rv 10 0, iv x] M = some (iv (-1), M'))) := by
  obtain ⟨M', a1, a2⟩ := c_makeWeighed hc h
  refine ⟨M', a2, ?_⟩
  obtain ⟨w, w2, hb, h5, hP, hT, hZ⟩ := id a2
  rw [e_GaugeNet_runningTestAt, a1, bV_none, hb.2.1, pu_nn, c_netNow hb.2.2.2.1 h, bI_some]
  rcases c_findN hT h x with ⟨t, i, t1, t2, t3, t4, t5⟩ | ⟨q1, q2⟩
  · have hz : M' 15 t ≠ 0 := hZ t t1 (by rw [t4]; exact sbs_zero.mpr (TN_net t2))
    rw [t5, bI_some, c_canRun hT t1 hz, bI_some, ite01_0, t4]
    by_cases z : cr W (gd (TN W) i) = true
    · rw [if_pos z]
      exact Or.inl ⟨t, i, t1, t2, t3, t4, z, hz, rfl⟩
    · rw [if_neg z]
      refine Or.inr ⟨?_, rfl⟩
      unfold isRun
      rw [t3, pu_nn, inR_nat, decide_eq_true t2, Bool.true_and]
      rw [Bool.not_eq_true] at z
      exact z
  · rw [q2, bI_some, c_canRun_no, bI_some, if_pos rfl]
    refine Or.inr ⟨?_, rfl⟩
    unfold isRun
    rw [q1, Bool.false_and]
end TC
theorem p_tests : PureI Rel 141 222 [] := by
  refine pure_qI (fun W => ((TN W).length : Int)) (fun W tl tp pl M h _ hc => ?_) (fun W tl tp pl M h hr => ?_)
  · obtain ⟨M', a1, a2⟩ := c_makeReady hc h
    obtain ⟨w, w2, hb, h5, hP, hT⟩ := id a2
    have hn := net_lt h
    refine ⟨M', ?_, CY_CI a2⟩
    rw [e_GaugeNet_tests, a1, bV_none, hb.2.1, pu_nn, c_netNow hb.2.2.2.1 h, bI_some, c_countIn hT (by omega), bI_some]
    rfl
  · obtain ⟨M', a1, a2⟩ := r_seeks hr h
    obtain ⟨lv, b1, b2, b3⟩ := id a2
    refine ⟨M', ?_, RY_RI a2⟩
    rw [e_GaugeNetModel_tests, a1, bV_none, b3.1]
theorem p_test (x : Int) : PureI Rel 142 229 [iv x] := by
  refine pure_qI (fun W => if isTst W x = true then (gd (TN W) x.toNat : Int) else -1) (fun W tl tp pl M h _ hc => ?_) (fun W tl tp pl M h hr => ?_)
  · obtain ⟨M', a2, a3⟩ := c_testAt hc h x
    obtain ⟨w, w2, hb, h5, hP, hT⟩ := id a2
    refine ⟨M', ?_, CY_CI a2⟩
    rw [e_GaugeNet_test]
    rcases a3 with ⟨t, i, t1, t2, t3, t4, t5⟩ | ⟨q1, q2⟩
    · have e : isTst W x = true := by
        unfold isTst
        rw [t3, inR_nat]
        exact decide_eq_true t2
      rw [t5, bI_some, c_rowsOf hT t t1, bI_some, if_pos e, t4, t3, pu_nn]
    · rw [q2, bI_some, c_rowsOf_no _ (by omega), bI_some, q1, if_neg Bool.false_ne_true]
  · obtain ⟨M', a1, a2⟩ := r_isTest hr h x
    obtain ⟨lv, b1, b2, b3⟩ := id a2
    have hL := TN_len W
    refine ⟨M', ?_, RY_RI a2⟩
    rw [e_GaugeNetModel_test, a1, bI_some, ite01_0]
    by_cases z : isTst W x = true
    · have z2 := inR_iff.mp z
      rw [if_pos z, if_pos z, if_pos (by omega), (b3.2 x.toNat (by omega)).1]
    · rw [if_neg z, if_neg z]
noncomputable def runA (W : mM) (x : Int) : Int := if isTst W x = true then (if cr W (gd (TN W) x.toNat) = true then 1 else 0) else -1
theorem p_runs (x : Int) : PureI Rel 156 252 [iv x] := by
  refine pure_qI (fun W => runA W x) (fun W tl tp pl M h _ hc => ?_) (fun W tl tp pl M h hr => ?_)
  · obtain ⟨M', a1, a2⟩ := c_makeWeighed hc h
    obtain ⟨w, w2, hb, h5, hP, hT, hZ⟩ := id a2
    refine ⟨M', ?_, CZ_CI a2⟩
    rw [e_GaugeNet_runs, a1, bV_none]
    unfold runA
    rcases c_testAtY hb h5 hT h x with ⟨t, i, t1, t2, t3, t4, t5⟩ | ⟨q1, q2⟩
    · have e : isTst W x = true := by
        unfold isTst
        rw [t3, inR_nat]
        exact decide_eq_true t2
      have hz : M' 15 t ≠ 0 := hZ t t1 (by rw [t4]; exact sbs_zero.mpr (TN_net t2))
      rw [t5, bI_some, if_pos (by omega), c_canRun hT t1 hz, bI_some, ite01_0, if_pos e, t3, pu_nn, t4]
      split <;> rfl
    · rw [q2, bI_some, if_neg (fun z => z rfl), q1, if_neg Bool.false_ne_true]
  · obtain ⟨M', a1, a2⟩ := r_isTest hr h x
    obtain ⟨lv, b1, b2, b3⟩ := id a2
    have hL := TN_len W
    refine ⟨M', ?_, RY_RI a2⟩
    rw [e_GaugeNetModel_runs, a1, bI_some, ite01_n]
    unfold runA
    by_cases z : isTst W x = true
    · have z2 := inR_iff.mp z
      rw [if_pos z, if_pos z, if_pos (by omega), (b3.2 x.toNat (by omega)).2.1, ite01_0]
      split <;> rfl
    · rw [if_neg z, if_neg z]
theorem isRun_no {W : mM} {x : Int} : isRun W x = true → isTst W x = true ∧ x = ((x.toNat : Nat) : Int) ∧ x.toNat < (TN W).length ∧ cr W (gd (TN W) x.toNat) = true := by
  intro h
  unfold isRun at h
  rw [Bool.and_eq_true] at h
  have h2 := inR_iff.mp h.1
  exact ⟨h.1, by omega, by omega, h.2⟩
theorem isRun_of {W : mM} {i : Nat} (h1 : i < (TN W).length) (h2 : cr W (gd (TN W) i) = true) : isRun W (i : Int) = true := isRun_iff.mpr ⟨i, h1, rfl, h2⟩
theorem p_weight (x r : Int) : PureJ Rel 159 253 [iv x, iv r] := by
  refine pure_qJ (fun W => if isRun W x = true then (if hB (gd (TN W) x.toNat) r = true then wt W (gd (TN W) x.toNat) r.toNat else -1000000000000) else -1000000000000) (fun W tl tp pl M h _ hc => ?_) (fun W tl tp pl M h hr => ?_)
  · obtain ⟨M', a2, a3⟩ := c_runningTestAt hc h x
    obtain ⟨w, w2, hb, h5, hP, hT, hZ⟩ := id a2
    refine ⟨M', ?_, CZ_CI a2⟩
    rw [e_GaugeNet_weight]
    rcases a3 with ⟨t, i, t1, t2, t3, t4, t5, t6, t7⟩ | ⟨q1, q2⟩
    · rw [t7, bI_some, c_hasRow hT t1, bI_some, ite01_0, t3, isRun_of t2 t5, if_pos rfl, pu_nn, t4]
      by_cases z : hB (gd (TN W) i) r = true
      · have z' := z
        unfold hB at z
        rw [Bool.and_eq_true, decide_eq_true_iff] at z
        obtain ⟨ρ, rfl⟩ : ∃ ρ : Nat, r = (ρ : Int) := ⟨r.toNat, by omega⟩
        rw [pu_nn] at z
        have hρ : ρ < 14 := (TN_row t2 z.2).1
        rw [if_pos z', if_pos z', c_weightOf hT t1 t6 hρ, bJ_some, t4, pu_nn]
      · rw [if_neg z, if_neg z]
    · rw [q2, bI_some, c_hasRow_no, bI_some, if_pos rfl, q1, if_neg Bool.false_ne_true]
  · obtain ⟨M', a1, a2⟩ := r_isRun hr h x
    obtain ⟨lv, b1, b2, b3⟩ := id a2
    have hL := TN_len W
    refine ⟨M', ?_, RY_RI a2⟩
    rw [e_GaugeNetModel_weight, a1, bI_some, ite01_0]
    by_cases z : isRun W x = true
    · obtain ⟨u1, u2, u3, u4⟩ := isRun_no z
      obtain ⟨s1, s2, s3⟩ := b3.2 x.toNat u3
      have hs := TN_lt u3
      rw [if_pos z, if_pos z, r_inRange, bI_some]
      by_cases y : 0 ≤ r ∧ r ≤ 13
      · obtain ⟨ρ, rfl⟩ : ∃ ρ : Nat, r = (ρ : Int) := ⟨r.toNat, by omega⟩
        rw [if_pos y, if_neg (by omega), if_pos (by omega), s1, hB_nat, pu_nn]
        by_cases v : (gd (TN W) x.toNat).testBit ρ = true
        · have ea : w32 (w32 (14 * x) + (ρ : Int)) = ((14 * x.toNat + ρ : Nat) : Int) := by rw [u2, pu_nn, w32_14 (by omega) (by omega)]
          rw [if_pos (fun q => by rw [and1_eq0 (by omega) (by omega)] at q; rw [q] at v; exact Bool.false_ne_true v), ea, if_pos (by omega), pu_nn, s3 ρ (by omega), if_pos v]
        · rw [if_neg (fun q => q ((and1_eq0 (by omega) (by omega)).mpr (by rw [Bool.not_eq_true] at v; exact v))), if_neg v]
      · rw [if_neg y, if_pos rfl, if_neg (fun v => by
          unfold hB at v
          rw [Bool.and_eq_true, decide_eq_true_iff] at v
          have := (TN_row u3 v.2).1
          omega)]
    · rw [if_neg z, if_neg z]
theorem p_nought (x : Int) : PureJ Rel 161 255 [iv x] := by
  refine pure_qJ (fun W => if isRun W x = true then nou W (gd (TN W) x.toNat) else -1000000000000000) (fun W tl tp pl M h _ hc => ?_) (fun W tl tp pl M h hr => ?_)
  · obtain ⟨M', a2, a3⟩ := c_runningTestAt hc h x
    obtain ⟨w, w2, hb, h5, hP, hT, hZ⟩ := id a2
    refine ⟨M', ?_, CZ_CI a2⟩
    rw [e_GaugeNet_nought]
    rcases a3 with ⟨t, i, t1, t2, t3, t4, t5, t6, t7⟩ | ⟨q1, q2⟩
    · rw [t7, bI_some, if_pos (by omega), hb.2.1, pu_nn, c_noughtOf hb.2.2.2.1 h hT t1 t6, bJ_some, t3, isRun_of t2 t5, if_pos rfl, pu_nn, t4]
    · rw [q2, bI_some, if_neg (fun z => z rfl), q1, if_neg Bool.false_ne_true]
  · obtain ⟨M', a1, a2⟩ := r_isRun hr h x
    obtain ⟨lv, b1, b2, b3⟩ := id a2
    refine ⟨M', ?_, RY_RI a2⟩
    rw [e_GaugeNetModel_nought, a1, bI_some, ite01_0]
    by_cases z : isRun W x = true
    · obtain ⟨u1, u2, u3, u4⟩ := isRun_no z
      rw [if_pos z, if_pos z, u2, r_noughtOf b1.1 b3 h u3, bJ_some, pu_nn]
    · rw [if_neg z, if_neg z]
theorem p_bound (x : Int) : PureJ Rel 162 257 [iv x] := by
  refine pure_qJ (fun W => if isRun W x = true then (bnd W (gd (TN W) x.toNat) : Int) else -1) (fun W tl tp pl M h _ hc => ?_) (fun W tl tp pl M h hr => ?_)
  · obtain ⟨M', a2, a3⟩ := c_runningTestAt hc h x
    obtain ⟨w, w2, hb, h5, hP, hT, hZ⟩ := id a2
    refine ⟨M', ?_, CZ_CI a2⟩
    rw [e_GaugeNet_bound]
    rcases a3 with ⟨t, i, t1, t2, t3, t4, t5, t6, t7⟩ | ⟨q1, q2⟩
    · rw [t7, bI_some, if_pos (by omega), hb.2.1, pu_nn, c_boundOf hb.2.2.2.1 h hT t1 t6, bJ_some, t3, isRun_of t2 t5, if_pos rfl, pu_nn, t4]
    · rw [q2, bI_some, if_neg (fun z => z rfl), q1, if_neg Bool.false_ne_true]
  · obtain ⟨M', a1, a2⟩ := r_isRun hr h x
    obtain ⟨lv, b1, b2, b3⟩ := id a2
    refine ⟨M', ?_, RY_RI a2⟩
    rw [e_GaugeNetModel_bound, a1, bI_some, ite01_0]
    by_cases z : isRun W x = true
    · obtain ⟨u1, u2, u3, u4⟩ := isRun_no z
      rw [if_pos z, if_pos z, u2, r_boundOf b1.1 b3 h u3, bJ_some, pu_nn]
    · rw [if_neg z, if_neg z]
theorem p_rings (x : Int) : PureI Rel 163 260 [iv x] := by
  refine pure_qI (fun W => if isRun W x = true then (if rng W (gd (TN W) x.toNat) = true then 1 else 0) else -1) (fun W tl tp pl M h _ hc => ?_) (fun W tl tp pl M h hr => ?_)
  · obtain ⟨M', a2, a3⟩ := c_runningTestAt hc h x
    obtain ⟨w, w2, hb, h5, hP, hT, hZ⟩ := id a2
    refine ⟨M', ?_, CZ_CI a2⟩
    rw [e_GaugeNet_rings]
    rcases a3 with ⟨t, i, t1, t2, t3, t4, t5, t6, t7⟩ | ⟨q1, q2⟩
    · rw [t7, bI_some, if_pos (by omega), hb.2.1, pu_nn, c_isRinging hb.2.2.2.1 h hT t1 t6, bI_some, ite01_0, t3, isRun_of t2 t5, if_pos rfl, pu_nn, t4]
      split <;> rfl
    · rw [q2, bI_some, if_neg (fun z => z rfl), q1, if_neg Bool.false_ne_true]
  · obtain ⟨M', a1, a2⟩ := r_isRun hr h x
    obtain ⟨lv, b1, b2, b3⟩ := id a2
    refine ⟨M', ?_, RY_RI a2⟩
    rw [e_GaugeNetModel_rings, a1, bI_some, ite01_n]
    by_cases z : isRun W x = true
    · obtain ⟨u1, u2, u3, u4⟩ := isRun_no z
      rw [if_pos z, if_pos z, u2, r_isRinging b1.1 b3 h u3, bI_some, ite01_0, pu_nn]
      split <;> rfl
    · rw [if_neg z, if_neg z]
def frmA (W : mM) (s r : Nat) : Int := if (wt W s r).natAbs = 0 then -2 else w64 (w64 ((w64 (2 * (bnd W s : Int))).tdiv ((wt W s r).natAbs : Int)) + 1)
theorem p_from (x f : Int) : PureJ Rel 164 262 [iv x, iv f] := by
  refine pure_qJ (fun W => if isRun W x = true then (if inR f (wF W) = true then frmA W (gd (TN W) x.toNat) (wFr W f.toNat) else -1) else -1) (fun W tl tp pl M h _ hc => ?_) (fun W tl tp pl M h hr => ?_)
  · obtain ⟨M', a2, a3⟩ := c_runningTestAt hc h x
    obtain ⟨w, w2, hb, h5, hP, hT, hZ⟩ := id a2
    have hcw := hb.2.2.2.1
    refine ⟨M', ?_, CZ_CI a2⟩
    rw [e_GaugeNet_from]
    rcases a3 with ⟨t, i, t1, t2, t3, t4, t5, t6, t7⟩ | ⟨q1, q2⟩
    · rw [t7, bI_some, if_neg (by omega), hb.2.1, pu_nn, c_isFault hcw h, bI_some, ite01_n, t3, isRun_of t2 t5, if_pos rfl, pu_nn]
      by_cases z : inR f (wF W) = true
      · have z2 := inR_iff.mp z
        have hfr := (wf_frt h f.toNat (by omega)).1
        have hwa := wt_abs h (gd (TL W) t) (wFr W f.toNat)
        rw [if_pos z, if_pos z, hb.2.1, pu_nn, c_rowOf hcw h, bI_some, if_pos z, c_weightOf hT t1 t6 hfr, bJ_some, abs64_nat (by omega)]
        unfold frmA
        by_cases y : (wt W (gd (TN W) i) (wFr W f.toNat)).natAbs = 0
        · rw [t4, if_neg (fun q => q (lcmp_0.mpr (by omega))), if_pos y]
        · rw [t4, if_pos (fun q => y (by have := lcmp_0.mp q; omega)), hb.2.1, pu_nn, c_boundOf hcw h hT t1 t6, bJ_some, if_neg (by omega), if_neg y, t4]
      · rw [if_neg z, if_neg z]
    · rw [q2, bI_some, if_pos rfl, q1, if_neg Bool.false_ne_true]
  · obtain ⟨M', a1, a2⟩ := r_isRun hr h x
    obtain ⟨lv, b1, b2, b3⟩ := id a2
    refine ⟨M', ?_, RY_RI a2⟩
    rw [e_GaugeNetModel_from, a1, bI_some, ite01_0]
    by_cases z : isRun W x = true
    · obtain ⟨u1, u2, u3, u4⟩ := isRun_no z
      rw [if_pos z, if_pos z, r_isFault b1.1 h, bI_some, ite01_n]
      by_cases y : inR f (wF W) = true
      · have y2 := inR_iff.mp y
        obtain ⟨φ, rfl⟩ : ∃ φ : Nat, f = (φ : Int) := ⟨f.toNat, by omega⟩
        have hwa := wt_abs h (gd (TN W) x.toNat) (wFr W φ)
        rw [if_pos y, if_pos y, u2, r_weightIn b1.1 b3 h u3 (by omega), bJ_some, r_size (by omega), bJ_some, pu_nn, pu_nn]
        unfold frmA
        by_cases v : (wt W (gd (TN W) x.toNat) (wFr W φ)).natAbs = 0
        · rw [if_neg (fun q => q (lcmp_0.mpr (by omega))), if_pos v]
        · rw [if_pos (fun q => v (by have := lcmp_0.mp q; omega)), r_boundOf b1.1 b3 h u3, bJ_some, if_neg (by omega), if_neg v]
      · rw [if_neg y, if_neg y]
    · rw [if_neg z, if_neg z]
