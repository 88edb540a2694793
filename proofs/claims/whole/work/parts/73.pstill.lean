/-! parts and still -/
noncomputable def prtA (W : mM) (f o : Int) : Int := if inR f (wF W) = true then (if inR o (wF W) = true then fstI (fun k => (gd (TN W) k).testBit (wFr W f.toNat) && !(gd (TN W) k).testBit (wFr W o.toNat)) (TN W).length (-2) else -1) else -1
theorem p_parts (f o : Int) : PureI Rel 144 231 [iv f, iv o] := by
  refine pure_qI (fun W => prtA W f o) (fun W tl tp pl M h _ hc => ?_) (fun W tl tp pl M h hr => ?_)
  · obtain ⟨w0, w20, hb0, _⟩ := id hc
    rw [e_GaugeNet_parts, hb0.2.1, pu_nn, c_isFault hb0.2.2.2.1 h, bI_some, ite01_0]
    unfold prtA
    by_cases z : inR f (wF W) = true
    · rw [if_pos z, if_pos z, hb0.2.1, pu_nn, c_isFault hb0.2.2.2.1 h, bI_some, ite01_n]
      by_cases y : inR o (wF W) = true
      · obtain ⟨M', a1, a2⟩ := c_makeReady hc h
        obtain ⟨w, w2, hb, h5, hP, hT⟩ := id a2
        have hcw := hb.2.2.2.1
        have hL := TL_len W
        have hn := net_lt h
        refine ⟨M', ?_, CY_CI a2⟩
        rw [if_pos y, if_pos y, a1, bV_none, hb.2.1, pu_nn, c_rowOf hcw h, bI_some, if_pos z, hb.2.1, pu_nn, c_rowOf hcw h, bI_some, if_pos y, hb.2.1, pu_nn, c_netNow hcw h, bI_some]
        generalize hra : wFr W f.toNat = ra
        generalize hro : wFr W o.toNat = ro
        have step : ∀ i, i < (TL W).length → (decide (bdiff (gd (TL W) i) (net W) = 0) && ((gd (TL W) i).testBit ra && !(gd (TL W) i).testBit ro)) = false → gA 144 62 [rv 10 0, none, none, iv (ra : Int), iv (ro : Int), iv (net W : Int), iv ((cnt (fun s => decide (bdiff s (net W) = 0)) (TL W) i : Nat) : Int), iv (i : Int)] [] M' = gA 144 62 [rv 10 0, none, none, iv (ra : Int), iv (ro : Int), iv (net W : Int), iv ((cnt (fun s => decide (bdiff s (net W) = 0)) (TL W) (i + 1) : Nat) : Int), iv ((i + 1 : Nat) : Int)] [] M' := by
          intro i hi hp
          have hcn := cnt_le (q := fun s => decide (bdiff s (net W) = 0)) (L := TL W) i (by omega)
          rw [s_GaugeNet_parts_62, hT.1, if_neg (by omega), c_isIn hT hi (by omega), bI_some, ite01_0, cnt_succ hi]
          by_cases v : decide (bdiff (gd (TL W) i) (net W) = 0) = true
          · rw [v, Bool.true_and] at hp
            rw [if_pos v, if_pos v, c_hasRow hT hi, bI_some, ite01_0, hB_nat, pu_inc (i := i) (by omega), pu_inc (by omega)]
            by_cases u : (gd (TL W) i).testBit ra = true
            · rw [u, Bool.true_and] at hp
              have hp2 : (gd (TL W) i).testBit ro = true := by
                cases q : (gd (TL W) i).testBit ro with
                | true => rfl
                | false => rw [q] at hp; cases hp
              rw [if_pos u, c_hasRow hT hi, bI_some, ite01_n, hB_nat, if_pos hp2]
            · rw [if_neg u]
          · rw [if_neg v, if_neg v, pu_inc (by omega), Nat.add_zero (cnt (fun s => decide (bdiff s (net W) = 0)) (TL W) i)]
        have up : ∀ N, N ≤ (TL W).length → (∀ i, i < N → (decide (bdiff (gd (TL W) i) (net W) = 0) && ((gd (TL W) i).testBit ra && !(gd (TL W) i).testBit ro)) = false) → gA 144 62 [rv 10 0, none, none, iv (ra : Int), iv (ro : Int), iv (net W : Int), iv 0, iv 0] [] M' = gA 144 62 [rv 10 0, none, none, iv (ra : Int), iv (ro : Int), iv (net W : Int), iv ((cnt (fun s => decide (bdiff s (net W) = 0)) (TL W) N : Nat) : Int), iv (N : Int)] [] M' := by
          intro N hN hp
          exact pu_up (fun i : Nat => gA 144 62 [rv 10 0, none, none, iv (ra : Int), iv (ro : Int), iv (net W : Int), iv ((cnt (fun s => decide (bdiff s (net W) = 0)) (TL W) i : Nat) : Int), iv (i : Int)] [] M') N (fun i hi => step i (by omega) (hp i hi))
        have back : ∀ N, N ≤ (TL W).length → (∀ i, i < N → (decide (bdiff (gd (TL W) i) (net W) = 0) && ((gd (TL W) i).testBit ra && !(gd (TL W) i).testBit ro)) = false) → ∀ j, j < cnt (fun s => decide (bdiff s (net W) = 0)) (TL W) N → ((gd (TN W) j).testBit ra && !(gd (TN W) j).testBit ro) = false := by
          intro N hN hp j hj
          obtain ⟨t, t1, t2, t3⟩ := nth_of hN hj
          have e := hp t t1
          have t2 : decide (bdiff (gd (TL W) t) (net W) = 0) = true := t2
          rw [t2, Bool.true_and] at e
          have t3 : gd (TN W) j = gd (TL W) t := t3
          rw [t3]
          exact e
        rcases pu_first (fun i => decide (bdiff (gd (TL W) i) (net W) = 0) && ((gd (TL W) i).testBit ra && !(gd (TL W) i).testBit ro)) (TL W).length with hno | ⟨t, t1, t2, t3⟩
        · rw [up _ (Nat.le_refl _) hno, s_GaugeNet_parts_62, hT.1, if_pos (by omega)]
          rw [← fstI_eq (x := -2) (Or.inr ⟨fun j hj => back _ (Nat.le_refl _) hno j (by rw [cnt_all]; exact hj), rfl⟩)]
        · rw [Bool.and_eq_true, Bool.and_eq_true] at t2
          obtain ⟨u1, u2, u3⟩ := t2
          have u4 : (gd (TL W) t).testBit ro = false := by
            cases q : (gd (TL W) t).testBit ro with
            | true => rw [q] at u3; cases u3
            | false => rfl
          obtain ⟨g1, g2⟩ := gd_cnt (q := fun s => decide (bdiff s (net W) = 0)) t1 u1
          have g1 : cnt (fun s => decide (bdiff s (net W) = 0)) (TL W) t < (TN W).length := g1
          have g2 : gd (TN W) (cnt (fun s => decide (bdiff s (net W) = 0)) (TL W) t) = gd (TL W) t := g2
          rw [up t (by omega) t3, s_GaugeNet_parts_62, hT.1, if_neg (by omega), c_isIn hT t1 (by omega), bI_some, ite01_0, if_pos u1, c_hasRow hT t1, bI_some, ite01_0, hB_nat, if_pos u2, c_hasRow hT t1, bI_some, ite01_n, hB_nat, u4, if_neg Bool.false_ne_true]
          rw [← fstI_eq (x := ((cnt (fun s => decide (bdiff s (net W) = 0)) (TL W) t : Nat) : Int)) (Or.inl ⟨_, g1, by
            show ((gd (TN W) _).testBit ra && !(gd (TN W) _).testBit ro) = true
            rw [g2, u2, u4]; rfl, back t (by omega) t3, rfl⟩)]
      · rw [if_neg y, if_neg y]
        exact ⟨M, rfl, hc⟩
    · rw [if_neg z, if_neg z]
      exact ⟨M, rfl, hc⟩
  · obtain ⟨lv, hb, _⟩ := id hr
    rw [e_GaugeNetModel_parts, r_isFault hb.1 h, bI_some, ite01_0]
    unfold prtA
    by_cases z : inR f (wF W) = true
    · rw [if_pos z, if_pos z, r_isFault hb.1 h, bI_some, ite01_n]
      by_cases y : inR o (wF W) = true
      · have z2 := inR_iff.mp z
        have y2 := inR_iff.mp y
        obtain ⟨φ, rfl⟩ : ∃ φ : Nat, f = (φ : Int) := ⟨f.toNat, by omega⟩
        obtain ⟨ω, rfl⟩ : ∃ ω : Nat, o = (ω : Int) := ⟨o.toNat, by omega⟩
        obtain ⟨M', a1, a2⟩ := r_seeks hr h
        obtain ⟨lv', b1, b2, b3⟩ := id a2
        have hL := TN_len W
        have hfr := (wf_frt h φ (by omega)).1
        have hor := (wf_frt h ω (by omega)).1
        refine ⟨M', ?_, RY_RI a2⟩
        rw [if_pos y, if_pos y, a1, bV_none, pu_nn, pu_nn]
        have one : ∀ i, i < (TN W).length → gA 231 24 [rv 11 100, iv (φ : Int), iv (ω : Int), iv (i : Int)] [] M' = if ((gd (TN W) i).testBit (wFr W φ) && !(gd (TN W) i).testBit (wFr W ω)) = true then some (iv (i : Int), M') else gA 231 24 [rv 11 100, iv (φ : Int), iv (ω : Int), iv ((i + 1 : Nat) : Int)] [] M' := by
          intro i hi
          have hs := TN_lt hi
          obtain ⟨s1, s2, s3⟩ := b3.2 i hi
          rw [s_GaugeNetModel_parts_24, b3.1, if_neg (by omega), if_pos (by omega), r_faultRow b1.1 h (by omega), bI_some, pu_nn, s1, pu_inc (by omega)]
          by_cases v : (gd (TN W) i).testBit (wFr W φ) = true
          · rw [if_neg (fun q => q ((and1_eq1 (by omega) (by omega)).mpr v)), if_pos (by omega), r_faultRow b1.1 h (by omega), bI_some, v, Bool.true_and]
            cases u : (gd (TN W) i).testBit (wFr W ω) with
            | true => rw [if_pos (fun q => by rw [and1_eq0 (by omega) (by omega)] at q; rw [q] at u; exact Bool.false_ne_true u)]; rfl
            | false => rw [if_neg (fun q => q ((and1_eq0 (by omega) (by omega)).mpr u))]; rfl
          · rw [if_pos (fun q => v ((and1_eq1 (by omega) (by omega)).mp q)), if_neg (by rw [Bool.and_eq_true]; exact fun q => v q.1)]
        rcases pu_first (fun k => (gd (TN W) k).testBit (wFr W φ) && !(gd (TN W) k).testBit (wFr W ω)) (TN W).length with hno | ⟨t, t1, t2, t3⟩
        · have key := pu_up (fun i : Nat => gA 231 24 [rv 11 100, iv (φ : Int), iv (ω : Int), iv (i : Int)] [] M') (TN W).length (fun i hi => by
            try dsimp only
            rw [one i hi, if_neg (by rw [hno i hi]; exact Bool.false_ne_true)])
          try dsimp only at key
          rw [show ((0 : Nat) : Int) = 0 from rfl] at key
          rw [key, s_GaugeNetModel_parts_24, b3.1, if_pos (by omega), ← fstI_eq (x := -2) (Or.inr ⟨hno, rfl⟩)]
        · have key := pu_up (fun i : Nat => gA 231 24 [rv 11 100, iv (φ : Int), iv (ω : Int), iv (i : Int)] [] M') t (fun i hi => by
            try dsimp only
            rw [one i (by omega), if_neg (by rw [t3 i hi]; exact Bool.false_ne_true)])
          try dsimp only at key
          rw [show ((0 : Nat) : Int) = 0 from rfl] at key
          rw [key, one t t1, if_pos t2, ← fstI_eq (x := (t : Int)) (Or.inl ⟨t, t1, t2, t3, rfl⟩)]
      · rw [if_neg y, if_neg y]
        exact ⟨M, rfl, hr⟩
    · rw [if_neg z, if_neg z]
      exact ⟨M, rfl, hr⟩
noncomputable def stlA (W : mM) (x : Int) : Int := if 0 ≤ x ∧ isRw W x.toNat = true then (((TN W).filter (fun s => !s.testBit x.toNat)).length : Int) else -1
theorem bd_two (s n r : Nat) : decide (bdiff s (bdiff n (2 ^ r)) = 0) = (decide (bdiff s n = 0) && !s.testBit r) := by
  cases z : s.testBit r with
  | true =>
    rw [Bool.not_true, Bool.and_false, decide_eq_false_iff_not, sbs_zero]
    intro q
    have := q r z
    rw [tb_del, decide_eq_true rfl] at this
    simp at this
  | false =>
    rw [Bool.not_false, Bool.and_true]
    apply decide_eq_decide.mpr
    rw [sbs_zero, sbs_zero]
    constructor
    · exact fun q => sbs_trans q (sbs_bdiff n _)
    · exact fun q => sub_del q z
theorem still_len (W : mM) (r : Nat) : ((TL W).filter (fun s => decide (bdiff s (bdiff (net W) (2 ^ r)) = 0))).length = ((TN W).filter (fun s => !s.testBit r)).length := by
  unfold TN
  rw [List.filter_filter]
  have e : (TL W).filter (fun s => decide (bdiff s (bdiff (net W) (2 ^ r)) = 0)) = (TL W).filter (fun s => (!s.testBit r) && decide (bdiff s (net W) = 0)) := List.filter_congr (fun s _ => by rw [bd_two, Bool.and_comm])
  rw [e]
theorem p_still (x : Int) (hx : okI x) : PureI Rel 171 275 [iv x] := by
  refine pure_qI (fun W => stlA W x) (fun W tl tp pl M h _ hc => ?_) (fun W tl tp pl M h hr => ?_)
  · obtain ⟨w0, w20, hb0, _⟩ := id hc
    rw [e_GaugeNet_still, hb0.2.1, pu_nn, c_isRow hb0.2.2.2.1 h hx, bI_some]
    unfold stlA
    by_cases z : 0 ≤ x ∧ isRw W x.toNat = true
    · obtain ⟨M', a1, a2⟩ := c_makeReady hc h
      obtain ⟨w, w2, hb, h5, hP, hT⟩ := id a2
      have hn := net_lt h
      obtain ⟨r, rfl⟩ : ∃ r : Nat, x = (r : Int) := ⟨x.toNat, by omega⟩
      rw [pu_nn] at z
      have hr14 := isRw_lt h z.2
      refine ⟨M', ?_, CY_CI a2⟩
      rw [pu_nn, if_pos z, if_pos (by omega), a1, bV_none, hb.2.1, pu_nn, c_netNow hb.2.2.2.1 h, bI_some, andnot1 (by omega) (by omega)]
      have hbd := bdiff_le (net W) (2 ^ r)
      rw [c_countIn hT (by omega), bI_some, if_pos z, still_len]
    · rw [if_neg z, if_neg (fun q => q rfl), if_neg z]
      exact ⟨M, rfl, hc⟩
  · obtain ⟨lv, hb, _⟩ := id hr
    rw [e_GaugeNetModel_still]
    unfold stlA
    have hE := (wf_E h).2
    have hG := (wf_G h).2
    by_cases n : x < 0
    · rw [if_pos n, if_neg (by omega)]
      exact ⟨M, rfl, hr⟩
    · obtain ⟨r, rfl⟩ : ∃ r : Nat, x = (r : Int) := ⟨x.toNat, by omega⟩
      have erow : (if (r : Int) < 8 then inR (r : Int) (wE W) else inR ((r : Int) - 8) (wG W)) = isRw W r := by
        by_cases q : r < 8
        · rw [if_pos (by omega), inR_nat]
          unfold isRw
          rw [decide_eq_false (show ¬ 8 ≤ r by omega), Bool.false_and, Bool.or_false]
        · rw [if_neg (by omega), show (r : Int) - 8 = ((r - 8 : Nat) : Int) by omega, inR_nat]
          unfold isRw
          rw [decide_eq_false (show ¬ r < wE W by omega), Bool.false_or, decide_eq_true (show 8 ≤ r by omega), Bool.true_and]
      rw [if_neg n, r_isRow hb.1 h hx, bI_some, erow, ite01_n, pu_nn]
      by_cases z : isRw W r = true
      · obtain ⟨M', a1, a2⟩ := r_seeks hr h
        obtain ⟨lv', b1, b2, b3⟩ := id a2
        have hL := TN_len W
        have hr14 := isRw_lt h z
        refine ⟨M', ?_, RY_RI a2⟩
        rw [if_pos z, a1, bV_none, if_pos ⟨by omega, z⟩]
        have key := pu_up (fun i : Nat => gA 275 22 [rv 11 100, iv (r : Int), iv ((cnt (fun s => !s.testBit r) (TN W) i : Nat) : Int), iv (i : Int)] [] M') (TN W).length (fun i hi => by
          have hs := TN_lt hi
          have hcn := cnt_le (q := fun s => !s.testBit r) (L := TN W) i (by omega)
          obtain ⟨s1, s2, s3⟩ := b3.2 i hi
          try dsimp only
          rw [s_GaugeNetModel_still_22, b3.1, if_neg (by omega), if_pos (by omega), pu_nn, s1, cnt_succ hi]
          cases v : (gd (TN W) i).testBit r with
          | true => rw [if_pos (fun q => by rw [and1_eq0 (by omega) (by omega)] at q; rw [q] at v; exact Bool.false_ne_true v), Bool.not_true, if_neg Bool.false_ne_true, pu_inc (by omega), Nat.add_zero (cnt (fun s => !s.testBit r) (TN W) i)]
          | false => rw [if_neg (fun q => q ((and1_eq0 (by omega) (by omega)).mpr v)), Bool.not_false, if_pos rfl, pu_inc (i := i) (by omega), pu_inc (by omega)])
        try dsimp only at key
        rw [cnt_0, cnt_all, show ((0 : Nat) : Int) = 0 from rfl] at key
        rw [key, s_GaugeNetModel_still_22, b3.1, if_pos (by omega)]
      · rw [if_neg z, if_neg (fun q => z q.2)]
        exact ⟨M, rfl, hr⟩
