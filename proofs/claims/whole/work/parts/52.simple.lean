/-! The plain calls: tape, place, what is set, numbers. -/
section PQ
variable {mC mR : Nat} {as : List mV}
theorem pure_qI (f : mM → Int) (hC : ∀ W tl tp pl M, WF W → KM W → CI W tl tp pl M → ∃ M', gC mC (rv 10 0 :: as) M = some (iv (f W), M') ∧ CI W tl tp pl M') (hR : ∀ W tl tp pl M, WF W → RI W tl tp pl M → ∃ M', gC mR (rv 11 100 :: as) M = some (iv (f W), M') ∧ RI W tl tp pl M') : PureI Rel mC mR as := by
  rintro MC MR ⟨W, tl, tp, pl, h, ht, hc, hr⟩
  obtain ⟨lv, hr1, _⟩ := id hr
  obtain ⟨MC', c1, c2⟩ := hC W tl tp pl MC h (KM_of hr1.1 h) hc
  obtain ⟨MR', r1, r2⟩ := hR W tl tp pl MR h hr
  exact ⟨f W, MC', MR', c1, r1, W, tl, tp, pl, h, ht, c2, r2⟩
theorem pure_qJ (f : mM → Int) (hC : ∀ W tl tp pl M, WF W → KM W → CI W tl tp pl M → ∃ M', gC mC (rv 10 0 :: as) M = some (jv (f W), M') ∧ CI W tl tp pl M') (hR : ∀ W tl tp pl M, WF W → RI W tl tp pl M → ∃ M', gC mR (rv 11 100 :: as) M = some (jv (f W), M') ∧ RI W tl tp pl M') : PureJ Rel mC mR as := by
  rintro MC MR ⟨W, tl, tp, pl, h, ht, hc, hr⟩
  obtain ⟨lv, hr1, _⟩ := id hr
  obtain ⟨MC', c1, c2⟩ := hC W tl tp pl MC h (KM_of hr1.1 h) hc
  obtain ⟨MR', r1, r2⟩ := hR W tl tp pl MR h hr
  exact ⟨f W, MC', MR', c1, r1, W, tl, tp, pl, h, ht, c2, r2⟩
end PQ
/-! net, place, number, cost, count -/
theorem p_net : PureI Rel 136 211 [] := by
  refine pure_qI (fun W => (net W : Int)) (fun W tl tp pl M h _ hc => ?_) (fun W tl tp pl M h hr => ?_)
  · obtain ⟨w, w2, hb, _⟩ := id hc
    rw [e_GaugeNet_net, hb.2.1, pu_nn, c_netNow hb.2.2.2.1 h, bI_some]
    exact ⟨M, rfl, hc⟩
  · obtain ⟨lv, hb, _⟩ := id hr
    rw [e_GaugeNetModel_net, r_netNow hb.1 h, bI_some]
    exact ⟨M, rfl, hr⟩
theorem p_place : PureI Rel 130 202 [] := by
  rintro MC MR ⟨W, tl, tp, pl, h, ht, hc, hr⟩
  obtain ⟨w, w2, hb, _⟩ := id hc
  obtain ⟨lv, hb2, _⟩ := id hr
  refine ⟨pl, MC, MR, ?_, ?_, W, tl, tp, pl, h, ht, hc, hr⟩
  · rw [e_GaugeNet_place, hb.2.2.2.2.2]
  · rw [e_GaugeNetModel_place, hb2.2.2.1]
def numA (W : mM) (e u : Int) : Int := if inR e (wE W) = true then (if u = -1 then W 2 e.toNat else if inR u (wU W) = true then W 1 (e.toNat * 7 + u.toNat) else -10000) else -10000
theorem p_number (e u : Int) : PureI Rel 135 210 [iv e, iv u] := by
  refine pure_qI (fun W => numA W e u) (fun W tl tp pl M h _ hc => ?_) (fun W tl tp pl M h hr => ?_)
  · obtain ⟨w, w2, hb, _⟩ := id hc
    have hE := (wf_E h).2
    have hU := (wf_U h).2
    have hcw := hb.2.2.2.1
    refine ⟨M, ?_, hc⟩
    unfold numA
    rw [e_GaugeNet_number, hb.2.1, pu_nn, c_isEq hcw h, bI_some, ite01_n]
    by_cases q : inR e (wE W) = true
    · have q2 := inR_iff.mp q
      obtain ⟨k, rfl⟩ : ∃ k : Nat, e = (k : Int) := ⟨e.toNat, by omega⟩
      rw [if_pos q, if_pos q, pu_nn]
      by_cases z : u = -1
      · rw [if_neg (fun y => y z), if_pos (by omega), if_pos z, hb.2.1, pu_nn, CW_j hcw 2 (by omega)]
      · rw [if_pos z, if_neg z, hb.2.1, pu_nn, c_isUnknown hcw h, bI_some, ite01_0]
        by_cases y : inR u (wU W) = true
        · have y2 := inR_iff.mp y
          obtain ⟨v, rfl⟩ : ∃ v : Nat, u = (v : Int) := ⟨u.toNat, by omega⟩
          rw [if_pos y, if_pos y, hb.2.1, pu_nn, c_numberIn hcw h k v (by omega) (by omega), bI_some, pu_nn]
        · rw [if_neg y, if_neg y]
    · rw [if_neg q, if_neg q]
  · obtain ⟨lv, hb, _⟩ := id hr
    have hrw := hb.1
    have hE := (wf_E h).2
    have hU := (wf_U h).2
    have hl := rw_lv hrw
    refine ⟨M, ?_, hr⟩
    unfold numA
    rw [e_GaugeNetModel_number, if_pos (rw_in hrw), rw_live hrw, pu_nn, rw_E hrw, (wf_E h).1, pu_w32 (x := (wE W : Int) - 1) (by omega) (by omega), r_inRange, bI_some, ifR, ite01_0]
    by_cases q : inR e (wE W) = true
    · have q2 := inR_iff.mp q
      obtain ⟨k, rfl⟩ : ∃ k : Nat, e = (k : Int) := ⟨e.toNat, by omega⟩
      rw [if_pos q, if_pos q, pu_nn]
      have e1 : ∀ x : Nat, x < 9 → w32 (w32 (9 * w32 (w32 (8 * (lv : Int)) + (k : Int))) + (x : Int)) = ((9 * (8 * lv + k) + x : Nat) : Int) := by
        intro x hx
        rw [pu_w32 (x := 8 * (lv : Int)) (by omega) (by omega), pu_w32 (x := 8 * (lv : Int) + (k : Int)) (by omega) (by omega), pu_w32 (x := 9 * (8 * (lv : Int) + (k : Int))) (by omega) (by omega), pu_w32 (by omega) (by omega)]
        omega
      rw [rw_live hrw]
      by_cases z : u = -1
      · rw [if_pos z, if_neg (fun y => y z), show (8 : Int) = ((8 : Nat) : Int) from rfl]
        rw [show ((8 : Nat) : Int) * (lv : Int) = 8 * (lv : Int) from rfl, e1 8 (by omega), if_pos (by omega), pu_nn, rw_con hrw k (by omega), if_pos z]
      · rw [if_neg z, if_neg z, if_pos (by omega), pu_nn, rw_U hrw, (wf_U h).1, pu_w32 (x := (wU W : Int) - 1) (by omega) (by omega), r_inRange, bI_some, ifR, ite01_n]
        by_cases y : inR u (wU W) = true
        · have y2 := inR_iff.mp y
          obtain ⟨v, rfl⟩ : ∃ v : Nat, u = (v : Int) := ⟨u.toNat, by omega⟩
          rw [if_pos y, if_pos y, if_pos z, rw_live hrw, e1 v (by omega), if_pos (by omega), pu_nn, pu_nn, rw_num hrw k v (by omega) (by omega)]
        · rw [if_neg y, if_neg y]
    · rw [if_neg q, if_neg q]
theorem p_cost (x : Int) : PureI Rel 151 240 [iv x] := by
  refine pure_qI (fun W => if inR x (2 ^ wG W) = true then ((costW W x.toNat : Nat) : Int) else -1) (fun W tl tp pl M h _ hc => ?_) (fun W tl tp pl M h hr => ?_)
  · obtain ⟨w, w2, hb, _⟩ := id hc
    have hcw := hb.2.2.2.1
    have hG := (wf_G h).2
    have h64 := wf_G64 h
    refine ⟨M, ?_, hc⟩
    rw [e_GaugeNet_cost, hb.2.1, pu_nn, CW_0 hcw, (wf_G h).1, shl32_one (by omega)]
    try dsimp only
    by_cases q : inR x (2 ^ wG W) = true
    · have q2 := inR_iff.mp q
      obtain ⟨k, rfl⟩ : ∃ k : Nat, x = (k : Int) := ⟨x.toNat, by omega⟩
      rw [if_pos q, if_neg (by omega), if_pos q2.2, c_costOf hcw h (by omega), bI_some, pu_nn]
    · rw [if_neg q]
      by_cases z : x < 0
      · rw [if_pos z]
      · rw [if_neg z, if_neg (fun y => q (inR_iff.mpr ⟨by omega, y⟩))]
  · obtain ⟨lv, hb, _⟩ := id hr
    have hrw := hb.1
    have hG := (wf_G h).2
    have h64 := wf_G64 h
    refine ⟨M, ?_, hr⟩
    rw [e_GaugeNetModel_cost]
    try dsimp only
    by_cases z : x < 0
    · rw [if_pos z, if_neg (fun y => by have := (inR_iff.mp y).1; omega)]
    · rw [if_neg z, if_pos (rw_in hrw), rw_live hrw, pu_nn, rw_G hrw, (wf_G h).1, shl32_one (by omega)]
      by_cases q : inR x (2 ^ wG W) = true
      · have q2 := inR_iff.mp q
        obtain ⟨k, rfl⟩ : ∃ k : Nat, x = (k : Int) := ⟨x.toNat, by omega⟩
        rw [if_pos q, if_pos q2.2, r_costBy hrw h (by omega), bI_some, pu_nn]
      · rw [if_neg q, if_neg (fun y => q (inR_iff.mpr ⟨by omega, y⟩))]
def countA (W : mM) (tl : Nat) (x : Int) : Int := if x = 0 then (wU W : Int) else if x = 1 then (wE W : Int) else if x = 2 then (wG W : Int) else if x = 3 then (wF W : Int) else if x = 4 then (wP W : Int) else if x = 5 then (wI W : Int) else if x = 6 then (wD W : Int) else if x = 7 then (tl : Int) else if inR (x - 10) (wF W) = true then ((wFr W (x - 10).toNat : Nat) : Int) else -1
theorem p_count {x : Int} (hx : okI x) : PureI Rel 174 280 [iv x] := by
  rintro MC MR ⟨W, tl, tp, pl, h, ht, hc, hr⟩
  obtain ⟨w, w2, hb, _⟩ := id hc
  obtain ⟨lv, hb2, _⟩ := id hr
  have hcw := hb.2.2.2.1
  have hrw := hb2.1
  have hF := (wf_F h).2
  unfold okI at hx
  refine ⟨countA W tl x, MC, MR, ?_, ?_, W, tl, tp, pl, h, ht, hc, hr⟩
  · rw [e_GaugeNet_count, hb.2.1, pu_nn, CW_0 hcw, (wf_U h).1, (wf_E h).1, (wf_G h).1, (wf_F h).1, (wf_P h).1, (wf_I h).1, (wf_D h).1, hb.2.2.2.2.1.1]
    unfold countA
    by_cases q0 : x = 0
    · rw [if_pos q0, if_pos q0]
    by_cases q1 : x = 1
    · rw [if_neg q0, if_pos q1, if_neg q0, if_pos q1]
    by_cases q2 : x = 2
    · rw [if_neg q0, if_neg q1, if_pos q2, if_neg q0, if_neg q1, if_pos q2]
    by_cases q3 : x = 3
    · rw [if_neg q0, if_neg q1, if_neg q2, if_pos q3, if_neg q0, if_neg q1, if_neg q2, if_pos q3]
    by_cases q4 : x = 4
    · rw [if_neg q0, if_neg q1, if_neg q2, if_neg q3, if_pos q4, if_neg q0, if_neg q1, if_neg q2, if_neg q3, if_pos q4]
    by_cases q5 : x = 5
    · rw [if_neg q0, if_neg q1, if_neg q2, if_neg q3, if_neg q4, if_pos q5, if_neg q0, if_neg q1, if_neg q2, if_neg q3, if_neg q4, if_pos q5]
    by_cases q6 : x = 6
    · rw [if_neg q0, if_neg q1, if_neg q2, if_neg q3, if_neg q4, if_neg q5, if_pos q6, if_neg q0, if_neg q1, if_neg q2, if_neg q3, if_neg q4, if_neg q5, if_pos q6]
    by_cases q7 : x = 7
    · rw [if_neg q0, if_neg q1, if_neg q2, if_neg q3, if_neg q4, if_neg q5, if_neg q6, if_pos q7, if_neg q0, if_neg q1, if_neg q2, if_neg q3, if_neg q4, if_neg q5, if_neg q6, if_pos q7]
    rw [if_neg q0, if_neg q1, if_neg q2, if_neg q3, if_neg q4, if_neg q5, if_neg q6, if_neg q7, if_neg q0, if_neg q1, if_neg q2, if_neg q3, if_neg q4, if_neg q5, if_neg q6, if_neg q7]
    by_cases z : x < 10
    · rw [if_pos z, if_neg (fun y => by have := (inR_iff.mp y).1; omega)]
    · rw [if_neg z, pu_w32 (x := 10 + (wF W : Int)) (by omega) (by omega)]
      by_cases y : inR (x - 10) (wF W) = true
      · have := inR_iff.mp y
        rw [if_neg (by omega), pu_w32 (by omega) (by omega), c_rowOf hcw h, bI_some]
      · rw [if_neg y, if_pos (by
          have : ¬ (0 ≤ x - 10 ∧ x - 10 < (wF W : Int)) := fun v => y (inR_iff.mpr v)
          omega)]
  · rw [e_GaugeNetModel_count, if_pos (rw_in hrw), rw_live hrw, pu_nn, rw_U hrw, rw_E hrw, rw_G hrw, rw_F hrw, rw_P hrw, rw_I hrw, rw_D hrw, (wf_U h).1, (wf_E h).1, (wf_G h).1, (wf_F h).1, (wf_P h).1, (wf_I h).1, (wf_D h).1, hb2.2.1.1]
    unfold countA
    have hin := rw_lv hrw
    by_cases q0 : x = 0
    · rw [if_pos q0, if_pos q0]
    by_cases q1 : x = 1
    · rw [if_neg q0, if_pos q1, if_neg q0, if_pos q1, if_pos (by omega)]
    by_cases q2 : x = 2
    · rw [if_neg q0, if_neg q1, if_pos q2, if_neg q0, if_neg q1, if_pos q2, if_pos (by omega)]
    by_cases q3 : x = 3
    · rw [if_neg q0, if_neg q1, if_neg q2, if_pos q3, if_neg q0, if_neg q1, if_neg q2, if_pos q3, if_pos (by omega)]
    by_cases q4 : x = 4
    · rw [if_neg q0, if_neg q1, if_neg q2, if_neg q3, if_pos q4, if_neg q0, if_neg q1, if_neg q2, if_neg q3, if_pos q4]
    by_cases q5 : x = 5
    · rw [if_neg q0, if_neg q1, if_neg q2, if_neg q3, if_neg q4, if_pos q5, if_neg q0, if_neg q1, if_neg q2, if_neg q3, if_neg q4, if_pos q5]
    by_cases q6 : x = 6
    · rw [if_neg q0, if_neg q1, if_neg q2, if_neg q3, if_neg q4, if_neg q5, if_pos q6, if_neg q0, if_neg q1, if_neg q2, if_neg q3, if_neg q4, if_neg q5, if_pos q6]
    by_cases q7 : x = 7
    · rw [if_neg q0, if_neg q1, if_neg q2, if_neg q3, if_neg q4, if_neg q5, if_neg q6, if_pos q7, if_neg q0, if_neg q1, if_neg q2, if_neg q3, if_neg q4, if_neg q5, if_neg q6, if_pos q7]
    rw [if_neg q0, if_neg q1, if_neg q2, if_neg q3, if_neg q4, if_neg q5, if_neg q6, if_neg q7, if_neg q0, if_neg q1, if_neg q2, if_neg q3, if_neg q4, if_neg q5, if_neg q6, if_neg q7]
    rw [r_isFault hrw h, bI_some, ite01_0]
    by_cases z : x < -2147483638
    · have e : inR (w32 (x - 10)) (wF W) = false := inR_no (by unfold w32; omega)
      rw [e, if_neg Bool.false_ne_true, if_neg (fun y => by have := (inR_iff.mp y).1; omega)]
    · rw [pu_w32 (by omega) (by omega)]
      by_cases y : inR (x - 10) (wF W) = true
      · have y2 := inR_iff.mp y
        have e : x - 10 = (((x - 10).toNat : Nat) : Int) := by omega
        rw [if_pos y, if_pos y]
        generalize (x - 10).toNat = k at e
        rw [e] at y2 ⊢
        rw [r_faultRow hrw h (by omega), bI_some]
      · rw [if_neg y, if_neg y]
/-! position, in, dead, reading -/
def posW (W : mM) (x : Int) : mM := if inR x 4 = true then st W 0 4 x else W
theorem posW_WF {W : mM} (h : WF W) (x : Int) : WF (posW W x) := by
  unfold posW
  by_cases q : inR x 4 = true
  · rw [if_pos q]
    have q2 := inR_iff.mp q
    refine Ws_WF (Ws_st0 (by omega)) h ?_ ?_ ?_ (fun g hg => by rw [st_ob (by omega)]; exact wf_rea h g hg)
    · unfold wP
      rw [st_same]
      omega
    · unfold wI
      rw [st_nk (show 5 ≠ 4 by omega)]
      exact wf_I h
    · unfold wD
      rw [st_nk (show 6 ≠ 4 by omega)]
      exact wf_D h
  · rw [if_neg q]; exact h
theorem RB_change {lv : Nat} {W W' : mM} {tl : Nat} {tp : Nat → Int} {pl : Int} {M M' : mM} (h : RB lv W tl tp pl M) (hw : Ws W W') (k1 : ∀ o, o ≠ 100 → o < 122 → M' o = M o) (k2 : ∀ k, k < 35 → M' 100 k = M 100 k) (h4 : M' 100 35 = W' 0 4) (h5 : M' 100 36 = W' 0 5) (h6 : M' 100 37 = W' 0 6) (hr : ∀ g, g < 6 → M' 122 g = W' 6 g) : RB lv W' tl tp pl M' := by
  obtain ⟨a, b, c, d⟩ := h
  refine ⟨Ws_RW hw a k1 (k2 18 (by omega)) h4 h5 h6 hr, ?_⟩
  rw [k2 2 (by omega), k2 17 (by omega), k1 101 (by omega) (by omega), k1 107 (by omega) (by omega)]
  exact ⟨b, c, d⟩
theorem p_position (x : Int) : PureI Rel 131 203 [iv x] := by
  rintro MC MR ⟨W, tl, tp, pl, h, ht, hc, hr⟩
  obtain ⟨w, w2, hb, hd⟩ := id hc
  obtain ⟨lv, hb2, hd2⟩ := id hr
  refine ⟨if inR x 4 = true then 1 else 0, if inR x 4 = true then st MC w 4 x else MC, if inR x 4 = true then st (st MR 100 35 x) 100 44 0 else MR, ?_, ?_, posW W x, tl, tp, pl, posW_WF h x, ht, ?_, ?_⟩
  · rw [e_GaugeNet_position, hb.2.1, pu_nn]
    by_cases q : inR x 4 = true
    · have q2 := inR_iff.mp q
      rw [if_neg (by omega), if_pos (by omega), if_pos q, if_pos q]
    · rw [if_neg q, if_neg q]
      by_cases z : x < 0
      · rw [if_pos z]
      · rw [if_neg z, if_neg (fun (y : x < 4) => q (inR_iff.mpr ⟨by omega, by omega⟩))]
  · rw [e_GaugeNetModel_position, r_inRange, bI_some, show (3 : Int) = ((4 : Nat) : Int) - 1 from rfl, ifR, ite01_n]
    by_cases q : inR x 4 = true
    · rw [if_pos q, if_pos q, if_pos q]
    · rw [if_neg q, if_neg q, if_neg q]
  · unfold posW
    by_cases q : inR x 4 = true
    · rw [if_pos q, if_pos q]
      exact CI_change hb hd (j := 0) (by omega) (Ws_st0 (by omega))
    · rw [if_neg q, if_neg q]; exact hc
  · unfold posW
    by_cases q : inR x 4 = true
    · rw [if_pos q, if_pos q]
      refine ⟨lv, RB_change hb2 (Ws_st0 (by omega)) (fun o ho _ => by rw [st_ob ho, st_ob ho]) (fun k hk => by rw [st_nk (by omega), st_nk (by omega)]) ?_ ?_ ?_ (fun g hg => ?_), Or.inl (st_same _ _ _ _)⟩
      · rw [st_nk (by omega), st_same, st_same]
      · rw [st_nk (by omega), st_nk (by omega), st_nk (by omega)]; exact rw_I hb2.1
      · rw [st_nk (by omega), st_nk (by omega), st_nk (by omega)]; exact rw_D hb2.1
      · rw [st_ob (by omega), st_ob (by omega), st_ob (by omega)]; exact rw_rea hb2.1 g hg
    · rw [if_neg q, if_neg q]; exact hr
def withB (s g : Nat) (b : Int) : Nat := if b = 0 then bdiff s (2 ^ g) else s ||| 2 ^ g
theorem withB_lt {s g n : Nat} {b : Int} (hs : s < 2 ^ n) (hg : g < n) : withB s g b < 2 ^ n := by
  unfold withB
  split
  · exact bdiff_lt hs
  · exact Nat.or_lt_two_pow hs (Nat.pow_lt_pow_right (by omega) hg)
theorem c_withBit {s g : Nat} {b : Int} (hs : s < 64) (hg : g < 31) (M : mM) : gC 129 [iv (s : Int), iv (g : Int), iv b] M = some (iv ((withB s g b : Nat) : Int), M) := by
  rw [e_GaugeNet_withBit]
  unfold withB
  by_cases q : b = 0
  · rw [if_pos q, if_pos q, andnot1 (by omega) hg]
  · rw [if_neg q, if_neg q, or1 (by omega) hg]
theorem r_with {s g : Nat} {b : Int} (hs : s < 64) (hg : g < 31) (M : mM) : gC 207 [iv (s : Int), iv (g : Int), iv b] M = some (iv ((withB s g b : Nat) : Int), M) := by
  rw [e_GaugeNetModel_with]
  unfold withB
  by_cases q : b = 0
  · rw [if_pos q, if_pos q, andnot1 (by omega) hg]
  · rw [if_neg q, if_neg q, or1 (by omega) hg]
def inW (W : mM) (x b : Int) : mM := if inR x (wG W) = true then st W 0 5 (withB (wI W) x.toNat b : Nat) else W
def deadW (W : mM) (x b : Int) : mM := if inR x (wG W) = true then st W 0 6 (withB (wD W) x.toNat b : Nat) else W
theorem inW_WF {W : mM} (h : WF W) (x b : Int) : WF (inW W x b) := by
  unfold inW
  by_cases q : inR x (wG W) = true
  · rw [if_pos q]
    have q2 := inR_iff.mp q
    have hlt := withB_lt (b := b) (wf_I h).2 (show x.toNat < wG W by omega)
    refine Ws_WF (Ws_st0 (by omega)) h ?_ ?_ ?_ (fun g hg => by rw [st_ob (by omega)]; exact wf_rea h g hg)
    · unfold wP
      rw [st_nk (show 4 ≠ 5 by omega)]
      exact wf_P h
    · unfold wI at hlt ⊢
      rw [st_same, pu_nn]
      exact ⟨rfl, hlt⟩
    · unfold wD
      rw [st_nk (show 6 ≠ 5 by omega)]
      exact wf_D h
  · rw [if_neg q]; exact h
theorem deadW_WF {W : mM} (h : WF W) (x b : Int) : WF (deadW W x b) := by
  unfold deadW
  by_cases q : inR x (wG W) = true
  · rw [if_pos q]
    have q2 := inR_iff.mp q
    have hlt := withB_lt (b := b) (wf_D h).2 (show x.toNat < wG W by omega)
    refine Ws_WF (Ws_st0 (by omega)) h ?_ ?_ ?_ (fun g hg => by rw [st_ob (by omega)]; exact wf_rea h g hg)
    · unfold wP
      rw [st_nk (show 4 ≠ 6 by omega)]
      exact wf_P h
    · unfold wI
      rw [st_nk (show 5 ≠ 6 by omega)]
      exact wf_I h
    · unfold wD at hlt ⊢
      rw [st_same, pu_nn]
      exact ⟨rfl, hlt⟩
  · rw [if_neg q]; exact h
theorem p_in (x b : Int) : PureI Rel 132 205 [iv x, iv b] := by
  rintro MC MR ⟨W, tl, tp, pl, h, ht, hc, hr⟩
  obtain ⟨w, w2, hb, hd⟩ := id hc
  obtain ⟨lv, hb2, hd2⟩ := id hr
  have hcw := hb.2.2.2.1
  have hrw := hb2.1
  have hG := (wf_G h).2
  refine ⟨if inR x (wG W) = true then 1 else 0, if inR x (wG W) = true then st MC w 5 (withB (wI W) x.toNat b : Nat) else MC, if inR x (wG W) = true then st (st MR 100 36 (withB (wI W) x.toNat b : Nat)) 100 44 0 else MR, ?_, ?_, inW W x b, tl, tp, pl, inW_WF h x b, ht, ?_, ?_⟩
  · rw [e_GaugeNet_in, hb.2.1, pu_nn, c_isGauge hcw h, bI_some, ite01_n]
    by_cases q : inR x (wG W) = true
    · have q2 := inR_iff.mp q
      obtain ⟨k, rfl⟩ : ∃ k : Nat, x = (k : Int) := ⟨x.toNat, by omega⟩
      rw [if_pos q, if_pos q, if_pos q, hb.2.1, pu_nn, CW_0 hcw, (wf_I h).1, c_withBit (wf_I64 h) (by omega), bI_some, pu_nn]
    · rw [if_neg q, if_neg q, if_neg q]
  · rw [e_GaugeNetModel_in, r_isGauge hrw h, bI_some, ite01_n]
    by_cases q : inR x (wG W) = true
    · have q2 := inR_iff.mp q
      obtain ⟨k, rfl⟩ : ∃ k : Nat, x = (k : Int) := ⟨x.toNat, by omega⟩
      rw [if_pos q, if_pos q, if_pos q, rw_I hrw, (wf_I h).1, r_with (wf_I64 h) (by omega), bI_some, pu_nn]
    · rw [if_neg q, if_neg q, if_neg q]
  · unfold inW
    by_cases q : inR x (wG W) = true
    · rw [if_pos q, if_pos q]
      exact CI_change hb hd (j := 0) (by omega) (Ws_st0 (by omega))
    · rw [if_neg q, if_neg q]; exact hc
  · unfold inW
    by_cases q : inR x (wG W) = true
    · rw [if_pos q, if_pos q]
      refine ⟨lv, RB_change hb2 (Ws_st0 (by omega)) (fun o ho _ => by rw [st_ob ho, st_ob ho]) (fun k hk => by rw [st_nk (by omega), st_nk (by omega)]) ?_ ?_ ?_ (fun g hg => ?_), Or.inl (st_same _ _ _ _)⟩
      · rw [st_nk (by omega), st_nk (by omega), st_nk (by omega)]; exact rw_P hb2.1
      · rw [st_nk (by omega), st_same, st_same]
      · rw [st_nk (by omega), st_nk (by omega), st_nk (by omega)]; exact rw_D hb2.1
      · rw [st_ob (by omega), st_ob (by omega), st_ob (by omega)]; exact rw_rea hb2.1 g hg
    · rw [if_neg q, if_neg q]; exact hr
theorem p_dead (x b : Int) : PureI Rel 133 208 [iv x, iv b] := by
  rintro MC MR ⟨W, tl, tp, pl, h, ht, hc, hr⟩
  obtain ⟨w, w2, hb, hd⟩ := id hc
  obtain ⟨lv, hb2, hd2⟩ := id hr
  have hcw := hb.2.2.2.1
  have hrw := hb2.1
  have hG := (wf_G h).2
  refine ⟨if inR x (wG W) = true then 1 else 0, if inR x (wG W) = true then st MC w 6 (withB (wD W) x.toNat b : Nat) else MC, if inR x (wG W) = true then st (st MR 100 37 (withB (wD W) x.toNat b : Nat)) 100 44 0 else MR, ?_, ?_, deadW W x b, tl, tp, pl, deadW_WF h x b, ht, ?_, ?_⟩
  · rw [e_GaugeNet_dead, hb.2.1, pu_nn, c_isGauge hcw h, bI_some, ite01_n]
    by_cases q : inR x (wG W) = true
    · have q2 := inR_iff.mp q
      obtain ⟨k, rfl⟩ : ∃ k : Nat, x = (k : Int) := ⟨x.toNat, by omega⟩
      rw [if_pos q, if_pos q, if_pos q, hb.2.1, pu_nn, CW_0 hcw, (wf_D h).1, c_withBit (wf_D64 h) (by omega), bI_some, pu_nn]
    · rw [if_neg q, if_neg q, if_neg q]
  · rw [e_GaugeNetModel_dead, r_isGauge hrw h, bI_some, ite01_n]
    by_cases q : inR x (wG W) = true
    · have q2 := inR_iff.mp q
      obtain ⟨k, rfl⟩ : ∃ k : Nat, x = (k : Int) := ⟨x.toNat, by omega⟩
      rw [if_pos q, if_pos q, if_pos q, rw_D hrw, (wf_D h).1, r_with (wf_D64 h) (by omega), bI_some, pu_nn]
    · rw [if_neg q, if_neg q, if_neg q]
  · unfold deadW
    by_cases q : inR x (wG W) = true
    · rw [if_pos q, if_pos q]
      exact CI_change hb hd (j := 0) (by omega) (Ws_st0 (by omega))
    · rw [if_neg q, if_neg q]; exact hc
  · unfold deadW
    by_cases q : inR x (wG W) = true
    · rw [if_pos q, if_pos q]
      refine ⟨lv, RB_change hb2 (Ws_st0 (by omega)) (fun o ho _ => by rw [st_ob ho, st_ob ho]) (fun k hk => by rw [st_nk (by omega), st_nk (by omega)]) ?_ ?_ ?_ (fun g hg => ?_), Or.inl (st_same _ _ _ _)⟩
      · rw [st_nk (by omega), st_nk (by omega), st_nk (by omega)]; exact rw_P hb2.1
      · rw [st_nk (by omega), st_nk (by omega), st_nk (by omega)]; exact rw_I hb2.1
      · rw [st_nk (by omega), st_same, st_same]
      · rw [st_ob (by omega), st_ob (by omega), st_ob (by omega)]; exact rw_rea hb2.1 g hg
    · rw [if_neg q, if_neg q]; exact hr
def reaOk (W : mM) (x v : Int) : Bool := inR x (wG W) && decide (-9999 ≤ v ∧ v ≤ 9999)
theorem reaOk_iff {W : mM} {x v : Int} : reaOk W x v = true ↔ (0 ≤ x ∧ x < (wG W : Int)) ∧ -9999 ≤ v ∧ v ≤ 9999 := by
  unfold reaOk
  rw [Bool.and_eq_true, inR_iff, decide_eq_true_iff]
def reaW (W : mM) (x v : Int) : mM := if reaOk W x v = true then st W 6 x.toNat v else W
theorem reaW_WF {W : mM} (h : WF W) (x v : Int) : WF (reaW W x v) := by
  unfold reaW
  by_cases q : reaOk W x v = true
  · rw [if_pos q]
    have q2 := reaOk_iff.mp q
    refine Ws_WF Ws_st6 h ?_ ?_ ?_ (fun g hg => ?_)
    · unfold wP
      rw [st_ob (by omega)]
      exact wf_P h
    · unfold wI
      rw [st_ob (by omega)]
      exact wf_I h
    · unfold wD
      rw [st_ob (by omega)]
      exact wf_D h
    · rw [st_if]
      by_cases e : g = x.toNat
      · rw [if_pos e]; exact q2.2
      · rw [if_neg e]; exact wf_rea h g hg
  · rw [if_neg q]; exact h
theorem p_reading (x v : Int) : PureI Rel 134 209 [iv x, iv v] := by
  rintro MC MR ⟨W, tl, tp, pl, h, ht, hc, hr⟩
  obtain ⟨w, w2, hb, hd⟩ := id hc
  obtain ⟨lv, hb2, hd2⟩ := id hr
  have hcw := hb.2.2.2.1
  have hrw := hb2.1
  have hG := (wf_G h).2
  refine ⟨if reaOk W x v = true then 1 else 0, if reaOk W x v = true then st MC (w + 6) x.toNat v else MC, if reaOk W x v = true then st MR 122 x.toNat v else MR, ?_, ?_, reaW W x v, tl, tp, pl, reaW_WF h x v, ht, ?_, ?_⟩
  · rw [e_GaugeNet_reading, hb.2.1, pu_nn, c_isGauge hcw h, bI_some, ite01_0]
    by_cases q : inR x (wG W) = true
    · have q2 := inR_iff.mp q
      rw [if_pos q]
      by_cases y : -9999 ≤ v ∧ v ≤ 9999
      · have yy := reaOk_iff.mpr ⟨q2, y⟩
        rw [if_pos yy, if_pos yy, if_neg (by omega), if_pos (by omega), if_pos (by omega), hb.2.1, pu_nn]
      · have yy : ¬ reaOk W x v = true := fun z => y (reaOk_iff.mp z).2
        rw [if_neg yy, if_neg yy]
        by_cases z : v < -9999
        · rw [if_pos z]
        · rw [if_neg z, if_neg (by omega)]
    · have yy : ¬ reaOk W x v = true := fun z => q (inR_iff.mpr (reaOk_iff.mp z).1)
      rw [if_neg q, if_neg yy, if_neg yy]
  · rw [e_GaugeNetModel_reading, r_isGauge hrw h, bI_some, ite01_0]
    by_cases q : inR x (wG W) = true
    · have q2 := inR_iff.mp q
      rw [if_pos q, r_inRange, bI_some]
      by_cases y : -9999 ≤ v ∧ v ≤ 9999
      · have yy := reaOk_iff.mpr ⟨q2, y⟩
        rw [if_pos y, if_pos yy, if_pos yy, if_pos (by decide), if_pos (by omega)]
      · have yy : ¬ reaOk W x v = true := fun z => y (reaOk_iff.mp z).2
        rw [if_neg y, if_neg yy, if_neg yy, if_neg (by decide)]
    · have yy : ¬ reaOk W x v = true := fun z => q (inR_iff.mpr (reaOk_iff.mp z).1)
      rw [if_neg q, if_neg yy, if_neg yy]
  · unfold reaW
    by_cases q : reaOk W x v = true
    · rw [if_pos q, if_pos q]
      exact CI_change hb hd (j := 6) (by omega) Ws_st6
    · rw [if_neg q, if_neg q]; exact hc
  · unfold reaW
    by_cases q : reaOk W x v = true
    · rw [if_pos q, if_pos q]
      refine ⟨lv, RB_change hb2 Ws_st6 (fun o ho ho2 => by rw [st_ob (by omega)]) (fun k hk => by rw [st_ob (by omega)]) ?_ ?_ ?_ (fun g hg => ?_), ?_⟩
      · rw [st_ob (by omega), st_ob (by omega)]; exact rw_P hb2.1
      · rw [st_ob (by omega), st_ob (by omega)]; exact rw_I hb2.1
      · rw [st_ob (by omega), st_ob (by omega)]; exact rw_D hb2.1
      · rw [st_if, st_if]
        by_cases e : g = x.toNat
        · rw [if_pos e, if_pos e]
        · rw [if_neg e, if_neg e]; exact rw_rea hb2.1 g hg
      · rw [st_ob (by omega)]
        rcases hd2 with z | ⟨z1, z2⟩
        · exact Or.inl z
        · refine Or.inr ⟨z1, ?_⟩
          have z3 : SR W (st MR 122 x.toNat v) := by
            unfold SR at z2 ⊢
            rw [st_ob (show 100 ≠ 122 by omega), st_ob (show 127 ≠ 122 by omega), st_ob (show 128 ≠ 122 by omega), st_ob (show 129 ≠ 122 by omega)]
            exact z2
          have hw : Ws W (st W 6 x.toNat v) := Ws_st6
          have e0 : net (st W 6 x.toNat v) = net W := by
            unfold net netA wP wI wD
            rw [Ws_Ho hw, Ws_E hw, st_ob (show 0 ≠ 6 by omega)]
          unfold SR TN wt at z3 ⊢
          rw [Ws_TL hw, e0, Ws_cr hw, Ws_wtk hw]
          exact z3
    · rw [if_neg q, if_neg q]; exact hr
