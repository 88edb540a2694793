/-! eq: terms -/
theorem GD_up {sd t t' : Nat} {D M M' : mM} (h : GDd sd t D M) (ht : t ≤ t') (k : ∀ o, 113 ≤ o → (o < 115 ∨ 115 < o) → (o < 120 ∨ 120 < o) → o ≤ 121 → M' o = M o) : GDd sd t' D M' := by
  obtain ⟨h1, h2, h3, h4, h5, h6⟩ := h
  refine ⟨h1, h2, fun e he => by have := h3 e he; omega, fun e he => RDe_s (h4 e he) ⟨k 113 (by omega) (by omega) (by omega) (by omega), k 114 (by omega) (by omega) (by omega) (by omega)⟩ ⟨rfl, rfl, rfl⟩, fun g hg => ?_, fun f hf => by rw [k 121 (by omega) (by omega) (by omega) (by omega)]; exact h6 f hf⟩
  unfold RDg
  rw [k 116 (by omega) (by omega) (by omega) (by omega), k 117 (by omega) (by omega) (by omega) (by omega), k 118 (by omega) (by omega) (by omega) (by omega), k 119 (by omega) (by omega) (by omega) (by omega)]
  exact h5 g hg
def QT (T : TKS) (w2 : Nat) (M0C : mM) (lv sd : Nat) (M0R : mM) (N : NMS) (nn : Nat) (N' : NMS) (D0 : mM) (t : Nat) (MC MR : mM) : Prop := ∃ ks D, (t ≤ tm T ∧ KOs T t ks) ∧ (CCp T w2 M0C t ks MC ∧ CW w2 D MC ∧ NCk N' (nn + 1) MC) ∧ (RCp T lv sd M0R t ks MR ∧ NRk N nn MR ∧ CNT sd D0 MR) ∧ (D 0 = st D0 0 1 ((wE D0 + 1 : Nat) : Int) 0 ∧ DW0 D) ∧ (ks.1 = 0 → ND N' (nn + 1) ∧ GDd sd t D MR ∧ MR 100 39 = (wH D (wE D0) : Int))
section NM
variable {T : TKS} {w2 lv sd : Nat} {M0C M0R D0 : mM} {N N' : NMS} {nn : Nat}
theorem DW0_0 {D : mM} (hd : DW0 D0) (h8 : wE D0 < 8) (h0 : D 0 = st D0 0 1 ((wE D0 + 1 : Nat) : Int) 0) (hr : ∀ r, r < 14 → D 8 r = (wH D r : Int) ∧ wH D r < 128) : DW0 D := by
  obtain ⟨⟨⟨d0, d0'⟩, ⟨d1, d1'⟩, ⟨d2, d2'⟩, ⟨d3, d3'⟩⟩, d5, d8⟩ := hd
  have e : ∀ k, D 0 k = if k = 1 then ((wE D0 + 1 : Nat) : Int) else D0 0 k := fun k => by rw [h0, st_if]
  have eU : wU D = wU D0 := by unfold wU; rw [e, if_neg (by omega)]
  have eE : wE D = wE D0 + 1 := by
    have : wE D = (D 0 1).toNat := rfl
    rw [this, e, if_pos rfl, pu_nn]
  have eG : wG D = wG D0 := by unfold wG; rw [e, if_neg (by omega)]
  have eF : wF D = wF D0 := by unfold wF; rw [e, if_neg (by omega)]
  have eI : wI D = wI D0 := by unfold wI; rw [e, if_neg (by omega)]
  unfold DW0
  rw [eU, eE, eG, eF, eI, e 0, e 1, e 2, e 3, e 5]
  exact ⟨⟨⟨d0, d0'⟩, ⟨rfl, by omega⟩, ⟨d2, d2'⟩, ⟨d3, d3'⟩⟩, d5, hr⟩
theorem wE_0 {D : mM} (h0 : D 0 = st D0 0 1 ((wE D0 + 1 : Nat) : Int) 0) : wE D = wE D0 + 1 ∧ wU D = wU D0 := by
  have e : ∀ k, D 0 k = if k = 1 then ((wE D0 + 1 : Nat) : Int) else D0 0 k := fun k => by rw [h0, st_if]
  refine ⟨?_, ?_⟩
  · have : wE D = (D 0 1).toNat := rfl
    rw [this, e, if_pos rfl, pu_nn]
  · unfold wU
    rw [e, if_neg (by omega)]
theorem t_named (hok : TKok T) (hD0 : DW0 D0) (hnb : NB N nn D0) (hNk : NOKk N nn) (hNk' : NOKk N' (nn + 1)) (h8 : wE D0 < 8) {wn : List Nat} (hN' : nadd N nn (wn, 1, wE D0) = N') {t : Nat} {ks : Int × Int} {D B A : mM} (ht : t ≤ tm T) (hks : KOs T t ks) (hC : CCp T w2 M0C t ks B) (hW : CW w2 D B) (hN : NCk N' (nn + 1) B) (hR : RCp T lv sd M0R t ks A) (hNR : NRk N nn A) (hcn : CNT sd D0 A) (h0 : D 0 = st D0 0 1 ((wE D0 + 1 : Nat) : Int) 0) (hDW : DW0 D) (hgood : ks.1 = 0 → ND N' (nn + 1) ∧ GDd sd t D A ∧ A 100 39 = (wH D (wE D0) : Int)) {x s v : Int} (hx : ks.1 = 0 → x = w32 (s * v) ∧ x ≠ 0 ∧ -9 ≤ x ∧ x ≤ 9) : (∃ B' A', gC 52 [rv 4 2, iv (wE D0 : Int), iv x] B = some (iv 1, B') ∧ gA 198 145 [rv 11 100, iv ((8 * sd + wE D0 : Nat) : Int), iv s, none, none, iv v, none, none, none] [] A = some (none, A') ∧ QT T w2 M0C lv sd M0R N nn N' D0 (t + 1) B' A') ∨ ∃ f B' A', gC 52 [rv 4 2, iv (wE D0 : Int), iv x] B = some (iv 0, B') ∧ CFp w2 M0C f B' ∧ gA 198 145 [rv 11 100, iv ((8 * sd + wE D0 : Nat) : Int), iv s, none, none, iv v, none, none, none] [] A = some (none, A') ∧ RFp lv sd M0R f A' := by
  have h4 := hok.1
  have hw2 := hC.2.2.2
  have hsd := hR.2.2.2
  have hU7 := hD0.1.1.2
  have h29 : nn + 1 ≤ 29 := by
    have := hnb.1
    have := hD0.1.2.2.1.2
    have := hD0.1.2.2.2.2
    omega
  obtain ⟨eE, eU⟩ := wE_0 h0
  rw [e_Parser_parseNamed, s_GaugeNetModel_tellTerm_145]
  rcases z_accept hC hok ht 2 (x := 2) rfl with ⟨a1, a2, a3⟩ | ⟨f, M3, a1, a2, a3⟩
  · have t1 := ac_next hok ht a1 (by omega)
    have k2 := (ac_none a1).1
    rcases y_known hR hok ht hNR hNk (by omega) hks (a := 0) (b := 0) (x := 0) (y := 0) rfl rfl with ⟨_, A1, g1, g2, g3, g5⟩ | ⟨f, A4, g0, _⟩
    · refine Or.inl ?_
      generalize hB1 : st B 2 2 ((t + 1 : Nat) : Int) = B1 at a2 a3
      have hNB : NCk N' (nn + 1) B1 := NCk_s hN (fun o _ _ => by rw [← hB1, st_ob (by omega)]) (by rw [← hB1, st_nk (by omega)])
      have hWB : CW w2 D B1 := CW_k hW (fun o ho => by rw [← hB1, st_ob (by omega)])
      have hN1 : NRk N nn A1 := NRk_s hNR (fun o _ _ => g3 o (by omega)) (g5 20 (by omega) (by omega) (by omega))
      have n1 := z_numberNamed a3 hok ht k2 hNB hNk' h29 (s := 0) (by omega)
      rw [show ((csort 0 : Nat) : Int) = 4 from rfl] at n1
      rw [a2, bI_some, if_pos (show ¬ (1 : Int) = 0 by omega), n1, bI_some, g1, bI_some]
      generalize hx1 : numC N' (nn + 1) (tW T t) 0 = x1
      generalize hj : knI N nn (tW T t) 0 0 = j at g2
      have hce : 0 ≤ (wE D0 : Int) := by omega
      -- the class
      have hcl : ∃ B' ksC D', (if ¬ x1 = (-1) then
bI (gC 105 [rv 9 ((B1 2 1).toNat), iv (wE D0 : Int)] B1) fun c3 M3 =>
bI (gC 128 [iv c3, iv x1] M3) fun c4 M4 =>
if c4 = 0 then
bV (gC 106 [rv 9 ((M4 2 1).toNat), iv (wE D0 : Int), iv x1, iv x] M4) fun M5 =>
some (iv 1, M5)
else
bV (gC 46 [rv 4 2, iv 3, iv (w32 ((M4 2 2) - 1))] M4) fun M6 =>
some (iv 1, M6)
else
bV (gC 46 [rv 4 2, iv 4, iv (w32 ((B1 2 2) - 1))] B1) fun M7 =>
some (iv 1, M7)) = some (iv 1, B') ∧ CCp T w2 M0C (t + 1) ksC B' ∧ CW w2 D' B' ∧ NCk N' (nn + 1) B' ∧ D' 0 = D 0 ∧ (∀ r, r < 14 → D' 8 r = (wH D' r : Int) ∧ wH D' r < 128) ∧ ((x1 = -1 ∧ ksC = keepA ks 4 (tP T t : Int)) ∨ ∃ u : Nat, u < 7 ∧ x1 = (u : Int) ∧ (((wH D (wE D0)).testBit u = true ∧ ksC = keepA ks 3 (tP T t : Int)) ∨ ((wH D (wE D0)).testBit u = false ∧ ksC = ks ∧ D' = st (st D 1 (wE D0 * 7 + u) x) 8 (wE D0) ((wH D (wE D0) ||| 2 ^ u : Nat) : Int)))) := by
        rcases num_cases N' (nn + 1) (tW T t) 0 with hm | ⟨k, m1, m2, m3, m4⟩
        · rw [hx1] at hm
          obtain ⟨MK, p1, p2, p3, p4⟩ := z_keep a3 hok (i := t) ht 4
          rw [if_neg (fun q => q hm), z_at1 a3 hok ht, p1, bV_none]
          exact ⟨MK, _, D, rfl, p2, CW_k hWB (fun o ho => p3 o (by omega)), NCk_s hNB (fun o _ _ => p3 o (by omega)) p4, rfl, hDW.2.2, Or.inl ⟨hm, rfl⟩⟩
        · rw [hx1] at m4
          have hkn : k < nn := by
            rcases Nat.lt_or_ge k nn with z | z
            · exact z
            · have : k = nn := by omega
              rw [this, ← hN', nadd_eq] at m3
              exact absurd m3 (by decide : ¬ (1 : Nat) = 0)
          have m3' := m3
          have m4' := m4
          rw [← hN', nadd_lt hkn] at m3' m4'
          have hu7 := (hnb.2 k hkn).1 m3'
          generalize hu : (N k).2.2 = u at m4' hu7
          have h87 : u < 7 := by omega
          have n1x : ¬ x1 = -1 := by omega
          have h14 : wE D0 < 14 := by omega
          have hHlt := (hDW.2.2 (wE D0) h14).2
          have hH31 : wH D (wE D0) < 2147483648 := by omega
          rw [if_pos n1x, a3.2.1.1, pu_nn, z_hasOf hWB hDW.2.2 h14, bI_some, m4', c_hasBit hH31, bI_some, ite01_0, hB_nat, a3.2.1.1, pu_nn]
          cases hb : (wH D (wE D0)).testBit u with
          | true =>
            obtain ⟨MK, p1, p2, p3, p4⟩ := z_keep a3 hok (i := t) ht 3
            rw [if_pos rfl, z_at1 a3 hok ht, p1, bV_none]
            exact ⟨MK, _, D, rfl, p2, CW_k hWB (fun o ho => p3 o (by omega)), NCk_s hNB (fun o _ _ => p3 o (by omega)) p4, rfl, hDW.2.2, Or.inr ⟨u, h87, rfl, Or.inl ⟨hb, rfl⟩⟩⟩
          | false =>
            have ha := z_addNumber hWB hDW.2.2 (r := wE D0) (u := u) h14 h87 x
            rw [if_neg Bool.false_ne_true, ha, bV_none]
            refine ⟨_, ks, st (st D 1 (wE D0 * 7 + u) x) 8 (wE D0) ((wH D (wE D0) ||| 2 ^ u : Nat) : Int), rfl, CCp_o (CCp_o a3 (by omega) _ _) (by omega) _ _, CW_st (CW_st hWB 1 _ _) 8 _ _, NCk_s hNB (fun o _ _ => by rw [st_ob (by omega), st_ob (by omega)]) (by rw [st_ob (by omega), st_ob (by omega)]), by rw [st_ob (by omega), st_ob (by omega)], fun r hr => ?_, Or.inr ⟨u, h87, rfl, Or.inr ⟨hb, rfl, rfl⟩⟩⟩
            have hor : wH D (wE D0) ||| 2 ^ u < 128 := Nat.or_lt_two_pow (n := 7) hHlt (Nat.pow_lt_pow_right (by omega) h87)
            have ew : wH (st (st D 1 (wE D0 * 7 + u) x) 8 (wE D0) ((wH D (wE D0) ||| 2 ^ u : Nat) : Int)) r = if r = wE D0 then wH D (wE D0) ||| 2 ^ u else wH D r := by
              have : wH (st (st D 1 (wE D0 * 7 + u) x) 8 (wE D0) ((wH D (wE D0) ||| 2 ^ u : Nat) : Int)) r = (st (st D 1 (wE D0 * 7 + u) x) 8 (wE D0) ((wH D (wE D0) ||| 2 ^ u : Nat) : Int) 8 r).toNat := by
                unfold wH
                rw [if_pos hr]
              rw [this, st_if, st_ob (by omega)]
              split
              · rw [pu_nn]
              · rw [(hDW.2.2 r hr).1, pu_nn]
            rw [ew, st_if, st_ob (by omega)]
            split
            · exact ⟨rfl, hor⟩
            · exact hDW.2.2 r hr
      -- the reference
      have hrf : ∃ A' ksR, (if ¬ j = (-1) then
gA 198 166 [rv 11 100, iv ((8 * sd + wE D0 : Nat) : Int), iv s, none, none, iv v, iv (A 100 11), iv j, none] [] A1
else
some (none, A1)) = some (none, A') ∧ RCp T lv sd M0R (t + 1) ksR A' ∧ NRk N nn A' ∧ (∀ o, o ≠ 100 → o ≠ 113 → A' o = A o) ∧ ((j = -1 ∧ ksR = keepA ks 4 (tP T t : Int)) ∨ ∃ k : Nat, k < nn ∧ (N k).1 = tW T t ∧ (N k).2.1 = 0 ∧ j = (k : Int) ∧ (∀ i, A' 113 i = if i = 9 * (8 * sd + wE D0) + (N k).2.2 then w32 (s * v) else A 113 i) ∧ A' 100 39 = or32 (A 100 39) (shl32 1 ((N k).2.2 : Int)) ∧ ((and32 (shr32 (A 100 39) ((N k).2.2 : Int)) 1 = 1 ∧ ksR = keepA ks 3 (tP T t : Int)) ∨ (¬ and32 (shr32 (A 100 39) ((N k).2.2 : Int)) 1 = 1 ∧ ksR = ks))) := by
        rcases kn_char N nn (tW T t) 0 0 with ⟨q1, q2⟩ | ⟨k, q1, q2, q3, q4⟩
        · rw [hj] at q1
          rw [if_pos q1] at g2
          rw [if_neg (fun e => e q1)]
          exact ⟨A1, _, rfl, g2, hN1, fun o h1 _ => g3 o h1, Or.inl ⟨q1, rfl⟩⟩
        · rw [hj] at q2
          obtain ⟨e108, e109, e110⟩ := hN1.2 k q1
          have hs0 : (N k).2.1 = 0 := by omega
          have hu7 := (hnb.2 k q1).1 hs0
          have hjn : ¬ j = -1 := by omega
          have hidx : w32 (w32 (9 * ((8 * sd + wE D0 : Nat) : Int)) + (((N k).2.2 : Nat) : Int)) = ((9 * (8 * sd + wE D0) + (N k).2.2 : Nat) : Int) := by
            rw [pu_w32 (x := 9 * ((8 * sd + wE D0 : Nat) : Int)) (by omega) (by omega), pu_w32 (by omega) (by omega)]
            omega
          have r144 : 0 ≤ ((9 * (8 * sd + wE D0) + (N k).2.2 : Nat) : Int) ∧ ((9 * (8 * sd + wE D0) + (N k).2.2 : Nat) : Int) < 144 := by
            clear hidx
            omega
          have nk : ¬ kpR lv 113 (9 * (8 * sd + wE D0) + (N k).2.2) := by
            clear hidx r144
            unfold kpR
            omega
          have rk40 : 0 ≤ (k : Int) ∧ (k : Int) < 40 := by
            clear hidx r144
            omega
          have ne1 : (113 : Nat) ≠ 100 := by decide
          rw [if_neg hjn] at g2
          have fin : ∀ (A2 : mM) (ksR : Int × Int), RCp T lv sd M0R (t + 1) ksR A2 → NRk N nn A2 → (∀ o, o ≠ 100 → A2 o = A o) → A2 100 39 = A 100 39 → ∃ A', gA 198 195 [rv 11 100, iv ((8 * sd + wE D0 : Nat) : Int), iv s, none, none, iv v, none, none, iv (((N k).2.2 : Nat) : Int)] [] A2 = some (none, A') ∧ RCp T lv sd M0R (t + 1) ksR A' ∧ NRk N nn A' ∧ (∀ o, o ≠ 100 → o ≠ 113 → A' o = A o) ∧ (∀ i, A' 113 i = if i = 9 * (8 * sd + wE D0) + (N k).2.2 then w32 (s * v) else A 113 i) ∧ A' 100 39 = or32 (A 100 39) (shl32 1 ((N k).2.2 : Int)) := by
            intro A2 ksR p1 p2 p3 p4
            rw [s_GaugeNetModel_tellTerm_195, hidx, if_pos r144, pu_nn, p4]
            refine ⟨_, rfl, RCp_o (RCp_k p1 (Or.inr rfl) _) ⟨ne1, Or.inr (by decide)⟩ nk _, NRk_s p2 (fun o h1 h2 => ?_) ?_, fun o h1 h2 => ?_, fun i => ?_, ?_⟩
            · clear hidx r144
              rw [st_ob (by omega), st_ob (by omega)]
            · rw [st_ob (by decide), st_nk (by decide)]
            · rw [st_ob h2, st_ob h1]
              exact p3 o h1
            · rw [st_if, st_ob ne1, p3 113 ne1]
            · rw [st_ob (by decide)]
              exact st_same _ _ _ _
          have e39 : A1 100 39 = A 100 39 := g5 39 (by decide) (by decide) (by decide)
          rw [if_pos hjn, q2, s_GaugeNetModel_tellTerm_166, if_pos rk40, pu_nn, e110, e39, hR.2.1.1]
          by_cases z : and32 (shr32 (A 100 39) (((N k).2.2 : Nat) : Int)) 1 = 1
          · obtain ⟨A2, w1, w2', w3, w4⟩ := y_wrong g2 hok ht 3 (fun q => Or.inl (hks q))
            obtain ⟨A', u1, u2, u3, u4, u5, u6⟩ := fin A2 _ w2' (NRk_s hN1 (fun o h1 h2 => w3 o (by clear hidx r144 z; omega)) (w4 20 (by decide) (by decide))) (fun o ho => by rw [w3 o ho]; exact g3 o ho) (by rw [w4 39 (by decide) (by decide)]; exact e39)
            rw [if_neg (fun q => q z), w1, bV_none, u1]
            exact ⟨A', _, rfl, u2, u3, u4, Or.inr ⟨k, q1, q3, hs0, rfl, u5, u6, Or.inl ⟨z, rfl⟩⟩⟩
          · obtain ⟨A', u1, u2, u3, u4, u5, u6⟩ := fin A1 _ g2 hN1 g3 e39
            rw [if_pos z, u1]
            exact ⟨A', _, rfl, u2, u3, u4, Or.inr ⟨k, q1, q3, hs0, rfl, u5, u6, Or.inr ⟨z, rfl⟩⟩⟩
      obtain ⟨B', ksC, D', p1, p2, p3, p4, p5, p6, p7⟩ := hcl
      obtain ⟨A', ksR, r1, r2, r3, r4, r5⟩ := hrf
      rw [p1, r1]
      have h0' : D' 0 = st D0 0 1 ((wE D0 + 1 : Nat) : Int) 0 := p5.trans h0
      have o4 : ∀ o, o ≠ 100 → o ≠ 113 → A' o = A o := r4
      have hcn' : CNT sd D0 A' := CNT_s hcn ⟨o4 111 (by decide) (by decide), o4 112 (by decide) (by decide), o4 115 (by decide) (by decide), o4 120 (by decide) (by decide)⟩
      by_cases q : ks.1 = 0
      · obtain ⟨hnd, hgd, h39⟩ := hgood q
        obtain ⟨x1', x2', x3', x4'⟩ := hx q
        have hnd2 := hnd
        rw [← hN'] at hnd2
        rcases r5 with ⟨r5, r6⟩ | ⟨k, k1, k2', k3, k4, k5, k6, k7⟩
        · -- no such name
          have hxm : x1 = -1 := by
            rw [← hx1, ← hN']
            refine num_none hnd2 (by decide : ¬ (1 : Nat) = 0) (fun i hi hw => ?_)
            rcases kn_char N nn (tW T t) 0 0 with ⟨_, c2⟩ | ⟨k', c1, c2, c3, c4⟩
            · exact (c2 i hi hw).1
            · rw [hj] at c2
              omega
          rcases p7 with ⟨_, p8⟩ | ⟨u, u1, u2, _⟩
          · have hne := keepA_ne ks (show (4 : Int) ≠ 0 by decide) (tP T t : Int)
            rw [← p8] at hne
            refine ⟨B', A', rfl, rfl, ksC, D', ⟨t1, ?_⟩, ⟨p2, p3, p4⟩, ⟨by rw [p8, ← r6]; exact r2, r3, hcn'⟩, ⟨h0', DW0_0 hD0 h8 h0' p6⟩, fun e => absurd e hne⟩
            rw [p8]
            exact KO_keep hok (KO_up hok hks (by omega) t1) (by omega) t1 _
          · omega
        · have hnum : x1 = (((N k).2.2 : Nat) : Int) := by
            have := num_some hnd2 k1 k2' 0
            rw [hN', hx1, if_pos k3] at this
            exact this
          have hu7 := (hnb.2 k k1).1 k3
          generalize hun : (N k).2.2 = u at hnum k5 k6 k7 hu7
          have hlt14 : wE D0 < 14 := Nat.lt_trans h8 (by decide)
          have hHlt := (hDW.2.2 (wE D0) hlt14).2
          have hH31 : wH D (wE D0) < 2147483648 := Nat.lt_trans hHlt (by decide)
          have hu31 : u < 31 := Nat.lt_of_lt_of_le hu7 (Nat.le_trans hU7 (by decide))
          rw [h39] at k6 k7
          have hbit := and1_eq1 (x := wH D (wE D0)) (r := u) hH31 (Nat.lt_trans hu31 (by decide))
          rw [or1 hH31 hu31] at k6
          rcases p7 with ⟨p7, _⟩ | ⟨u', u1, u2, u3⟩
          · clear k5 k6 k7 hbit x1'
            omega
          · have huu : u' = u := by
              clear k5 k6 k7 hbit x1'
              omega
            subst huu
            rcases u3 with ⟨u3, u4⟩ | ⟨u3, u4, u5⟩
            · have hk8 : ksR = keepA ks 3 (tP T t : Int) := by
                rcases k7 with ⟨_, k8⟩ | ⟨k7, _⟩
                · exact k8
                · exact absurd (hbit.mpr u3) k7
              have hne := keepA_ne ks (show (3 : Int) ≠ 0 by decide) (tP T t : Int)
              rw [← u4] at hne
              refine ⟨B', A', rfl, rfl, ksC, D', ⟨t1, ?_⟩, ⟨p2, p3, p4⟩, ⟨by rw [u4, ← hk8]; exact r2, r3, hcn'⟩, ⟨h0', DW0_0 hD0 h8 h0' p6⟩, fun e => absurd e hne⟩
              rw [u4]
              exact KO_keep hok (KO_up hok hks (Nat.le_succ t) t1) (Nat.lt_succ_self t) t1 _
            · have hk8 : ksR = ks := by
                rcases k7 with ⟨k7, _⟩ | ⟨_, k8⟩
                · rw [hbit, u3] at k7
                  cases k7
                · exact k8
              rw [hk8] at r2
              rw [u4] at p2
              rw [← x1'] at k5
              have hng := n_GD hgd (ce := wE D0) (u := u') (by rw [eE]; exact Nat.lt_succ_self _) (by rw [eU]; exact hu7) u3 ⟨x2', x3', x4'⟩ (Nat.le_succ t) (M' := A') (fun o w1 w2 w3 w4 => o4 o (by clear k5 k6 k7 hbit x1'; omega) (by clear k5 k6 k7 hbit x1'; omega)) k5
              refine ⟨B', A', rfl, rfl, ks, D', ⟨t1, KO_up hok hks (Nat.le_succ t) t1⟩, ⟨p2, p3, p4⟩, ⟨r2, r3, hcn'⟩, ⟨h0', DW0_0 hD0 h8 h0' p6⟩, fun e => ⟨hnd, by rw [u5]; exact hng.1, by rw [u5, hng.2]; exact k6⟩⟩
      · have eC : ksC = ks := by
          rcases p7 with ⟨_, p8⟩ | ⟨u, u1, u2, ⟨_, p8⟩ | ⟨_, p8, _⟩⟩
          · rw [p8, keepA_id q]
          · rw [p8, keepA_id q]
          · exact p8
        have eR : ksR = ks := by
          rcases r5 with ⟨_, r6⟩ | ⟨k, k1, k2', k3, k4, k5, k6, ⟨_, k7⟩ | ⟨_, k7⟩⟩
          · rw [r6, keepA_id q]
          · rw [k7, keepA_id q]
          · exact k7
        rw [eC] at p2
        rw [eR] at r2
        exact ⟨B', A', rfl, rfl, ks, D', ⟨t1, KO_up hok hks (Nat.le_succ t) t1⟩, ⟨p2, p3, p4⟩, ⟨r2, r3, hcn'⟩, ⟨h0', DW0_0 hD0 h8 h0' p6⟩, fun e => absurd e q⟩
    · rw [a1] at g0
      cases g0
  · rcases y_known hR hok ht hNR hNk (by omega) hks (a := 0) (b := 0) (x := 0) (y := 0) rfl rfl with ⟨g0, _⟩ | ⟨f', A4, g0, g1, g2, g3⟩
    · rw [a1] at g0
      cases g0
    · rw [a1] at g0
      cases g0
      rw [a2, bI_some, if_neg (show ¬ ¬ (0 : Int) = 0 from fun q => q rfl), g1, bI_some, if_neg (show ¬ ¬ (-1 : Int) = -1 from fun q => q rfl)]
      exact Or.inr ⟨f, _, _, rfl, a3, rfl, g2⟩
end NM
