/-! eq, whole -/
section QE
variable {T : TKS} {w2 lv sd : Nat} {M0C M0R D0 MC MR : mM} {N N' : NMS} {nn : Nat} {f : Int × Int} {A B : mM} {t : Nat}
noncomputable def zCol (c : Int) (M : mM) : Option mR := bI (gC 44 [rv 4 2, iv 14] M) fun c3 M3 =>
if c3 = 0 then
gA 47 66 [rv 4 2, iv c, iv 0, iv 0] [] M3
else
bI (gC 51 [rv 4 2, iv c] M3) fun c4 M4 =>
if c4 = 0 then
gA 47 66 [rv 4 2, iv c, iv 0, iv 0] [] M4
else
gA 47 66 [rv 4 2, iv c, iv 1, iv 0] [] M4
theorem e_parseEq (M : mM) : gC 47 [rv 4 2] M =
bI (gC 42 [rv 4 2, iv 5, iv (M (M 2 1).toNat 1), iv 8] M) fun c1 M1 =>
if ¬ c1 = 0 then
bI (gC 48 [rv 4 2, iv (M (M 2 1).toNat 1)] (st M1 (M1 2 1).toNat 1 (w32 ((M1 (M1 2 1).toNat 1) + 1)))) fun c2 M2 =>
if c2 = 0 then
gA 47 66 [rv 4 2, iv (M (M 2 1).toNat 1), iv 0, iv 0] [] M2
else
zCol (M (M 2 1).toNat 1) M2
else
some (none, M1) := e_Parser_parseEq M
theorem eq_out (c n : Int) (M : mM) : gA 47 66 [rv 4 2, iv c, iv 0, iv n] [] M = some (none, M) := by
  rw [s_Parser_parseEq_66]
  by_cases z : (400 : Int) ≤ n
  · rw [if_pos z, if_pos rfl]
  · rw [if_neg z, if_pos rfl, if_pos rfl]
/-- from the colon on -/
theorem t_colon (hok : TKok T) (hD0 : DW0 D0) (hnb : NB N nn D0) (hNk : NOKk N nn) (hNk' : NOKk N' (nn + 1)) (h8 : wE D0 < 8) {i0 : Nat} (hi0 : i0 ≤ tm T) (hk0 : tK T i0 = 2) (hN' : nadd N nn (tW T i0, 1, wE D0) = N') {tb : Nat} (htb : tb < t) (t2 : 2 ≤ t) (hQ : QP T w2 M0C lv sd M0R N nn N' D0 t B A) : ∃ MC' MR', zCol (wE D0 : Int) B = some (none, MC') ∧ (bV (gC 193 [rv 11 100, iv 5] A) fun M1 =>
gA 196 112 [rv 11 100, iv ((8 * sd + wE D0 : Nat) : Int), iv (i0 : Int), iv 0, none] [] M1) = some (none, MR') ∧ OUT T w2 M0C lv sd M0R tb MC' MR' := by
  obtain ⟨ks, hv, ⟨ht, hks⟩, ⟨hC, hW, hN⟩, ⟨hR, hNR, hcn⟩, hgood⟩ := hQ
  have h4 := hok.1
  have hw2 := hC.2.2.2
  have hsd := hR.2.2.2
  unfold zCol
  rcases z_accept hC hok ht 14 (x := 14) rfl with ⟨a1, a2, a3⟩ | ⟨f, B3, a1, a2, a3⟩
  · have t1 := ac_next hok ht a1 (by omega)
    rcases y_must hR hok ht 14 (by omega) (x := 5) rfl with ⟨_, b2, b3⟩ | ⟨f, A3, b1, _⟩
    · generalize hB1 : st B 2 2 ((t + 1 : Nat) : Int) = B1 at a2 a3
      generalize hA1 : st A 100 11 ((t + 1 : Nat) : Int) = A1 at b2 b3
      have oA : ∀ o, o ≠ 100 → A1 o = A o := fun o ho => by rw [← hA1, st_ob ho]
      have hWB := CW_k hW (M' := B1) (fun o ho => by rw [← hB1, st_ob (by omega)])
      have hNB : NCk N' (nn + 1) B1 := NCk_s hN (fun o _ _ => by rw [← hB1, st_ob (by omega)]) (by rw [← hB1, st_nk (by omega)])
      have hN1 : NRk N nn A1 := NRk_s hNR (fun o _ _ => oA o (by omega)) (by rw [← hA1, st_nk (by decide)])
      have hcn1 : CNT sd D0 A1 := CNT_s hcn ⟨oA 111 (by decide), oA 112 (by decide), oA 115 (by decide), oA 120 (by decide)⟩
      obtain ⟨A2, p1, p2, p3, p4⟩ := eq_zero (A := A1) (P := fun M => RCp T lv sd M0R (t + 1) ks M ∧ M 100 20 = A1 100 20) (c := wE D0) (sd := sd) h8 (by omega) (fun M u hu hM => ⟨RCp_o hM.1 ⟨by decide, Or.inr (by decide)⟩ (nk113 hsd h8 hu) 0, by rw [st_ob (by decide)]; exact hM.2⟩) ⟨b3, rfl⟩ (i0 : Int)
      have hR2 : RCp T lv sd M0R (t + 1) ks (st A2 100 39 0) := RCp_k p1.1 (Or.inr rfl) 0
      have o2 : ∀ o, o ≠ 100 → o ≠ 113 → st A2 100 39 0 o = A o := fun o h1 h2 => by rw [st_ob h1, p2 o h2, oA o h1]
      have hN2 : NRk N nn (st A2 100 39 0) := NRk_s hN1 (fun o h1 h2 => by rw [st_ob (by omega), p2 o (by omega)]) (by rw [st_nk (by decide)]; exact p1.2)
      have hcn2 : CNT sd D0 (st A2 100 39 0) := CNT_s hcn ⟨o2 111 (by decide) (by decide), o2 112 (by decide) (by decide), o2 115 (by decide) (by decide), o2 120 (by decide) (by decide)⟩
      have e39 : st A2 100 39 0 100 39 = 0 := st_same _ _ _ _
      rw [a2, bI_some, if_neg (show ¬ (1 : Int) = 0 by decide), b2, bV_none, p4, s_GaugeNetModel_tellEq_112, if_pos (by decide)]
      have p113 : ∀ i, st A2 100 39 0 113 i = if 9 * (8 * sd + wE D0) ≤ i ∧ i < 9 * (8 * sd + wE D0) + 9 then 0 else A 113 i := fun i => by rw [st_ob (by decide), p3 i, oA 113 (by decide)]
      generalize st A2 100 39 0 = A3 at hR2 o2 hN2 hcn2 e39 p113 ⊢
      rw [hR2.2.1.2.1, if_neg (show ¬ ¬ (0 : Int) = 0 from fun q => q rfl), y_is hR2 hok t1 (k := 16) (by omega) (x := 8) rfl, bI_some]
      -- both at the terms
      have h00 : st (st D0 0 1 ((wE D0 + 1 : Nat) : Int)) 3 (wE D0) hv 0 = st D0 0 1 ((wE D0 + 1 : Nat) : Int) 0 := st_ob (by decide)
      have h8r : ∀ r, r < 14 → st (st D0 0 1 ((wE D0 + 1 : Nat) : Int)) 3 (wE D0) hv 8 r = (wH (st (st D0 0 1 ((wE D0 + 1 : Nat) : Int)) 3 (wE D0) hv) r : Int) ∧ wH (st (st D0 0 1 ((wE D0 + 1 : Nat) : Int)) 3 (wE D0) hv) r < 128 := fun r hr => by
        have ew : wH (st (st D0 0 1 ((wE D0 + 1 : Nat) : Int)) 3 (wE D0) hv) = wH D0 := by
          funext q
          unfold wH
          rw [st_ob (by decide), st_ob (by decide)]
        rw [ew, st_ob (by decide), st_ob (by decide)]
        exact hD0.2.2 r hr
      have hQT : QT T w2 M0C lv sd M0R N nn N' D0 (t + 1) B1 A3 := by
        refine ⟨ks, _, ⟨t1, KO_up hok hks (Nat.le_succ t) t1⟩, ⟨a3, hWB, hNB⟩, ⟨hR2, hN2, hcn2⟩, ⟨h00, DW0_0 hD0 h8 h00 h8r⟩, fun q => ?_⟩
        obtain ⟨q1, q2, q3, hn, h16, q4⟩ := hgood q
        subst q4
        have hb := b_GD q2 h8 h16 (Nat.le_succ t) (M' := A3) (fun o v1 v2 v3 => o2 o (by omega) (by omega)) p113 (fun i => by
          rw [o2 114 (by decide) (by decide)]
          by_cases z : i = 8 * sd + wE D0
          · rw [if_pos z, z, q3]
          · rw [if_neg z])
        refine ⟨q1, hb.1, ?_⟩
        rw [e39, hb.2]
        rfl
      have tb1 : tb < t + 1 := Nat.lt_succ_of_lt htb
      by_cases k16 : tK T (t + 1) = 16 ∨ tK T (t + 1) = 17
      · -- a term
        have step : ∃ MC' MR', (bI (gC 51 [rv 4 2, iv (wE D0 : Int)] B1) fun c4 M4 =>
if c4 = 0 then
gA 47 66 [rv 4 2, iv (wE D0 : Int), iv 0, iv 0] [] M4
else
gA 47 66 [rv 4 2, iv (wE D0 : Int), iv 1, iv 0] [] M4) = some (none, MC') ∧ (bV (gC 198 [rv 11 100, iv ((8 * sd + wE D0 : Nat) : Int)] A3) fun M2 =>
gA 196 171 [rv 11 100, iv ((8 * sd + wE D0 : Nat) : Int), iv (i0 : Int), none, none] [] M2) = some (none, MR') ∧ OUT T w2 M0C lv sd M0R tb MC' MR' := by
          rcases t_term hok hD0 hnb hNk hNk' h8 hN' hQT k16 with ⟨B', A', t', q1, q2, q3, q4⟩ | ⟨f, B', A', q1, q2, q3, q4⟩
          · have ht' : t' ≤ tm T := by
              obtain ⟨_, _, ⟨ht', _⟩, _⟩ := q4
              exact ht'
            obtain ⟨MC', MR', r1, r2, r3⟩ := t_terms hok hD0 hnb hNk hNk' h8 hi0 hk0 hN' (tb := tb) (401 - t') t' 0 B' A' (by omega) (by omega) (by omega) q4
            rw [show ((0 : Nat) : Int) = 0 from rfl] at r1
            rw [q2, bI_some, if_neg (show ¬ (1 : Int) = 0 by decide), q3, bV_none, r1, r2]
            exact ⟨_, _, rfl, rfl, r3⟩
          · rw [q1, bI_some, if_pos rfl, q3, bV_none, eq_f171 q4, eq_out]
            exact ⟨_, _, rfl, rfl, Or.inr ⟨f, q2, q4⟩⟩
        by_cases k1 : tK T (t + 1) = 16
        · rw [if_pos k1, if_pos (show ¬ (1 : Int) = 0 by decide), s_GaugeNetModel_tellEq_171, y_is hR2 hok t1 (k := 16) (by omega) (x := 8) rfl, bI_some, if_pos k1, if_pos (show ¬ (1 : Int) = 0 by decide)]
          exact step
        · have k2 : tK T (t + 1) = 17 := k16.resolve_left k1
          rw [if_neg k1, if_neg (show ¬ ¬ (0 : Int) = 0 from fun q => q rfl), y_is hR2 hok t1 (k := 17) (by omega) (x := 9) rfl, bI_some, if_pos k2, if_pos (show ¬ (1 : Int) = 0 by decide), s_GaugeNetModel_tellEq_171, y_is hR2 hok t1 (k := 16) (by omega) (x := 8) rfl, bI_some, if_neg k1, if_neg (show ¬ ¬ (0 : Int) = 0 from fun q => q rfl), y_is hR2 hok t1 (k := 17) (by omega) (x := 9) rfl, bI_some, if_pos k2, if_neg (show ¬ (1 : Int) = 0 by decide)]
          exact step
      · -- none
        have k1 : ¬ tK T (t + 1) = 16 := fun q => k16 (Or.inl q)
        have k2 : ¬ tK T (t + 1) = 17 := fun q => k16 (Or.inr q)
        have n17 : ¬ (tK T (t + 1) : Int) = 17 := by omega
        have hfR := RFp_of hR2 (f := (1, (tP T (t + 1) : Int))) (by decide : (0 : Int) < 1)
        rw [if_neg k1, if_neg (show ¬ ¬ (0 : Int) = 0 from fun q => q rfl), y_is hR2 hok t1 (k := 17) (by omega) (x := 9) rfl, bI_some, if_neg k2, if_neg (show ¬ ¬ (0 : Int) = 0 from fun q => q rfl), y_fail hR2 hok t1, bV_none, eq_f171 hfR, e_parseTerm, z_kind a3 hok t1, bI_some, if_pos n17, z_kind a3 hok t1, bI_some, if_pos n17]
        rcases z_accept a3 hok t1 16 (x := 16) rfl with ⟨c1, _⟩ | ⟨f, B2, c1, c2, c3⟩
        · exact absurd (ac_none c1).1 k1
        · unfold acF at c1
          rw [if_neg k1] at c1
          cases c1
          rw [c2, bI_some, if_neg (show ¬ ¬ (0 : Int) = 0 from fun q => q rfl), bI_some, if_pos rfl, eq_out]
          exact ⟨_, _, rfl, rfl, Or.inr ⟨_, c3, hfR⟩⟩
    · rw [a1] at b1
      cases b1
  · rcases y_must hR hok ht 14 (by omega) (x := 5) rfl with ⟨b1, _⟩ | ⟨f', A3, b1, b2, b3, b4⟩
    · rw [a1] at b1
      cases b1
    · rw [a1] at b1
      cases b1
      obtain ⟨A', p1, p2⟩ := eq_f112 (c := wE D0) h8 hsd b3 (i0 : Int)
      rw [a2, bI_some, if_pos rfl, eq_out, b2, bV_none, p1]
      exact ⟨_, _, rfl, rfl, Or.inr ⟨f, a3, p2⟩⟩
theorem t_eq (h : SB T w2 M0C lv sd M0R t MC MR) (hok : TKok T) (hk : tK T t = 5) : ∃ MC' MR', gC 47 [rv 4 2] MC = some (none, MC') ∧ gC 188 [rv 11 100] MR = some (none, MR') ∧ OUT T w2 M0C lv sd M0R t MC' MR' := by
  obtain ⟨ks, N, nn, D, ⟨ht, hks⟩, ⟨hC, hW, hN⟩, ⟨hR, hNR, hcn⟩, ⟨hD, hNk, hnb⟩, hgood⟩ := h
  obtain ⟨y1, y2, y3, y4⟩ := y_kindIs hR hok ht
  obtain ⟨⟨⟨d0, d0'⟩, ⟨d1, d1'⟩, ⟨d2, d2'⟩, ⟨d3, d3'⟩⟩, d5, d8⟩ := id hD
  have h4 := hok.1
  have hw2 := hC.2.2.2
  have hsd := hR.2.2.2
  have h29 : nn ≤ 29 := by have := hnb.1; omega
  have eE : MC w2 1 = (wE D : Int) := by rw [CW_0 hW]; exact d1
  have er : ((rkd 5 : Nat) : Int) = 21 := rfl
  rw [e_parseEq, hC.2.1.1, pu_nn, eE, e_GaugeNetModel_tell, if_pos y2, y1, hk, er, if_neg (by decide), if_pos rfl, if_pos y3, y4, hcn.2.1, d1]
  by_cases hroom : wE D < 8
  · have rk : 0 ≤ ((8 * sd + wE D : Nat) : Int) ∧ ((8 * sd + wE D : Nat) : Int) < 16 := by omega
    have r8 : 0 ≤ (wE D : Int) ∧ (wE D : Int) < 8 := by omega
    have nk := nk114 (c := wE D) hsd hroom
    have hx : w32 (w32 (8 * MR 100 19) + (wE D : Int)) = ((8 * sd + wE D : Nat) : Int) := by
      rw [hR.2.1.2.2.2.2, pu_w32 (x := 8 * (sd : Int)) (by omega) (by omega), pu_w32 (by omega) (by omega)]
      omega
    have hz := z_head (c := wE D) (most := 8) hC hok ht hN hNk (by have := hnb.1; clear hx; omega) (k := 5) (s := 1) hk (by decide) rfl
    rw [show ((5 : Nat) : Int) = 5 from rfl, show ((8 : Nat) : Int) = 8 from rfl] at hz
    have e112 : MR 112 (MR 100 19).toNat = (wE D : Int) := by rw [y4, hcn.2.1]; exact d1
    rw [if_pos (show ¬ (wE D : Int) = 8 by clear hx; omega), hR.2.1.2.1, if_neg (show ¬ ¬ (0 : Int) = 0 from fun q => q rfl), e_GaugeNetModel_tellEq, if_pos y3, e112]
    rcases hz with ⟨z1, M1, z2, z3, z4, z5⟩ | ⟨f, M1, z1, z2, z3⟩
    · rcases y_head hR hok ht (by clear hx; omega) hNR hNk h29 hks hroom with ⟨_, t2, kk, A1, A2, v1, v2, v3, v4, v5⟩ | ⟨f, A1, x, A2, v0, _⟩
      · have hw := hok.2.2.2.2.2.1 (t + 1) (Nat.le_of_succ_le t2) kk
        have hks2 := KO_hd hok (N := N) (nn := nn) hks t2
        have eE1 : M1 w2 1 = (wE D : Int) := by rw [z5 w2 (by clear hx; omega)]; exact eE
        have hE31 : wE D < 2147483647 := by clear hx; omega
        have ne2 : (2 : Nat) ≠ w2 := by clear hx; omega
        have nlt0 : ¬ (wE D : Int) < 0 := by clear hx; omega
        have hgood' := hgood
        rw [z2, bI_some, if_pos (show ¬ (1 : Int) = 0 by decide), z3.2.1.1, pu_nn, eE1, pu_inc hE31, v1, bV_none, v2, bI_some, hx, if_pos rk, pu_nn]
        clear hx
        have hWA : CW w2 (st D 0 1 ((wE D + 1 : Nat) : Int)) (st M1 w2 1 ((wE D + 1 : Nat) : Int)) := CW_st (CW_2 hW z5) 0 1 _
        have hCA : CCp T w2 M0C (t + 2) (hdK T N nn t ks) (st M1 w2 1 ((wE D + 1 : Nat) : Int)) := CCp_o z3 (by omega) _ _
        have hNA : NCk (nadd N nn (tW T (t + 1), 1, wE D)) (nn + 1) (st M1 w2 1 ((wE D + 1 : Nat) : Int)) := NCk_s z4 (fun o _ _ => by rw [st_ob (by omega)]) (by rw [st_ob (by omega)])
        have hRA : RCp T lv sd M0R (t + 2) (hdK T N nn t ks) (st A2 114 (8 * sd + wE D) 15) := RCp_o v3 ⟨by decide, Or.inr (by decide)⟩ nk _
        have hN2 : NRk N nn A2 := NRk_s hNR (fun o _ _ => v4 o (by omega)) (v5 20 (by decide) (by decide) (by decide))
        have hcn2 : CNT sd D A2 := CNT_s hcn ⟨v4 111 (by decide), v4 112 (by decide), v4 115 (by decide), v4 120 (by decide)⟩
        have hNk' : NOKk (nadd N nn (tW T (t + 1), 1, wE D)) (nn + 1) := NOK_add hNk hw.1 hw.2 (by decide : (1 : Nat) < 4)
        have ht1 : t + 1 ≤ tm T := Nat.le_of_succ_le t2
        -- the state with the POSITIONS hv
        have mkQ : ∀ (hv gv : Int) (t' : Nat) (B' A' : mM), (D 3 (wE D) = 0 → hv = gv ∧ ∃ h : Nat, h < 16 ∧ hv = (h : Int)) → t + 2 ≤ t' → t' ≤ tm T → CCp T w2 M0C t' (hdK T N nn t ks) B' → CW w2 (st (st D 0 1 ((wE D + 1 : Nat) : Int)) 3 (wE D) hv) B' → NCk (nadd N nn (tW T (t + 1), 1, wE D)) (nn + 1) B' → RCp T lv sd M0R t' (hdK T N nn t ks) A' → (∀ o, o ≠ 100 → o ≠ 114 → A' o = A2 o) → (∀ i, A' 114 i = if i = 8 * sd + wE D then gv else A2 114 i) → A' 100 20 = A2 100 20 → QP T w2 M0C lv sd M0R N nn (nadd N nn (tW T (t + 1), 1, wE D)) D t' B' A' := by
          intro hv gv t' B' A' g0 g1 g2 g3 g4 g5 g6 g7 g8 g9
          refine ⟨hdK T N nn t ks, hv, ⟨g2, KO_up hok hks2 g1 g2⟩, ⟨g3, g4, g5⟩, ⟨g6, NRk_s hN2 (fun o _ _ => g7 o (by omega) (by omega)) g9, CNT_s hcn2 ⟨g7 111 (by decide) (by decide), g7 112 (by decide) (by decide), g7 115 (by decide) (by decide), g7 120 (by decide) (by decide)⟩⟩, fun q => ?_⟩
          obtain ⟨q1, q2, q3⟩ := hdK_0 q
          obtain ⟨r1, r2⟩ := hgood q1
          obtain ⟨g01, g02⟩ := g0 (r2.2.1.2.2.2.2 (wE D) (Nat.le_refl _) hroom)
          refine ⟨ND_add r1 q2, GD_114 r2 (by omega) hroom (fun o u1 u2 u3 u4 u5 => ?_) (fun i hi => ?_), ?_, g02⟩
          · rw [g7 o (by omega) u2, v4 o (by omega)]
          · rw [g8, if_neg hi, v4 114 (by decide)]
          · rw [g8, if_pos rfl, g01]
        rw [e_Parser_parsePositions, z_kind hCA hok t2, bI_some, y_is hRA hok t2 (k := 6) (by decide) (x := 22) rfl, bI_some]
        by_cases k6 : tK T (t + 2) = 6
        · -- with POSITIONS
          rw [if_pos (show (tK T (t + 2) : Int) = 6 by omega), if_pos k6, if_neg (show ¬ (1 : Int) = 0 by decide), if_pos rk]
          have hWB : CW w2 (st (st D 0 1 ((wE D + 1 : Nat) : Int)) 3 (wE D) (D 3 (wE D))) (st M1 w2 1 ((wE D + 1 : Nat) : Int)) := by
            have e := st_self (st D 0 1 ((wE D + 1 : Nat) : Int)) 3 (wE D)
            rw [st_ob (show 3 ≠ 0 by decide)] at e
            rw [e]
            exact hWA
          have hRB : RCp T lv sd M0R (t + 2) (hdK T N nn t ks) (st (st A2 114 (8 * sd + wE D) 15) 114 (8 * sd + wE D) 0) := RCp_o hRA ⟨by decide, Or.inr (by decide)⟩ nk _
          rw [s_GaugeNetModel_tellEq_53, if_neg (show ¬ (1 : Int) = 0 by decide), hRB.2.1.2.1, if_neg (show ¬ ¬ (0 : Int) = 0 from fun q => q rfl)]
          rcases z_accept hCA hok t2 6 (x := 6) rfl with ⟨a1, a2, a3⟩ | ⟨f, B3, a1, a2, a3⟩
          · have t3 := ac_next hok t2 a1 (by decide)
            rcases y_goesOn hRB hok t2 with ⟨_, b2, b3⟩ | ⟨f, A3, b1, _⟩
            · have hQ : QP T w2 M0C lv sd M0R N nn (nadd N nn (tW T (t + 1), 1, wE D)) D (t + 2 + 1) _ _ := mkQ (D 3 (wE D)) 0 (t + 2 + 1) _ _ (fun z => ⟨z, 0, by decide, z⟩) (Nat.le_succ _) t3 a3 (CW_k hWB (fun o ho => st_ob (by omega))) (NCk_s hNA (fun o _ _ => st_ob (by omega)) (st_nk (by decide))) b3 (fun o u1 u2 => by rw [st_ob u1, st_ob u2, st_ob u2]) (fun i => by
                rw [st_ob (by decide), st_if, st_if]
                split <;> rfl) (by rw [st_nk (by decide), st_ob (by decide), st_ob (by decide)])
              rw [a2, bI_some, if_neg (show ¬ (1 : Int) = 0 by decide), b2, bV_none]
              rcases t_pos hok hroom (x2 := ((t + 1 : Nat) : Int)) hQ with ⟨B', A', p1, p2, p3⟩ | ⟨f, B', A', p1, p2, p3, p4⟩
              · rw [p1, bI_some, if_neg (show ¬ (1 : Int) = 0 by decide), p2]
                have t4 : t + 2 + 1 + 1 ≤ tm T := by
                  obtain ⟨_, _, ⟨t4, _⟩, _⟩ := p3
                  exact t4
                have hps := t_poss hok hroom (x2 := ((t + 1 : Nat) : Int)) (401 - (t + 2 + 1 + 1)) (t + 2 + 1 + 1) 0 B' A' (by omega) (by omega) p3
                rw [show ((0 : Nat) : Int) = 0 from rfl] at hps
                rcases hps with ⟨B5, A5, t', q1, q2, q3, q4⟩ | ⟨f, B5, A5, q1, q2, q3, q4⟩
                · rw [q2, bI_some, if_neg (show ¬ (1 : Int) = 0 by decide), q3]
                  obtain ⟨MC', MR', r1, r2, r3⟩ := t_colon hok hD hnb hNk hNk' hroom ht1 kk rfl (tb := t) (show t < t' by omega) (show 2 ≤ t' by omega) q4
                  rw [r1, r2, bV_none]
                  exact ⟨_, _, rfl, rfl, r3⟩
                · rw [q1, bI_some, if_pos rfl, eq_out, q3, bV_none]
                  exact ⟨_, _, rfl, rfl, Or.inr ⟨f, q2, q4⟩⟩
              · have out0 : gA 48 46 [rv 4 2, iv (wE D : Int), iv 0, iv 0] [] B' = some (iv 0, B') := by
                  rw [s_Parser_parsePositions_46, if_neg (by decide), if_pos rfl, if_pos (by decide)]
                rw [p1, bI_some, if_pos rfl, out0, bI_some, if_pos rfl, eq_out, p3, bV_none]
                exact ⟨_, _, rfl, rfl, Or.inr ⟨f, p2, p4⟩⟩
            · rw [k6, a1] at b1
              cases b1
          · rcases y_goesOn hRB hok t2 with ⟨b1, _⟩ | ⟨f', A3, b1, b2, b3, b4⟩
            · rw [k6, a1] at b1
              cases b1
            · rw [k6, a1] at b1
              cases b1
              have out0 : gA 48 46 [rv 4 2, iv (wE D : Int), iv 0, iv 0] [] B3 = some (iv 0, B3) := by
                rw [s_Parser_parsePositions_46, if_neg (by decide), if_pos rfl, if_pos (by decide)]
              have g2' := RFp_o b3 (o := 114) (by decide) nk (or32 (A3 114 (8 * sd + wE D)) (shl32 1 0))
              obtain ⟨A', p1, p2⟩ := eq_f53 (c := wE D) hroom hsd g2' ((t + 1 : Nat) : Int)
              rw [a2, bI_some, if_pos rfl, out0, bI_some, if_pos rfl, eq_out, b2, bV_none, y_toldInt_f b3, bI_some, if_neg (show ¬ (4 : Int) ≤ 0 by decide), if_pos rk, if_pos rk, pu_nn, y_is_f (RFp_ne g2'), bI_some, p1, bV_none]
              exact ⟨_, _, rfl, rfl, Or.inr ⟨f, a3, p2⟩⟩
        · -- without
          have hCB := CCp_o hCA (o := w2 + 3) (Or.inr ⟨Nat.le_add_right _ _, Nat.add_le_add_left (by decide) _⟩) (wE D) (or32 (D 3 (wE D)) 15)
          have hNB : NCk (nadd N nn (tW T (t + 1), 1, wE D)) (nn + 1) (st (st M1 w2 1 ((wE D + 1 : Nat) : Int)) (w2 + 3) (wE D) (or32 (D 3 (wE D)) 15)) := NCk_s hNA (fun o _ _ => st_ob (by omega)) (by rw [st_ob (by omega)])
          have hQ : QP T w2 M0C lv sd M0R N nn (nadd N nn (tW T (t + 1), 1, wE D)) D (t + 2) _ _ := mkQ (or32 (D 3 (wE D)) 15) 15 (t + 2) _ _ (fun z => by rw [z]; exact ⟨by decide +kernel, 15, by decide, by decide +kernel⟩) (Nat.le_refl _) t2 hCB (CW_st hWA 3 (wE D) _) hNB hRA (fun o u1 u2 => st_ob u2) (fun i => by rw [st_if]) (by rw [st_ob (by decide)])
          rw [if_neg (show ¬ (tK T (t + 2) : Int) = 6 by omega), hCA.2.1.1, put_hold r8, bV_none, bI_some, if_neg (show ¬ (1 : Int) = 0 by decide), pu_nn, pu_nn, hWA.2 3 (by decide), st_ob (show 3 ≠ 0 by decide), if_neg k6, if_pos rfl]
          obtain ⟨MC', MR', r1, r2, r3⟩ := t_colon hok hD hnb hNk hNk' hroom ht1 kk rfl (tb := t) (show t < t + 2 by omega) (show 2 ≤ t + 2 by omega) hQ
          rw [r1, r2, bV_none]
          exact ⟨_, _, rfl, rfl, r3⟩
      · rw [z1] at v0
        cases v0
    · rcases y_head hR hok ht (by clear hx; omega) hNR hNk h29 hks hroom with ⟨v0, _⟩ | ⟨f', A1, x, A2, v0, v1, v2, v3, v4⟩
      · rw [z1] at v0
        cases v0
      · rw [z1] at v0
        cases v0
        have f3 := RFp_o v3 (o := 114) (by decide) nk 15
        obtain ⟨A', p1, p2⟩ := eq_f112 (c := wE D) hroom hsd f3 x
        rw [z2, bI_some, if_neg (show ¬ ¬ (0 : Int) = 0 from fun q => q rfl), v1, bV_none, v2, bI_some, hx, if_pos rk, pu_nn, y_is_f (RFp_ne f3), bI_some, if_pos rfl, y_must_f f3, bV_none, p1, bV_none]
        exact ⟨_, _, rfl, rfl, Or.inr ⟨f, z3, p2⟩⟩
  · have z7 : wE D = 8 := by omega
    have hz : ∃ f M', hdF T t (wE D) 8 = some f ∧ gC 42 [rv 4 2, iv 5, iv (wE D : Int), iv 8] MC = some (iv 0, M') ∧ CFp w2 M0C f M' := by
      unfold hdF
      rw [if_neg hroom, e_Parser_acceptHead, if_neg (by omega), z_stop hC hok ht, bI_some, if_pos (by omega)]
      exact ⟨_, _, rfl, rfl, CFp_of hC (2, (tP T t : Int))⟩
    obtain ⟨f, M1, z1, z2, z3⟩ := hz
    obtain ⟨n1, n2⟩ := noRoom hok ht (MC := MC) hroom z1 z3 hR
    rw [if_neg (show ¬ ¬ (wE D : Int) = 8 from fun q => q (by omega)), n1, bV_none, if_pos (RFp_ne n2), z2, bI_some, if_neg (show ¬ ¬ (0 : Int) = 0 from fun q => q rfl)]
    exact ⟨_, _, rfl, rfl, Or.inr ⟨f, z3, n2⟩⟩
end QE
