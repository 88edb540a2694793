/-! fault -/
theorem st_self (M : mM) (o k : Nat) : st M o k (M o k) = M := by
  funext p q
  unfold st
  by_cases h : p = o ∧ q = k
  · rw [if_pos h, h.1, h.2]
  · rw [if_neg h]
section DF
variable {D : mM}
theorem f_F {v : Nat} : wF (st D 0 3 (v : Int)) = v := by
  unfold wF
  rw [st_same, pu_nn]
theorem f_U {v : Int} : wU (st D 0 3 v) = wU D := by
  unfold wU
  rw [st_nk (by omega)]
theorem f_E {v : Int} : wE (st D 0 3 v) = wE D := by
  unfold wE
  rw [st_nk (by omega)]
theorem f_G {v : Int} : wG (st D 0 3 v) = wG D := by
  unfold wG
  rw [st_nk (by omega)]
theorem f_I {v : Int} : wI (st D 0 3 v) = wI D := by
  unfold wI
  rw [st_nk (by omega)]
theorem f_P {v : Int} : wP (st D 0 3 v) = wP D := by
  unfold wP
  rw [st_nk (by omega)]
theorem f_D {v : Int} : wD (st D 0 3 v) = wD D := by
  unfold wD
  rw [st_nk (by omega)]
theorem f_H {v : Int} : wH (st D 0 3 v) = wH D := by
  funext r
  unfold wH
  rw [st_ob (by omega)]
/-- a row of a fault -/
theorem s7_0 {k : Nat} {v : Int} : st D 7 k v 0 = D 0 := st_ob (by omega)
theorem s7_wU {k : Nat} {v : Int} : wU (st D 7 k v) = wU D := by unfold wU; rw [s7_0]
theorem s7_wE {k : Nat} {v : Int} : wE (st D 7 k v) = wE D := by unfold wE; rw [s7_0]
theorem s7_wG {k : Nat} {v : Int} : wG (st D 7 k v) = wG D := by unfold wG; rw [s7_0]
theorem s7_wF {k : Nat} {v : Int} : wF (st D 7 k v) = wF D := by unfold wF; rw [s7_0]
theorem s7_wI {k : Nat} {v : Int} : wI (st D 7 k v) = wI D := by unfold wI; rw [s7_0]
theorem s7_wP {k : Nat} {v : Int} : wP (st D 7 k v) = wP D := by unfold wP; rw [s7_0]
theorem s7_wD {k : Nat} {v : Int} : wD (st D 7 k v) = wD D := by unfold wD; rw [s7_0]
theorem s7_wH {k : Nat} {v : Int} : wH (st D 7 k v) = wH D := by
  funext r
  unfold wH
  rw [st_ob (by omega)]
theorem f_WF (h : WF D) (h8 : wF D < 8) {x : Nat} (hx : x < 14) (hr : isRw D x = true) : WF (st (st D 0 3 ((wF D + 1 : Nat) : Int)) 7 (wF D) (x : Int)) := by
  obtain ⟨⟨a1, a2, a3, a4⟩, ⟨b1, b2, b3⟩, c, d, e, f, g, i, j, k, l, m⟩ := h
  have no : wNo (st (st D 0 3 ((wF D + 1 : Nat) : Int)) 7 (wF D) (x : Int)) = wNo D := by funext r; unfold wNo; rw [st_ob (by omega), st_ob (by omega)]
  have co : wCo (st (st D 0 3 ((wF D + 1 : Nat) : Int)) 7 (wF D) (x : Int)) = wCo D := by funext r; unfold wCo; rw [st_ob (by omega), st_ob (by omega)]
  have ho : wHo (st (st D 0 3 ((wF D + 1 : Nat) : Int)) 7 (wF D) (x : Int)) = wHo D := by funext r; unfold wHo; rw [st_ob (by omega), st_ob (by omega)]
  have rw' : isRw (st (st D 0 3 ((wF D + 1 : Nat) : Int)) 7 (wF D) (x : Int)) = isRw D := by funext r; unfold isRw; rw [s7_wE, s7_wG, f_E, f_G]
  have f7 : ∀ q, st (st D 0 3 ((wF D + 1 : Nat) : Int)) 7 (wF D) (x : Int) 7 q = if q = wF D then (x : Int) else D 7 q := fun q => by rw [st_if, st_ob (by omega)]
  have fr : ∀ q, wFr (st (st D 0 3 ((wF D + 1 : Nat) : Int)) 7 (wF D) (x : Int)) q = if q = wF D then x else wFr D q := fun q => by
    unfold wFr
    rw [f7]
    split
    · rw [pu_nn]
    · rfl
  unfold WF
  rw [no, co, ho, rw', s7_wU, s7_wE, s7_wG, s7_wF, s7_wI, s7_wP, s7_wD, s7_wH, f_U, f_E, f_G, f_F, f_I, f_P, f_D, f_H, s7_0, st_same, st_nk (show 0 ≠ 3 by omega), st_nk (show 1 ≠ 3 by omega), st_nk (show 2 ≠ 3 by omega), st_nk (show 4 ≠ 3 by omega), st_nk (show 5 ≠ 3 by omega), st_nk (show 6 ≠ 3 by omega), st_ob (show 1 ≠ 7 by omega), st_ob (show 1 ≠ 0 by omega), st_ob (show 2 ≠ 7 by omega), st_ob (show 2 ≠ 0 by omega), st_ob (show 3 ≠ 7 by omega), st_ob (show 3 ≠ 0 by omega), st_ob (show 4 ≠ 7 by omega), st_ob (show 4 ≠ 0 by omega), st_ob (show 5 ≠ 7 by omega), st_ob (show 5 ≠ 0 by omega), st_ob (show 6 ≠ 7 by omega), st_ob (show 6 ≠ 0 by omega), st_ob (show 8 ≠ 7 by omega), st_ob (show 8 ≠ 0 by omega)]
  refine ⟨⟨a1, a2, a3, rfl, by omega⟩, ⟨b1, b2, b3⟩, c, d, e, f, g, i, fun q hq => ?_, fun q hq => ?_, l, m⟩
  · rw [f7, fr]
    by_cases z : q = wF D
    · rw [if_pos z, if_pos z]
    · rw [if_neg z, if_neg z]
      exact j q hq
  · rw [fr]
    by_cases z : q = wF D
    · rw [if_pos z]
      exact ⟨hx, hr⟩
    · rw [if_neg z]
      exact k q (by omega)
theorem f_GD {sd t t' : Nat} {M M' : mM} (h : GDd sd t D M) (h8 : wF D < 8) {x : Nat} (hx : x < 14) (hr : isRw D x = true) (ht : t ≤ t') (k : ∀ o, 113 ≤ o → (o < 115 ∨ 115 < o) → o < 120 → M' o = M o) (k2 : ∀ i, M' 121 i = if i = 8 * sd + wF D then (x : Int) else M 121 i) : GDd sd t' (st (st D 0 3 ((wF D + 1 : Nat) : Int)) 7 (wF D) (x : Int)) M' := by
  obtain ⟨h1, h2, h3, h4, h5, h6⟩ := h
  refine ⟨f_WF h1 h8 hx hr, ?_, fun e he => ?_, fun e he => ?_, fun g hg => ?_, fun f hf => ?_⟩
  · unfold FRd
    rw [s7_wE, s7_wG, f_E, f_G, s7_0, st_nk (show 4 ≠ 3 by omega), st_nk (show 6 ≠ 3 by omega), st_ob (show 1 ≠ 7 by omega), st_ob (show 1 ≠ 0 by omega), st_ob (show 2 ≠ 7 by omega), st_ob (show 2 ≠ 0 by omega), st_ob (show 3 ≠ 7 by omega), st_ob (show 3 ≠ 0 by omega), st_ob (show 4 ≠ 7 by omega), st_ob (show 4 ≠ 0 by omega), st_ob (show 5 ≠ 7 by omega), st_ob (show 5 ≠ 0 by omega), st_ob (show 6 ≠ 7 by omega), st_ob (show 6 ≠ 0 by omega)]
    exact h2
  · rw [st_ob (by omega), st_ob (by omega)]
    have := h3 e he
    omega
  · rw [s7_wE, f_E] at he
    exact RDe_s (h4 e he) ⟨k 113 (by omega) (by omega) (by omega), k 114 (by omega) (by omega) (by omega)⟩ ⟨by rw [st_ob (by omega), st_ob (by omega)], by rw [st_ob (by omega), st_ob (by omega)], by rw [st_ob (by omega), st_ob (by omega)]⟩
  · rw [s7_wG, f_G] at hg
    obtain ⟨⟨y, x1, x2, x3⟩, y1, y2, y3⟩ := h5 g hg
    unfold RDg
    rw [s7_wU, s7_wI, f_U, f_I, st_ob (show 1 ≠ 7 by omega), st_ob (show 1 ≠ 0 by omega), st_ob (show 4 ≠ 7 by omega), st_ob (show 4 ≠ 0 by omega), st_ob (show 5 ≠ 7 by omega), st_ob (show 5 ≠ 0 by omega), k 116 (by omega) (by omega) (by omega), k 117 (by omega) (by omega) (by omega), k 118 (by omega) (by omega) (by omega), k 119 (by omega) (by omega) (by omega)]
    exact ⟨⟨y, x1, x2, x3⟩, y1, y2, y3⟩
  · rw [s7_wF, f_F] at hf
    rw [k2, st_if, st_ob (by omega)]
    by_cases z : f = wF D
    · rw [if_pos z, if_pos (by rw [z])]
    · rw [if_neg z, if_neg (by omega)]
      exact h6 f (by omega)
end DF
section TF
variable {T : TKS} {w2 lv sd : Nat} {M0C M0R MC MR : mM} {t : Nat}
theorem keepA_id {ks : Int × Int} (h : ks.1 ≠ 0) (n p : Int) : keepA ks n p = ks := by
  unfold keepA
  rw [if_neg h]
theorem t_fault (h : SB T w2 M0C lv sd M0R t MC MR) (hok : TKok T) (hk : tK T t = 12) : ∃ MC' MR', gC 57 [rv 4 2] MC = some (none, MC') ∧ gC 188 [rv 11 100] MR = some (none, MR') ∧ OUT T w2 M0C lv sd M0R t MC' MR' := by
  obtain ⟨ks, N, nn, D, ⟨ht, hks⟩, ⟨hC, hW, hN⟩, ⟨hR, hNR, hcn⟩, ⟨hD, hNk, hnb⟩, hgood⟩ := h
  obtain ⟨y1, y2, y3, y4⟩ := y_kindIs hR hok ht
  obtain ⟨⟨⟨d0, d0'⟩, ⟨d1, d1'⟩, ⟨d2, d2'⟩, ⟨d3, d3'⟩⟩, d5, d8⟩ := id hD
  have h4 := hok.1
  have hw2 := hC.2.2.2
  have hsd := hR.2.2.2
  have h29 : nn ≤ 29 := by have := hnb.1; omega
  have eF : MC w2 3 = (wF D : Int) := by rw [CW_0 hW]; exact d3
  have er : ((rkd 12 : Nat) : Int) = 28 := rfl
  rw [e_Parser_parseFault, hC.2.1.1, pu_nn, eF, e_GaugeNetModel_tell, if_pos y2, y1, hk, er, if_neg (by decide), if_neg (by decide), if_neg (by decide), if_neg (by decide), if_neg (by decide), if_neg (by decide), if_neg (by decide), if_neg (by decide), if_pos rfl, if_pos y3, y4, hcn.2.2.2, d3]
  by_cases hroom : wF D < 8
  · rw [if_pos (show ¬ (wF D : Int) = 8 by omega), hR.2.1.2.1, if_neg (show ¬ ¬ (0 : Int) = 0 from fun q => q rfl), e_GaugeNetModel_tellFault, if_pos y3, y4]
    have hz := z_head (c := wF D) (most := 8) hC hok ht hN hNk (by have := hnb.1; omega) (k := 12) (s := 3) hk (by omega) rfl
    rw [show ((12 : Nat) : Int) = 12 from rfl, show ((8 : Nat) : Int) = 8 from rfl] at hz
    rcases hz with ⟨z1, M1, z2, z3, z4, z5⟩ | ⟨f, M1, z1, z2, z3⟩
    · rcases y_head hR hok ht (by omega) hNR hNk h29 hks hroom with ⟨_, t2, kk, A1, A2, v1, v2, v3, v4, v5⟩ | ⟨f, A1, x, A2, v0, _⟩
      · have hw := hok.2.2.2.2.2.1 (t + 1) (by omega) kk
        have hks2 := KO_hd hok (N := N) (nn := nn) hks t2
        have eF1 : M1 w2 3 = (wF D : Int) := by rw [z5 w2 (by omega)]; exact eF
        have idx : w32 (w32 (8 * MR 100 19) + MR 120 sd) = ((8 * sd + wF D : Nat) : Int) := by
          rw [hR.2.1.2.2.2.2, hcn.2.2.2, d3, pu_w32 (x := 8 * (sd : Int)) (by omega) (by omega), pu_w32 (by omega) (by omega)]
          omega
        rw [z2, bI_some, if_pos (show ¬ (1 : Int) = 0 by decide), z3.2.1.1, pu_nn, eF1, pu_inc (by omega), v1, bV_none, v2, bI_some, idx]
        generalize hN' : nadd N nn (tW T (t + 1), 3, wF D) = N' at z4
        have hNk' : NOKk N' (nn + 1) := by rw [← hN']; exact NOK_add hNk hw.1 hw.2 (by decide : (3 : Nat) < 4)
        generalize hks1 : hdK T N nn t ks = ks1 at z3 v3 hks2
        have hCA : CCp T w2 M0C (t + 2) ks1 (st M1 w2 3 ((wF D + 1 : Nat) : Int)) := CCp_o z3 (by omega) _ _
        have hWA : CW w2 (st D 0 3 ((wF D + 1 : Nat) : Int)) (st M1 w2 3 ((wF D + 1 : Nat) : Int)) := CW_st (CW_2 hW z5) 0 3 _
        have hNA : NCk N' (nn + 1) (st M1 w2 3 ((wF D + 1 : Nat) : Int)) := NCk_s z4 (fun o _ _ => st_ob (by omega)) (by rw [st_ob (by omega)])
        have hN2 : NRk N nn A2 := NRk_s hNR (fun o _ _ => v4 o (by omega)) (v5 20 (by omega) (by omega) (by omega))
        generalize st M1 w2 3 ((wF D + 1 : Nat) : Int) = B1 at hCA hWA hNA
        rcases z_accept hCA hok t2 6 (x := 6) rfl with ⟨a1, a2, a3⟩ | ⟨f, M3, a1, a2, a3⟩
        · have t3 := ac_next hok t2 a1 (by omega)
          have hks3 := KO_up hok hks2 (show t + 2 ≤ t + 3 by omega) t3
          rcases y_must v3 hok t2 6 (by omega) (x := 22) rfl with ⟨_, b2, b3⟩ | ⟨f, A3, b1, _⟩
          · generalize hA3 : st A2 100 11 ((t + 2 + 1 : Nat) : Int) = A3 at b2 b3
            generalize hB3 : st B1 2 2 ((t + 2 + 1 : Nat) : Int) = B3 at a2 a3
            have o3 : ∀ o, o ≠ 100 → A3 o = MR o := fun o ho => by rw [← hA3, st_ob ho]; exact v4 o ho
            have hN3 : NRk N nn A3 := NRk_s hN2 (fun o _ _ => by rw [← hA3, st_ob (by omega)]) (by rw [← hA3, st_nk (by omega)])
            have hNB : NCk N' (nn + 1) B3 := NCk_s hNA (fun o _ _ => by rw [← hB3, st_ob (by omega)]) (by rw [← hB3, st_nk (by omega)])
            have hWB : CW w2 (st D 0 3 ((wF D + 1 : Nat) : Int)) B3 := CW_k hWA (fun o ho => by rw [← hB3, st_ob (by omega)])
            rw [a2, bI_some, if_neg (by omega), b2, bV_none, b3.2.1.2.1, if_pos (show (0 : Int) ≤ 0 by omega)]
            rcases z_accept a3 hok t3 2 (x := 2) rfl with ⟨c1, c2, c3⟩ | ⟨f, M3, c1, c2, c3⟩
            · have t4 := ac_next hok t3 c1 (by omega)
              have k3 := (ac_none c1).1
              rcases y_known b3 hok t3 hN3 hNk h29 hks3 (a := 1) (b := 2) (x := 1) (y := 2) rfl rfl with ⟨_, A4, g1, g2, g3, g5⟩ | ⟨f, A4, g0, _⟩
              · generalize hB4 : st B3 2 2 ((t + 2 + 1 + 1 : Nat) : Int) = B4 at c2 c3
                have hNB4 : NCk N' (nn + 1) B4 := NCk_s hNB (fun o _ _ => by rw [← hB4, st_ob (by omega)]) (by rw [← hB4, st_nk (by omega)])
                have hWB4 : CW w2 (st D 0 3 ((wF D + 1 : Nat) : Int)) B4 := CW_k hWB (fun o ho => by rw [← hB4, st_ob (by omega)])
                have hN4 : NRk N nn A4 := NRk_s hN3 (fun o _ _ => g3 o (by omega)) (g5 20 (by omega) (by omega) (by omega))
                have n1 := z_numberNamed c3 hok t3 k3 hNB4 hNk' (by have := hnb.1; omega) (s := 1) (by omega)
                have n2 := z_numberNamed c3 hok t3 k3 hNB4 hNk' (by have := hnb.1; omega) (s := 2) (by omega)
                rw [show ((csort 1 : Nat) : Int) = 5 from rfl] at n1
                rw [show ((csort 2 : Nat) : Int) = 7 from rfl] at n2
                rw [c2, bI_some, if_pos (show ¬ (1 : Int) = 0 by omega), n1, bI_some, n2, bI_some, g1, bI_some]
                generalize hx1 : numC N' (nn + 1) (tW T (t + 2 + 1)) 1 = x1
                generalize hx2 : numC N' (nn + 1) (tW T (t + 2 + 1)) 2 = x2
                generalize hj : knI N nn (tW T (t + 2 + 1)) 1 2 = j at g2
                generalize hks4 : (if j = -1 then keepA ks1 4 (tP T (t + 2 + 1) : Int) else ks1) = ks4 at g2
                -- the same is kept
                have hsame : (if x1 = -1 ∧ x2 = -1 then keepA ks1 4 (tP T (t + 2 + 1) : Int) else ks1) = ks4 := by
                  by_cases q : ks1.1 = 0
                  · rw [← hks1] at q
                    obtain ⟨q1, q2, q3⟩ := hdK_0 q
                    obtain ⟨r1, _⟩ := hgood q1
                    have hnd : ND (nadd N nn (tW T (t + 1), 3, wF D)) (nn + 1) := ND_add r1 q2
                    rw [← hks4, ← hx1, ← hx2, ← hN', ← hj]
                    rcases kn_char N nn (tW T (t + 2 + 1)) 1 2 with ⟨p1, p2⟩ | ⟨k, p1, p2, p3, p4⟩
                    · rw [num_none hnd (by decide : ¬ (3 : Nat) = 1) (fun i hi hw => (p2 i hi hw).1), num_none hnd (by decide : ¬ (3 : Nat) = 2) (fun i hi hw => (p2 i hi hw).2), p1, if_pos ⟨rfl, rfl⟩, if_pos rfl]
                    · rw [num_some hnd p1 p3, num_some hnd p1 p3, p2, if_neg (show ¬ (k : Int) = -1 by omega)]
                      rw [if_neg]
                      rintro ⟨e1, e2⟩
                      rcases p4 with p4 | p4
                      · rw [if_pos p4] at e1
                        omega
                      · rw [if_pos p4] at e2
                        omega
                  · rw [← hks4, keepA_id q, ite_self, ite_self]
                -- the class writes the row
                have hseg : ∃ M6, (if x1 = (-1) then
if x2 = (-1) then
bV (gC 46 [rv 4 2, iv 4, iv (w32 ((B4 2 2) - 1))] B4) fun M6 =>
bI (gC 44 [rv 4 2, iv 13] M6) fun c7 M7 =>
some (none, M7)
else
bV (gC 110 [rv 9 ((B4 2 1).toNat), iv (wF D : Int), iv (w32 (8 + x2))] B4) fun M8 =>
bI (gC 44 [rv 4 2, iv 13] M8) fun c9 M9 =>
some (none, M9)
else
bV (gC 110 [rv 9 ((B4 2 1).toNat), iv (wF D : Int), iv x1] B4) fun M10 =>
bI (gC 44 [rv 4 2, iv 13] M10) fun c11 M11 =>
some (none, M11)) = (bI (gC 44 [rv 4 2, iv 13] M6) fun c7 M7 => some (none, M7)) ∧ CCp T w2 M0C (t + 2 + 1 + 1) ks4 M6 ∧ NCk N' (nn + 1) M6 ∧ CW w2 (st (st D 0 3 ((wF D + 1 : Nat) : Int)) 7 (wF D) (if x1 = -1 then (if x2 = -1 then D 7 (wF D) else w32 (8 + x2)) else x1)) M6 := by
                  have wr : ∀ v : Int, CCp T w2 M0C (t + 2 + 1 + 1) ks1 (st B4 (w2 + 7) (wF D) v) ∧ NCk N' (nn + 1) (st B4 (w2 + 7) (wF D) v) ∧ CW w2 (st (st D 0 3 ((wF D + 1 : Nat) : Int)) 7 (wF D) v) (st B4 (w2 + 7) (wF D) v) := fun v => ⟨CCp_o c3 (by omega) _ _, NCk_s hNB4 (fun o _ _ => st_ob (by omega)) (by rw [st_ob (by omega)]), CW_st hWB4 7 (wF D) v⟩
                  rw [← hsame]
                  by_cases e1 : x1 = -1
                  · by_cases e2 : x2 = -1
                    · obtain ⟨MK, m1, m2, m3, m4⟩ := z_keep c3 hok (i := t + 2 + 1) (by omega) 4
                      rw [if_pos e1, if_pos e2, if_pos ⟨e1, e2⟩, if_pos e1, if_pos e2, z_at1 c3 hok (by omega), m1, bV_none]
                      refine ⟨MK, rfl, m2, NCk_s hNB4 (fun o _ _ => m3 o (by omega)) m4, ?_⟩
                      rw [show D 7 (wF D) = st D 0 3 ((wF D + 1 : Nat) : Int) 7 (wF D) by rw [st_ob (by omega)], st_self]
                      exact CW_k hWB4 (fun o ho => m3 o (by omega))
                    · obtain ⟨s1, s2, s3⟩ := wr (w32 (8 + x2))
                      rw [if_pos e1, if_neg e2, if_neg (show ¬ (x1 = -1 ∧ x2 = -1) from fun q => e2 q.2), if_pos e1, if_neg e2, put_fault (show 0 ≤ (wF D : Int) ∧ (wF D : Int) < 8 by omega), bV_none, c3.2.1.1, pu_nn, pu_nn]
                      exact ⟨_, rfl, s1, s2, s3⟩
                  · obtain ⟨s1, s2, s3⟩ := wr x1
                    rw [if_neg e1, if_neg (show ¬ (x1 = -1 ∧ x2 = -1) from fun q => e1 q.1), if_neg e1, put_fault (show 0 ≤ (wF D : Int) ∧ (wF D : Int) < 8 by omega), bV_none, c3.2.1.1, pu_nn, pu_nn]
                    exact ⟨_, rfl, s1, s2, s3⟩
                obtain ⟨B6, s1, s2, s3, s4⟩ := hseg
                rw [s1]
                have hks4o : KOs T (t + 2 + 1 + 1) ks4 := by
                  rw [← hks4]
                  by_cases e : j = -1
                  · rw [if_pos e]
                    exact KO_keep hok (KO_up hok hks3 (by omega) t4) (by omega) t4 _
                  · rw [if_neg e]
                    exact KO_up hok hks3 (by omega) t4
                rcases z_accept s2 hok t4 13 (x := 13) rfl with ⟨l1, l2, l3⟩ | ⟨f, M3, l1, l2, l3⟩
                · have t5 := ac_next hok t4 l1 (by omega)
                  rcases y_must g2 hok t4 13 (by omega) (x := 4) rfl with ⟨_, p2, p3⟩ | ⟨f, A5, p1, _⟩
                  · generalize hA5 : st A4 100 11 ((t + 2 + 1 + 1 + 1 : Nat) : Int) = A5 at p2 p3
                    have o5 : ∀ o, o ≠ 100 → A5 o = MR o := fun o ho => by rw [← hA5, st_ob ho, g3 o ho]; exact o3 o ho
                    have hN5 : NRk N nn A5 := NRk_s hN4 (fun o _ _ => by rw [← hA5, st_ob (by omega)]) (by rw [← hA5, st_nk (by omega)])
                    have nk : ¬ kpR lv 121 (8 * sd + wF D) := by unfold kpR; omega
                    have nk2 : ¬ kpR lv 120 sd := by unfold kpR; omega
                    have tail : ∀ v : Int, ∃ A7, (if 0 ≤ ((8 * sd + wF D : Nat) : Int) ∧ ((8 * sd + wF D : Nat) : Int) < 16 then
if 0 ≤ ((st A5 121 (((8 * sd + wF D : Nat) : Int)).toNat v) 100 19) ∧ ((st A5 121 (((8 * sd + wF D : Nat) : Int)).toNat v) 100 19) < 2 then
bV (gC 195 [rv 11 100, iv ((t + 1 : Nat) : Int), iv 3, iv ((st A5 121 (((8 * sd + wF D : Nat) : Int)).toNat v) 120 ((st A5 121 (((8 * sd + wF D : Nat) : Int)).toNat v) 100 19).toNat)] (st A5 121 (((8 * sd + wF D : Nat) : Int)).toNat v)) fun M6 =>
if 0 ≤ (M6 100 19) ∧ (M6 100 19) < 2 then
if 0 ≤ (M6 100 19) ∧ (M6 100 19) < 2 then
some (none, st M6 120 (M6 100 19).toNat (w32 ((M6 120 (M6 100 19).toNat) + 1)))
else none
else none
else none
else none
                                                            ) = some (none, A7) ∧ RCp T lv sd M0R (t + 2 + 1 + 1 + 1) ks4 A7 ∧ NRk N' (nn + 1) A7 ∧ CNT sd (st D 0 3 ((wF D + 1 : Nat) : Int)) A7 ∧ (∀ o, 113 ≤ o → (o < 115 ∨ 115 < o) → o < 120 → A7 o = MR o) ∧ ∀ i, A7 121 i = if i = 8 * sd + wF D then v else MR 121 i := by
                      intro v
                      rw [pu_nn]
                      generalize hA6 : st A5 121 (8 * sd + wF D) v = A6
                      have p6 : RCp T lv sd M0R (t + 2 + 1 + 1 + 1) ks4 A6 := by rw [← hA6]; exact RCp_o p3 (by omega) nk _
                      have hN6 : NRk N nn A6 := NRk_s hN5 (fun o _ _ => by rw [← hA6, st_ob (by omega)]) (by rw [← hA6, st_ob (by omega)])
                      have e120 : A6 120 (A6 100 19).toNat = (wF D : Int) := by rw [p6.2.1.2.2.2.2, pu_nn, ← hA6, st_ob (by omega), o5 120 (by omega), hcn.2.2.2]; exact d3
                      obtain ⟨A7, w1, w2', w3, w4, w5⟩ := y_knows p6 hok (i := t + 1) (by omega) kk hN6 (by omega) 3 (wF D) (x := 3) rfl e120
                      have e19 : A7 100 19 = (sd : Int) := by rw [w5 19 (by omega)]; exact p6.2.1.2.2.2.2
                      have e12 : A7 120 sd = (wF D : Int) := by rw [w4 120 (by omega) (by omega), ← hA6, st_ob (by omega), o5 120 (by omega), hcn.2.2.2]; exact d3
                      rw [if_pos (by omega), if_pos (by rw [p6.2.1.2.2.2.2]; omega), w1, bV_none, e19, if_pos (by omega), if_pos (by omega), pu_nn, e12, pu_inc (by omega)]
                      refine ⟨_, rfl, RCp_o w2' (by omega) nk2 _, by rw [← hN']; exact NRk_s w3 (fun o _ _ => st_ob (by omega)) (by rw [st_ob (by omega)]), ?_, fun o q1 q2 q3 => ?_, fun i => ?_⟩
                      · unfold CNT
                        rw [st_same, st_same, st_ob (show 111 ≠ 120 by omega), st_ob (show 112 ≠ 120 by omega), st_ob (show 115 ≠ 120 by omega), w4 111 (by omega) (by omega), w4 112 (by omega) (by omega), w4 115 (by omega) (by omega), ← hA6, st_ob (show 111 ≠ 121 by omega), st_ob (show 112 ≠ 121 by omega), st_ob (show 115 ≠ 121 by omega), o5 111 (by omega), o5 112 (by omega), o5 115 (by omega), st_nk (show 0 ≠ 3 by omega), st_nk (show 1 ≠ 3 by omega), st_nk (show 2 ≠ 3 by omega)]
                        exact ⟨hcn.1, hcn.2.1, hcn.2.2.1, rfl⟩
                      · rw [st_ob (by omega), w4 o (by omega) (by omega), ← hA6, st_ob (by omega), o5 o (by omega)]
                      · rw [st_ob (by omega), w4 121 (by omega) (by omega), ← hA6, st_if, o5 121 (by omega)]
                    rw [l2, bI_some, p2, bV_none, p3.2.1.2.1, if_pos (show (0 : Int) ≤ 0 by omega)]
                    -- the reference's row
                    have hsel : ∃ (v : Int) (A7 : mM), (if ¬ j = (-1) then
if 0 ≤ j ∧ j < 40 then
if ¬ (A5 109 (j).toNat) = 1 then
if 0 ≤ j ∧ j < 40 then
if 0 ≤ ((8 * sd + wF D : Nat) : Int) ∧ ((8 * sd + wF D : Nat) : Int) < 16 then
if 0 ≤ ((st A5 121 (((8 * sd + wF D : Nat) : Int)).toNat (w32 (8 + (A5 110 (j).toNat)))) 100 19) ∧ ((st A5 121 (((8 * sd + wF D : Nat) : Int)).toNat (w32 (8 + (A5 110 (j).toNat)))) 100 19) < 2 then
bV (gC 195 [rv 11 100, iv ((t + 1 : Nat) : Int), iv 3, iv ((st A5 121 (((8 * sd + wF D : Nat) : Int)).toNat (w32 (8 + (A5 110 (j).toNat)))) 120 ((st A5 121 (((8 * sd + wF D : Nat) : Int)).toNat (w32 (8 + (A5 110 (j).toNat)))) 100 19).toNat)] (st A5 121 (((8 * sd + wF D : Nat) : Int)).toNat (w32 (8 + (A5 110 (j).toNat))))) fun M6 =>
if 0 ≤ (M6 100 19) ∧ (M6 100 19) < 2 then
if 0 ≤ (M6 100 19) ∧ (M6 100 19) < 2 then
some (none, st M6 120 (M6 100 19).toNat (w32 ((M6 120 (M6 100 19).toNat) + 1)))
else none
else none
else none
else none
else none
else
if 0 ≤ j ∧ j < 40 then
if 0 ≤ ((8 * sd + wF D : Nat) : Int) ∧ ((8 * sd + wF D : Nat) : Int) < 16 then
if 0 ≤ ((st A5 121 (((8 * sd + wF D : Nat) : Int)).toNat (A5 110 (j).toNat)) 100 19) ∧ ((st A5 121 (((8 * sd + wF D : Nat) : Int)).toNat (A5 110 (j).toNat)) 100 19) < 2 then
bV (gC 195 [rv 11 100, iv ((t + 1 : Nat) : Int), iv 3, iv ((st A5 121 (((8 * sd + wF D : Nat) : Int)).toNat (A5 110 (j).toNat)) 120 ((st A5 121 (((8 * sd + wF D : Nat) : Int)).toNat (A5 110 (j).toNat)) 100 19).toNat)] (st A5 121 (((8 * sd + wF D : Nat) : Int)).toNat (A5 110 (j).toNat))) fun M7 =>
if 0 ≤ (M7 100 19) ∧ (M7 100 19) < 2 then
if 0 ≤ (M7 100 19) ∧ (M7 100 19) < 2 then
some (none, st M7 120 (M7 100 19).toNat (w32 ((M7 120 (M7 100 19).toNat) + 1)))
else none
else none
else none
else none
else none
else none
else
if 0 ≤ ((8 * sd + wF D : Nat) : Int) ∧ ((8 * sd + wF D : Nat) : Int) < 16 then
if 0 ≤ ((st A5 121 (((8 * sd + wF D : Nat) : Int)).toNat 0) 100 19) ∧ ((st A5 121 (((8 * sd + wF D : Nat) : Int)).toNat 0) 100 19) < 2 then
bV (gC 195 [rv 11 100, iv ((t + 1 : Nat) : Int), iv 3, iv ((st A5 121 (((8 * sd + wF D : Nat) : Int)).toNat 0) 120 ((st A5 121 (((8 * sd + wF D : Nat) : Int)).toNat 0) 100 19).toNat)] (st A5 121 (((8 * sd + wF D : Nat) : Int)).toNat 0)) fun M8 =>
if 0 ≤ (M8 100 19) ∧ (M8 100 19) < 2 then
if 0 ≤ (M8 100 19) ∧ (M8 100 19) < 2 then
some (none, st M8 120 (M8 100 19).toNat (w32 ((M8 120 (M8 100 19).toNat) + 1)))
else none
else none
else none
else none
                                                            ) = some (none, A7) ∧ RCp T lv sd M0R (t + 2 + 1 + 1 + 1) ks4 A7 ∧ NRk N' (nn + 1) A7 ∧ CNT sd (st D 0 3 ((wF D + 1 : Nat) : Int)) A7 ∧ (∀ o, 113 ≤ o → (o < 115 ∨ 115 < o) → o < 120 → A7 o = MR o) ∧ (∀ i, A7 121 i = if i = 8 * sd + wF D then v else MR 121 i) ∧ (j = -1 ∨ ∃ k : Nat, k < nn ∧ j = (k : Int) ∧ (N k).1 = tW T (t + 2 + 1) ∧ (((N k).2.1 = 1 ∧ v = (((N k).2.2 : Nat) : Int)) ∨ ((N k).2.1 = 2 ∧ v = ((8 + (N k).2.2 : Nat) : Int)))) := by
                      rcases kn_char N nn (tW T (t + 2 + 1)) 1 2 with ⟨q1, q2⟩ | ⟨k, q1, q2, q3, q4⟩
                      · rw [hj] at q1
                        obtain ⟨A7, r1, r2, r3, r4, r5, r6⟩ := tail 0
                        rw [if_neg (fun e => e q1)]
                        exact ⟨0, A7, r1, r2, r3, r4, r5, r6, Or.inl q1⟩
                      · rw [hj] at q2
                        obtain ⟨e108, e109, e110⟩ := hN5.2 k q1
                        rw [if_pos (by omega), if_pos (by omega), q2, pu_nn, e109, e110]
                        by_cases y : (N k).2.1 = 1
                        · obtain ⟨A7, r1, r2, r3, r4, r5, r6⟩ := tail (((N k).2.2 : Nat) : Int)
                          rw [if_neg (fun e => e (by omega)), if_pos (by omega)]
                          exact ⟨_, A7, r1, r2, r3, r4, r5, r6, Or.inr ⟨k, q1, rfl, q3, Or.inl ⟨y, rfl⟩⟩⟩
                        · obtain ⟨A7, r1, r2, r3, r4, r5, r6⟩ := tail ((8 + (N k).2.2 : Nat) : Int)
                          have y2 : (N k).2.1 = 2 := by omega
                          have nb := (hnb.2 k q1).2.2 y2
                          rw [if_pos (by omega), if_pos (by omega), show w32 (8 + (((N k).2.2 : Nat) : Int)) = ((8 + (N k).2.2 : Nat) : Int) from w32_addn (a := 8) (by omega)]
                          exact ⟨_, A7, r1, r2, r3, r4, r5, r6, Or.inr ⟨k, q1, rfl, q3, Or.inr ⟨y2, rfl⟩⟩⟩
                    obtain ⟨v, A7, r1, r2, r3, r4, r5, r6, r7⟩ := hsel
                    rw [r1]
                    generalize hvC : (if x1 = -1 then (if x2 = -1 then D 7 (wF D) else w32 (8 + x2)) else x1) = vC at s4
                    refine ⟨_, A7, rfl, rfl, Or.inl ⟨t + 2 + 1 + 1 + 1, by omega, ks4, N', nn + 1, st (st D 0 3 ((wF D + 1 : Nat) : Int)) 7 (wF D) vC, ⟨t5, KO_up hok hks4o (by omega) t5⟩, ⟨l3, CW_k s4 (fun o ho => st_ob (by omega)), NCk_s s3 (fun o _ _ => st_ob (by omega)) (st_nk (by omega))⟩, ⟨r2, r3, ?_⟩, ⟨?_, hNk', ?_⟩, fun q => ?_⟩⟩
                    · unfold CNT
                      rw [s7_0]
                      exact r4
                    · unfold DW0
                      rw [s7_wU, s7_wE, s7_wG, s7_wF, s7_wI, s7_wH, f_U, f_E, f_G, f_F, f_I, f_H, s7_0, st_same, st_nk (show 0 ≠ 3 by omega), st_nk (show 1 ≠ 3 by omega), st_nk (show 2 ≠ 3 by omega), st_nk (show 5 ≠ 3 by omega), st_ob (show 8 ≠ 7 by omega), st_ob (show 8 ≠ 0 by omega)]
                      exact ⟨⟨⟨d0, d0'⟩, ⟨d1, d1'⟩, ⟨d2, d2'⟩, ⟨rfl, by omega⟩⟩, d5, d8⟩
                    · rw [← hN']
                      refine NB_add hnb ?_ ?_ ?_ ?_ ?_ ?_ ?_
                      · rw [s7_wU, f_U]; omega
                      · rw [s7_wE, f_E]; omega
                      · rw [s7_wG, f_G]; omega
                      · rw [s7_wU, s7_wE, s7_wG, s7_wF, f_U, f_E, f_G, f_F]; have := hnb.1; omega
                      · exact fun q => absurd q (by decide : ¬ (3 : Nat) = 0)
                      · exact fun q => absurd q (by decide : ¬ (3 : Nat) = 1)
                      · exact fun q => absurd q (by decide : ¬ (3 : Nat) = 2)
                    · have hj1 : ¬ j = -1 := fun e => by
                        rw [if_pos e] at hks4
                        rw [← hks4] at q
                        exact keepA_ne ks1 (by decide) _ q
                      rw [if_neg hj1] at hks4
                      rw [← hks4, ← hks1] at q
                      obtain ⟨q1, q2, q3⟩ := hdK_0 q
                      obtain ⟨g1', g2'⟩ := hgood q1
                      have hnd : ND (nadd N nn (tW T (t + 1), 3, wF D)) (nn + 1) := ND_add g1' q2
                      refine ⟨by rw [← hN']; exact hnd, ?_⟩
                      rcases r7 with r7 | ⟨k, k1, k2, k3', k4⟩
                      · exact absurd r7 hj1
                      · obtain ⟨_, nb1, nb2⟩ := hnb.2 k k1
                        have c1' := num_some hnd k1 k3' 1
                        have c2' := num_some hnd k1 k3' 2
                        rw [hN', hx1] at c1'
                        rw [hN', hx2] at c2'
                        rcases k4 with ⟨k4, k5⟩ | ⟨k4, k5⟩
                        · have nb := nb1 k4
                          rw [if_pos k4] at c1'
                          have ev : vC = (((N k).2.2 : Nat) : Int) := by
                            rw [← hvC, if_neg (by omega)]
                            exact c1'
                          rw [ev]
                          refine f_GD g2' hroom (by omega) ?_ (by omega) r5 (fun i => by rw [r6 i, k5])
                          unfold isRw
                          rw [decide_eq_true nb, Bool.true_or]
                        · have nb := nb2 k4
                          rw [if_neg (by omega)] at c1'
                          rw [if_pos k4] at c2'
                          have h2n : ¬ x2 = -1 := by omega
                          have h30 : 8 + (N k).2.2 < 2147483648 := by omega
                          have h14 : 8 + (N k).2.2 < 14 := by omega
                          have ht5 : t ≤ t + 2 + 1 + 1 + 1 := by omega
                          have ev : vC = ((8 + (N k).2.2 : Nat) : Int) := by
                            rw [← hvC, if_pos c1', if_neg h2n, c2']
                            exact w32_addn (a := 8) h30
                          rw [ev]
                          refine f_GD g2' hroom h14 ?_ ht5 r5 (fun i => by rw [r6 i, k5])
                          unfold isRw
                          rw [decide_eq_true (show 8 ≤ 8 + (N k).2.2 by omega), decide_eq_true (show 8 + (N k).2.2 - 8 < wG D by omega), Bool.true_and, Bool.or_true]
                  · rw [l1] at p1
                    cases p1
                · rcases y_must g2 hok t4 13 (by omega) (x := 4) rfl with ⟨p1, _⟩ | ⟨f', A5, p1, p2, p3, p4⟩
                  · rw [l1] at p1
                    cases p1
                  · rw [l1] at p1
                    cases p1
                    rw [l2, bI_some, p2, bV_none, if_neg (RFp_le p3)]
                    exact ⟨_, _, rfl, rfl, Or.inr ⟨f, l3, p3⟩⟩
              · rw [c1] at g0
                cases g0
            · rcases y_known b3 hok t3 hN3 hNk h29 hks3 (a := 1) (b := 2) (x := 1) (y := 2) rfl rfl with ⟨g0, _⟩ | ⟨f', A4, g0, g1, g2, g3⟩
              · rw [c1] at g0
                cases g0
              · rw [c1] at g0
                cases g0
                rw [c2, bI_some, if_neg (show ¬ ¬ (0 : Int) = 0 from fun q => q rfl), g1, bI_some, y_must_f g2, bV_none, if_neg (RFp_le g2)]
                exact ⟨_, _, rfl, rfl, Or.inr ⟨f, c3, g2⟩⟩
          · rw [a1] at b1
            cases b1
        · rcases y_must v3 hok t2 6 (by omega) (x := 22) rfl with ⟨b1, _⟩ | ⟨f', A3, b1, b2, b3, b4⟩
          · rw [a1] at b1
            cases b1
          · rw [a1] at b1
            cases b1
            rw [a2, bI_some, if_pos rfl, b2, bV_none, if_neg (RFp_le b3), y_must_f b3, bV_none, if_neg (RFp_le b3)]
            exact ⟨_, _, rfl, rfl, Or.inr ⟨f, a3, b3⟩⟩
      · rw [z1] at v0
        cases v0
    · rcases y_head hR hok ht (by omega) hNR hNk h29 hks hroom with ⟨v0, _⟩ | ⟨f', A1, x, A2, v0, v1, v2, v3, v4⟩
      · rw [z1] at v0
        cases v0
      · rw [z1] at v0
        cases v0
        rw [z2, bI_some, if_neg (show ¬ ¬ (0 : Int) = 0 from fun q => q rfl), v1, bV_none, v2, bI_some, y_must_f v3, bV_none, if_neg (RFp_le v3), y_must_f v3, bV_none, if_neg (RFp_le v3)]
        exact ⟨_, _, rfl, rfl, Or.inr ⟨f, z3, v3⟩⟩
  · have hz : ∃ f M', hdF T t (wF D) 8 = some f ∧ gC 42 [rv 4 2, iv 12, iv (wF D : Int), iv 8] MC = some (iv 0, M') ∧ CFp w2 M0C f M' := by
      unfold hdF
      rw [if_neg hroom, e_Parser_acceptHead, if_neg (by omega), z_stop hC hok ht, bI_some, if_pos (by omega)]
      exact ⟨_, _, rfl, rfl, CFp_of hC (2, (tP T t : Int))⟩
    obtain ⟨f, M1, z1, z2, z3⟩ := hz
    obtain ⟨n1, n2⟩ := noRoom hok ht (MC := MC) hroom z1 z3 hR
    rw [if_neg (show ¬ ¬ (wF D : Int) = 8 from fun q => q (by omega)), n1, bV_none, if_pos (RFp_ne n2), z2, bI_some, if_neg (show ¬ ¬ (0 : Int) = 0 from fun q => q rfl)]
    exact ⟨_, _, rfl, rfl, Or.inr ⟨f, z3, n2⟩⟩
end TF
