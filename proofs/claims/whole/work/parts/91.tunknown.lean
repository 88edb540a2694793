/-! unknown -/
section DU
variable {D : mM}
theorem u_U {v : Nat} : wU (st D 0 0 (v : Int)) = v := by
  unfold wU
  rw [st_same, pu_nn]
theorem u_E {v : Int} : wE (st D 0 0 v) = wE D := by
  unfold wE
  rw [st_nk (by omega)]
theorem u_G {v : Int} : wG (st D 0 0 v) = wG D := by
  unfold wG
  rw [st_nk (by omega)]
theorem u_F {v : Int} : wF (st D 0 0 v) = wF D := by
  unfold wF
  rw [st_nk (by omega)]
theorem u_I {v : Int} : wI (st D 0 0 v) = wI D := by
  unfold wI
  rw [st_nk (by omega)]
theorem u_P {v : Int} : wP (st D 0 0 v) = wP D := by
  unfold wP
  rw [st_nk (by omega)]
theorem u_D {v : Int} : wD (st D 0 0 v) = wD D := by
  unfold wD
  rw [st_nk (by omega)]
theorem u_j {v : Int} {j : Nat} (hj : j ≠ 0) : st D 0 0 v j = D j := st_ob hj
theorem u_H {v : Int} : wH (st D 0 0 v) = wH D := by
  funext r
  unfold wH
  rw [u_j (by omega)]
theorem u_WF (h : WF D) (h7 : wU D < 7) : WF (st D 0 0 ((wU D + 1 : Nat) : Int)) := by
  obtain ⟨⟨a1, a2, a3, a4⟩, ⟨b1, b2, b3⟩, c, d, e, f, g, i, j, k, l, m⟩ := h
  have hp : 2 ^ wU D ≤ 2 ^ (wU D + 1) := Nat.pow_le_pow_right (by omega) (by omega)
  have no : wNo (st D 0 0 ((wU D + 1 : Nat) : Int)) = wNo D := by funext r; unfold wNo; rw [u_j (by omega)]
  have co : wCo (st D 0 0 ((wU D + 1 : Nat) : Int)) = wCo D := by funext r; unfold wCo; rw [u_j (by omega)]
  have ho : wHo (st D 0 0 ((wU D + 1 : Nat) : Int)) = wHo D := by funext r; unfold wHo; rw [u_j (by omega)]
  have fr : wFr (st D 0 0 ((wU D + 1 : Nat) : Int)) = wFr D := by funext r; unfold wFr; rw [u_j (by omega)]
  have rw' : isRw (st D 0 0 ((wU D + 1 : Nat) : Int)) = isRw D := by funext r; unfold isRw; rw [u_E, u_G]
  unfold WF
  rw [u_U, u_E, u_G, u_F, u_I, u_P, u_D, no, co, ho, fr, rw', u_H, st_same, st_nk (show 1 ≠ 0 by omega), st_nk (show 2 ≠ 0 by omega), st_nk (show 3 ≠ 0 by omega), st_nk (show 4 ≠ 0 by omega), st_nk (show 5 ≠ 0 by omega), st_nk (show 6 ≠ 0 by omega), u_j (show 1 ≠ 0 by omega), u_j (show 2 ≠ 0 by omega), u_j (show 3 ≠ 0 by omega), u_j (show 4 ≠ 0 by omega), u_j (show 5 ≠ 0 by omega), u_j (show 6 ≠ 0 by omega), u_j (show 7 ≠ 0 by omega), u_j (show 8 ≠ 0 by omega)]
  refine ⟨⟨⟨rfl, by omega⟩, a2, a3, a4⟩, ⟨b1, b2, b3⟩, c, d, e, f, g, i, j, k, fun r hr => ?_, fun q hq => ?_⟩
  · obtain ⟨l1, l2, l3⟩ := l r hr
    exact ⟨l1, by omega, l3⟩
  · obtain ⟨x, x1, x2⟩ := m q hq
    exact ⟨x, by omega, x2⟩
theorem RDe_s {sd e : Nat} {D' M M' : mM} (h : RDe sd D M e) (k : M' 113 = M 113 ∧ M' 114 = M 114) (k2 : D' 1 = D 1 ∧ D' 2 = D 2 ∧ D' 3 = D 3) : RDe sd D' M' e := by
  unfold RDe
  rw [k.1, k.2, k2.1, k2.2.1, k2.2.2]
  exact h
theorem u_GD {sd t t' : Nat} {M M' : mM} (h : GDd sd t D M) (h7 : wU D < 7) (ht : t ≤ t') (k : ∀ o, 113 ≤ o → (o < 115 ∨ 115 < o) → (o < 120 ∨ 120 < o) → o ≤ 121 → M' o = M o) : GDd sd t' (st D 0 0 ((wU D + 1 : Nat) : Int)) M' := by
  obtain ⟨h1, h2, h3, h4, h5, h6⟩ := h
  refine ⟨u_WF h1 h7, ?_, fun e he => ?_, fun e he => ?_, fun g hg => ?_, fun f hf => ?_⟩
  · unfold FRd
    rw [u_E, u_G, st_nk (show 4 ≠ 0 by omega), st_nk (show 6 ≠ 0 by omega), u_j (show 1 ≠ 0 by omega), u_j (show 2 ≠ 0 by omega), u_j (show 3 ≠ 0 by omega), u_j (show 4 ≠ 0 by omega), u_j (show 5 ≠ 0 by omega), u_j (show 6 ≠ 0 by omega)]
    exact h2
  · rw [u_j (by omega)]
    have := h3 e he
    omega
  · rw [u_E] at he
    exact RDe_s (h4 e he) ⟨k 113 (by omega) (by omega) (by omega) (by omega), k 114 (by omega) (by omega) (by omega) (by omega)⟩ ⟨u_j (by omega), u_j (by omega), u_j (by omega)⟩
  · rw [u_G] at hg
    obtain ⟨⟨x, x1, x2, x3⟩, y1, y2, y3⟩ := h5 g hg
    unfold RDg
    rw [u_U, u_I, u_j (show 1 ≠ 0 by omega), u_j (show 4 ≠ 0 by omega), u_j (show 5 ≠ 0 by omega), k 116 (by omega) (by omega) (by omega) (by omega), k 117 (by omega) (by omega) (by omega) (by omega), k 118 (by omega) (by omega) (by omega) (by omega), k 119 (by omega) (by omega) (by omega) (by omega)]
    exact ⟨⟨x, by omega, x2, x3⟩, y1, y2, y3⟩
  · rw [u_F] at hf
    rw [u_j (by omega), k 121 (by omega) (by omega) (by omega) (by omega)]
    exact h6 f hf
end DU
theorem NB_add {N : NMS} {nn : Nat} {D D' : mM} (h : NB N nn D) {e : List Nat × Nat × Nat} (hu : wU D ≤ wU D') (he : wE D ≤ wE D') (hg : wG D ≤ wG D') (hn : nn + 1 = wU D' + wE D' + wG D' + wF D') (h0 : e.2.1 = 0 → e.2.2 < wU D') (h1 : e.2.1 = 1 → e.2.2 < wE D') (h2 : e.2.1 = 2 → e.2.2 < wG D') : NB (nadd N nn e) (nn + 1) D' := by
  refine ⟨hn, fun i hi => ?_⟩
  by_cases z : i = nn
  · rw [z, nadd_eq]
    exact ⟨h0, h1, h2⟩
  · rw [nadd_lt (by omega)]
    obtain ⟨a, b, c⟩ := h.2 i (by omega)
    exact ⟨fun q => by have := a q; omega, fun q => by have := b q; omega, fun q => by have := c q; omega⟩
section TU
variable {T : TKS} {w2 lv sd : Nat} {M0C M0R MC MR : mM} {t : Nat}
theorem t_unknown (h : SB T w2 M0C lv sd M0R t MC MR) (hok : TKok T) (hk : tK T t = 4) : ∃ MC' MR', gC 41 [rv 4 2] MC = some (none, MC') ∧ gC 188 [rv 11 100] MR = some (none, MR') ∧ OUT T w2 M0C lv sd M0R t MC' MR' := by
  obtain ⟨ks, N, nn, D, ⟨ht, hks⟩, ⟨hC, hW, hN⟩, ⟨hR, hNR, hcn⟩, ⟨hD, hNk, hnb⟩, hgood⟩ := h
  obtain ⟨y1, y2, y3, y4⟩ := y_kindIs hR hok ht
  obtain ⟨⟨⟨d0, d0'⟩, ⟨d1, d1'⟩, ⟨d2, d2'⟩, ⟨d3, d3'⟩⟩, d5, d8⟩ := id hD
  have h4 := hok.1
  have hw2 := hC.2.2.2
  have h29 : nn ≤ 29 := by have := hnb.1; omega
  have eU : MC w2 0 = (wU D : Int) := by rw [CW_0 hW]; exact d0
  have er : ((rkd 4 : Nat) : Int) = 20 := rfl
  rw [e_Parser_parseUnknown, hC.2.1.1, pu_nn, eU, e_GaugeNetModel_tell, if_pos y2, y1, hk, er, if_pos rfl, if_pos y3, y4, hcn.1, d0]
  have hd8 : wU D < 7 → nn < 29 := fun _ => by have := hnb.1; omega
  by_cases hroom : wU D < 7
  · rw [if_pos (show ¬ (wU D : Int) = 7 by omega), hR.2.1.2.1, if_neg (show ¬ ¬ (0 : Int) = 0 from fun q => q rfl), e_GaugeNetModel_tellUnknown]
    have hz := z_head (c := wU D) (most := 7) hC hok ht hN hNk (hd8 hroom) (k := 4) (s := 0) hk (by omega) rfl
    rw [show ((4 : Nat) : Int) = 4 from rfl, show ((7 : Nat) : Int) = 7 from rfl] at hz
    rcases hz with ⟨z1, M1, z2, z3, z4, z5⟩ | ⟨f, M1, z1, z2, z3⟩
    · rcases y_head hR hok ht (by omega) hNR hNk h29 hks hroom with ⟨_, t2, kk, A1, A2, v1, v2, v3, v4, v5⟩ | ⟨f, A1, x, A2, v0, _⟩
      · have hw := hok.2.2.2.2.2.1 (t + 1) (by omega) kk
        have hks2 := KO_hd hok (N := N) (nn := nn) hks t2
        have eU1 : M1 w2 0 = (wU D : Int) := by rw [z5 w2 (by omega)]; exact eU
        rw [z2, bI_some, if_neg (by omega), z3.2.1.1, pu_nn, eU1, pu_inc (by omega), v1, bV_none, v2, bI_some]
        have hCA : CCp T w2 M0C (t + 2) (hdK T N nn t ks) (st M1 w2 0 ((wU D + 1 : Nat) : Int)) := CCp_o z3 (by omega) _ _
        have hWA : CW w2 (st D 0 0 ((wU D + 1 : Nat) : Int)) (st M1 w2 0 ((wU D + 1 : Nat) : Int)) := CW_st (CW_2 hW z5) 0 0 _
        have hNA : NCk (nadd N nn (tW T (t + 1), 0, wU D)) (nn + 1) (st M1 w2 0 ((wU D + 1 : Nat) : Int)) := NCk_s z4 (fun o _ _ => st_ob (by omega)) (by rw [st_ob (by omega)])
        have hN2 : NRk N nn A2 := NRk_s hNR (fun o _ _ => v4 o (by omega)) (v5 20 (by omega) (by omega) (by omega))
        rcases z_accept hCA hok t2 13 (x := 13) rfl with ⟨a1, a2, a3⟩ | ⟨f, M3, a1, a2, a3⟩
        · have t3 := ac_next hok t2 a1 (by omega)
          rcases y_must v3 hok t2 13 (by omega) (x := 4) rfl with ⟨_, b2, b3⟩ | ⟨f, A3, b1, _⟩
          · generalize hA3 : st A2 100 11 ((t + 2 + 1 : Nat) : Int) = A3 at b2 b3
            have o3 : ∀ o, o ≠ 100 → A3 o = MR o := fun o ho => by rw [← hA3, st_ob ho]; exact v4 o ho
            have hN3 : NRk N nn A3 := NRk_s hN2 (fun o _ _ => by rw [← hA3, st_ob (by omega)]) (by rw [← hA3, st_nk (by omega)])
            have e111 : A3 111 (A3 100 19).toNat = (wU D : Int) := by rw [b3.2.1.2.2.2.2, pu_nn, o3 111 (by omega), hcn.1]; exact d0
            obtain ⟨A4, g1, g2, g3, g4, g5⟩ := y_knows b3 hok (i := t + 1) (by omega) kk hN3 (by omega) 0 (wU D) (x := 0) rfl e111
            have e19 : A4 100 19 = (sd : Int) := by rw [g5 19 (by omega)]; exact b3.2.1.2.2.2.2
            have e11 : A4 111 sd = (wU D : Int) := by rw [g4 111 (by omega) (by omega), o3 111 (by omega), hcn.1]; exact d0
            have hsd := hR.2.2.2
            have nk : ¬ kpR lv 111 sd := by unfold kpR; omega
            rw [a2, bI_some, b2, bV_none, b3.2.1.2.1, if_pos (show (0 : Int) ≤ 0 by omega), if_pos (by rw [b3.2.1.2.2.2.2]; omega), g1, bV_none, e19, if_pos (by omega), if_pos (by omega), pu_nn, e11, pu_inc (by omega)]
            refine ⟨_, _, rfl, rfl, Or.inl ⟨t + 3, by omega, hdK T N nn t ks, nadd N nn (tW T (t + 1), 0, wU D), nn + 1, st D 0 0 ((wU D + 1 : Nat) : Int), ⟨t3, KO_up hok hks2 (by omega) t3⟩, ⟨a3, CW_k hWA (fun o ho => st_ob (by omega)), NCk_s hNA (fun o _ _ => st_ob (by omega)) (st_nk (by omega))⟩, ⟨RCp_o g2 (by omega) nk _, NRk_s g3 (fun o _ _ => st_ob (by omega)) (by rw [st_ob (by omega)]), ?_⟩, ⟨?_, NOK_add hNk hw.1 hw.2 (by decide : (0 : Nat) < 4), ?_⟩, fun q => ?_⟩⟩
            · unfold CNT
              rw [st_same, st_same, st_ob (show 112 ≠ 111 by omega), st_ob (show 115 ≠ 111 by omega), st_ob (show 120 ≠ 111 by omega), g4 112 (by omega) (by omega), g4 115 (by omega) (by omega), g4 120 (by omega) (by omega), o3 112 (by omega), o3 115 (by omega), o3 120 (by omega), st_nk (show 1 ≠ 0 by omega), st_nk (show 2 ≠ 0 by omega), st_nk (show 3 ≠ 0 by omega)]
              exact ⟨rfl, hcn.2⟩
            · unfold DW0
              rw [u_U, u_E, u_G, u_F, u_I, u_H, st_same, st_nk (show 1 ≠ 0 by omega), st_nk (show 2 ≠ 0 by omega), st_nk (show 3 ≠ 0 by omega), st_nk (show 5 ≠ 0 by omega), u_j (show 8 ≠ 0 by omega)]
              exact ⟨⟨⟨rfl, by omega⟩, ⟨d1, d1'⟩, ⟨d2, d2'⟩, ⟨d3, d3'⟩⟩, d5, d8⟩
            · refine NB_add hnb ?_ ?_ ?_ ?_ ?_ ?_ ?_
              · rw [u_U]; omega
              · rw [u_E]; omega
              · rw [u_G]; omega
              · rw [u_U, u_E, u_G, u_F]; have := hnb.1; omega
              · intro _
                rw [u_U]
                exact Nat.lt_succ_self _
              · exact fun q => absurd q (by decide : ¬ (0 : Nat) = 1)
              · exact fun q => absurd q (by decide : ¬ (0 : Nat) = 2)
            · obtain ⟨q1, q2, q3⟩ := hdK_0 q
              obtain ⟨r1, r2⟩ := hgood q1
              refine ⟨ND_add r1 q2, u_GD r2 hroom (by omega) (fun o p1 p2 p3 p4 => ?_)⟩
              rw [st_ob (by omega), g4 o (by omega) (by omega), o3 o (by omega)]
          · rw [a1] at b1
            cases b1
        · rcases y_must v3 hok t2 13 (by omega) (x := 4) rfl with ⟨b1, _⟩ | ⟨f', A3, b1, b2, b3, b4⟩
          · rw [a1] at b1
            cases b1
          · rw [a1] at b1
            cases b1
            rw [a2, bI_some, b2, bV_none, if_neg (RFp_le b3)]
            exact ⟨_, _, rfl, rfl, Or.inr ⟨f, a3, b3⟩⟩
      · rw [z1] at v0
        cases v0
    · rcases y_head hR hok ht (by omega) hNR hNk h29 hks hroom with ⟨v0, _⟩ | ⟨f', A1, x, A2, v0, v1, v2, v3, v4⟩
      · rw [z1] at v0
        cases v0
      · rw [z1] at v0
        cases v0
        rw [z2, bI_some, if_pos rfl, v1, bV_none, v2, bI_some, y_must_f v3, bV_none, if_neg (RFp_le v3)]
        exact ⟨_, _, rfl, rfl, Or.inr ⟨f, z3, v3⟩⟩
  · have z7 : wU D = 7 := by omega
    have hz : ∃ f M', hdF T t (wU D) 7 = some f ∧ gC 42 [rv 4 2, iv 4, iv (wU D : Int), iv 7] MC = some (iv 0, M') ∧ CFp w2 M0C f M' := by
      unfold hdF
      rw [if_neg hroom, e_Parser_acceptHead, if_neg (by omega), z_stop hC hok ht, bI_some, if_pos (by omega)]
      exact ⟨_, _, rfl, rfl, CFp_of hC (2, (tP T t : Int))⟩
    obtain ⟨f, M1, z1, z2, z3⟩ := hz
    obtain ⟨n1, n2⟩ := noRoom hok ht (MC := MC) hroom z1 z3 hR
    rw [if_neg (show ¬ ¬ (wU D : Int) = 7 from fun q => q (by omega)), n1, bV_none, if_pos (RFp_ne n2), z2, bI_some, if_pos rfl]
    exact ⟨_, _, rfl, rfl, Or.inr ⟨f, z3, n2⟩⟩
end TU
