/-! gauge, maybe: from the head on -/
section TG2
variable {T : TKS} {w2 lv sd : Nat} {M0C M0R MC MR : mM} {t : Nat}
theorem t_gauge (h : SB T w2 M0C lv sd M0R t MC MR) (hok : TKok T) (hk : tK T t = 7 ∨ tK T t = 8) : ∃ MC' MR', gC 54 [rv 4 2, iv (tK T t : Int)] MC = some (none, MC') ∧ gC 188 [rv 11 100] MR = some (none, MR') ∧ OUT T w2 M0C lv sd M0R t MC' MR' := by
  obtain ⟨ks, N, nn, D, ⟨ht, hks⟩, ⟨hC, hW, hN⟩, ⟨hR, hNR, hcn⟩, ⟨hD, hNk, hnb⟩, hgood⟩ := h
  obtain ⟨y1, y2, y3, y4⟩ := y_kindIs hR hok ht
  obtain ⟨⟨⟨d0, d0'⟩, ⟨d1, d1'⟩, ⟨d2, d2'⟩, ⟨d3, d3'⟩⟩, d5, d8⟩ := id hD
  have h4 := hok.1
  have hw2 := hC.2.2.2
  have hsd := hR.2.2.2
  have h29 : nn ≤ 29 := by have := hnb.1; omega
  have eG : MC w2 2 = (wG D : Int) := by rw [CW_0 hW]; exact d2
  have e5 : MC w2 5 = (wI D : Int) := by rw [CW_0 hW]; exact d5.1
  have hT : gC 188 [rv 11 100] MR = (if ¬ (MR 115 (MR 100 19).toNat) = 6 then
if ¬ (MR 100 13) = 0 then
some (none, MR)
else
bV (gC 200 [rv 11 100] MR) fun M8 =>
some (none, M8)
else
bV (gC 189 [rv 11 100, iv 2] MR) fun M9 =>
if ¬ (M9 100 13) = 0 then
some (none, M9)
else
bV (gC 200 [rv 11 100] M9) fun M10 =>
some (none, M10)) := by
    rw [e_GaugeNetModel_tell, if_pos y2, y1]
    rcases hk with hk | hk
    · rw [hk, show ((rkd 7 : Nat) : Int) = 23 from rfl, if_neg (by decide), if_neg (by decide), if_neg (by decide), if_pos rfl, if_pos y3]
    · rw [hk, show ((rkd 8 : Nat) : Int) = 24 from rfl, if_neg (by decide), if_neg (by decide), if_neg (by decide), if_neg (by decide), if_pos rfl, if_pos y3]
  have hx : w32 (w32 (6 * MR 100 19) + MR 115 (MR 100 19).toNat) = ((6 * sd + wG D : Nat) : Int) := by
    rw [y4, hR.2.1.2.2.2.2, hcn.2.2.1, d2, pu_w32 (x := 6 * (sd : Int)) (by omega) (by omega), pu_w32 (by omega) (by omega)]
    omega
  have rix : 0 ≤ w32 (w32 (6 * MR 100 19) + MR 115 (MR 100 19).toNat) ∧ w32 (w32 (6 * MR 100 19) + MR 115 (MR 100 19).toNat) < 12 ∨ ¬ wG D < 6 := by
    rw [hx]
    omega
  have e115 : MR 115 (MR 100 19).toNat = (wG D : Int) := by rw [y4, hcn.2.2.1]; exact d2
  by_cases hroom : wG D < 6
  · have rix2 := rix.resolve_right (fun q => q hroom)
    have n6 : ¬ (wG D : Int) = 6 := by omega
    have nk : ∀ o, 116 ≤ o → o ≤ 119 → ¬ kpR lv o (6 * sd + wG D) := fun o h1 h2 => by unfold kpR; omega
    have hib64 := withB_lt (s := wI D) (g := wG D) (n := 6) (b := if tK T t = 8 then 0 else 1) d5.2 (by omega)
    have hz := z_head (c := wG D) (most := 6) hC hok ht hN hNk (by have := hnb.1; omega) (k := tK T t) (s := 2) rfl (by omega) (by rcases hk with hk | hk <;> rw [hk] <;> rfl)
    rw [show ((6 : Nat) : Int) = 6 from rfl] at hz
    have hRs : RCp T lv sd M0R t ks (st MR 119 (6 * sd + wG D) (if tK T t = 8 then 1 else 0)) := RCp_o hR (by omega) (nk 119 (by omega) (by omega)) _
    have hNs : NRk N nn (st MR 119 (6 * sd + wG D) (if tK T t = 8 then 1 else 0)) := NRk_s hNR (fun o _ _ => st_ob (by omega)) (by rw [st_ob (by omega)])
    have e119 : st MR 119 (w32 (w32 (6 * MR 100 19) + MR 115 (MR 100 19).toNat)).toNat ((if tK T t = 8 then (1 : Int) else 0) % 2) = st MR 119 (6 * sd + wG D) (if tK T t = 8 then 1 else 0) := by
      rw [hx, pu_nn]
      split <;> rfl
    have hc0 : 0 ≤ wG D := Nat.zero_le _
    rw [hT, e115, if_pos n6, hR.2.1.2.1, if_neg (show ¬ ¬ (0 : Int) = 0 from fun q => q rfl), e_tellGauge, if_pos y3, y_is hR hok ht (k := 8) (by omega) (x := 24) rfl, bI_some, if_pos rix2, e119, e_parseGauge, hC.2.1.1, pu_nn, eG]
    clear rix e119
    have t6 : (wG D : Int) < 6 := by clear hx rix2; omega
    have tn : ¬ (wG D : Int) < 0 := by clear hx rix2; omega
    rcases hz with ⟨z1, M1, z2, z3, z4, z5⟩ | ⟨f, M1, z1, z2, z3⟩
    · rcases y_head hRs hok ht (by clear hx rix2; omega) hNs hNk h29 hks hroom with ⟨_, t2, kk, A1, A2, v1, v2, v3, v4, v5⟩ | ⟨f, A1, x, A2, v0, _⟩
      · have eG1 : M1 w2 2 = (wG D : Int) := by rw [z5 w2 (by clear hx rix2; omega)]; exact eG
        have e51 : M1 w2 5 = (wI D : Int) := by rw [z5 w2 (by clear hx rix2; omega)]; exact e5
        have hi : wG D < 2147483647 := by clear hx rix2; omega
        have ne2 : (2 : Nat) ≠ w2 := by clear hx rix2; omega
        have hg31 : wG D < 31 := by clear hx rix2; omega
        rw [z2, bI_some, if_pos (show ¬ (1 : Int) = 0 by decide), z3.2.1.1, pu_nn, eG1, pu_inc hi, st_ob ne2, z3.2.1.1, pu_nn, st_nk (show 5 ≠ 2 by decide), e51, v1, bV_none, v2, bI_some]
        have hks2 := KO_hd hok (N := N) (nn := nn) hks t2
        have hWA : CW w2 (st D 0 2 ((wG D + 1 : Nat) : Int)) (st M1 w2 2 ((wG D + 1 : Nat) : Int)) := CW_st (CW_2 hW z5) 0 2 _
        have fin : ∀ b : Int, b = (if tK T t = 8 then 0 else 1) → CCp T w2 M0C (t + 2) (hdK T N nn t ks) (st (st M1 w2 2 ((wG D + 1 : Nat) : Int)) w2 5 ((withB (wI D) (wG D) b : Nat) : Int)) ∧ CW w2 (st (st D 0 2 ((wG D + 1 : Nat) : Int)) 0 5 ((withB (wI D) (wG D) (if tK T t = 8 then 0 else 1) : Nat) : Int)) (st (st M1 w2 2 ((wG D + 1 : Nat) : Int)) w2 5 ((withB (wI D) (wG D) b : Nat) : Int)) ∧ NCk (nadd N nn (tW T (t + 1), 2, wG D)) (nn + 1) (st (st M1 w2 2 ((wG D + 1 : Nat) : Int)) w2 5 ((withB (wI D) (wG D) b : Nat) : Int)) := fun b hb => by
          rw [hb]
          clear hx rix2
          exact ⟨CCp_o (CCp_o z3 (by omega) _ _) (by omega) _ _, CW_st hWA 0 5 _, NCk_s z4 (fun o _ _ => by rw [st_ob (by omega), st_ob (by omega)]) (by rw [st_ob (by omega), st_ob (by omega)])⟩
        have hA : (∀ o, o ≠ 100 → o ≠ 119 → A2 o = MR o) ∧ ∀ k, A2 119 k = if k = 6 * sd + wG D then (if tK T t = 8 then 1 else 0) else MR 119 k := by
          refine ⟨fun o h1 h2 => by rw [v4 o h1, st_ob h2], fun k => ?_⟩
          rw [v4 119 (by decide), st_if]
        have hN2 : NRk N nn A2 := NRk_s hNs (fun o _ _ => v4 o (by clear hx rix2; omega)) (v5 20 (by decide) (by decide) (by decide))
        by_cases k7 : tK T t = 7
        · have n8 : ¬ tK T t = 8 := by clear hx rix2; omega
          obtain ⟨fa, fb, fc⟩ := fin 1 (by rw [if_neg n8])
          rw [if_neg (show ¬ ¬ (tK T t : Int) = 7 from fun q => q (by rw [k7]; rfl)), c_withBit d5.2 hg31, bI_some]
          obtain ⟨MC', MR', p1, p2, p3⟩ := gaugeRest (kd := tK T t) hok t2 kk hroom rfl rfl hD hNk hnb hgood hcn rfl hks2 fa fb fc v3 hN2 hA hx
          rw [p1, p2, bV_none]
          exact ⟨_, _, rfl, rfl, p3⟩
        · have k8 : tK T t = 8 := hk.resolve_left k7
          obtain ⟨fa, fb, fc⟩ := fin 0 (by rw [if_pos k8])
          rw [if_pos (show ¬ (tK T t : Int) = 7 by rw [k8]; decide), c_withBit d5.2 hg31, bI_some]
          obtain ⟨MC', MR', p1, p2, p3⟩ := gaugeRest (kd := tK T t) hok t2 kk hroom rfl rfl hD hNk hnb hgood hcn rfl hks2 fa fb fc v3 hN2 hA hx
          rw [p1, p2, bV_none]
          exact ⟨_, _, rfl, rfl, p3⟩
      · rw [z1] at v0
        cases v0
    · rcases y_head hRs hok ht (by clear hx rix2; omega) hNs hNk h29 hks hroom with ⟨v0, _⟩ | ⟨f', A1, x, A2, v0, v1, v2, v3, v4⟩
      · rw [z1] at v0
        cases v0
      · rw [z1] at v0
        cases v0
        rw [z2, bI_some, if_neg (show ¬ ¬ (0 : Int) = 0 from fun q => q rfl), v1, bV_none, v2, bI_some, y_must_f v3, bV_none, if_neg (RFp_le v3), if_pos rix2, if_pos rix2, if_pos rix2, hx, pu_nn]
        have f3 := RFp_o (RFp_o (RFp_o v3 (by decide : 116 ≠ 100) (nk 116 (by decide) (by decide)) 0) (by decide : 117 ≠ 100) (nk 117 (by decide) (by decide)) 0) (by decide : 118 ≠ 100) (nk 118 (by decide) (by decide)) 1
        rw [gNoise_f f3, bV_none]
        exact ⟨_, _, rfl, rfl, Or.inr ⟨f, z3, f3⟩⟩
  · have z7 : wG D = 6 := by clear hx rix; omega
    have hz : ∃ f M', hdF T t (wG D) 6 = some f ∧ gC 42 [rv 4 2, iv (tK T t : Int), iv (wG D : Int), iv 6] MC = some (iv 0, M') ∧ CFp w2 M0C f M' := by
      unfold hdF
      rw [if_neg hroom, e_Parser_acceptHead, if_neg (by clear hx rix; omega), z_stop hC hok ht, bI_some, if_pos (by decide)]
      exact ⟨_, _, rfl, rfl, CFp_of hC (2, (tP T t : Int))⟩
    obtain ⟨f, M1, z1, z2, z3⟩ := hz
    obtain ⟨n1, n2⟩ := noRoom hok ht (MC := MC) hroom z1 z3 hR
    rw [hT, e115, if_neg (show ¬ ¬ (wG D : Int) = 6 from fun q => q (by rw [z7]; rfl)), n1, bV_none, if_pos (RFp_ne n2), e_parseGauge, hC.2.1.1, pu_nn, eG, z2, bI_some, if_neg (show ¬ ¬ (0 : Int) = 0 from fun q => q rfl)]
    exact ⟨_, _, rfl, rfl, Or.inr ⟨f, z3, n2⟩⟩
end TG2
