/-! eq: a term -/
section TM
variable {T : TKS} {w2 lv sd : Nat} {M0C M0R D0 : mM} {N N' : NMS} {nn : Nat}
theorem y_94 {lv sd : Nat} {M0R A : mM} {f : Int × Int} {c : Nat} (hc : c < 8) (hs : lv + sd = 1) (h : RFp lv sd M0R f A) (s v : Int) : ∃ A', gA 198 94 [rv 11 100, iv ((8 * sd + c : Nat) : Int), iv s, none, none, iv v, none, none, none] [] A = some (none, A') ∧ RFp lv sd M0R f A' := by
  have hidx : w32 (w32 (9 * ((8 * sd + c : Nat) : Int)) + 8) = ((9 * (8 * sd + c) + 8 : Nat) : Int) := by
    rw [pu_w32 (x := 9 * ((8 * sd + c : Nat) : Int)) (by omega) (by omega), pu_w32 (by omega) (by omega)]
    omega
  have r144 : 0 ≤ ((9 * (8 * sd + c) + 8 : Nat) : Int) ∧ ((9 * (8 * sd + c) + 8 : Nat) : Int) < 144 := by
    clear hidx
    omega
  have nk : ¬ kpR lv 113 (9 * (8 * sd + c) + 8) := by
    clear hidx r144
    unfold kpR
    omega
  rw [s_GaugeNetModel_tellTerm_94, hidx, if_pos r144, if_pos r144, pu_nn]
  exact ⟨_, rfl, RFp_o h (by decide) nk _⟩
theorem zTrSyn {ks : Int × Int} {t : Nat} {B B' : mM} (hok : TKok T) (hC : CCp T w2 M0C t ks B) (ht : t ≤ tm T) (h2 : tK T t ≠ 2) (hacc : gC 44 [rv 4 2, iv 3] B = some (iv 0, B')) (x1 s : Int) : zTr x1 s B = some (iv 0, B') := by
  unfold zTr
  rw [z_kind hC hok ht, bI_some, if_pos (show ¬ (tK T t : Int) = 2 by omega), hacc, bI_some, if_neg (show ¬ ¬ (0 : Int) = 0 from fun q => q rfl)]
/-- behind the sign -/
theorem t_termS (hok : TKok T) (hD0 : DW0 D0) (hnb : NB N nn D0) (hNk : NOKk N nn) (hNk' : NOKk N' (nn + 1)) (h8 : wE D0 < 8) {wn : List Nat} (hN' : nadd N nn (wn, 1, wE D0) = N') {t : Nat} {ks : Int × Int} {D B A A0 : mM} (t0 : t + 1 ≤ tm T) (hks : KOs T (t + 1) ks) (hC : CCp T w2 M0C (t + 1) ks B) (hW : CW w2 D B) (hN : NCk N' (nn + 1) B) (hR : RCp T lv sd M0R (t + 1) ks A) (hNR : NRk N nn A) (hcn : CNT sd D0 A) (h0 : D 0 = st D0 0 1 ((wE D0 + 1 : Nat) : Int) 0) (hDW : DW0 D) (hgood : ks.1 = 0 → ND N' (nn + 1) ∧ GDd sd (t + 1) D A ∧ A 100 39 = (wH D (wE D0) : Int)) {s : Int} (hs : s = 1 ∨ s = -1) (hgo : gC 191 [rv 11 100] A0 = some (none, A)) : (∃ B' A' t', t + 1 < t' ∧ zTr (wE D0 : Int) s B = some (iv 1, B') ∧ yTr ((8 * sd + wE D0 : Nat) : Int) s A0 = some (none, A') ∧ QT T w2 M0C lv sd M0R N nn N' D0 t' B' A') ∨ ∃ f B' A', zTr (wE D0 : Int) s B = some (iv 0, B') ∧ CFp w2 M0C f B' ∧ yTr ((8 * sd + wE D0 : Nat) : Int) s A0 = some (none, A') ∧ RFp lv sd M0R f A' := by
  have h4 := hok.1
  have hw2 := hC.2.2.2
  have hsd := hR.2.2.2
  obtain ⟨eE, eU⟩ := wE_0 h0
  unfold yTr
  rw [hgo, bV_none, y_is hR hok t0 (k := 3) (by omega) (x := 2) rfl, bI_some, hR.2.1.1]
  by_cases k2 : tK T (t + 1) = 2
  · -- a name
    have n3 : ¬ tK T (t + 1) = 3 := by omega
    rw [if_neg n3, if_pos rfl, if_pos rfl, if_pos rfl, s_GaugeNetModel_tellTerm_114, hR.2.1.2.1, if_neg (show ¬ ¬ (0 : Int) = 0 from fun q => q rfl), if_pos rfl]
    have hx : ks.1 = 0 → s = w32 (s * 1) ∧ s ≠ 0 ∧ -9 ≤ s ∧ s ≤ 9 := fun _ => by
      rcases hs with rfl | rfl <;> decide
    have hz : zTr (wE D0 : Int) s B = (bI (gC 52 [rv 4 2, iv (wE D0 : Int), iv s] B) fun c10 M10 =>
if 0 ≤ c10 ∧ c10 < 2 then some (iv c10, M10) else none) := by
      unfold zTr
      rw [z_kind hC hok t0, bI_some, if_neg (show ¬ ¬ (tK T (t + 1) : Int) = 2 from fun q => q (by omega))]
    rcases t_named hok hD0 hnb hNk hNk' h8 hN' t0 hks hC hW hN hR hNR hcn h0 hDW hgood (x := s) (s := s) (v := 1) hx with ⟨B', A', p1, p2, p3⟩ | ⟨f, B', A', p1, p2, p3, p4⟩
    · refine Or.inl ⟨B', A', t + 1 + 1, by omega, ?_, p2, p3⟩
      rw [hz, p1, bI_some, if_pos (by decide)]
    · refine Or.inr ⟨f, B', A', ?_, p2, p3, p4⟩
      rw [hz, p1, bI_some, if_pos (by decide)]
  · rcases z_accept hC hok t0 3 (x := 3) rfl with ⟨a1, a2, a3⟩ | ⟨f, B3, a1, a2, a3⟩
    · -- a number
      have t1 := ac_next hok t0 a1 (by omega)
      have k3 := (ac_none a1).1
      rcases y_goesOn hR hok t0 with ⟨_, b2, b3⟩ | ⟨f, A3, b1, _⟩
      · generalize hB1 : st B 2 2 ((t + 1 + 1 : Nat) : Int) = B1 at a2 a3
        generalize hA1 : st A 100 11 ((t + 1 + 1 : Nat) : Int) = A1 at b2 b3
        have hNB : NCk N' (nn + 1) B1 := NCk_s hN (fun o _ _ => by rw [← hB1, st_ob (by omega)]) (by rw [← hB1, st_nk (by omega)])
        have hWB : CW w2 D B1 := CW_k hW (fun o ho => by rw [← hB1, st_ob (by omega)])
        have oA : ∀ o, o ≠ 100 → A1 o = A o := fun o ho => by rw [← hA1, st_ob ho]
        have kA : ∀ k, k ≠ 11 → A1 100 k = A 100 k := fun k hk => by rw [← hA1, st_nk hk]
        have hN1 : NRk N nn A1 := NRk_s hNR (fun o _ _ => oA o (by omega)) (kA 20 (by omega))
        have hv := hok.2.2.2.2.2.2 (t + 1) t0 k3
        have ev : A 105 (t + 1) = (tV T (t + 1) : Int) := (hR.1 (t + 1) t0).2.2.2 k3
        have r403 : 0 ≤ ((t + 1 : Nat) : Int) ∧ ((t + 1 : Nat) : Int) < 403 := by omega
        have hcn1 : CNT sd D0 A1 := CNT_s hcn ⟨oA 111 (by decide), oA 112 (by decide), oA 115 (by decide), oA 120 (by decide)⟩
        have hks1 := KO_up hok hks (Nat.le_succ (t + 1)) t1
        have hg1 : ks.1 = 0 → ND N' (nn + 1) ∧ GDd sd (t + 1 + 1) D A1 ∧ A1 100 39 = (wH D (wE D0) : Int) := fun q => by
          obtain ⟨q1, q2, q3⟩ := hgood q
          exact ⟨q1, GD_up q2 (Nat.le_succ _) (fun o w1 _ _ _ => oA o (by omega)), by rw [kA 39 (by decide)]; exact q3⟩
        rw [if_pos k3, if_neg (show ¬ (1 : Int) = 0 by decide), if_pos r403, if_neg (show ¬ (1 : Int) = 0 by decide), b2, bV_none, if_neg (show ¬ (1 : Int) = 0 by decide), y_is b3 hok t1 (k := 2) (by omega) (x := 1) rfl, bI_some, pu_nn, ev]
        by_cases kn : tK T (t + 1 + 1) = 2
        · -- of a name
          obtain ⟨B2, m1, m2, m3, m4⟩ := z_intWithin a3 hok t0 k3 1 9
          have hW2 : CW w2 D B2 := CW_k hWB (fun o ho => m3 o (by omega))
          have hN2 : NCk N' (nn + 1) B2 := NCk_s hNB (fun o _ _ => m3 o (by omega)) m4
          -- both have looked at the number
          have hlook : ∃ A2, gA 198 114 [rv 11 100, iv ((8 * sd + wE D0 : Nat) : Int), iv s, iv ((t + 1 : Nat) : Int), iv 1, iv (tV T (t + 1) : Int), none, none, none] [] A1 = gA 198 145 [rv 11 100, iv ((8 * sd + wE D0 : Nat) : Int), iv s, none, none, iv (tV T (t + 1) : Int), none, none, none] [] A2 ∧ RCp T lv sd M0R (t + 1 + 1) (if (tV T (t + 1) : Int) < 1 ∨ 9 < (tV T (t + 1) : Int) then keepA ks 5 (tP T (t + 1) : Int) else ks) A2 ∧ (∀ o, o ≠ 100 → A2 o = A1 o) ∧ ∀ k, k ≠ 15 → k ≠ 16 → A2 100 k = A1 100 k := by
            rw [s_GaugeNetModel_tellTerm_114, b3.2.1.2.1, if_neg (show ¬ ¬ (0 : Int) = 0 from fun q => q rfl), if_neg (show ¬ (1 : Int) = 0 by decide)]
            obtain ⟨A2, w1, w2', w3, w4⟩ := y_wrong b3 hok t0 5 (fun q => Or.inl (hks q))
            by_cases v1 : (tV T (t + 1) : Int) < 1
            · rw [if_pos v1, if_pos (Or.inl v1), s_GaugeNetModel_tellTerm_139, w1, bV_none]
              exact ⟨A2, rfl, w2', w3, w4⟩
            · rw [if_neg v1]
              by_cases v9 : (tV T (t + 1) : Int) ≤ 9
              · rw [if_pos v9, if_neg (show ¬ ((tV T (t + 1) : Int) < 1 ∨ 9 < (tV T (t + 1) : Int)) by omega)]
                exact ⟨A1, rfl, b3, fun _ _ => rfl, fun _ _ _ => rfl⟩
              · rw [if_neg v9, if_pos (show (tV T (t + 1) : Int) < 1 ∨ 9 < (tV T (t + 1) : Int) by omega), s_GaugeNetModel_tellTerm_139, w1, bV_none]
                exact ⟨A2, rfl, w2', w3, w4⟩
          obtain ⟨A2, u1, u2, u3, u4⟩ := hlook
          rw [if_pos kn, if_pos (show ¬ (1 : Int) = 0 by decide), u1]
          generalize hk5 : (if (tV T (t + 1) : Int) < 1 ∨ 9 < (tV T (t + 1) : Int) then keepA ks 5 (tP T (t + 1) : Int) else ks) = ks5 at m2 u2
          have hks5 : KOs T (t + 1 + 1) ks5 := by
            rw [← hk5]
            split
            · exact KO_keep hok hks1 (Nat.lt_succ_self _) t1 _
            · exact hks1
          have h5 : ks5.1 = 0 → ks5 = ks ∧ ks.1 = 0 ∧ ¬ ((tV T (t + 1) : Int) < 1 ∨ 9 < (tV T (t + 1) : Int)) := fun q => by
            by_cases y : (tV T (t + 1) : Int) < 1 ∨ 9 < (tV T (t + 1) : Int)
            · rw [if_pos y] at hk5
              rw [← hk5] at q
              exact absurd q (keepA_ne ks (by decide) _)
            · rw [if_neg y] at hk5
              rw [← hk5] at q
              exact ⟨hk5.symm, q, y⟩
          have hg5 : ks5.1 = 0 → ND N' (nn + 1) ∧ GDd sd (t + 1 + 1) D A2 ∧ A2 100 39 = (wH D (wE D0) : Int) := fun q => by
            obtain ⟨q1, q2, q3⟩ := hg1 (h5 q).2.1
            exact ⟨q1, GD_up q2 (Nat.le_refl _) (fun o w1 _ _ _ => u3 o (by omega)), by rw [u4 39 (by decide) (by decide)]; exact q3⟩
          have hcn2 : CNT sd D0 A2 := CNT_s hcn1 ⟨u3 111 (by decide), u3 112 (by decide), u3 115 (by decide), u3 120 (by decide)⟩
          have hNR2 : NRk N nn A2 := NRk_s hN1 (fun o _ _ => u3 o (by omega)) (u4 20 (by decide) (by decide))
          have hx : ks5.1 = 0 → w32 (s * (if (tV T (t + 1) : Int) < 1 ∨ 9 < (tV T (t + 1) : Int) then 1 else (tV T (t + 1) : Int))) = w32 (s * (tV T (t + 1) : Int)) ∧ w32 (s * (if (tV T (t + 1) : Int) < 1 ∨ 9 < (tV T (t + 1) : Int) then 1 else (tV T (t + 1) : Int))) ≠ 0 ∧ -9 ≤ w32 (s * (if (tV T (t + 1) : Int) < 1 ∨ 9 < (tV T (t + 1) : Int) then 1 else (tV T (t + 1) : Int))) ∧ w32 (s * (if (tV T (t + 1) : Int) < 1 ∨ 9 < (tV T (t + 1) : Int) then 1 else (tV T (t + 1) : Int))) ≤ 9 := fun q => by
            have hno := (h5 q).2.2
            rw [if_neg hno]
            have ew : w32 (s * (tV T (t + 1) : Int)) = s * (tV T (t + 1) : Int) := by
              rcases hs with rfl | rfl
              · rw [pu_w32 (by omega) (by omega)]
              · rw [pu_w32 (by omega) (by omega)]
            rw [ew]
            clear ew
            rcases hs with rfl | rfl <;> omega
          have hz : zTr (wE D0 : Int) s B = (bI (gC 52 [rv 4 2, iv (wE D0 : Int), iv (w32 (s * (if (tV T (t + 1) : Int) < 1 ∨ 9 < (tV T (t + 1) : Int) then 1 else (tV T (t + 1) : Int))))] B2) fun c9 M9 =>
if 0 ≤ c9 ∧ c9 < 2 then some (iv c9, M9) else none) := by
            unfold zTr
            rw [z_kind hC hok t0, bI_some, if_pos (show ¬ (tK T (t + 1) : Int) = 2 by omega), a2, bI_some, if_pos (show ¬ (1 : Int) = 0 by decide), z_kind a3 hok t1, bI_some, if_neg (show ¬ ¬ (tK T (t + 1 + 1) : Int) = 2 from fun q => q (by omega)), m1, bI_some]
          have tlt : t + 1 < t + 1 + 1 + 1 := by omega
          rcases t_named hok hD0 hnb hNk hNk' h8 hN' t1 hks5 m2 hW2 hN2 u2 hNR2 hcn2 h0 hDW hg5 hx with ⟨B', A', p1, p2, p3⟩ | ⟨f, B', A', p1, p2, p3, p4⟩
          · refine Or.inl ⟨B', A', t + 1 + 1 + 1, tlt, ?_, p2, p3⟩
            rw [hz, p1, bI_some, if_pos (by decide)]
          · refine Or.inr ⟨f, B', A', ?_, p2, p3, p4⟩
            rw [hz, p1, bI_some, if_pos (by decide)]
        · -- a constant
          obtain ⟨B2, m1, m2, m3, m4⟩ := z_intWithin a3 hok t0 k3 0 999
          have hW2 : CW w2 D B2 := CW_k hWB (fun o ho => m3 o (by omega))
          have hN2 : NCk N' (nn + 1) B2 := NCk_s hNB (fun o _ _ => m3 o (by omega)) m4
          have r8 : 0 ≤ (wE D0 : Int) ∧ (wE D0 : Int) < 8 := by omega
          have hk2' : CW w2 D B1 := hWB
          rw [if_neg kn, if_neg (show ¬ ¬ (0 : Int) = 0 from fun q => q rfl), b3.2.1.2.1, if_neg (show ¬ ¬ (0 : Int) = 0 from fun q => q rfl)]
          have hlook : ∃ A2, (if (tV T (t + 1) : Int) ≤ 999 then
gA 198 94 [rv 11 100, iv ((8 * sd + wE D0 : Nat) : Int), iv s, none, none, iv (tV T (t + 1) : Int), none, none, none] [] A1
else
bV (gC 194 [rv 11 100, iv 5, iv ((t + 1 : Nat) : Int)] A1) fun M21 =>
gA 198 94 [rv 11 100, iv ((8 * sd + wE D0 : Nat) : Int), iv s, none, none, iv (tV T (t + 1) : Int), none, none, none] [] M21) = gA 198 94 [rv 11 100, iv ((8 * sd + wE D0 : Nat) : Int), iv s, none, none, iv (tV T (t + 1) : Int), none, none, none] [] A2 ∧ RCp T lv sd M0R (t + 1 + 1) (if (tV T (t + 1) : Int) < 0 ∨ 999 < (tV T (t + 1) : Int) then keepA ks 5 (tP T (t + 1) : Int) else ks) A2 ∧ (∀ o, o ≠ 100 → A2 o = A1 o) ∧ ∀ k, k ≠ 15 → k ≠ 16 → A2 100 k = A1 100 k := by
            by_cases v9 : (tV T (t + 1) : Int) ≤ 999
            · rw [if_pos v9, if_neg (show ¬ ((tV T (t + 1) : Int) < 0 ∨ 999 < (tV T (t + 1) : Int)) by omega)]
              exact ⟨A1, rfl, b3, fun _ _ => rfl, fun _ _ _ => rfl⟩
            · obtain ⟨A2, w1, w2', w3, w4⟩ := y_wrong b3 hok t0 5 (fun q => Or.inl (hks q))
              rw [if_neg v9, if_pos (show (tV T (t + 1) : Int) < 0 ∨ 999 < (tV T (t + 1) : Int) by omega), w1, bV_none]
              exact ⟨A2, rfl, w2', w3, w4⟩
          obtain ⟨A2, u1, u2, u3, u4⟩ := hlook
          rw [u1]
          generalize hk5 : (if (tV T (t + 1) : Int) < 0 ∨ 999 < (tV T (t + 1) : Int) then keepA ks 5 (tP T (t + 1) : Int) else ks) = ks5 at m2 u2
          have hks5 : KOs T (t + 1 + 1) ks5 := by
            rw [← hk5]
            split
            · exact KO_keep hok hks1 (Nat.lt_succ_self _) t1 _
            · exact hks1
          have h5 : ks5.1 = 0 → ks.1 = 0 ∧ ¬ ((tV T (t + 1) : Int) < 0 ∨ 999 < (tV T (t + 1) : Int)) := fun q => by
            by_cases y : (tV T (t + 1) : Int) < 0 ∨ 999 < (tV T (t + 1) : Int)
            · rw [if_pos y] at hk5
              rw [← hk5] at q
              exact absurd q (keepA_ne ks (by decide) _)
            · rw [if_neg y] at hk5
              rw [← hk5] at q
              exact ⟨q, y⟩
          have hidx : w32 (w32 (9 * ((8 * sd + wE D0 : Nat) : Int)) + 8) = ((9 * (8 * sd + wE D0) + 8 : Nat) : Int) := by
            rw [pu_w32 (x := 9 * ((8 * sd + wE D0 : Nat) : Int)) (by omega) (by omega), pu_w32 (by omega) (by omega)]
            omega
          have hwe : wE D0 < wE D := by rw [eE]; exact Nat.lt_succ_self _
          have r144 : 0 ≤ ((9 * (8 * sd + wE D0) + 8 : Nat) : Int) ∧ ((9 * (8 * sd + wE D0) + 8 : Nat) : Int) < 144 := by
            clear hidx
            omega
          have nk : ¬ kpR lv 113 (9 * (8 * sd + wE D0) + 8) := by
            clear hidx r144
            unfold kpR
            omega
          have tlt : t + 1 < t + 1 + 1 := Nat.lt_succ_self _
          have t400 : t + 1 + 1 ≤ 400 := Nat.le_trans t1 h4
          have hz : zTr (wE D0 : Int) s B = some (iv 1, st B2 (w2 + 2) (wE D0) (w32 (D 2 (wE D0) + w32 (s * (if (tV T (t + 1) : Int) < 0 ∨ 999 < (tV T (t + 1) : Int) then 0 else (tV T (t + 1) : Int)))))) := by
            unfold zTr
            rw [z_kind hC hok t0, bI_some, if_pos (show ¬ (tK T (t + 1) : Int) = 2 by clear hidx r144 nk; omega), a2, bI_some, if_pos (show ¬ (1 : Int) = 0 by decide), z_kind a3 hok t1, bI_some, if_pos (show ¬ (tK T (t + 1 + 1) : Int) = 2 by clear hidx r144 nk; omega), m1, bI_some, put_const r8, bV_none, pu_nn, a3.2.1.1, pu_nn, hW2.2 2 (by decide)]
          rw [hz, s_GaugeNetModel_tellTerm_94, hidx, if_pos r144, if_pos r144, pu_nn]
          refine Or.inl ⟨_, _, t + 1 + 1, tlt, rfl, rfl, ks5, st D 2 (wE D0) (w32 (D 2 (wE D0) + w32 (s * (if (tV T (t + 1) : Int) < 0 ∨ 999 < (tV T (t + 1) : Int) then 0 else (tV T (t + 1) : Int))))), ⟨t1, hks5⟩, ⟨CCp_o m2 (Or.inr ⟨Nat.le_add_right _ _, by clear hidx r144 nk; omega⟩) _ _, CW_st hW2 2 _ _, NCk_s hN2 (fun o _ _ => by clear hidx r144 nk; rw [st_ob (by omega)]) (by clear hidx r144 nk; rw [st_ob (by omega)])⟩, ⟨RCp_o u2 ⟨by decide, Or.inr (by decide)⟩ nk _, NRk_s hN1 (fun o _ _ => by clear hidx r144 nk; rw [st_ob (by omega)]; exact u3 o (by omega)) (by rw [st_ob (by decide)]; exact u4 20 (by decide) (by decide)), ?_⟩, ⟨by rw [st_ob (by decide)]; exact h0, ?_⟩, fun q => ?_⟩
          · unfold CNT
            rw [st_ob (show 111 ≠ 113 by decide), st_ob (show 112 ≠ 113 by decide), st_ob (show 115 ≠ 113 by decide), st_ob (show 120 ≠ 113 by decide), u3 111 (by decide), u3 112 (by decide), u3 115 (by decide), u3 120 (by decide)]
            exact hcn1
          · refine DW0_0 hD0 h8 (by rw [st_ob (by decide)]; exact h0) (fun r hr => ?_)
            have ew : wH (st D 2 (wE D0) (w32 (D 2 (wE D0) + w32 (s * (if (tV T (t + 1) : Int) < 0 ∨ 999 < (tV T (t + 1) : Int) then 0 else (tV T (t + 1) : Int)))))) = wH D := by
              funext q
              unfold wH
              rw [st_ob (by decide)]
            rw [ew, st_ob (by decide)]
            exact hDW.2.2 r hr
          · obtain ⟨q1, q2⟩ := h5 q
            obtain ⟨g1, g2, g3⟩ := hg1 q1
            obtain ⟨g1', g2', g3'⟩ := hgood q1
            have hb := g2.2.2.1 (wE D0) h8
            have e28 : A2 113 (9 * (8 * sd + wE D0) + 8) = D 2 (wE D0) := by
              rw [u3 113 (by decide)]
              exact (g2.2.2.2.1 (wE D0) hwe).2.1
            have hval : ∃ x : Int, x.natAbs ≤ 999 ∧ w32 (s * (tV T (t + 1) : Int)) = x ∧ w32 (D 2 (wE D0) + x) = D 2 (wE D0) + x := by
              clear hidx r144 nk
              refine ⟨s * (tV T (t + 1) : Int), ?_, ?_, ?_⟩
              · rcases hs with rfl | rfl <;> omega
              · rcases hs with rfl | rfl
                · rw [pu_w32 (by omega) (by omega)]
                · rw [pu_w32 (by omega) (by omega)]
              · rcases hs with rfl | rfl
                · rw [pu_w32 (by omega) (by omega)]
                · rw [pu_w32 (by omega) (by omega)]
            obtain ⟨x, x1, x2, x3⟩ := hval
            have hkg := k_GD g2' (ce := wE D0) (x := x) hwe x1 tlt t400 (M' := st A2 113 (9 * (8 * sd + wE D0) + 8) (D 2 (wE D0) + x)) (fun o w1 w2 w3 w4 => by clear hidx r144 nk x2 x3; rw [st_ob (by omega), u3 o (by omega), oA o (by omega)]) (fun i => by rw [st_if, u3 113 (by decide), oA 113 (by decide)])
            have hw1 : wH (st D 2 (wE D0) (D 2 (wE D0) + x)) = wH D := by
              funext q
              unfold wH
              rw [st_ob (by decide)]
            rw [if_neg q2, x2, x3, e28, x3, hw1]
            refine ⟨g1, hkg, ?_⟩
            rw [st_ob (by decide), u4 39 (by decide) (by decide)]
            exact g3
      · rw [k3, a1] at b1
        cases b1
    · -- neither
      have hzf := zTrSyn hok hC t0 k2 a2 (wE D0 : Int) s
      rw [hzf]
      by_cases k3 : tK T (t + 1) = 3
      · rcases y_goesOn hR hok t0 with ⟨b1, _⟩ | ⟨f', A3, b1, b2, b3, b4⟩
        · rw [k3, a1] at b1
          cases b1
        · rw [k3, a1] at b1
          cases b1
          have r403 : 0 ≤ ((t + 1 : Nat) : Int) ∧ ((t + 1 : Nat) : Int) < 403 := by omega
          obtain ⟨A', p1, p2⟩ := y_94 (c := wE D0) h8 hsd b3 s (A 105 (((t + 1 : Nat) : Int)).toNat)
          rw [if_pos k3, if_neg (show ¬ (1 : Int) = 0 by decide), if_pos r403, if_neg (show ¬ (1 : Int) = 0 by decide), b2, bV_none, if_neg (show ¬ (1 : Int) = 0 by decide), y_is_f (RFp_ne b3), bI_some, if_neg (show ¬ ¬ (0 : Int) = 0 from fun q => q rfl), if_pos (RFp_ne b3), p1]
          exact Or.inr ⟨f, _, _, rfl, a3, rfl, p2⟩
      · have a1' : acF T (t + 1) 2 = some f := by
          unfold acF at a1 ⊢
          rw [if_neg k3] at a1
          rw [if_neg k2]
          exact a1
        rw [if_neg k3, if_pos rfl, if_pos rfl, if_pos rfl, s_GaugeNetModel_tellTerm_114, hR.2.1.2.1, if_neg (show ¬ ¬ (0 : Int) = 0 from fun q => q rfl), if_pos rfl, s_GaugeNetModel_tellTerm_145]
        have h29 : nn ≤ 29 := by
          have := hnb.1
          have := hD0.1.1.2
          have := hD0.1.2.2.1.2
          have := hD0.1.2.2.2.2
          omega
        rcases y_known hR hok t0 hNR hNk h29 hks (a := 0) (b := 0) (x := 0) (y := 0) rfl rfl with ⟨g0, _⟩ | ⟨f', A4, g0, g1, g2, g3⟩
        · rw [a1'] at g0
          cases g0
        · rw [a1'] at g0
          cases g0
          rw [g1, bI_some, if_neg (show ¬ ¬ (-1 : Int) = -1 from fun q => q rfl)]
          exact Or.inr ⟨f, _, _, rfl, a3, rfl, g2⟩
/-- the reference's term in a text with a fault by its sign -/
theorem yTr_f {f : Int × Int} {A0 A : mM} {c : Nat} (hgo : gC 191 [rv 11 100] A0 = some (none, A)) (h : RFp lv sd M0R f A) (s : Int) : yTr ((8 * sd + c : Nat) : Int) s A0 = some (none, A) := by
  unfold yTr
  rw [hgo, bV_none, y_is_f (RFp_ne h), bI_some, if_pos rfl, if_pos rfl, if_pos rfl, s_GaugeNetModel_tellTerm_114, if_pos (RFp_ne h), s_GaugeNetModel_tellTerm_145, y_known_f h, bI_some, if_neg (show ¬ ¬ (-1 : Int) = -1 from fun q => q rfl)]
theorem t_term (hok : TKok T) (hD0 : DW0 D0) (hnb : NB N nn D0) (hNk : NOKk N nn) (hNk' : NOKk N' (nn + 1)) (h8 : wE D0 < 8) {wn : List Nat} (hN' : nadd N nn (wn, 1, wE D0) = N') {t : Nat} {B A : mM} (hQ : QT T w2 M0C lv sd M0R N nn N' D0 t B A) (hk : tK T t = 16 ∨ tK T t = 17) : (∃ B' A' t', t + 1 < t' ∧ gC 51 [rv 4 2, iv (wE D0 : Int)] B = some (iv 1, B') ∧ gC 198 [rv 11 100, iv ((8 * sd + wE D0 : Nat) : Int)] A = some (none, A') ∧ QT T w2 M0C lv sd M0R N nn N' D0 t' B' A') ∨ ∃ f B' A', gC 51 [rv 4 2, iv (wE D0 : Int)] B = some (iv 0, B') ∧ CFp w2 M0C f B' ∧ gC 198 [rv 11 100, iv ((8 * sd + wE D0 : Nat) : Int)] A = some (none, A') ∧ RFp lv sd M0R f A' := by
  obtain ⟨ks, D, ⟨ht, hks⟩, ⟨hC, hW, hN⟩, ⟨hR, hNR, hcn⟩, ⟨h0, hDW⟩, hgood⟩ := hQ
  have h4 := hok.1
  have hw2 := hC.2.2.2
  have hsign : ∀ (k : Nat) (s : Int), tK T t = k → k ≠ 0 → (s = 1 ∨ s = -1) → (∃ B' A' t', t + 1 < t' ∧ (bI (gC 44 [rv 4 2, iv (k : Int)] B) fun c3 M3 =>
if ¬ c3 = 0 then
zTr (wE D0 : Int) s M3
else
some (iv 0, M3)) = some (iv 1, B') ∧ yTr ((8 * sd + wE D0 : Nat) : Int) s A = some (none, A') ∧ QT T w2 M0C lv sd M0R N nn N' D0 t' B' A') ∨ ∃ f B' A', (bI (gC 44 [rv 4 2, iv (k : Int)] B) fun c3 M3 =>
if ¬ c3 = 0 then
zTr (wE D0 : Int) s M3
else
some (iv 0, M3)) = some (iv 0, B') ∧ CFp w2 M0C f B' ∧ yTr ((8 * sd + wE D0 : Nat) : Int) s A = some (none, A') ∧ RFp lv sd M0R f A' := by
    intro k s hk hk0 hs
    rcases z_accept hC hok ht k rfl with ⟨a1, a2, a3⟩ | ⟨f, B3, a1, a2, a3⟩
    · have t1 := ac_next hok ht a1 hk0
      rcases y_goesOn hR hok ht with ⟨_, b2, b3⟩ | ⟨f, A3, b1, _⟩
      · generalize hB1 : st B 2 2 ((t + 1 : Nat) : Int) = B1 at a2 a3
        generalize hA1 : st A 100 11 ((t + 1 : Nat) : Int) = A1 at b2 b3
        have hNB : NCk N' (nn + 1) B1 := NCk_s hN (fun o _ _ => by rw [← hB1, st_ob (by omega)]) (by rw [← hB1, st_nk (by omega)])
        have hWB : CW w2 D B1 := CW_k hW (fun o ho => by rw [← hB1, st_ob (by omega)])
        have oA : ∀ o, o ≠ 100 → A1 o = A o := fun o ho => by rw [← hA1, st_ob ho]
        have kA : ∀ k, k ≠ 11 → A1 100 k = A 100 k := fun k hk => by rw [← hA1, st_nk hk]
        have hN1 : NRk N nn A1 := NRk_s hNR (fun o _ _ => oA o (by omega)) (kA 20 (by omega))
        have hcn1 : CNT sd D0 A1 := CNT_s hcn ⟨oA 111 (by decide), oA 112 (by decide), oA 115 (by decide), oA 120 (by decide)⟩
        have hg1 : ks.1 = 0 → ND N' (nn + 1) ∧ GDd sd (t + 1) D A1 ∧ A1 100 39 = (wH D (wE D0) : Int) := fun q => by
          obtain ⟨q1, q2, q3⟩ := hgood q
          exact ⟨q1, GD_up q2 (Nat.le_succ _) (fun o w1 _ _ _ => oA o (by omega)), by rw [kA 39 (by decide)]; exact q3⟩
        rw [a2, bI_some, if_pos (show ¬ (1 : Int) = 0 by decide)]
        exact t_termS hok hD0 hnb hNk hNk' h8 hN' t1 (KO_up hok hks (Nat.le_succ t) t1) a3 hWB hNB b3 hN1 hcn1 h0 hDW hg1 hs b2
      · rw [hk, a1] at b1
        cases b1
    · rcases y_goesOn hR hok ht with ⟨b1, _⟩ | ⟨f', A3, b1, b2, b3, b4⟩
      · rw [hk, a1] at b1
        cases b1
      · rw [hk, a1] at b1
        cases b1
        rw [a2, bI_some, if_neg (show ¬ ¬ (0 : Int) = 0 from fun q => q rfl), yTr_f b2 b3]
        exact Or.inr ⟨f, _, _, rfl, a3, rfl, b3⟩
  rw [e_parseTerm, e_tellTerm, z_kind hC hok ht, bI_some, z_kind hC hok ht, bI_some, y_is hR hok ht (k := 16) (by omega) (x := 8) rfl, bI_some]
  rcases hk with hk | hk
  · have n17 : ¬ (tK T t : Int) = 17 := by omega
    rw [if_pos n17, if_pos n17, if_pos hk, bI_some, if_neg (show ¬ (1 : Int) = 0 by decide)]
    exact hsign 16 1 hk (by decide) (Or.inl rfl)
  · have n17 : (tK T t : Int) = 17 := by omega
    rw [if_neg (show ¬ ¬ (tK T t : Int) = 17 from fun q => q n17), if_neg (show ¬ ¬ (tK T t : Int) = 17 from fun q => q n17), if_neg (show ¬ tK T t = 16 by omega), bI_some, if_pos rfl]
    exact hsign 17 (-1) hk (by decide) (Or.inr rfl)
end TM
