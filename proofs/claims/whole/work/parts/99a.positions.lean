/-! eq: its POSITIONS, its end. -/
theorem GD_114 {sd t t' : Nat} {D M M' : mM} (h : GDd sd t D M) (ht : t ≤ t') (h8 : wE D < 8) (k : ∀ o, 113 ≤ o → o ≠ 114 → (o < 115 ∨ 115 < o) → (o < 120 ∨ 120 < o) → o ≤ 121 → M' o = M o) (k2 : ∀ i, i ≠ 8 * sd + wE D → M' 114 i = M 114 i) : GDd sd t' D M' := by
  obtain ⟨h1, h2, h3, h4, h5, h6⟩ := h
  refine ⟨h1, h2, fun e he => by have := h3 e he; omega, fun e he => ?_, fun g hg => ?_, fun f hf => by rw [k 121 (by omega) (by omega) (by omega) (by omega) (by omega)]; exact h6 f hf⟩
  · obtain ⟨e1, e2, e3⟩ := h4 e he
    unfold RDe
    rw [k 113 (by omega) (by omega) (by omega) (by omega) (by omega), k2 _ (by omega)]
    exact ⟨e1, e2, e3⟩
  · unfold RDg
    rw [k 116 (by omega) (by omega) (by omega) (by omega) (by omega), k 117 (by omega) (by omega) (by omega) (by omega) (by omega), k 118 (by omega) (by omega) (by omega) (by omega) (by omega), k 119 (by omega) (by omega) (by omega) (by omega) (by omega)]
    exact h5 g hg
def QP (T : TKS) (w2 : Nat) (M0C : mM) (lv sd : Nat) (M0R : mM) (N : NMS) (nn : Nat) (N' : NMS) (D0 : mM) (t : Nat) (MC MR : mM) : Prop := ∃ (ks : Int × Int) (hv : Int), (t ≤ tm T ∧ KOs T t ks) ∧ (CCp T w2 M0C t ks MC ∧ CW w2 (st (st D0 0 1 ((wE D0 + 1 : Nat) : Int)) 3 (wE D0) hv) MC ∧ NCk N' (nn + 1) MC) ∧ (RCp T lv sd M0R t ks MR ∧ NRk N nn MR ∧ CNT sd D0 MR) ∧ (ks.1 = 0 → ND N' (nn + 1) ∧ GDd sd t D0 MR ∧ MR 114 (8 * sd + wE D0) = hv ∧ ∃ h : Nat, h < 16 ∧ hv = (h : Int))
section PE
variable {T : TKS} {w2 lv sd : Nat} {M0C M0R D0 : mM} {N N' : NMS} {nn : Nat} {f : Int × Int} {A B : mM} {t : Nat}
theorem nk114 {lv sd c : Nat} (hs : lv + sd = 1) (hc : c < 8) : ¬ kpR lv 114 (8 * sd + c) := by
  unfold kpR
  omega
theorem nk113 {lv sd c u : Nat} (hs : lv + sd = 1) (hc : c < 8) (hu : u < 9) : ¬ kpR lv 113 (9 * (8 * sd + c) + u) := by
  unfold kpR
  omega
/-- a text with a fault: the reference's ends -/
theorem eq_f171 (h : RFp lv sd M0R f A) (x1 x2 : Int) : gA 196 171 [rv 11 100, iv x1, iv x2, none, none] [] A = some (none, A) := by
  rw [s_GaugeNetModel_tellEq_171, y_is_f (RFp_ne h), bI_some, if_neg (show ¬ ¬ (0 : Int) = 0 from fun q => q rfl), y_is_f (RFp_ne h), bI_some, if_pos rfl, y_must_f h, bV_none, if_neg (RFp_le h)]
/-- numbers begin with 0 -/
theorem eq_zero {P : mM → Prop} {c : Nat} (hc : c < 8) (hsd : sd < 2) (hP : ∀ (M : mM) (u : Nat), u < 9 → P M → P (st M 113 (9 * (8 * sd + c) + u) 0)) (h : P A) (x2 : Int) : ∃ A', P A' ∧ (∀ o, o ≠ 113 → A' o = A o) ∧ (∀ i, A' 113 i = if 9 * (8 * sd + c) ≤ i ∧ i < 9 * (8 * sd + c) + 9 then 0 else A 113 i) ∧ gA 196 112 [rv 11 100, iv ((8 * sd + c : Nat) : Int), iv x2, iv 0, none] [] A = gA 196 112 [rv 11 100, iv ((8 * sd + c : Nat) : Int), iv x2, iv 9, none] [] A' := by
  have key := pu_rel (S := mM) (G := fun i M' => gA 196 112 [rv 11 100, iv ((8 * sd + c : Nat) : Int), iv x2, iv (i : Int), none] [] M') (I := fun i M' => P M' ∧ (∀ o, o ≠ 113 → M' o = A o) ∧ ∀ k, M' 113 k = if 9 * (8 * sd + c) ≤ k ∧ k < 9 * (8 * sd + c) + i then 0 else A 113 k) 9 (fun i M' hi hI => by
    obtain ⟨i1, i2, i3⟩ := hI
    have hidx : w32 (w32 (9 * ((8 * sd + c : Nat) : Int)) + (i : Int)) = ((9 * (8 * sd + c) + i : Nat) : Int) := by
      rw [pu_w32 (x := 9 * ((8 * sd + c : Nat) : Int)) (by omega) (by omega), pu_w32 (by omega) (by omega)]
      omega
    have r144 : 0 ≤ ((9 * (8 * sd + c) + i : Nat) : Int) ∧ ((9 * (8 * sd + c) + i : Nat) : Int) < 144 := by
      clear hidx
      omega
    have n9 : ¬ (9 : Int) ≤ (i : Int) := by
      clear hidx r144
      omega
    have hi2 : i < 2147483647 := by
      clear hidx r144
      omega
    try dsimp only
    rw [s_GaugeNetModel_tellEq_112, if_neg n9, hidx, if_pos r144, pu_nn, pu_inc hi2]
    clear hidx r144
    refine ⟨_, ⟨hP M' i hi i1, fun o ho => by rw [st_ob ho]; exact i2 o ho, fun k => ?_⟩, rfl⟩
    rw [st_if, i3 k]
    by_cases z : k = 9 * (8 * sd + c) + i
    · rw [if_pos z, if_pos (by omega)]
    · rw [if_neg z]
      by_cases y : 9 * (8 * sd + c) ≤ k ∧ k < 9 * (8 * sd + c) + i
      · rw [if_pos y, if_pos (by omega)]
      · rw [if_neg y, if_neg (by omega)]) 0 A (Nat.zero_le _) ⟨h, fun _ _ => rfl, fun k => by rw [if_neg (by omega)]⟩
  obtain ⟨A', ⟨k1, k2, k3⟩, k4⟩ := key
  exact ⟨A', k1, k2, k3, k4⟩
theorem eq_f112 {c : Nat} (hc : c < 8) (hs : lv + sd = 1) (h : RFp lv sd M0R f A) (x2 : Int) : ∃ A', gA 196 112 [rv 11 100, iv ((8 * sd + c : Nat) : Int), iv x2, iv 0, none] [] A = some (none, A') ∧ RFp lv sd M0R f A' := by
  obtain ⟨A', p1, p2, p3, p4⟩ := eq_zero (P := fun M => RFp lv sd M0R f M) (c := c) hc (by omega) (fun M u hu hM => RFp_o hM (by decide) (nk113 hs hc hu) 0) h x2
  have h39 := RFp_39 p1 0
  rw [p4, s_GaugeNetModel_tellEq_112, if_pos (by decide), if_pos (RFp_ne h39), eq_f171 h39]
  exact ⟨_, rfl, h39⟩
theorem eq_f53 {c : Nat} (hc : c < 8) (hs : lv + sd = 1) (h : RFp lv sd M0R f A) (x2 : Int) : ∃ A', gA 196 53 [rv 11 100, iv ((8 * sd + c : Nat) : Int), iv x2, iv 0, none] [] A = some (none, A') ∧ RFp lv sd M0R f A' := by
  rw [s_GaugeNetModel_tellEq_53, if_pos rfl, y_must_f h, bV_none]
  exact eq_f112 hc hs h x2
/-- the terms, to the end -/
theorem t_terms (hok : TKok T) (hD0 : DW0 D0) (hnb : NB N nn D0) (hNk : NOKk N nn) (hNk' : NOKk N' (nn + 1)) (h8 : wE D0 < 8) {i0 : Nat} (hi0 : i0 ≤ tm T) (hk0 : tK T i0 = 2) (hN' : nadd N nn (tW T i0, 1, wE D0) = N') {tb : Nat} : ∀ (d t n : Nat) (B A : mM), t + d = 401 → n + 4 ≤ t → tb < t → QT T w2 M0C lv sd M0R N nn N' D0 t B A → ∃ MC' MR', gA 47 66 [rv 4 2, iv (wE D0 : Int), iv 1, iv (n : Int)] [] B = some (none, MC') ∧ gA 196 171 [rv 11 100, iv ((8 * sd + wE D0 : Nat) : Int), iv (i0 : Int), none, none] [] A = some (none, MR') ∧ OUT T w2 M0C lv sd M0R tb MC' MR'
  | 0, t, n, B, A, hd, hn, hb, hQ => by
    obtain ⟨ks, D, ⟨ht, hks⟩, _⟩ := hQ
    have := hok.1
    omega
  | d + 1, t, n, B, A, hd, hn, hb, hQ => by
    have hQ0 := hQ
    obtain ⟨ks, D, ⟨ht, hks⟩, ⟨hC, hW, hN⟩, ⟨hR, hNR, hcn⟩, ⟨h0, hDW⟩, hgood⟩ := hQ
    have h4 := hok.1
    have hw2 := hC.2.2.2
    have hsd := hR.2.2.2
    have n400 : ¬ (400 : Int) ≤ (n : Int) := by omega
    have hn31 : n < 2147483647 := by omega
    rw [s_Parser_parseEq_66, if_neg n400, if_neg (show ¬ (1 : Int) = 0 by decide), z_kind hC hok ht, bI_some, s_GaugeNetModel_tellEq_171, y_is hR hok ht (k := 16) (by omega) (x := 8) rfl, bI_some]
    by_cases k16 : tK T t = 16 ∨ tK T t = 17
    · -- one term more
      have step : ∃ MC' MR', (bI (gC 51 [rv 4 2, iv (wE D0 : Int)] B) fun c4 M4 =>
gA 47 66 [rv 4 2, iv (wE D0 : Int), iv c4, iv (w32 ((n : Int) + 1))] [] M4) = some (none, MC') ∧ (bV (gC 198 [rv 11 100, iv ((8 * sd + wE D0 : Nat) : Int)] A) fun M2 =>
gA 196 171 [rv 11 100, iv ((8 * sd + wE D0 : Nat) : Int), iv (i0 : Int), none, none] [] M2) = some (none, MR') ∧ OUT T w2 M0C lv sd M0R tb MC' MR' := by
        rcases t_term hok hD0 hnb hNk hNk' h8 hN' hQ0 k16 with ⟨B', A', t', q1, q2, q3, q4⟩ | ⟨f, B', A', q1, q2, q3, q4⟩
        · have ht' : t' ≤ tm T := by
            obtain ⟨_, _, ⟨ht', _⟩, _⟩ := q4
            exact ht'
          obtain ⟨MC', MR', p1, p2, p3⟩ := t_terms hok hD0 hnb hNk hNk' h8 hi0 hk0 hN' (tb := tb) (d - (t' - t - 1)) t' (n + 1) B' A' (by omega) (by omega) (by omega) q4
          rw [q2, bI_some, q3, bV_none, pu_inc hn31, p1, p2]
          exact ⟨_, _, rfl, rfl, p3⟩
        · rw [q1, bI_some, q3, bV_none, eq_f171 q4, pu_inc hn31, s_Parser_parseEq_66]
          by_cases z : (400 : Int) ≤ ((n + 1 : Nat) : Int)
          · rw [if_pos z, if_pos rfl]
            exact ⟨_, _, rfl, rfl, Or.inr ⟨f, q2, q4⟩⟩
          · rw [if_neg z, if_pos rfl, if_pos rfl]
            exact ⟨_, _, rfl, rfl, Or.inr ⟨f, q2, q4⟩⟩
      by_cases k1 : tK T t = 16
      · rw [if_pos (show (tK T t : Int) = 16 by omega), if_pos k1, if_pos (show ¬ (1 : Int) = 0 by decide)]
        exact step
      · have k2 : tK T t = 17 := k16.resolve_left k1
        rw [if_neg (show ¬ (tK T t : Int) = 16 by omega), z_kind hC hok ht, bI_some, if_neg (show ¬ ¬ (tK T t : Int) = 17 from fun q => q (by omega)), if_neg k1, if_neg (show ¬ ¬ (0 : Int) = 0 from fun q => q rfl), y_is hR hok ht (k := 17) (by omega) (x := 9) rfl, bI_some, if_pos k2, if_neg (show ¬ (1 : Int) = 0 by decide)]
        exact step
    · -- the end
      have k1 : ¬ tK T t = 16 := fun q => k16 (Or.inl q)
      have k2 : ¬ tK T t = 17 := fun q => k16 (Or.inr q)
      rw [if_neg (show ¬ (tK T t : Int) = 16 by omega), z_kind hC hok ht, bI_some, if_pos (show ¬ (tK T t : Int) = 17 by omega), if_neg (show ¬ (1 : Int) = 0 by decide), if_neg k1, if_neg (show ¬ ¬ (0 : Int) = 0 from fun q => q rfl), y_is hR hok ht (k := 17) (by omega) (x := 9) rfl, bI_some, if_neg k2, if_pos rfl]
      rcases z_accept hC hok ht 13 (x := 13) rfl with ⟨l1, l2, l3⟩ | ⟨f, M3, l1, l2, l3⟩
      · have t1 := ac_next hok ht l1 (by omega)
        rcases y_must hR hok ht 13 (by omega) (x := 4) rfl with ⟨_, p2, p3⟩ | ⟨f, A5, p1, _⟩
        · generalize hA1 : st A 100 11 ((t + 1 : Nat) : Int) = A1 at p2 p3
          have oA : ∀ o, o ≠ 100 → A1 o = A o := fun o ho => by rw [← hA1, st_ob ho]
          have hN1 : NRk N nn A1 := NRk_s hNR (fun o _ _ => oA o (by omega)) (by rw [← hA1, st_nk (by decide)])
          have dE := hD0.1.2.1
          have h29 : nn < 40 := by
            have := hnb.1
            have := hD0.1.1.2
            have := hD0.1.2.2.1.2
            have := hD0.1.2.2.2.2
            omega
          have e112 : A1 112 (A1 100 19).toNat = (wE D0 : Int) := by rw [p3.2.1.2.2.2.2, pu_nn, oA 112 (by decide), hcn.2.1]; exact dE.1
          obtain ⟨A2, w1, w2', w3, w4, w5⟩ := y_knows p3 hok hi0 hk0 hN1 h29 1 (wE D0) (x := 1) rfl e112
          have e19 : A2 100 19 = (sd : Int) := by rw [w5 19 (by decide)]; exact p3.2.1.2.2.2.2
          have e12 : A2 112 sd = (wE D0 : Int) := by rw [w4 112 (by decide) (by decide), oA 112 (by decide), hcn.2.1]; exact dE.1
          have rsd : 0 ≤ (sd : Int) ∧ (sd : Int) < 2 := by omega
          have nk : ¬ kpR lv 112 sd := by unfold kpR; omega
          have hE31 : wE D0 < 2147483647 := by omega
          rw [l2, bI_some, p2, bV_none, p3.2.1.2.1, if_pos (show (0 : Int) ≤ 0 by decide), if_pos (show 0 ≤ A1 100 19 ∧ A1 100 19 < 2 by rw [p3.2.1.2.2.2.2]; exact rsd), w1, bV_none, e19, if_pos rsd, if_pos rsd, pu_nn, e12, pu_inc hE31]
          have e0 : ∀ k, D 0 k = if k = 1 then ((wE D0 + 1 : Nat) : Int) else D0 0 k := fun k => by rw [h0, st_if]
          obtain ⟨eE, eU⟩ := wE_0 h0
          have eG : wG D = wG D0 := by unfold wG; rw [e0, if_neg (by omega)]
          have eF : wF D = wF D0 := by unfold wF; rw [e0, if_neg (by omega)]
          refine ⟨_, _, rfl, rfl, Or.inl ⟨t + 1, by omega, ks, N', nn + 1, D, ⟨t1, KO_up hok hks (Nat.le_succ t) t1⟩, ⟨l3, CW_k hW (fun o ho => st_ob (by omega)), NCk_s hN (fun o _ _ => st_ob (by omega)) (st_nk (by omega))⟩, ⟨RCp_o w2' ⟨by decide, Or.inr (by decide)⟩ nk _, by rw [← hN']; exact NRk_s w3 (fun o _ _ => st_ob (by omega)) (by rw [st_ob (by decide)]), ?_⟩, ⟨hDW, hNk', ?_⟩, fun q => ?_⟩⟩
          · unfold CNT
            rw [e0 0, e0 1, e0 2, e0 3, st_same, st_ob (show 111 ≠ 112 by decide), st_ob (show 115 ≠ 112 by decide), st_ob (show 120 ≠ 112 by decide), w4 111 (by decide) (by decide), w4 115 (by decide) (by decide), w4 120 (by decide) (by decide), oA 111 (by decide), oA 115 (by decide), oA 120 (by decide)]
            exact ⟨hcn.1, rfl, hcn.2.2.1, hcn.2.2.2⟩
          · rw [← hN']
            refine NB_add hnb (by rw [eU]; omega) (by rw [eE]; omega) (by rw [eG]; omega) ?_ ?_ ?_ ?_
            · rw [eU, eE, eG, eF]; have := hnb.1; omega
            · exact fun q => absurd q (by decide : ¬ (1 : Nat) = 0)
            · intro _
              rw [eE]
              exact Nat.lt_succ_self _
            · exact fun q => absurd q (by decide : ¬ (1 : Nat) = 2)
          · obtain ⟨q1, q2, q3⟩ := hgood q
            refine ⟨q1, GD_up q2 (Nat.le_succ t) (fun o v1 v2 v3 v4 => ?_)⟩
            rw [st_ob (by omega), w4 o (by omega) (by omega), oA o (by omega)]
        · rw [l1] at p1
          cases p1
      · rcases y_must hR hok ht 13 (by omega) (x := 4) rfl with ⟨p1, _⟩ | ⟨f', A5, p1, p2, p3, p4⟩
        · rw [l1] at p1
          cases p1
        · rw [l1] at p1
          cases p1
          rw [l2, bI_some, p2, bV_none, if_neg (RFp_le p3)]
          exact ⟨_, _, rfl, rfl, Or.inr ⟨f, l3, p3⟩⟩
/-- one POSITION -/
theorem t_pos (hok : TKok T) (h8 : wE D0 < 8) {x2 : Int} (hQ : QP T w2 M0C lv sd M0R N nn N' D0 t B A) : (∃ B' A', gC 49 [rv 4 2, iv (wE D0 : Int)] B = some (iv 1, B') ∧ (bI (gC 197 [rv 11 100, iv 0, iv 3] A) fun c4 M4 =>
if 4 ≤ c4 then
bI (gC 187 [rv 11 100, iv 16] M4) fun c5 M5 =>
gA 196 53 [rv 11 100, iv ((8 * sd + wE D0 : Nat) : Int), iv x2, iv c5, none] [] M5
else
if 0 ≤ ((8 * sd + wE D0 : Nat) : Int) ∧ ((8 * sd + wE D0 : Nat) : Int) < 16 then
if 0 ≤ ((8 * sd + wE D0 : Nat) : Int) ∧ ((8 * sd + wE D0 : Nat) : Int) < 16 then
bI (gC 187 [rv 11 100, iv 16] (st M4 114 (((8 * sd + wE D0 : Nat) : Int)).toNat (or32 (M4 114 (((8 * sd + wE D0 : Nat) : Int)).toNat) (shl32 1 c4)))) fun c6 M6 =>
gA 196 53 [rv 11 100, iv ((8 * sd + wE D0 : Nat) : Int), iv x2, iv c6, none] [] M6
else none
else none) = (bI (gC 187 [rv 11 100, iv 16] A') fun c6 M6 =>
gA 196 53 [rv 11 100, iv ((8 * sd + wE D0 : Nat) : Int), iv x2, iv c6, none] [] M6) ∧ QP T w2 M0C lv sd M0R N nn N' D0 (t + 1) B' A') ∨ ∃ f B' A', gC 49 [rv 4 2, iv (wE D0 : Int)] B = some (iv 0, B') ∧ CFp w2 M0C f B' ∧ (bI (gC 197 [rv 11 100, iv 0, iv 3] A) fun c4 M4 =>
if 4 ≤ c4 then
bI (gC 187 [rv 11 100, iv 16] M4) fun c5 M5 =>
gA 196 53 [rv 11 100, iv ((8 * sd + wE D0 : Nat) : Int), iv x2, iv c5, none] [] M5
else
if 0 ≤ ((8 * sd + wE D0 : Nat) : Int) ∧ ((8 * sd + wE D0 : Nat) : Int) < 16 then
if 0 ≤ ((8 * sd + wE D0 : Nat) : Int) ∧ ((8 * sd + wE D0 : Nat) : Int) < 16 then
bI (gC 187 [rv 11 100, iv 16] (st M4 114 (((8 * sd + wE D0 : Nat) : Int)).toNat (or32 (M4 114 (((8 * sd + wE D0 : Nat) : Int)).toNat) (shl32 1 c4)))) fun c6 M6 =>
gA 196 53 [rv 11 100, iv ((8 * sd + wE D0 : Nat) : Int), iv x2, iv c6, none] [] M6
else none
else none) = some (none, A') ∧ RFp lv sd M0R f A' := by
  obtain ⟨ks, hv, ⟨ht, hks⟩, ⟨hC, hW, hN⟩, ⟨hR, hNR, hcn⟩, hgood⟩ := hQ
  have h4 := hok.1
  have hw2 := hC.2.2.2
  have hsd := hR.2.2.2
  have rk : 0 ≤ ((8 * sd + wE D0 : Nat) : Int) ∧ ((8 * sd + wE D0 : Nat) : Int) < 16 := by omega
  have r8 : 0 ≤ (wE D0 : Int) ∧ (wE D0 : Int) < 8 := by omega
  have nk := nk114 (c := wE D0) hsd h8
  rw [e_Parser_parsePosition]
  rcases z_accept hC hok ht 3 (x := 3) rfl with ⟨a1, a2, a3⟩ | ⟨f, B3, a1, a2, a3⟩
  · have t1 := ac_next hok ht a1 (by omega)
    have k3 := (ac_none a1).1
    rcases y_toldInt hR hok ht hks 0 3 with ⟨_, A2, g1, g2, g3, g5⟩ | ⟨f, v, A2, g0, _⟩
    · refine Or.inl ?_
      generalize hB1 : st B 2 2 ((t + 1 : Nat) : Int) = B1 at a2 a3
      have hNB : NCk N' (nn + 1) B1 := NCk_s hN (fun o _ _ => by rw [← hB1, st_ob (by omega)]) (by rw [← hB1, st_nk (by omega)])
      have hWB := CW_k hW (M' := B1) (fun o ho => by rw [← hB1, st_ob (by omega)])
      obtain ⟨B2, m1, m2, m3, m4⟩ := z_intWithin a3 hok ht k3 0 3
      have hWB2 := CW_k hWB (M' := B2) (fun o ho => m3 o (by omega))
      have hNB2 : NCk N' (nn + 1) B2 := NCk_s hNB (fun o _ _ => m3 o (by omega)) m4
      have hN2 : NRk N nn A2 := NRk_s hNR (fun o _ _ => g3 o (by omega)) (g5 20 (by decide) (by decide) (by decide))
      have hks1 := KO_up hok hks (Nat.le_succ t) t1
      have e3 : B2 (w2 + 3) (wE D0) = hv := by
        rw [hWB2.2 3 (by decide), st_same]
      rw [a2, bI_some, if_pos (show ¬ (1 : Int) = 0 by decide), m1, bI_some, put_hold r8, bV_none, a3.2.1.1, pu_nn, pu_nn, e3, g1, bI_some]
      -- the position that the class takes
      have hp : ∃ p : Nat, p < 4 ∧ (if (tV T t : Int) < 0 ∨ 3 < (tV T t : Int) then (0 : Int) else (tV T t : Int)) = (p : Int) ∧ (¬ ((tV T t : Int) < 0 ∨ 3 < (tV T t : Int)) → p = tV T t) := by
        by_cases y : (tV T t : Int) < 0 ∨ 3 < (tV T t : Int)
        · rw [if_pos y]
          exact ⟨0, by decide, rfl, fun q => absurd y q⟩
        · rw [if_neg y]
          exact ⟨tV T t, by omega, rfl, fun _ => rfl⟩
      obtain ⟨p, p4, pe, pt⟩ := hp
      generalize hk5 : (if (tV T t : Int) < 0 ∨ 3 < (tV T t : Int) then keepA ks 5 (tP T t : Int) else ks) = ks5 at m2 g2
      have hks5 : KOs T (t + 1) ks5 := by
        rw [← hk5]
        split
        · exact KO_keep hok hks1 (Nat.lt_succ_self _) t1 _
        · exact hks1
      have h5 : ks5.1 = 0 → ks.1 = 0 ∧ ¬ ((tV T t : Int) < 0 ∨ 3 < (tV T t : Int)) := fun q => by
        by_cases y : (tV T t : Int) < 0 ∨ 3 < (tV T t : Int)
        · rw [if_pos y] at hk5
          rw [← hk5] at q
          exact absurd q (keepA_ne ks (by decide) _)
        · rw [if_neg y] at hk5
          rw [← hk5] at q
          exact ⟨q, y⟩
      have p31 : p < 31 := Nat.lt_trans p4 (show 4 < 31 by decide)
      rw [pe]
      have hWf : CW w2 (st (st D0 0 1 ((wE D0 + 1 : Nat) : Int)) 3 (wE D0) (or32 hv (shl32 1 (p : Int)))) (st B2 (w2 + 3) (wE D0) (or32 hv (shl32 1 (p : Int)))) := by
        have := CW_st hWB2 3 (wE D0) (or32 hv (shl32 1 (p : Int)))
        have e : st (st (st D0 0 1 ((wE D0 + 1 : Nat) : Int)) 3 (wE D0) hv) 3 (wE D0) (or32 hv (shl32 1 (p : Int))) = st (st D0 0 1 ((wE D0 + 1 : Nat) : Int)) 3 (wE D0) (or32 hv (shl32 1 (p : Int))) := by
          funext a b
          by_cases za : a = 3
          · subst za
            rw [st_if, st_if, st_if]
            split <;> rfl
          · rw [st_ob za, st_ob za, st_ob za]
        rw [e] at this
        exact this
      have hcC := CCp_o m2 (o := w2 + 3) (Or.inr ⟨Nat.le_add_right _ _, Nat.add_le_add_left (by decide) _⟩) (wE D0) (or32 hv (shl32 1 (p : Int)))
      have hNf : NCk N' (nn + 1) (st B2 (w2 + 3) (wE D0) (or32 hv (shl32 1 (p : Int)))) := NCk_s hNB2 (fun o _ _ => st_ob (by omega)) (by rw [st_ob (by omega)])
      by_cases y4 : (4 : Int) ≤ (tV T t : Int)
      · rw [if_pos y4]
        refine ⟨_, A2, rfl, rfl, ks5, or32 hv (shl32 1 (p : Int)), ⟨t1, hks5⟩, ⟨hcC, hWf, hNf⟩, ⟨g2, hN2, CNT_s hcn ⟨g3 111 (by decide), g3 112 (by decide), g3 115 (by decide), g3 120 (by decide)⟩⟩, fun q => ?_⟩
        have := (h5 q).2
        omega
      · rw [if_neg y4, if_pos rk, if_pos rk, pu_nn]
        refine ⟨_, _, rfl, rfl, ks5, or32 hv (shl32 1 (p : Int)), ⟨t1, hks5⟩, ⟨hcC, hWf, hNf⟩, ⟨RCp_o g2 ⟨by decide, Or.inr (by decide)⟩ nk _, NRk_s hN2 (fun o _ _ => st_ob (by omega)) (by rw [st_ob (by decide)]), ?_⟩, fun q => ?_⟩
        · refine CNT_s hcn ⟨?_, ?_, ?_, ?_⟩
          · rw [st_ob (by decide)]; exact g3 111 (by decide)
          · rw [st_ob (by decide)]; exact g3 112 (by decide)
          · rw [st_ob (by decide)]; exact g3 115 (by decide)
          · rw [st_ob (by decide)]; exact g3 120 (by decide)
        · obtain ⟨q1, q2⟩ := h5 q
          obtain ⟨u1, u2, u3, hn, h16, u4⟩ := hgood q1
          refine ⟨u1, GD_114 u2 (Nat.le_succ t) h8 (fun o v1 v2 v3 v4 v5 => ?_) (fun i hi => ?_), ?_, hn ||| 2 ^ p, Nat.or_lt_two_pow (n := 4) h16 (Nat.pow_lt_pow_right (by decide) p4), by rw [u4]; exact or1 (Nat.lt_trans h16 (show 16 < 2147483648 by decide)) p31⟩
          · rw [st_ob v2]
            exact g3 o (by omega)
          · rw [st_if, if_neg hi, g3 114 (by decide)]
          · rw [st_same, g3 114 (by decide), u3, ← pt q2]
    · rw [a1] at g0
      cases g0
  · rcases y_toldInt hR hok ht hks 0 3 with ⟨g0, _⟩ | ⟨f', v, A2, g0, g1, g2, g3⟩
    · rw [a1] at g0
      cases g0
    · rw [a1] at g0
      cases g0
      rw [a2, bI_some, if_neg (show ¬ ¬ (0 : Int) = 0 from fun q => q rfl), g1, bI_some]
      by_cases y4 : (4 : Int) ≤ v
      · obtain ⟨A', p1, p2⟩ := eq_f53 (c := wE D0) h8 hsd g2 x2
        rw [if_pos y4, y_is_f (RFp_ne g2), bI_some, p1]
        exact Or.inr ⟨f, _, _, rfl, a3, rfl, p2⟩
      · have g2' := RFp_o g2 (o := 114) (by decide) nk (or32 (A2 114 (8 * sd + wE D0)) (shl32 1 v))
        obtain ⟨A', p1, p2⟩ := eq_f53 (c := wE D0) h8 hsd g2' x2
        rw [if_neg y4, if_pos rk, if_pos rk, pu_nn, y_is_f (RFp_ne g2'), bI_some, p1]
        exact Or.inr ⟨f, _, _, rfl, a3, rfl, p2⟩
/-- the POSITIONS, to the colon -/
theorem t_poss (hok : TKok T) (h8 : wE D0 < 8) {x2 : Int} : ∀ (d t n : Nat) (B A : mM), t + d = 401 → n + 4 ≤ t → QP T w2 M0C lv sd M0R N nn N' D0 t B A → (∃ B' A' t', t ≤ t' ∧ gA 48 46 [rv 4 2, iv (wE D0 : Int), iv 1, iv (n : Int)] [] B = some (iv 1, B') ∧ (bI (gC 187 [rv 11 100, iv 16] A) fun c6 M6 =>
gA 196 53 [rv 11 100, iv ((8 * sd + wE D0 : Nat) : Int), iv x2, iv c6, none] [] M6) = (bV (gC 193 [rv 11 100, iv 5] A') fun M1 =>
gA 196 112 [rv 11 100, iv ((8 * sd + wE D0 : Nat) : Int), iv x2, iv 0, none] [] M1) ∧ QP T w2 M0C lv sd M0R N nn N' D0 t' B' A') ∨ ∃ f B' A', gA 48 46 [rv 4 2, iv (wE D0 : Int), iv 1, iv (n : Int)] [] B = some (iv 0, B') ∧ CFp w2 M0C f B' ∧ (bI (gC 187 [rv 11 100, iv 16] A) fun c6 M6 =>
gA 196 53 [rv 11 100, iv ((8 * sd + wE D0 : Nat) : Int), iv x2, iv c6, none] [] M6) = some (none, A') ∧ RFp lv sd M0R f A'
  | 0, t, n, B, A, hd, hn, hQ => by
    obtain ⟨ks, D, ⟨ht, hks⟩, _⟩ := hQ
    have := hok.1
    omega
  | d + 1, t, n, B, A, hd, hn, hQ => by
    have hQ0 := hQ
    obtain ⟨ks, hv, ⟨ht, hks⟩, ⟨hC, hW, hN⟩, ⟨hR, hNR, hcn⟩, hgood⟩ := hQ
    have h4 := hok.1
    have hw2 := hC.2.2.2
    have hsd := hR.2.2.2
    have n400 : ¬ (400 : Int) ≤ (n : Int) := by omega
    have hn31 : n < 2147483647 := by omega
    have out0 : ∀ {m : Int} {M : mM}, gA 48 46 [rv 4 2, iv (wE D0 : Int), iv 0, iv m] [] M = some (iv 0, M) := by
      intro m M
      rw [s_Parser_parsePositions_46]
      by_cases z : (400 : Int) ≤ m
      · rw [if_pos z, if_pos (by decide)]
      · rw [if_neg z, if_pos rfl, if_pos (by decide)]
    rw [s_Parser_parsePositions_46, if_neg n400, if_neg (show ¬ (1 : Int) = 0 by decide), z_kind hC hok ht, bI_some, y_is hR hok ht (k := 15) (by omega) (x := 16) rfl, bI_some]
    by_cases k15 : tK T t = 15
    · rw [if_neg (show ¬ ¬ (tK T t : Int) = 15 from fun q => q (by omega)), if_pos k15, s_GaugeNetModel_tellEq_53, if_neg (show ¬ (1 : Int) = 0 by decide), hR.2.1.2.1, if_neg (show ¬ ¬ (0 : Int) = 0 from fun q => q rfl)]
      rcases z_accept hC hok ht 15 (x := 15) rfl with ⟨a1, a2, a3⟩ | ⟨f, B3, a1, a2, a3⟩
      · have t1 := ac_next hok ht a1 (by omega)
        rcases y_goesOn hR hok ht with ⟨_, b2, b3⟩ | ⟨f, A3, b1, _⟩
        · generalize hB1 : st B 2 2 ((t + 1 : Nat) : Int) = B1 at a2 a3
          generalize hA1 : st A 100 11 ((t + 1 : Nat) : Int) = A1 at b2 b3
          have oA : ∀ o, o ≠ 100 → A1 o = A o := fun o ho => by rw [← hA1, st_ob ho]
          have hQ1 : QP T w2 M0C lv sd M0R N nn N' D0 (t + 1) B1 A1 := ⟨ks, hv, ⟨t1, KO_up hok hks (Nat.le_succ t) t1⟩, ⟨a3, CW_k hW (fun o ho => by rw [← hB1, st_ob (by omega)]), NCk_s hN (fun o _ _ => by rw [← hB1, st_ob (by omega)]) (by rw [← hB1, st_nk (by omega)])⟩, ⟨b3, NRk_s hNR (fun o _ _ => oA o (by omega)) (by rw [← hA1, st_nk (by decide)]), CNT_s hcn ⟨oA 111 (by decide), oA 112 (by decide), oA 115 (by decide), oA 120 (by decide)⟩⟩, fun q => by
            obtain ⟨q1, q2, q3⟩ := hgood q
            exact ⟨q1, GD_up q2 (Nat.le_succ t) (fun o w1 _ _ _ => oA o (by omega)), by rw [oA 114 (by decide)]; exact q3⟩⟩
          rw [a2, bI_some, if_neg (show ¬ (1 : Int) = 0 by decide), b2, bV_none]
          rcases t_pos hok h8 (x2 := x2) hQ1 with ⟨B', A', p1, p2, p3⟩ | ⟨f, B', A', p1, p2, p3, p4⟩
          · rw [p1, bI_some, if_neg (show ¬ (1 : Int) = 0 by decide), p2, pu_inc hn31]
            rcases t_poss hok h8 (x2 := x2) (d - 1) (t + 1 + 1) (n + 1) B' A' (by
              obtain ⟨_, _, ⟨ht2, _⟩, _⟩ := p3
              omega) (by omega) p3 with ⟨B2, A2, t', q1, q2, q3, q4⟩ | ⟨f, B2, A2, q1, q2, q3, q4⟩
            · exact Or.inl ⟨B2, A2, t', by omega, q2, q3, q4⟩
            · exact Or.inr ⟨f, B2, A2, q1, q2, q3, q4⟩
          · rw [p1, bI_some, if_pos rfl, out0, p3]
            exact Or.inr ⟨f, _, _, rfl, p2, rfl, p4⟩
        · rw [k15, a1] at b1
          cases b1
      · rcases y_goesOn hR hok ht with ⟨b1, _⟩ | ⟨f', A3, b1, b2, b3, b4⟩
        · rw [k15, a1] at b1
          cases b1
        · rw [k15, a1] at b1
          cases b1
          have rk : 0 ≤ ((8 * sd + wE D0 : Nat) : Int) ∧ ((8 * sd + wE D0 : Nat) : Int) < 16 := by omega
          have g2' := RFp_o b3 (o := 114) (by decide) (nk114 (c := wE D0) hsd h8) (or32 (A3 114 (8 * sd + wE D0)) (shl32 1 0))
          obtain ⟨A', p1, p2⟩ := eq_f53 (c := wE D0) h8 hsd g2' x2
          rw [a2, bI_some, if_pos rfl, out0, b2, bV_none, y_toldInt_f b3, bI_some, if_neg (show ¬ (4 : Int) ≤ 0 by decide), if_pos rk, if_pos rk, pu_nn, y_is_f (RFp_ne g2'), bI_some, p1]
          exact Or.inr ⟨f, _, _, rfl, a3, rfl, p2⟩
    · rw [if_pos (show ¬ (tK T t : Int) = 15 by omega), if_pos (by decide), if_neg k15, s_GaugeNetModel_tellEq_53, if_pos rfl]
      exact Or.inl ⟨B, A, t, Nat.le_refl t, rfl, rfl, hQ0⟩
end PE
