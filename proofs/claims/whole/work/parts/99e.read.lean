/-! read, whole -/
theorem r_begin {tl lv sd : Nat} (hl : lv + sd = 1) {M M1 : mM} (h4 : M 100 4 = (tl : Int)) (hc : gC 181 [rv 11 100] (st M 100 2 0) = some (none, M1)) (h18 : M1 100 18 = (lv : Int)) : gA 180 10 [rv 11 100, iv (tl : Int)] [] M = gA 180 115 [rv 11 100, none] [] (st (st (st (st (st (st (st (st (st M1 100 11 0) 100 13 0) 100 15 0) 100 19 (sd : Int)) 100 20 0) 111 sd 0) 112 sd 0) 115 sd 0) 120 sd 0) := by
  have e1 : st (st (st M1 100 11 0) 100 13 0) 100 15 0 100 18 = (lv : Int) := by
    rw [st_nk (by omega), st_nk (by omega), st_nk (by omega)]
    exact h18
  have e2 : w32 (1 - (lv : Int)) = (sd : Int) := by
    rw [pu_w32 (by omega) (by omega)]
    omega
  have rs : 0 ≤ (sd : Int) ∧ (sd : Int) < 2 := by clear e2; omega
  rw [s_GaugeNetModel_read_10, h4, if_pos (Int.le_refl _), hc, bV_none, e1, e2]
  clear e2
  have e19 : st (st (st (st (st M1 100 11 0) 100 13 0) 100 15 0) 100 19 (sd : Int)) 100 20 0 100 19 = (sd : Int) := by
    rw [st_nk (by omega)]
    exact st_same _ _ _ _
  generalize st (st (st (st (st M1 100 11 0) 100 13 0) 100 15 0) 100 19 (sd : Int)) 100 20 0 = Q at e19 ⊢
  have f1 : st Q 111 sd 0 100 19 = (sd : Int) := by rw [st_ob (by omega)]; exact e19
  have f2 : st (st Q 111 sd 0) 112 sd 0 100 19 = (sd : Int) := by rw [st_ob (by omega)]; exact f1
  have f3 : st (st (st Q 111 sd 0) 112 sd 0) 115 sd 0 100 19 = (sd : Int) := by rw [st_ob (by omega)]; exact f2
  rw [e19, pu_nn, f1, pu_nn, f2, pu_nn, f3, pu_nn, if_pos rs, if_pos rs, if_pos rs, if_pos rs]
theorem p_read : PureI Rel 127 180 [] := by
  rintro MC MR ⟨W, tl, tp, pl, h, htp, hc, hr⟩
  obtain ⟨w, w2, hb, hd⟩ := id hc
  obtain ⟨lv, hb2, hd2⟩ := id hr
  obtain ⟨hww, h04, h21, hCW, ⟨l1, l2, l3⟩, h02⟩ := id hb
  obtain ⟨hRW, ⟨m1, m2, m3⟩, m4, m5⟩ := id hb2
  have hw2 : w2 = 40 ∨ w2 = 50 := by omega
  have hlv : lv < 2 := hRW.1
  obtain ⟨sd, hsd⟩ : ∃ sd, lv + sd = 1 := ⟨1 - lv, by omega⟩
  have hsd2 : sd < 2 := by omega
  -- bytes
  have hB : ∃ B : Nat → Nat, TXok tl B ∧ ∀ i, i < tl → and32 (tp i) 255 = (B i : Int) := by
    refine ⟨fun i => if i < tl then (and32 (tp i) 255).toNat else 0, ⟨l2, fun i => ?_, fun i hi => if_neg (by omega)⟩, fun i hi => ?_⟩
    · by_cases z : i < tl
      · have := byte_ok (htp i z)
        show (if i < tl then (and32 (tp i) 255).toNat else 0) < 256
        rw [if_pos z]
        omega
      · show (if i < tl then (and32 (tp i) 255).toNat else 0) < 256
        rw [if_neg z]
        omega
    · have := byte_ok (htp i hi)
      show and32 (tp i) 255 = (((if i < tl then (and32 (tp i) 255).toNat else 0) : Nat) : Int)
      rw [if_pos hi]
      omega
  obtain ⟨B, hTX, hBb⟩ := hB
  -- the reference up to its TOKENS
  have q4 : st MR 100 4 (tl : Int) 100 4 = (tl : Int) := st_same _ _ _ _
  obtain ⟨R1, r1, r2, r3⟩ := r_copy htp l2 q4 (fun i hi => by rw [st_ob (by omega)]; exact m3 i hi)
  have hR14 : R1 100 4 = (tl : Int) := by rw [r2 100 (by omega)]; exact q4
  have hTXr : TXr tl B (st R1 100 2 0) := ⟨by rw [st_nk (by omega)]; exact hR14, fun i hi => by rw [st_ob (by omega), r3 i hi]; exact hBb i hi⟩
  have hTXc : TXc tl B MC := fun i hi => by rw [l3 i hi]; exact hBb i hi
  have hk107 : st R1 100 2 0 107 = keysM := by rw [st_ob (by omega), r2 107 (by omega), st_ob (by omega)]; exact m5
  obtain ⟨m, C1, R2, p1, p2, p3, p4, p5⟩ := parted hTXc hTXr hTX hk107
  obtain ⟨T, hm, hok, hTC, hTR⟩ := tok_T p3
  obtain ⟨C3, s1, s2, s3, s4⟩ := c_start hw2 h21 p4 hTC
  have h18 : R2 100 18 = (lv : Int) := by rw [p5.2 18 (by omega), st_nk (by omega), r2 100 (by omega), st_nk (by omega)]; exact hRW.2.1
  have hbeg := r_begin (tl := tl) hsd hR14 p2 h18
  generalize hR4 : st (st (st (st (st (st (st (st (st R2 100 11 0) 100 13 0) 100 15 0) 100 19 (sd : Int)) 100 20 0) 111 sd 0) 112 sd 0) 115 sd 0) 120 sd 0 = R4 at hbeg
  -- what of the reference stays
  have keep0 : ∀ o k, kpR lv o k → (o = 100 ∧ k = 2) ∨ st R1 100 2 0 o k = MR o k := fun o k hk => by
    by_cases z : o = 100 ∧ k = 2
    · exact Or.inl z
    · refine Or.inr ?_
      have h102 : o ≠ 102 := by unfold kpR at hk; omega
      by_cases y : o = 100
      · subst y
        rw [st_nk (fun q => z ⟨rfl, q⟩), r2 100 (by omega), st_nk (by unfold kpR at hk; omega)]
      · rw [st_ob y, r2 o h102, st_ob y]
  have nk : ∀ o, o = 111 ∨ o = 112 ∨ o = 115 ∨ o = 120 → ¬ kpR lv o sd := fun o ho => by unfold kpR; omega
  have hFq : Fq lv (st R1 100 2 0) R4 := by
    have f0 : Fq lv (st R1 100 2 0) R2 := fun o k hk => by
      by_cases y : o = 100
      · subst y
        exact p5.2 k (by unfold kpR at hk; omega)
      · rw [p5.1 o y (by unfold kpR at hk; omega)]
    rw [← hR4]
    exact Fq_st (Fq_st (Fq_st (Fq_st (Fq_st (Fq_st (Fq_st (Fq_st (Fq_st f0 (np_100 (by omega)) _) (np_100 (by omega)) _) (np_100 (by omega)) _) (np_100 (by omega)) _) (np_100 (by omega)) _) (nk 111 (by omega)) _) (nk 112 (by omega)) _) (nk 115 (by omega)) _) (nk 120 (by omega)) _
  -- both at the first TELL
  have hSB : SB T w2 MC lv sd (st R1 100 2 0) 0 C3 R4 := by
    have hD := w00_DW s4
    refine ⟨(0, -1), fun _ => ([], 0, 0), 0, fun j => C3 (w2 + j), ⟨Nat.zero_le _, fun q => absurd rfl q⟩, ⟨s2, ⟨hw2, fun j _ => rfl⟩, s3⟩, ⟨⟨TRk_s hTR (fun o u1 u2 => by rw [← hR4, st_ob (by omega), st_ob (by omega), st_ob (by omega), st_ob (by omega), st_ob (by omega), st_ob (by omega), st_ob (by omega), st_ob (by omega), st_ob (by omega)]), ⟨?_, ?_, ?_, fun q => absurd rfl q, ?_⟩, hFq, hsd⟩, ⟨?_, fun i hi => absurd hi (Nat.not_lt_zero i)⟩, ?_⟩, ⟨hD, fun i hi => absurd hi (Nat.not_lt_zero i), ?_⟩, fun _ => ⟨fun i j _ hj => absurd hj (Nat.not_lt_zero j), w00_GD s4 sd R4⟩⟩
    · rw [← hR4, st_ob (by omega), st_ob (by omega), st_ob (by omega), st_ob (by omega), st_nk (by omega), st_nk (by omega), st_nk (by omega), st_nk (by omega)]
      exact st_same _ _ _ _
    · rw [← hR4, st_ob (by omega), st_ob (by omega), st_ob (by omega), st_ob (by omega), st_nk (by omega), st_nk (by omega), st_nk (by omega)]
      exact st_same _ _ _ _
    · rw [← hR4, st_ob (by omega), st_ob (by omega), st_ob (by omega), st_ob (by omega), st_nk (by omega), st_nk (by omega)]
      exact st_same _ _ _ _
    · rw [← hR4, st_ob (by omega), st_ob (by omega), st_ob (by omega), st_ob (by omega), st_nk (by omega)]
      exact st_same _ _ _ _
    · rw [← hR4, st_ob (by omega), st_ob (by omega), st_ob (by omega), st_ob (by omega)]
      exact st_same _ _ _ _
    · have z := s4.1
      refine ⟨?_, ?_, ?_, ?_⟩
      · rw [z 0 (by omega), ← hR4, st_ob (by omega), st_ob (by omega), st_ob (by omega)]
        exact st_same _ _ _ _
      · rw [z 1 (by omega), ← hR4, st_ob (by omega), st_ob (by omega)]
        exact st_same _ _ _ _
      · rw [z 2 (by omega), ← hR4, st_ob (by omega)]
        exact st_same _ _ _ _
      · rw [z 3 (by omega), ← hR4]
        exact st_same _ _ _ _
    · obtain ⟨a1, a2, a3, a4, _⟩ := w00 s4
      exact ⟨by rw [a1, a2, a3, a4], fun i hi => absurd hi (Nat.not_lt_zero i)⟩
  have hcp : gC 38 [rv 4 2, rv 8102 1, iv (MC 0 1)] MC = gA 38 15 [rv 4 2, none, none, iv ((0 : Nat) : Int)] [] C3 := by
    rw [e_Parser_parse, l1, p1, bV_none, s1, bV_none]
    rfl
  have hrp : gC 180 [rv 11 100] MR = gA 180 115 [rv 11 100, none] [] R4 := by
    rw [e_GaugeNetModel_read, m1, r1, hbeg]
  have h000 : ∀ M' : mM, FCp w2 MC M' → M' 0 = MC 0 := fun M' hF => hF 0 (by omega) (by omega)
  rcases tells hok 401 0 0 C3 R4 (by omega) (Nat.le_refl _) hSB with ⟨v, C5, R5, t1, t2, t3, ⟨t4, t5⟩, t6, t7⟩ | ⟨C5, R5, R6, D, t', t1, t2, ⟨t3, t4, t5, t6⟩, t7, t8, t9, t10, ⟨u1, u2, u3, u4, u5⟩, u6⟩
  · -- a fault
    refine ⟨v, st (st C5 0 2 (C5 2 4)) 0 1 0, R5, ?_, by rw [hrp]; exact t3, W, 0, tp, C5 2 4, h, fun i hi => absurd hi (Nat.not_lt_zero i), ⟨w, w2, ⟨hww, ?_, ?_, ?_, ⟨st_same _ _ _ _, by omega, fun i hi => absurd hi (Nat.not_lt_zero i)⟩, ?_⟩, ?_⟩, lv, ⟨?_, ⟨?_, by omega, fun i hi => absurd hi (Nat.not_lt_zero i)⟩, t6, ?_⟩, ?_⟩
    · rw [e_GaugeNet_read, hcp, t2, bI_some, if_pos t1]
    · rw [st_nk (by omega), st_nk (by omega), h000 C5 t5]
      exact h04
    · rw [st_ob (by omega), st_ob (by omega)]
      exact t4
    · refine ⟨hCW.1, fun j hj => ?_⟩
      rw [st_ob (by omega), st_ob (by omega), t5 (w + j) (by omega) (by omega)]
      exact hCW.2 j hj
    · rw [st_nk (by omega)]
      exact st_same _ _ _ _
    · have e5 : st (st C5 0 2 (C5 2 4)) 0 1 0 0 5 = MC 0 5 := by rw [st_nk (by omega), st_nk (by omega), h000 C5 t5]
      have eo : ∀ o, 11 ≤ o → o ≤ 16 → st (st C5 0 2 (C5 2 4)) 0 1 0 o = MC o := fun o o1 o2 => by rw [st_ob (by omega), st_ob (by omega)]; exact t5 o (by omega) (by omega)
      rw [e5]
      rcases hd with q | ⟨q1, q2, q3⟩
      · exact Or.inl q
      · exact Or.inr ⟨q1, PR_s q2 (eo 11 (by omega) (by omega)), TR_s q3 (fun o o1 o2 => eo o (by omega) o2)⟩
    · refine RW_q (M := st MR 100 2 0) (RW_tape hRW (fun o h1 h2 => st_ob h1) (fun k hk => st_nk hk)) (wf_E h).2 (wf_U h).2 (wf_G h).2 (wf_F h).2 (fun o i hi => ?_)
      rw [t7 o i hi]
      by_cases z : o = 100 ∧ i = 2
      · rw [z.1, z.2, st_same, st_same]
      · rw [(keep0 o i hi).resolve_left z]
        by_cases y : o = 100
        · subst y
          rw [st_nk (fun q => z ⟨rfl, q⟩)]
        · rw [st_ob y]
    · rw [t7 100 2 (by unfold kpR; omega)]
      exact st_same _ _ _ _
    · have e : R5 107 = st R1 100 2 0 107 := funext (fun i => t7 107 i (by unfold kpR; omega))
      rw [e]
      exact hk107
    · have kk : ∀ o i, kpR lv o i → ¬ (o = 100 ∧ i = 2) → R5 o i = MR o i := fun o i hi hn => by
        rw [t7 o i hi]
        exact (keep0 o i hi).resolve_left hn
      rw [kk 100 44 (by unfold kpR; omega) (by omega)]
      rcases hd2 with q | ⟨q1, q2⟩
      · exact Or.inl q
      · refine Or.inr ⟨q1, ?_⟩
        have so : ∀ o, o = 127 ∨ o = 128 ∨ o = 129 → R5 o = MR o := fun o ho => funext (fun i => kk o i (by unfold kpR; omega) (by omega))
        unfold SR
        rw [kk 100 45 (by unfold kpR; omega) (by omega), so 127 (by omega), so 128 (by omega), so 129 (by omega)]
        exact q2
  · -- none
    have hDW : DW0 D := by
      have g := t7.1
      have hp : 2 ^ wG D ≤ 2 ^ 6 := Nat.pow_le_pow_right (by omega) (wf_G g).2
      refine ⟨⟨wf_U g, wf_E g, wf_G g, wf_F g⟩, ⟨(wf_I g).1, ?_⟩, fun r hr => ⟨(wf_has g r hr).1, wH_128 g r⟩⟩
      have := (wf_I g).2
      omega
    obtain ⟨R7, v1, v2, v3, v4, v5, v6⟩ := r_219 hsd2 t7 hDW t8 t10 u2 u4
    have hWF := t7.1
    refine ⟨0, st (st (st (st (st C5 0 2 (-1)) 0 1 0) 2 1 (w : Int)) 0 4 (w2 : Int)) 0 5 0, R7, ?_, by rw [hrp, t2]; exact v1, D, 0, tp, -1, hWF, fun i hi => absurd hi (Nat.not_lt_zero i), ⟨w2, w, ⟨by omega, ?_, ?_, ?_, ⟨?_, by omega, fun i hi => absurd hi (Nat.not_lt_zero i)⟩, ?_⟩, Or.inl (st_same _ _ _ _)⟩, sd, ⟨?_, ⟨?_, by omega, fun i hi => absurd hi (Nat.not_lt_zero i)⟩, ?_, ?_⟩, Or.inl v6⟩
    · have e04 : st (st C5 0 2 (-1)) 0 1 0 0 4 = (w : Int) := by
        rw [st_nk (by omega), st_nk (by omega), h000 C5 t5]
        exact h04
      have e21 : st (st C5 0 2 (-1)) 0 1 0 2 1 = (w2 : Int) := by
        rw [st_ob (by omega), st_ob (by omega)]
        exact t3
      rw [e_GaugeNet_read, hcp, t1, bI_some, if_neg (show ¬ ¬ (0 : Int) = 0 from fun q => q rfl), t4, e04, pu_nn, e_Parser_exchange, e21, pu_nn, bR_some]
    · rw [st_nk (by omega)]
      exact st_same _ _ _ _
    · rw [st_ob (by omega), st_ob (by omega)]
      exact st_same _ _ _ _
    · refine ⟨hw2, fun j hj => ?_⟩
      rw [st_ob (by omega), st_ob (by omega), st_ob (by omega), st_ob (by omega), st_ob (by omega)]
      exact t6.2 j hj
    · rw [st_nk (by omega), st_nk (by omega), st_ob (by omega)]
      exact st_same _ _ _ _
    · rw [st_nk (by omega), st_nk (by omega), st_ob (by omega), st_nk (by omega)]
      exact st_same _ _ _ _
    · exact RW_new hsd2 t7 t8 (fun o h1 h2 => by rw [v2 o h1 h2]; exact t10 o h1) v3 (by rw [v4 18 (by omega) (by omega)]; exact u2) (by rw [v4 35 (by omega) (by omega)]; exact u3) v5 (by rw [v4 37 (by omega) (by omega)]; exact u5)
    · rw [v4 2 (by omega) (by omega), u6, t9 100 2 (by unfold kpR; omega)]
      exact st_same _ _ _ _
    · rw [v4 17 (by omega) (by omega)]
      exact u1
    · have e : R5 107 = st R1 100 2 0 107 := funext (fun i => t9 107 i (by unfold kpR; omega))
      rw [v2 107 (by omega) (by omega), t10 107 (by omega), e]
      exact hk107
