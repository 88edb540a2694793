/-! The parsers' starts. -/
theorem z_fill98 (M : mM) (o : Nat) (v : Int) : ∃ M', gC 1 [rv 492 o, iv v] M = some (none, M') ∧ (∀ p, p ≠ o → M' p = M p) ∧ ∀ i, i < 98 → M' o i = v := by
  rw [e_Arrays_fill_IIV_98]
  have key := pu_rel (S := mM) (G := fun i M' => gA 1 5 [rv 492 o, iv v, iv (i : Int), iv 98] [] M') (I := fun i M' => (∀ p, p ≠ o → M' p = M p) ∧ ∀ j, j < i → M' o j = v) 98 (fun i M' hi hI => by
    obtain ⟨i1, i2⟩ := hI
    try dsimp only
    rw [s_Arrays_fill_IIV_98_5, if_neg (by omega), if_pos (by omega), pu_nn, pu_inc (by omega)]
    refine ⟨_, ⟨fun p hp => by rw [st_ob hp]; exact i1 p hp, fun j hj => ?_⟩, rfl⟩
    rw [st_if]
    by_cases e : j = i
    · rw [if_pos e]
    · rw [if_neg e]
      exact i2 j (by omega)) 0 M (Nat.zero_le _) ⟨fun _ _ => rfl, fun j hj => absurd hj (Nat.not_lt_zero j)⟩
  obtain ⟨M', ⟨k1, k2⟩, k3⟩ := key
  try dsimp only at k3
  rw [show ((0 : Nat) : Int) = 0 from rfl] at k3
  rw [k3, s_Arrays_fill_IIV_98_5, if_pos (by omega)]
  exact ⟨M', rfl, k1, k2⟩
theorem z_fill8 (M : mM) (o : Nat) (v : Int) : ∃ M', gC 1 [rv 132 o, iv v] M = some (none, M') ∧ (∀ p, p ≠ o → M' p = M p) ∧ ∀ i, i < 8 → M' o i = v := by
  rw [e_Arrays_fill_IIV_8]
  have key := pu_rel (S := mM) (G := fun i M' => gA 1 5 [rv 132 o, iv v, iv (i : Int), iv 8] [] M') (I := fun i M' => (∀ p, p ≠ o → M' p = M p) ∧ ∀ j, j < i → M' o j = v) 8 (fun i M' hi hI => by
    obtain ⟨i1, i2⟩ := hI
    try dsimp only
    rw [s_Arrays_fill_IIV_8_5, if_neg (by omega), if_pos (by omega), pu_nn, pu_inc (by omega)]
    refine ⟨_, ⟨fun p hp => by rw [st_ob hp]; exact i1 p hp, fun j hj => ?_⟩, rfl⟩
    rw [st_if]
    by_cases e : j = i
    · rw [if_pos e]
    · rw [if_neg e]
      exact i2 j (by omega)) 0 M (Nat.zero_le _) ⟨fun _ _ => rfl, fun j hj => absurd hj (Nat.not_lt_zero j)⟩
  obtain ⟨M', ⟨k1, k2⟩, k3⟩ := key
  try dsimp only at k3
  rw [show ((0 : Nat) : Int) = 0 from rfl] at k3
  rw [k3, s_Arrays_fill_IIV_8_5, if_pos (by omega)]
  exact ⟨M', rfl, k1, k2⟩
theorem z_fill6 (M : mM) (o : Nat) (v : Int) : ∃ M', gC 1 [rv 124 o, iv v] M = some (none, M') ∧ (∀ p, p ≠ o → M' p = M p) ∧ ∀ i, i < 6 → M' o i = v := by
  rw [e_Arrays_fill_IIV_6]
  have key := pu_rel (S := mM) (G := fun i M' => gA 1 5 [rv 124 o, iv v, iv (i : Int), iv 6] [] M') (I := fun i M' => (∀ p, p ≠ o → M' p = M p) ∧ ∀ j, j < i → M' o j = v) 6 (fun i M' hi hI => by
    obtain ⟨i1, i2⟩ := hI
    try dsimp only
    rw [s_Arrays_fill_IIV_6_5, if_neg (by omega), if_pos (by omega), pu_nn, pu_inc (by omega)]
    refine ⟨_, ⟨fun p hp => by rw [st_ob hp]; exact i1 p hp, fun j hj => ?_⟩, rfl⟩
    rw [st_if]
    by_cases e : j = i
    · rw [if_pos e]
    · rw [if_neg e]
      exact i2 j (by omega)) 0 M (Nat.zero_le _) ⟨fun _ _ => rfl, fun j hj => absurd hj (Nat.not_lt_zero j)⟩
  obtain ⟨M', ⟨k1, k2⟩, k3⟩ := key
  try dsimp only at k3
  rw [show ((0 : Nat) : Int) = 0 from rfl] at k3
  rw [k3, s_Arrays_fill_IIV_6_5, if_pos (by omega)]
  exact ⟨M', rfl, k1, k2⟩
theorem z_fill14 (M : mM) (o : Nat) (v : Int) : ∃ M', gC 1 [rv 156 o, iv v] M = some (none, M') ∧ (∀ p, p ≠ o → M' p = M p) ∧ ∀ i, i < 14 → M' o i = v := by
  rw [e_Arrays_fill_IIV_14]
  have key := pu_rel (S := mM) (G := fun i M' => gA 1 5 [rv 156 o, iv v, iv (i : Int), iv 14] [] M') (I := fun i M' => (∀ p, p ≠ o → M' p = M p) ∧ ∀ j, j < i → M' o j = v) 14 (fun i M' hi hI => by
    obtain ⟨i1, i2⟩ := hI
    try dsimp only
    rw [s_Arrays_fill_IIV_14_5, if_neg (by omega), if_pos (by omega), pu_nn, pu_inc (by omega)]
    refine ⟨_, ⟨fun p hp => by rw [st_ob hp]; exact i1 p hp, fun j hj => ?_⟩, rfl⟩
    rw [st_if]
    by_cases e : j = i
    · rw [if_pos e]
    · rw [if_neg e]
      exact i2 j (by omega)) 0 M (Nat.zero_le _) ⟨fun _ _ => rfl, fun j hj => absurd hj (Nat.not_lt_zero j)⟩
  obtain ⟨M', ⟨k1, k2⟩, k3⟩ := key
  try dsimp only at k3
  rw [show ((0 : Nat) : Int) = 0 from rfl] at k3
  rw [k3, s_Arrays_fill_IIV_14_5, if_pos (by omega)]
  exact ⟨M', rfl, k1, k2⟩
/-- works with nothing told -/
def W00 (D : mM) : Prop := (∀ k, k < 7 → D 0 k = 0) ∧ (∀ i, i < 98 → D 1 i = 0) ∧ (∀ e, e < 8 → D 2 e = 0 ∧ D 3 e = 0 ∧ D 7 e = 0) ∧ (∀ g, g < 6 → D 4 g = 0 ∧ D 5 g = 1 ∧ D 6 g = 0) ∧ ∀ r, r < 14 → D 8 r = 0
theorem z_clear (M : mM) (w : Nat) : ∃ M', gC 103 [rv 9 w] M = some (none, M') ∧ (∀ o, (o < w ∨ w + 8 < o) → M' o = M o) ∧ W00 (fun j => M' (w + j)) := by
  rw [e_Works_clear]
  generalize hM0 : st (st (st (st (st (st (st M w 0 0) w 1 0) w 2 0) w 3 0) w 4 0) w 5 0) w 6 0 = M0
  have o0 : ∀ o, o ≠ w → M0 o = M o := fun o ho => by rw [← hM0, st_ob ho, st_ob ho, st_ob ho, st_ob ho, st_ob ho, st_ob ho, st_ob ho]
  have z0 : ∀ k, k < 7 → M0 w k = 0 := fun k hk => by
    rw [← hM0, st_if, st_if, st_if, st_if, st_if, st_if, st_if]
    by_cases h6 : k = 6
    · rw [if_pos h6]
    · rw [if_neg h6]
      by_cases h5 : k = 5
      · rw [if_pos h5]
      · rw [if_neg h5]
        by_cases h4 : k = 4
        · rw [if_pos h4]
        · rw [if_neg h4]
          by_cases h3 : k = 3
          · rw [if_pos h3]
          · rw [if_neg h3]
            by_cases h2 : k = 2
            · rw [if_pos h2]
            · rw [if_neg h2]
              by_cases h1 : k = 1
              · rw [if_pos h1]
              · rw [if_neg h1, if_pos (by omega)]
  obtain ⟨M1, a1, a2, a3⟩ := z_fill98 M0 (w + 1) 0
  obtain ⟨M2, b1, b2, b3⟩ := z_fill8 M1 (w + 2) 0
  obtain ⟨M3, c1, c2, c3⟩ := z_fill8 M2 (w + 3) 0
  obtain ⟨M4, d1, d2, d3⟩ := z_fill6 M3 (w + 4) 0
  obtain ⟨M5, e1, e2, e3⟩ := z_fill6 M4 (w + 5) 1
  obtain ⟨M6, f1, f2, f3⟩ := z_fill6 M5 (w + 6) 0
  obtain ⟨M7, g1, g2, g3⟩ := z_fill8 M6 (w + 7) 0
  obtain ⟨M8, h1, h2, h3⟩ := z_fill14 M7 (w + 8) 0
  rw [a1, bV_none, b1, bV_none, c1, bV_none, d1, bV_none, e1, bV_none, f1, bV_none, g1, bV_none, h1, bV_none]
  refine ⟨M8, rfl, fun o ho => ?_, fun k hk => ?_, fun i hi => ?_, fun e he => ⟨?_, ?_, ?_⟩, fun g hg => ⟨?_, ?_, ?_⟩, fun r hr => h3 r hr⟩
  · rw [h2 o (by omega), g2 o (by omega), f2 o (by omega), e2 o (by omega), d2 o (by omega), c2 o (by omega), b2 o (by omega), a2 o (by omega), o0 o (by omega)]
  · show M8 (w + 0) k = 0
    rw [h2 (w + 0) (by omega), g2 (w + 0) (by omega), f2 (w + 0) (by omega), e2 (w + 0) (by omega), d2 (w + 0) (by omega), c2 (w + 0) (by omega), b2 (w + 0) (by omega), a2 (w + 0) (by omega)]
    exact z0 k hk
  · show M8 (w + 1) i = 0
    rw [h2 (w + 1) (by omega), g2 (w + 1) (by omega), f2 (w + 1) (by omega), e2 (w + 1) (by omega), d2 (w + 1) (by omega), c2 (w + 1) (by omega), b2 (w + 1) (by omega)]
    exact a3 i hi
  · show M8 (w + 2) e = 0
    rw [h2 (w + 2) (by omega), g2 (w + 2) (by omega), f2 (w + 2) (by omega), e2 (w + 2) (by omega), d2 (w + 2) (by omega), c2 (w + 2) (by omega)]
    exact b3 e he
  · show M8 (w + 3) e = 0
    rw [h2 (w + 3) (by omega), g2 (w + 3) (by omega), f2 (w + 3) (by omega), e2 (w + 3) (by omega), d2 (w + 3) (by omega)]
    exact c3 e he
  · show M8 (w + 7) e = 0
    rw [h2 (w + 7) (by omega)]
    exact g3 e he
  · show M8 (w + 4) g = 0
    rw [h2 (w + 4) (by omega), g2 (w + 4) (by omega), f2 (w + 4) (by omega), e2 (w + 4) (by omega)]
    exact d3 g hg
  · show M8 (w + 5) g = 1
    rw [h2 (w + 5) (by omega), g2 (w + 5) (by omega), f2 (w + 5) (by omega)]
    exact e3 g hg
  · show M8 (w + 6) g = 0
    rw [h2 (w + 6) (by omega), g2 (w + 6) (by omega)]
    exact f3 g hg
section W0
variable {D : mM}
theorem w00 (h : W00 D) : wU D = 0 ∧ wE D = 0 ∧ wG D = 0 ∧ wF D = 0 ∧ wI D = 0 ∧ wP D = 0 ∧ wD D = 0 := by
  refine ⟨?_, ?_, ?_, ?_, ?_, ?_, ?_⟩
  · unfold wU; rw [h.1 0 (by omega)]; rfl
  · unfold wE; rw [h.1 1 (by omega)]; rfl
  · unfold wG; rw [h.1 2 (by omega)]; rfl
  · unfold wF; rw [h.1 3 (by omega)]; rfl
  · unfold wI; rw [h.1 5 (by omega)]; rfl
  · unfold wP; rw [h.1 4 (by omega)]; rfl
  · unfold wD; rw [h.1 6 (by omega)]; rfl
theorem w00_H (h : W00 D) (r : Nat) : wH D r = 0 := by
  unfold wH
  by_cases z : r < 14
  · rw [if_pos z, h.2.2.2.2 r z]
    rfl
  · rw [if_neg z]
theorem w00_DW (h : W00 D) : DW0 D := by
  obtain ⟨a1, a2, a3, a4, a5, a6, a7⟩ := w00 h
  unfold DW0
  rw [a1, a2, a3, a4, a5, h.1 0 (by omega), h.1 1 (by omega), h.1 2 (by omega), h.1 3 (by omega), h.1 5 (by omega)]
  exact ⟨⟨⟨rfl, by omega⟩, ⟨rfl, by omega⟩, ⟨rfl, by omega⟩, ⟨rfl, by omega⟩⟩, ⟨rfl, by omega⟩, fun r hr => by rw [w00_H h, h.2.2.2.2 r hr]; exact ⟨rfl, by omega⟩⟩
theorem w00_WF (h : W00 D) : WF D := by
  obtain ⟨a1, a2, a3, a4, a5, a6, a7⟩ := w00 h
  obtain ⟨h0, h1, h2, h3, h4⟩ := id h
  unfold WF
  rw [a1, a2, a3, a4, a5, a6, a7, h0 0 (by omega), h0 1 (by omega), h0 2 (by omega), h0 3 (by omega), h0 4 (by omega), h0 5 (by omega), h0 6 (by omega)]
  refine ⟨⟨⟨rfl, by omega⟩, ⟨rfl, by omega⟩, ⟨rfl, by omega⟩, ⟨rfl, by omega⟩⟩, ⟨⟨rfl, by omega⟩, ⟨rfl, by omega⟩, ⟨rfl, by omega⟩⟩, fun r u hr hu => by rw [h1 _ (by omega)]; omega, fun e he => by rw [(h2 e he).1]; omega, fun e he => ?_, fun g hg => ?_, fun g hg => ?_, fun g hg => by rw [(h3 g hg).2.2]; omega, fun f hf => ?_, fun f hf => absurd hf (Nat.not_lt_zero f), fun r hr => ?_, fun g hg => absurd hg (Nat.not_lt_zero g)⟩
  · unfold wHo
    rw [(h2 e he).2.1]
    exact ⟨rfl, by decide⟩
  · unfold wNo
    rw [(h3 g hg).1]
    exact ⟨rfl, by decide⟩
  · unfold wCo
    rw [(h3 g hg).2.1]
    exact ⟨rfl, by decide⟩
  · unfold wFr
    rw [(h2 f hf).2.2]
    rfl
  · rw [w00_H h, h4 r hr]
    refine ⟨rfl, by omega, fun u hu => ?_⟩
    rw [Nat.zero_testBit, h1 _ (by omega)]
    exact ⟨fun q => absurd q Bool.false_ne_true, fun q => absurd rfl q⟩
theorem w00_GD (h : W00 D) (sd : Nat) (M : mM) : GDd sd 0 D M := by
  obtain ⟨a1, a2, a3, a4, a5, a6, a7⟩ := w00 h
  obtain ⟨h0, h1, h2, h3, h4⟩ := id h
  refine ⟨w00_WF h, ⟨fun e _ he => ⟨fun u hu => h1 _ (by omega), (h2 e he).1⟩, fun g _ hg => ⟨fun u hu => h1 _ (by omega), (h3 g hg).1, (h3 g hg).2.1⟩, ⟨h0 4 (by omega), h0 6 (by omega)⟩, (fun g hg => (h3 g hg).2.2), fun e _ he => (h2 e he).2.1⟩, fun e he => by rw [(h2 e he).1]; decide, fun e he => ?_, fun g hg => ?_, fun f hf => ?_⟩
  · rw [a2] at he
    exact absurd he (Nat.not_lt_zero e)
  · rw [a3] at hg
    exact absurd hg (Nat.not_lt_zero g)
  · rw [a4] at hf
    exact absurd hf (Nat.not_lt_zero f)
end W0
/-! All TELLS. -/
section TS
variable {T : TKS} {w2 lv sd : Nat} {M0C M0R MC MR : mM} {t : Nat}
theorem t_other (h : SB T w2 M0C lv sd M0R t MC MR) (hok : TKok T) (hk : tK T t ≠ 4 ∧ tK T t ≠ 5 ∧ tK T t ≠ 7 ∧ tK T t ≠ 8 ∧ tK T t ≠ 12) : ∃ MC' MR', gC 43 [rv 4 2, iv 1] MC = some (iv 0, MC') ∧ gC 188 [rv 11 100] MR = some (none, MR') ∧ OUT T w2 M0C lv sd M0R t MC' MR' := by
  obtain ⟨ks, N, nn, D, ⟨ht, hks⟩, ⟨hC, hW, hN⟩, ⟨hR, hNR, hcn⟩, ⟨hD, hNk, hnb⟩, hgood⟩ := h
  obtain ⟨y1, y2, y3, y4⟩ := y_kindIs hR hok ht
  have h17 := hok.2.1 t ht
  have fR := RFp_of hR (f := (1, (tP T t : Int))) (by decide : (0 : Int) < 1)
  have fC := CFp_of hC (1, (tP T t : Int))
  have e := y_fail hR hok ht 1
  have code20 : ∀ k, k < 18 → rkd k = 20 → k = 4 := by decide +kernel
  have code21 : ∀ k, k < 18 → rkd k = 21 → k = 5 := by decide +kernel
  have code23 : ∀ k, k < 18 → rkd k = 23 → k = 7 := by decide +kernel
  have code24 : ∀ k, k < 18 → rkd k = 24 → k = 8 := by decide +kernel
  have code28 : ∀ k, k < 18 → rkd k = 28 → k = 12 := by decide +kernel
  have c1 : ¬ ((rkd (tK T t) : Nat) : Int) = 20 := fun q => hk.1 (code20 _ (by omega) (by omega))
  have c2 : ¬ ((rkd (tK T t) : Nat) : Int) = 21 := fun q => hk.2.1 (code21 _ (by omega) (by omega))
  have c3 : ¬ ((rkd (tK T t) : Nat) : Int) = 23 := fun q => hk.2.2.1 (code23 _ (by omega) (by omega))
  have c4 : ¬ ((rkd (tK T t) : Nat) : Int) = 24 := fun q => hk.2.2.2.1 (code24 _ (by omega) (by omega))
  have c5 : ¬ ((rkd (tK T t) : Nat) : Int) = 28 := fun q => hk.2.2.2.2 (code28 _ (by omega) (by omega))
  refine ⟨_, st (st MR 100 13 1) 100 14 (tP T t : Int), z_stop hC hok ht 1, ?_, Or.inr ⟨_, fC, fR⟩⟩
  rw [e_GaugeNetModel_tell, if_pos y2, y1, if_neg c1, if_neg c2]
  by_cases d22 : ((rkd (tK T t) : Nat) : Int) = 22
  · rw [if_pos d22, e, bV_none]
  · rw [if_neg d22, if_neg c3, if_neg c4]
    by_cases d25 : ((rkd (tK T t) : Nat) : Int) = 25
    · rw [if_pos d25, e, bV_none]
    · rw [if_neg d25]
      by_cases d26 : ((rkd (tK T t) : Nat) : Int) = 26
      · rw [if_pos d26, e, bV_none]
      · rw [if_neg d26]
        by_cases d27 : ((rkd (tK T t) : Nat) : Int) = 27
        · rw [if_pos d27, e, bV_none]
        · rw [if_neg d27, if_neg c5, e, bV_none]
def FINF (w2 : Nat) (M0C : mM) (lv : Nat) (M0R : mM) (n : Int) (MC MR : mM) : Prop := ∃ (v : Int) (MC' MR' : mM), v ≠ 0 ∧ gA 38 15 [rv 4 2, none, none, iv n] [] MC = some (iv v, MC') ∧ gA 180 115 [rv 11 100, none] [] MR = some (iv v, MR') ∧ (MC' 2 1 = (w2 : Int) ∧ FCp w2 M0C MC') ∧ MR' 100 17 = MC' 2 4 ∧ Fq lv M0R MR'
def FINO (w2 : Nat) (M0C : mM) (lv sd : Nat) (M0R : mM) (n : Int) (MC MR : mM) : Prop := ∃ (MC' MR1 MR' D : mM) (t' : Nat), gA 38 15 [rv 4 2, none, none, iv n] [] MC = some (iv 0, MC') ∧ gA 180 115 [rv 11 100, none] [] MR = gA 180 219 [rv 11 100, iv 0] [] MR' ∧ (MC' 2 1 = (w2 : Int) ∧ MC' 2 4 = -1 ∧ FCp w2 M0C MC' ∧ CW w2 D MC') ∧ GDd sd t' D MR1 ∧ CNT sd D MR1 ∧ Fq lv M0R MR1 ∧ (∀ o, o ≠ 100 → MR' o = MR1 o) ∧ (MR' 100 17 = -1 ∧ MR' 100 18 = (sd : Int) ∧ MR' 100 35 = 0 ∧ MR' 100 36 = 0 ∧ MR' 100 37 = 0) ∧ MR' 100 2 = MR1 100 2
theorem fin_f {f : Int × Int} (hC : CFp w2 M0C f MC) (hR : RFp lv sd M0R f MR) (n : Int) : FINF w2 M0C lv M0R n MC MR := by
  obtain ⟨c1, ⟨c2, c3⟩, c4⟩ := hC
  obtain ⟨⟨r1, r2, r3⟩, r4, r5⟩ := id hR
  have nz : f.1 ≠ 0 := by omega
  have e17 : st MR 100 17 (MR 100 14) 100 13 = f.1 := by rw [st_nk (by omega)]; exact r1
  have rr : gA 180 115 [rv 11 100, none] [] MR = some (iv f.1, st MR 100 17 (MR 100 14)) := by
    rw [s_GaugeNetModel_read_115, e17, r1, if_pos nz, if_neg (show ¬ f.1 ≤ 0 by omega), if_neg (show ¬ f.1 ≤ 0 by omega)]
  have cc : gA 38 15 [rv 4 2, none, none, iv n] [] MC = some (iv f.1, MC) := by
    rw [s_Parser_parse_15]
    have nz2 : ¬ MC 2 3 = 0 := by rw [c2]; exact nz
    by_cases z : 400 < n
    · rw [if_pos z, if_pos nz2, c2]
    · rw [if_neg z, if_pos nz2, if_pos nz2, c2]
  refine ⟨f.1, MC, _, nz, cc, rr, ⟨c1, c4⟩, ?_, Fq_st r4 (np_100 (by omega)) _⟩
  rw [st_same, r2, c3]
theorem tells (hok : TKok T) : ∀ (d t n : Nat) (MC MR : mM), t + d = 401 → n ≤ t → SB T w2 M0C lv sd M0R t MC MR → FINF w2 M0C lv M0R (n : Int) MC MR ∨ FINO w2 M0C lv sd M0R (n : Int) MC MR
  | 0, t, n, MC, MR, hd, hn, h => by
    obtain ⟨ks, N, nn, D, ⟨ht, hks⟩, _⟩ := h
    have := hok.1
    omega
  | d + 1, t, n, MC, MR, hd, hn, h => by
    have h0 := h
    obtain ⟨ks, N, nn, D, ⟨ht, hks⟩, ⟨hC, hW, hN⟩, ⟨hR, hNR, hcn⟩, ⟨hD, hNk, hnb⟩, hgood⟩ := h
    have h4 := hok.1
    have hw2 := hC.2.2.2
    have hsd := hR.2.2.2
    have n400 : ¬ (400 : Int) < (n : Int) := by omega
    have hn31 : n < 2147483647 := by omega
    obtain ⟨c1, c2, c3, c5, c6⟩ := hC.2.1
    by_cases k0 : tK T t = 0
    · -- the end
      have cc0 : gA 38 15 [rv 4 2, none, none, iv (n : Int)] [] MC = some (iv ks.1, st (st MC 2 3 ks.1) 2 4 (if ks.1 = 0 then -1 else ks.2)) := by
        rw [s_Parser_parse_15, if_neg n400, c3, if_neg (show ¬ ¬ (0 : Int) = 0 from fun q => q rfl), z_kind hC hok ht, bI_some, k0, if_pos (show ((0 : Nat) : Int) = 0 from rfl), c3, if_neg (show ¬ ¬ (0 : Int) = 0 from fun q => q rfl), c5, st_nk (show 6 ≠ 3 by omega), c6, st_nk (show 3 ≠ 4 by omega), st_same]
      have hF2 : FCp w2 M0C (st (st MC 2 3 ks.1) 2 4 (if ks.1 = 0 then -1 else ks.2)) := FCp_st (FCp_st hC.2.2.1 (Or.inl ⟨by omega, by omega⟩)) (Or.inl ⟨by omega, by omega⟩)
      have h21 : st (st MC 2 3 ks.1) 2 4 (if ks.1 = 0 then -1 else ks.2) 2 1 = (w2 : Int) := by rw [st_nk (by omega), st_nk (by omega)]; exact c1
      have h24 : st (st MC 2 3 ks.1) 2 4 (if ks.1 = 0 then -1 else ks.2) 2 4 = (if ks.1 = 0 then -1 else ks.2) := st_same _ _ _ _
      obtain ⟨r1, r2, r3, r5, r6⟩ := hR.2.1
      have her := y_is hR hok ht (k := 0) (by omega) (x := 0) rfl
      rw [if_pos k0] at her
      by_cases z : ks.1 = 0
      · -- no fault
        right
        have e17a : st MR 100 17 (-1) 100 13 = 0 := by rw [st_nk (by omega)]; exact r2
        have e17b : st MR 100 17 (-1) 100 15 = 0 := by rw [st_nk (by omega), r3]; exact z
        have e17c : st MR 100 17 (-1) 100 19 = (sd : Int) := by rw [st_nk (by omega)]; exact r6
        have rr : gA 180 115 [rv 11 100, none] [] MR = gA 180 219 [rv 11 100, iv 0] [] (st (st (st (st (st MR 100 17 (-1)) 100 18 (sd : Int)) 100 35 0) 100 36 0) 100 37 0) := by
          rw [s_GaugeNetModel_read_115, r2, if_neg (show ¬ ¬ (0 : Int) = 0 from fun q => q rfl), her, bI_some, if_pos (show ¬ (1 : Int) = 0 by decide), r2, if_pos (show (0 : Int) ≤ 0 by decide), r3, z, if_pos (show (0 : Int) ≤ 0 by decide), e17a, if_pos (show (0 : Int) ≤ 0 by decide), e17b, if_pos (show (0 : Int) ≤ 0 by decide), e17c]
        obtain ⟨_, hg⟩ := hgood z
        rw [z] at cc0 hF2 h21 h24
        rw [if_pos rfl] at cc0 hF2 h21 h24
        refine ⟨_, MR, _, D, t, cc0, rr, ⟨h21, h24, hF2, CW_k hW (fun o ho => by rw [st_ob (by omega), st_ob (by omega)])⟩, hg, hcn, hR.2.2.1, fun o ho => by rw [st_ob ho, st_ob ho, st_ob ho, st_ob ho, st_ob ho], ⟨?_, ?_, ?_, ?_, ?_⟩, ?_⟩
        · rw [st_nk (by omega), st_nk (by omega), st_nk (by omega), st_nk (by omega)]; exact st_same _ _ _ _
        · rw [st_nk (by omega), st_nk (by omega), st_nk (by omega)]; exact st_same _ _ _ _
        · rw [st_nk (by omega), st_nk (by omega)]; exact st_same _ _ _ _
        · rw [st_nk (by omega)]; exact st_same _ _ _ _
        · exact st_same _ _ _ _
        · rw [st_nk (by omega), st_nk (by omega), st_nk (by omega), st_nk (by omega), st_nk (by omega)]
      · -- a kept fault
        left
        have r16 := (r5 z).1
        have rpos := (r5 z).2
        have e17a : st MR 100 17 (MR 100 16) 100 13 = 0 := by rw [st_nk (by omega)]; exact r2
        have e17b : st MR 100 17 (MR 100 16) 100 15 = ks.1 := by rw [st_nk (by omega)]; exact r3
        rw [if_neg z] at cc0 hF2 h21 h24
        have pz : ¬ ks.1 ≤ 0 := by omega
        · have rr : gA 180 115 [rv 11 100, none] [] MR = some (iv ks.1, st MR 100 17 (MR 100 16)) := by
            rw [s_GaugeNetModel_read_115, r2, if_neg (show ¬ ¬ (0 : Int) = 0 from fun q => q rfl), her, bI_some, if_pos (show ¬ (1 : Int) = 0 by decide), r2, if_pos (show (0 : Int) ≤ 0 by decide), r3, if_neg pz, e17a, if_pos (show (0 : Int) ≤ 0 by decide), e17b, if_neg pz]
          exact ⟨ks.1, _, _, z, cc0, rr, ⟨h21, hF2⟩, by rw [st_same, r16, h24], Fq_st hR.2.2.1 (np_100 (by omega)) _⟩
    · -- one TELL more
      have rstep : gA 180 115 [rv 11 100, none] [] MR = (bV (gC 188 [rv 11 100] MR) fun M2 => gA 180 115 [rv 11 100, none] [] M2) := by
        have her := y_is hR hok ht (k := 0) (by omega) (x := 0) rfl
        rw [if_neg k0] at her
        rw [s_GaugeNetModel_read_115, hR.2.1.2.1, if_neg (show ¬ ¬ (0 : Int) = 0 from fun q => q rfl), her, bI_some, if_neg (show ¬ ¬ (0 : Int) = 0 from fun q => q rfl)]
      have next : ∀ (MC' MR' : mM), gA 38 15 [rv 4 2, none, none, iv (n : Int)] [] MC = gA 38 15 [rv 4 2, none, none, iv ((n + 1 : Nat) : Int)] [] MC' → gC 188 [rv 11 100] MR = some (none, MR') → OUT T w2 M0C lv sd M0R t MC' MR' → FINF w2 M0C lv M0R (n : Int) MC MR ∨ FINO w2 M0C lv sd M0R (n : Int) MC MR := by
        intro MC' MR' e1 e2 ho
        have e3 : gA 180 115 [rv 11 100, none] [] MR = gA 180 115 [rv 11 100, none] [] MR' := by rw [rstep, e2, bV_none]
        unfold FINF FINO
        rw [e1, e3]
        rcases ho with ⟨t', ht', hs⟩ | ⟨f, hf1, hf2⟩
        · have ht2 : t' ≤ tm T := by
            obtain ⟨_, _, _, _, ⟨q, _⟩, _⟩ := hs
            exact q
          exact tells hok (d - (t' - t - 1)) t' (n + 1) MC' MR' (by omega) (by omega) hs
        · exact Or.inl (fin_f hf1 hf2 _)
      have cstep : ∀ x : Int, x = (tK T t : Int) → ¬ x = 0 := fun x hx => by omega
      have kz : ¬ (tK T t : Int) = 0 := by omega
      have cbase : gA 38 15 [rv 4 2, none, none, iv (n : Int)] [] MC = (if (tK T t : Int) = 4 then
bV (gC 41 [rv 4 2] MC) fun M3 =>
gA 38 15 [rv 4 2, none, none, iv (w32 ((n : Int) + 1))] [] M3
else if (tK T t : Int) = 5 then
bV (gC 47 [rv 4 2] MC) fun M4 =>
gA 38 15 [rv 4 2, none, none, iv (w32 ((n : Int) + 1))] [] M4
else if (tK T t : Int) = 6 then
bI (gC 43 [rv 4 2, iv 1] MC) fun c5 M5 =>
gA 38 15 [rv 4 2, none, none, iv (w32 ((n : Int) + 1))] [] M5
else if (tK T t : Int) = 7 then
bV (gC 54 [rv 4 2, iv (tK T t : Int)] MC) fun M7 =>
gA 38 15 [rv 4 2, none, none, iv (w32 ((n : Int) + 1))] [] M7
else if (tK T t : Int) = 8 then
bV (gC 54 [rv 4 2, iv (tK T t : Int)] MC) fun M9 =>
gA 38 15 [rv 4 2, none, none, iv (w32 ((n : Int) + 1))] [] M9
else if (tK T t : Int) = 9 then
bI (gC 43 [rv 4 2, iv 1] MC) fun c10 M10 =>
gA 38 15 [rv 4 2, none, none, iv (w32 ((n : Int) + 1))] [] M10
else if (tK T t : Int) = 10 then
bI (gC 43 [rv 4 2, iv 1] MC) fun c11 M11 =>
gA 38 15 [rv 4 2, none, none, iv (w32 ((n : Int) + 1))] [] M11
else if (tK T t : Int) = 11 then
bI (gC 43 [rv 4 2, iv 1] MC) fun c12 M12 =>
gA 38 15 [rv 4 2, none, none, iv (w32 ((n : Int) + 1))] [] M12
else if (tK T t : Int) = 12 then
bV (gC 57 [rv 4 2] MC) fun M13 =>
gA 38 15 [rv 4 2, none, none, iv (w32 ((n : Int) + 1))] [] M13
else
bI (gC 43 [rv 4 2, iv 1] MC) fun c14 M14 =>
gA 38 15 [rv 4 2, none, none, iv (w32 ((n : Int) + 1))] [] M14) := by
        rw [s_Parser_parse_15, if_neg n400, c3, if_neg (show ¬ ¬ (0 : Int) = 0 from fun q => q rfl), z_kind hC hok ht, bI_some, if_neg kz, z_kind hC hok ht, bI_some]
        simp only [z_kind hC hok ht, bI_some]
      rw [pu_inc hn31] at cbase
      by_cases k4 : tK T t = 4
      · obtain ⟨MC', MR', p1, p2, p3⟩ := t_unknown h0 hok k4
        refine next MC' MR' ?_ p2 p3
        rw [cbase, if_pos (show (tK T t : Int) = 4 by omega), p1, bV_none]
      · by_cases k5 : tK T t = 5
        · obtain ⟨MC', MR', p1, p2, p3⟩ := t_eq h0 hok k5
          refine next MC' MR' ?_ p2 p3
          rw [cbase, if_neg (show ¬ (tK T t : Int) = 4 by omega), if_pos (show (tK T t : Int) = 5 by omega), p1, bV_none]
        · by_cases k7 : tK T t = 7
          · obtain ⟨MC', MR', p1, p2, p3⟩ := t_gauge h0 hok (Or.inl k7)
            refine next MC' MR' ?_ p2 p3
            rw [cbase, if_neg (show ¬ (tK T t : Int) = 4 by omega), if_neg (show ¬ (tK T t : Int) = 5 by omega), if_neg (show ¬ (tK T t : Int) = 6 by omega), if_pos (show (tK T t : Int) = 7 by omega), p1, bV_none]
          · by_cases k8 : tK T t = 8
            · obtain ⟨MC', MR', p1, p2, p3⟩ := t_gauge h0 hok (Or.inr k8)
              refine next MC' MR' ?_ p2 p3
              rw [cbase, if_neg (show ¬ (tK T t : Int) = 4 by omega), if_neg (show ¬ (tK T t : Int) = 5 by omega), if_neg (show ¬ (tK T t : Int) = 6 by omega), if_neg (show ¬ (tK T t : Int) = 7 by omega), if_pos (show (tK T t : Int) = 8 by omega), p1, bV_none]
            · by_cases k12 : tK T t = 12
              · obtain ⟨MC', MR', p1, p2, p3⟩ := t_fault h0 hok k12
                refine next MC' MR' ?_ p2 p3
                rw [cbase, if_neg (show ¬ (tK T t : Int) = 4 by omega), if_neg (show ¬ (tK T t : Int) = 5 by omega), if_neg (show ¬ (tK T t : Int) = 6 by omega), if_neg (show ¬ (tK T t : Int) = 7 by omega), if_neg (show ¬ (tK T t : Int) = 8 by omega), if_neg (show ¬ (tK T t : Int) = 9 by omega), if_neg (show ¬ (tK T t : Int) = 10 by omega), if_neg (show ¬ (tK T t : Int) = 11 by omega), if_pos (show (tK T t : Int) = 12 by omega), p1, bV_none]
              · obtain ⟨MC', MR', p1, p2, p3⟩ := t_other h0 hok ⟨k4, k5, k7, k8, k12⟩
                refine next MC' MR' ?_ p2 p3
                rw [cbase, if_neg (show ¬ (tK T t : Int) = 4 by omega), if_neg (show ¬ (tK T t : Int) = 5 by omega), if_neg (show ¬ (tK T t : Int) = 7 by omega), if_neg (show ¬ (tK T t : Int) = 8 by omega), if_neg (show ¬ (tK T t : Int) = 12 by omega), p1, bI_some]
                split
                · rfl
                · split
                  · rfl
                  · split
                    · rfl
                    · split <;> rfl
end TS
