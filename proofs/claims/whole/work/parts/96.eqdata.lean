/-! eq: its data, its terms. -/
noncomputable def yTr (x1 s : Int) (M1 : mM) : Option mR := bV (gC 191 [rv 11 100] M1) fun M12 =>
bI (gC 187 [rv 11 100, iv 2] M12) fun c13 M13 =>
if c13 = 0 then
if c13 = 0 then
if c13 = 0 then
gA 198 114 [rv 11 100, iv x1, iv s, iv (M12 100 11), iv c13, iv 1, none, none, none] [] M13
else
bI (gC 187 [rv 11 100, iv 1] M13) fun c14 M14 =>
if ¬ c14 = 0 then
gA 198 114 [rv 11 100, iv x1, iv s, iv (M12 100 11), iv c13, iv 1, none, none, none] [] M14
else
if ¬ (M14 100 13) = 0 then
gA 198 94 [rv 11 100, iv x1, iv s, none, none, iv 1, none, none, none] [] M14
else
gA 198 94 [rv 11 100, iv x1, iv s, none, none, iv 1, none, none, none] [] M14
else
bV (gC 191 [rv 11 100] M13) fun M15 =>
if c13 = 0 then
gA 198 114 [rv 11 100, iv x1, iv s, iv (M12 100 11), iv c13, iv 1, none, none, none] [] M15
else
bI (gC 187 [rv 11 100, iv 1] M15) fun c16 M16 =>
if ¬ c16 = 0 then
gA 198 114 [rv 11 100, iv x1, iv s, iv (M12 100 11), iv c13, iv 1, none, none, none] [] M16
else
if ¬ (M16 100 13) = 0 then
gA 198 94 [rv 11 100, iv x1, iv s, none, none, iv 1, none, none, none] [] M16
else
gA 198 94 [rv 11 100, iv x1, iv s, none, none, iv 1, none, none, none] [] M16
else
if 0 ≤ (M13 100 11) ∧ (M13 100 11) < 403 then
if c13 = 0 then
if c13 = 0 then
gA 198 114 [rv 11 100, iv x1, iv s, iv (M12 100 11), iv c13, iv (M13 105 (M13 100 11).toNat), none, none, none] [] M13
else
bI (gC 187 [rv 11 100, iv 1] M13) fun c17 M17 =>
if ¬ c17 = 0 then
gA 198 114 [rv 11 100, iv x1, iv s, iv (M12 100 11), iv c13, iv (M13 105 (M13 100 11).toNat), none, none, none] [] M17
else
if ¬ (M17 100 13) = 0 then
gA 198 94 [rv 11 100, iv x1, iv s, none, none, iv (M13 105 (M13 100 11).toNat), none, none, none] [] M17
else
if (M13 105 (M13 100 11).toNat) ≤ 999 then
gA 198 94 [rv 11 100, iv x1, iv s, none, none, iv (M13 105 (M13 100 11).toNat), none, none, none] [] M17
else
bV (gC 194 [rv 11 100, iv 5, iv (M12 100 11)] M17) fun M18 =>
gA 198 94 [rv 11 100, iv x1, iv s, none, none, iv (M13 105 (M13 100 11).toNat), none, none, none] [] M18
else
bV (gC 191 [rv 11 100] M13) fun M19 =>
if c13 = 0 then
gA 198 114 [rv 11 100, iv x1, iv s, iv (M12 100 11), iv c13, iv (M13 105 (M13 100 11).toNat), none, none, none] [] M19
else
bI (gC 187 [rv 11 100, iv 1] M19) fun c20 M20 =>
if ¬ c20 = 0 then
gA 198 114 [rv 11 100, iv x1, iv s, iv (M12 100 11), iv c13, iv (M13 105 (M13 100 11).toNat), none, none, none] [] M20
else
if ¬ (M20 100 13) = 0 then
gA 198 94 [rv 11 100, iv x1, iv s, none, none, iv (M13 105 (M13 100 11).toNat), none, none, none] [] M20
else
if (M13 105 (M13 100 11).toNat) ≤ 999 then
gA 198 94 [rv 11 100, iv x1, iv s, none, none, iv (M13 105 (M13 100 11).toNat), none, none, none] [] M20
else
bV (gC 194 [rv 11 100, iv 5, iv (M12 100 11)] M20) fun M21 =>
gA 198 94 [rv 11 100, iv x1, iv s, none, none, iv (M13 105 (M13 100 11).toNat), none, none, none] [] M21
else none
theorem e_tellTerm (x1 : Int) (M : mM) : gC 198 [rv 11 100, iv x1] M = bI (gC 187 [rv 11 100, iv 8] M) fun c1 M1 =>
if c1 = 0 then
yTr x1 (-1) M1
else
yTr x1 1 M1 := e_GaugeNetModel_tellTerm x1 M
noncomputable def zTr (x1 s : Int) (M : mM) : Option mR := bI (gC 40 [rv 4 2] M) fun c4 M4 =>
if ¬ c4 = 2 then
bI (gC 44 [rv 4 2, iv 3] M4) fun c5 M5 =>
if ¬ c5 = 0 then
bI (gC 40 [rv 4 2] M5) fun c6 M6 =>
if ¬ c6 = 2 then
bI (gC 50 [rv 4 2, iv 0, iv 999] M6) fun c7 M7 =>
bV (gC 107 [rv 9 ((M6 2 1).toNat), iv x1, iv (w32 (s * c7))] M7) fun M8 =>
some (iv 1, M8)
else
bI (gC 50 [rv 4 2, iv 1, iv 9] M6) fun c8 M8 =>
bI (gC 52 [rv 4 2, iv x1, iv (w32 (s * c8))] M8) fun c9 M9 =>
if 0 ≤ c9 ∧ c9 < 2 then some (iv c9, M9) else none
else
some (iv 0, M5)
else
bI (gC 52 [rv 4 2, iv x1, iv s] M4) fun c10 M10 =>
if 0 ≤ c10 ∧ c10 < 2 then some (iv c10, M10) else none
theorem e_parseTerm (x1 : Int) (M : mM) : gC 51 [rv 4 2, iv x1] M =
bI (gC 40 [rv 4 2] M) fun c1 M1 =>
if ¬ c1 = 17 then
bI (gC 40 [rv 4 2] M1) fun c2 M2 =>
if ¬ c2 = 17 then
bI (gC 44 [rv 4 2, iv 16] M2) fun c3 M3 =>
if ¬ c3 = 0 then
zTr x1 1 M3
else
some (iv 0, M3)
else
bI (gC 44 [rv 4 2, iv 17] M2) fun c11 M11 =>
if ¬ c11 = 0 then
zTr x1 1 M11
else
some (iv 0, M11)
else
bI (gC 40 [rv 4 2] M1) fun c19 M19 =>
if ¬ c19 = 17 then
bI (gC 44 [rv 4 2, iv 16] M19) fun c20 M20 =>
if ¬ c20 = 0 then
zTr x1 (-1) M20
else
some (iv 0, M20)
else
bI (gC 44 [rv 4 2, iv 17] M19) fun c28 M28 =>
if ¬ c28 = 0 then
zTr x1 (-1) M28
else
some (iv 0, M28) := e_Parser_parseTerm x1 M
section DE
variable {D : mM}
/-- what stays where no count and nothing of a gauge or a fault changes -/
theorem eq_W {D' : mM} (h0 : D' 0 = D 0) : wU D' = wU D ∧ wE D' = wE D ∧ wG D' = wG D ∧ wF D' = wF D ∧ wI D' = wI D ∧ wP D' = wP D ∧ wD D' = wD D ∧ isRw D' = isRw D := by
  have hE : wE D' = wE D := by unfold wE; rw [h0]
  have hG : wG D' = wG D := by unfold wG; rw [h0]
  refine ⟨?_, hE, hG, ?_, ?_, ?_, ?_, ?_⟩
  · unfold wU; rw [h0]
  · unfold wF; rw [h0]
  · unfold wI; rw [h0]
  · unfold wP; rw [h0]
  · unfold wD; rw [h0]
  · funext r
    unfold isRw
    rw [hE, hG]
/-- a constant -/
theorem k_GD {sd t t' ce : Nat} {M M' : mM} {x : Int} (h : GDd sd t D M) (hce : ce < wE D) (hx : x.natAbs ≤ 999) (ht : t < t') (h4 : t' ≤ 400) (k : ∀ o, 114 ≤ o → (o < 115 ∨ 115 < o) → (o < 120 ∨ 120 < o) → o ≤ 121 → M' o = M o) (k2 : ∀ i, M' 113 i = if i = 9 * (8 * sd + ce) + 8 then D 2 ce + x else M 113 i) : GDd sd t' (st D 2 ce (D 2 ce + x)) M' := by
  obtain ⟨h1, h2, h3, h4', h5, h6⟩ := h
  have hw := h1
  have hE := (wf_E hw).2
  have e0 : st D 2 ce (D 2 ce + x) 0 = D 0 := st_ob (by omega)
  obtain ⟨eU, eE, eG, eF, eI, eP, eD, eR⟩ := eq_W e0
  have ej : ∀ j, j ≠ 2 → st D 2 ce (D 2 ce + x) j = D j := fun j hj => st_ob hj
  have hb : ∀ e, e < 8 → (st D 2 ce (D 2 ce + x) 2 e).natAbs ≤ 999 * t' := fun e he => by
    have := h3 e he
    rw [st_if]
    by_cases z : e = ce
    · rw [if_pos z]
      rw [z] at this
      omega
    · rw [if_neg z]
      omega
  refine ⟨?_, ?_, hb, fun e he => ?_, fun g hg => ?_, fun f hf => ?_⟩
  · obtain ⟨a, b, c, d, e, f, g, i, j, kk, l, m⟩ := hw
    have ho : wHo (st D 2 ce (D 2 ce + x)) = wHo D := by funext q; unfold wHo; rw [ej 3 (by omega)]
    have no : wNo (st D 2 ce (D 2 ce + x)) = wNo D := by funext q; unfold wNo; rw [ej 4 (by omega)]
    have co : wCo (st D 2 ce (D 2 ce + x)) = wCo D := by funext q; unfold wCo; rw [ej 5 (by omega)]
    have fr : wFr (st D 2 ce (D 2 ce + x)) = wFr D := by funext q; unfold wFr; rw [ej 7 (by omega)]
    have hh : wH (st D 2 ce (D 2 ce + x)) = wH D := by funext q; unfold wH; rw [ej 8 (by omega)]
    unfold WF
    rw [eU, eE, eG, eF, eI, eP, eD, eR, ho, no, co, fr, hh, e0, ej 1 (by omega), ej 3 (by omega), ej 4 (by omega), ej 5 (by omega), ej 6 (by omega), ej 7 (by omega), ej 8 (by omega)]
    refine ⟨a, b, c, fun q hq => ?_, e, f, g, i, j, kk, l, m⟩
    have := hb q hq
    omega
  · obtain ⟨q1, q2, q3, q4⟩ := h2
    unfold FRd
    rw [eE, eG, e0, ej 1 (by omega), ej 3 (by omega), ej 4 (by omega), ej 5 (by omega), ej 6 (by omega)]
    refine ⟨fun e he he8 => ⟨(q1 e he he8).1, ?_⟩, q2, q3, q4⟩
    rw [st_if, if_neg (by omega)]
    exact (q1 e he he8).2
  · rw [eE] at he
    obtain ⟨e1, e2, e3⟩ := h4' e he
    unfold RDe
    rw [ej 1 (by omega), ej 3 (by omega), st_if, k 114 (by omega) (by omega) (by omega) (by omega), k2]
    refine ⟨fun u hu => ?_, ?_, e3⟩
    · rw [k2, if_neg (by omega)]
      exact e1 u hu
    · by_cases z : e = ce
      · rw [if_pos (by rw [z]), if_pos z]
      · rw [if_neg (by omega), if_neg z]
        exact e2
  · rw [eG] at hg
    obtain ⟨y0, y1, y2, y3⟩ := h5 g hg
    unfold RDg
    rw [eU, eI, ej 1 (by omega), ej 4 (by omega), ej 5 (by omega), k 116 (by omega) (by omega) (by omega) (by omega), k 117 (by omega) (by omega) (by omega) (by omega), k 118 (by omega) (by omega) (by omega) (by omega), k 119 (by omega) (by omega) (by omega) (by omega)]
    exact ⟨y0, y1, y2, y3⟩
  · rw [eF] at hf
    rw [ej 7 (by omega), k 121 (by omega) (by omega) (by omega) (by omega)]
    exact h6 f hf
/-- a number -/
theorem n_GD {sd t t' ce u : Nat} {M M' : mM} {x : Int} (h : GDd sd t D M) (hce : ce < wE D) (hu : u < wU D) (hbit : (wH D ce).testBit u = false) (hx : x ≠ 0 ∧ -9 ≤ x ∧ x ≤ 9) (ht : t ≤ t') (k : ∀ o, 114 ≤ o → (o < 115 ∨ 115 < o) → (o < 120 ∨ 120 < o) → o ≤ 121 → M' o = M o) (k2 : ∀ i, M' 113 i = if i = 9 * (8 * sd + ce) + u then x else M 113 i) : GDd sd t' (st (st D 1 (ce * 7 + u) x) 8 ce ((wH D ce ||| 2 ^ u : Nat) : Int)) M' ∧ wH (st (st D 1 (ce * 7 + u) x) 8 ce ((wH D ce ||| 2 ^ u : Nat) : Int)) ce = wH D ce ||| 2 ^ u := by
  obtain ⟨h1, h2, h3, h4', h5, h6⟩ := h
  have hw := h1
  have hE := (wf_E hw).2
  have hU := (wf_U hw).2
  generalize hD' : st (st D 1 (ce * 7 + u) x) 8 ce ((wH D ce ||| 2 ^ u : Nat) : Int) = D'
  have e0 : D' 0 = D 0 := by rw [← hD', st_ob (by omega), st_ob (by omega)]
  obtain ⟨eU, eE, eG, eF, eI, eP, eD, eR⟩ := eq_W e0
  have ej : ∀ j, j ≠ 1 → j ≠ 8 → D' j = D j := fun j h1 h8 => by rw [← hD', st_ob h8, st_ob h1]
  have e1 : ∀ i, D' 1 i = if i = ce * 7 + u then x else D 1 i := fun i => by rw [← hD', st_ob (by omega), st_if]
  have e8 : ∀ i, D' 8 i = if i = ce then ((wH D ce ||| 2 ^ u : Nat) : Int) else D 8 i := fun i => by rw [← hD', st_if, st_ob (by omega)]
  have n1 : ∀ r v, v < 7 → D' 1 (r * 7 + v) = if r = ce ∧ v = u then x else D 1 (r * 7 + v) := fun r v hv => by
    rw [e1]
    by_cases z : r = ce ∧ v = u
    · rw [if_pos z, if_pos (by rw [z.1, z.2])]
    · rw [if_neg z, if_neg (by omega)]
  have hh : ∀ r, r < 14 → wH D' r = if r = ce then wH D ce ||| 2 ^ u else wH D r := fun r hr => by
    unfold wH
    rw [if_pos hr, if_pos hr, e8]
    split
    · rw [pu_nn]
      unfold wH
      rfl
    · rfl
  refine ⟨⟨?_, ?_, fun e he => ?_, fun e he => ?_, fun g hg => ?_, fun f hf => ?_⟩, by rw [hh ce (by omega), if_pos rfl]⟩
  · obtain ⟨a, b, c, d, e, f, g, i, j, kk, l, m⟩ := hw
    have ho : wHo D' = wHo D := by funext q; unfold wHo; rw [ej 3 (by omega) (by omega)]
    have no : wNo D' = wNo D := by funext q; unfold wNo; rw [ej 4 (by omega) (by omega)]
    have co : wCo D' = wCo D := by funext q; unfold wCo; rw [ej 5 (by omega) (by omega)]
    have fr : wFr D' = wFr D := by funext q; unfold wFr; rw [ej 7 (by omega) (by omega)]
    unfold WF
    rw [eU, eE, eG, eF, eI, eP, eD, eR, ho, no, co, fr, e0, ej 2 (by omega) (by omega), ej 3 (by omega) (by omega), ej 4 (by omega) (by omega), ej 5 (by omega) (by omega), ej 6 (by omega) (by omega), ej 7 (by omega) (by omega)]
    refine ⟨a, b, fun r v hr hv => ?_, d, e, f, g, i, j, kk, fun r hr => ?_, fun q hq => ?_⟩
    · rw [n1 r v hv]
      split
      · exact hx.2
      · exact c r v hr hv
    · obtain ⟨l1, l2, l3⟩ := l r hr
      rw [hh r hr, e8]
      by_cases z : r = ce
      · rw [if_pos z, if_pos z]
        subst z
        refine ⟨rfl, Nat.or_lt_two_pow l2 (Nat.pow_lt_pow_right (by omega) hu), fun v hv => ?_⟩
        rw [n1 r v hv, Nat.testBit_or, tb_pow, Bool.or_eq_true, decide_eq_true_iff]
        by_cases y : v = u
        · rw [if_pos ⟨rfl, y⟩]
          exact ⟨fun _ => hx.1, fun _ => Or.inr y.symm⟩
        · rw [if_neg (fun p => y p.2)]
          constructor
          · rintro (p | p)
            · exact (l3 v hv).mp p
            · exact absurd p.symm y
          · exact fun p => Or.inl ((l3 v hv).mpr p)
      · rw [if_neg z, if_neg z]
        refine ⟨l1, l2, fun v hv => ?_⟩
        rw [n1 r v hv, if_neg (fun p => z p.1)]
        exact l3 v hv
    · obtain ⟨y, y1, y2⟩ := m q hq
      refine ⟨y, y1, fun v hv => ?_⟩
      rw [n1 (8 + q) v hv, if_neg (by omega)]
      exact y2 v hv
  · obtain ⟨q1, q2, q3, q4⟩ := h2
    unfold FRd
    rw [eE, eG, e0, ej 2 (by omega) (by omega), ej 3 (by omega) (by omega), ej 4 (by omega) (by omega), ej 5 (by omega) (by omega), ej 6 (by omega) (by omega)]
    refine ⟨fun e he he8 => ⟨fun v hv => ?_, (q1 e he he8).2⟩, fun g hg hg6 => ⟨fun v hv => ?_, (q2 g hg hg6).2⟩, q3, q4⟩
    · rw [n1 e v hv, if_neg (by omega)]
      exact (q1 e he he8).1 v hv
    · rw [n1 (8 + g) v hv, if_neg (by omega)]
      exact (q2 g hg hg6).1 v hv
  · rw [ej 2 (by omega) (by omega)]
    have := h3 e he
    omega
  · rw [eE] at he
    obtain ⟨r1, r2, r3⟩ := h4' e he
    unfold RDe
    rw [ej 2 (by omega) (by omega), ej 3 (by omega) (by omega), k 114 (by omega) (by omega) (by omega) (by omega), k2, if_neg (show ¬ 9 * (8 * sd + e) + 8 = 9 * (8 * sd + ce) + u by omega)]
    refine ⟨fun v hv => ?_, r2, r3⟩
    rw [k2, n1 e v hv]
    by_cases z : e = ce ∧ v = u
    · rw [if_pos z, if_pos (by rw [z.1, z.2])]
    · rw [if_neg z, if_neg (by omega)]
      exact r1 v hv
  · rw [eG] at hg
    obtain ⟨⟨y, x1, x2, x3⟩, y1, y2, y3⟩ := h5 g hg
    unfold RDg
    rw [eU, eI, ej 4 (by omega) (by omega), ej 5 (by omega) (by omega), k 116 (by omega) (by omega) (by omega) (by omega), k 117 (by omega) (by omega) (by omega) (by omega), k 118 (by omega) (by omega) (by omega) (by omega), k 119 (by omega) (by omega) (by omega) (by omega)]
    refine ⟨⟨y, x1, x2, fun v hv => ?_⟩, y1, y2, y3⟩
    rw [n1 (8 + g) v hv, if_neg (by omega)]
    exact x3 v hv
  · rw [eF] at hf
    rw [ej 7 (by omega) (by omega), k 121 (by omega) (by omega) (by omega) (by omega)]
    exact h6 f hf
/-- an EQ begins -/
theorem b_GD {sd t t' hv : Nat} {M M' : mM} (h : GDd sd t D M) (h8 : wE D < 8) (h16 : hv < 16) (ht : t ≤ t') (k : ∀ o, 116 ≤ o → (o < 120 ∨ 120 < o) → o ≤ 121 → M' o = M o) (k2 : ∀ i, M' 113 i = if 9 * (8 * sd + wE D) ≤ i ∧ i < 9 * (8 * sd + wE D) + 9 then 0 else M 113 i) (k3 : ∀ i, M' 114 i = if i = 8 * sd + wE D then (hv : Int) else M 114 i) : GDd sd t' (st (st D 0 1 ((wE D + 1 : Nat) : Int)) 3 (wE D) (hv : Int)) M' ∧ wH (st (st D 0 1 ((wE D + 1 : Nat) : Int)) 3 (wE D) (hv : Int)) (wE D) = 0 := by
  obtain ⟨h1, h2, h3, h4', h5, h6⟩ := h
  have hw := h1
  have hU := (wf_U hw).2
  generalize hD' : st (st D 0 1 ((wE D + 1 : Nat) : Int)) 3 (wE D) (hv : Int) = D'
  have e0 : ∀ i, D' 0 i = if i = 1 then ((wE D + 1 : Nat) : Int) else D 0 i := fun i => by rw [← hD', st_ob (by omega), st_if]
  have e3 : ∀ i, D' 3 i = if i = wE D then (hv : Int) else D 3 i := fun i => by rw [← hD', st_if, st_ob (by omega)]
  have ej : ∀ j, j ≠ 0 → j ≠ 3 → D' j = D j := fun j h1 h8 => by rw [← hD', st_ob h8, st_ob h1]
  have eU : wU D' = wU D := by unfold wU; rw [e0, if_neg (by omega)]
  have eE : wE D' = wE D + 1 := by
    have : wE D' = (D' 0 1).toNat := rfl
    rw [this, e0, if_pos rfl, pu_nn]
  have eG : wG D' = wG D := by unfold wG; rw [e0, if_neg (by omega)]
  have eF : wF D' = wF D := by unfold wF; rw [e0, if_neg (by omega)]
  have eI : wI D' = wI D := by unfold wI; rw [e0, if_neg (by omega)]
  have eP : wP D' = wP D := by unfold wP; rw [e0, if_neg (by omega)]
  have eD : wD D' = wD D := by unfold wD; rw [e0, if_neg (by omega)]
  have hh : wH D' = wH D := by funext r; unfold wH; rw [ej 8 (by omega) (by omega)]
  obtain ⟨q1, q2, q3, q4⟩ := id h2
  have hz : wH D (wE D) = 0 := by
    obtain ⟨z1, z2, z3⟩ := wf_has hw (wE D) (by omega)
    apply Nat.eq_of_testBit_eq
    intro i
    rw [Nat.zero_testBit, ← Bool.not_eq_true]
    intro hb
    have hi7 : i < 7 := by
      have := tb_in z2 hb
      omega
    exact (z3 i hi7).mp hb ((q1 (wE D) (Nat.le_refl _) h8).1 i hi7)
  refine ⟨⟨?_, ?_, fun e he => ?_, fun e he => ?_, fun g hg => ?_, fun f hf => ?_⟩, by rw [hh]; exact hz⟩
  · obtain ⟨⟨a1, a2, a3, a4⟩, ⟨b1, b2, b3⟩, c, d, e, f, g, i, j, kk, l, m⟩ := hw
    have ho : ∀ q, wHo D' q = if q = wE D then hv else wHo D q := fun q => by
      unfold wHo
      rw [e3]
      split
      · rw [pu_nn]
      · rfl
    have no : wNo D' = wNo D := by funext q; unfold wNo; rw [ej 4 (by omega) (by omega)]
    have co : wCo D' = wCo D := by funext q; unfold wCo; rw [ej 5 (by omega) (by omega)]
    have fr : wFr D' = wFr D := by funext q; unfold wFr; rw [ej 7 (by omega) (by omega)]
    unfold WF
    rw [eU, eE, eG, eF, eI, eP, eD, no, co, fr, hh, e0 0, e0 1, e0 2, e0 3, e0 4, e0 5, e0 6, ej 1 (by omega) (by omega), ej 2 (by omega) (by omega), ej 4 (by omega) (by omega), ej 5 (by omega) (by omega), ej 6 (by omega) (by omega), ej 7 (by omega) (by omega), ej 8 (by omega) (by omega)]
    refine ⟨⟨a1, ⟨rfl, by omega⟩, a3, a4⟩, ⟨b1, b2, b3⟩, c, d, fun q hq => ?_, f, g, i, j, fun q hq => ?_, l, m⟩
    · rw [e3, ho]
      by_cases z : q = wE D
      · rw [if_pos z, if_pos z]
        exact ⟨rfl, h16⟩
      · rw [if_neg z, if_neg z]
        exact e q hq
    · obtain ⟨k1', k2'⟩ := kk q hq
      refine ⟨k1', ?_⟩
      unfold isRw at k2' ⊢
      rw [eE, eG]
      rw [Bool.or_eq_true, Bool.and_eq_true, decide_eq_true_iff, decide_eq_true_iff, decide_eq_true_iff] at k2' ⊢
      omega
  · unfold FRd
    rw [eE, eG, e0 4, e0 6, ej 1 (by omega) (by omega), ej 2 (by omega) (by omega), ej 4 (by omega) (by omega), ej 5 (by omega) (by omega), ej 6 (by omega) (by omega)]
    exact ⟨fun e he he8 => q1 e (by omega) he8, q2, q3, q4.1, fun e he he8 => by rw [e3, if_neg (by omega)]; exact q4.2 e (by omega) he8⟩
  · rw [ej 2 (by omega) (by omega)]
    have := h3 e he
    omega
  · rw [eE] at he
    unfold RDe
    rw [ej 1 (by omega) (by omega), ej 2 (by omega) (by omega), e3, k2, k3]
    by_cases z : e = wE D
    · have hfr := q1 (wE D) (Nat.le_refl _) h8
      rw [z, if_pos (by omega), if_pos rfl, if_pos rfl]
      refine ⟨fun v hv => ?_, hfr.2.symm, rfl⟩
      rw [k2, if_pos (by omega)]
      exact (hfr.1 v hv).symm
    · obtain ⟨r1, r2, r3⟩ := h4' e (by omega)
      rw [if_neg (by omega), if_neg (by omega), if_neg z]
      refine ⟨fun v hv => ?_, r2, r3⟩
      rw [k2, if_neg (by omega)]
      exact r1 v hv
  · rw [eG] at hg
    obtain ⟨y0, y1, y2, y3⟩ := h5 g hg
    unfold RDg
    rw [eU, eI, ej 1 (by omega) (by omega), ej 4 (by omega) (by omega), ej 5 (by omega) (by omega), k 116 (by omega) (by omega) (by omega), k 117 (by omega) (by omega) (by omega), k 118 (by omega) (by omega) (by omega), k 119 (by omega) (by omega) (by omega)]
    exact ⟨y0, y1, y2, y3⟩
  · rw [eF] at hf
    rw [ej 7 (by omega) (by omega), k 121 (by omega) (by omega) (by omega)]
    exact h6 f hf
end DE
