/-! gauge, maybe -/
def GS (D D' : mM) (u ib n4 n5 : Nat) : Prop := (∀ k, D' 0 k = if k = 5 then (ib : Int) else if k = 2 then ((wG D + 1 : Nat) : Int) else D 0 k) ∧ (∀ k, D' 1 k = if k = (8 + wG D) * 7 + u then 1 else D 1 k) ∧ (∀ r, D' 8 r = if r = 8 + wG D then ((2 ^ u : Nat) : Int) else D 8 r) ∧ (∀ k, D' 4 k = if k = wG D then (n4 : Int) else D 4 k) ∧ (∀ k, D' 5 k = if k = wG D then (n5 : Int) else D 5 k) ∧ ∀ j, j = 2 ∨ j = 3 ∨ j = 6 ∨ j = 7 → D' j = D j
section DG
variable {D D' : mM} {u ib n4 n5 : Nat}
theorem g_U (h : GS D D' u ib n4 n5) : wU D' = wU D := by
  unfold wU
  rw [h.1, if_neg (by omega), if_neg (by omega)]
theorem g_E (h : GS D D' u ib n4 n5) : wE D' = wE D := by
  unfold wE
  rw [h.1, if_neg (by omega), if_neg (by omega)]
theorem g_G (h : GS D D' u ib n4 n5) : wG D' = wG D + 1 := by
  have : wG D' = (D' 0 2).toNat := rfl
  rw [this, h.1, if_neg (by omega), if_pos rfl, pu_nn]
theorem g_F (h : GS D D' u ib n4 n5) : wF D' = wF D := by
  unfold wF
  rw [h.1, if_neg (by omega), if_neg (by omega)]
theorem g_I (h : GS D D' u ib n4 n5) : wI D' = ib := by
  unfold wI
  rw [h.1, if_pos rfl, pu_nn]
theorem g_P (h : GS D D' u ib n4 n5) : wP D' = wP D := by
  unfold wP
  rw [h.1, if_neg (by omega), if_neg (by omega)]
theorem g_D (h : GS D D' u ib n4 n5) : wD D' = wD D := by
  unfold wD
  rw [h.1, if_neg (by omega), if_neg (by omega)]
theorem g_H (h : GS D D' u ib n4 n5) {r : Nat} (hr : r < 14) : wH D' r = if r = 8 + wG D then 2 ^ u else wH D r := by
  unfold wH
  rw [if_pos hr, if_pos hr, h.2.2.1]
  split
  · rw [pu_nn]
  · rfl
theorem g_num (h : GS D D' u ib n4 n5) (hu : u < 7) (r v : Nat) (hv : v < 7) : D' 1 (r * 7 + v) = if r = 8 + wG D ∧ v = u then 1 else D 1 (r * 7 + v) := by
  rw [h.2.1]
  by_cases z : r = 8 + wG D ∧ v = u
  · rw [if_pos z, if_pos (by rw [z.1, z.2])]
  · rw [if_neg z, if_neg (by omega)]
theorem g_WF (h : GS D D' u ib n4 n5) (hw : WF D) (hf : FRd D) (h6 : wG D < 6) (hu : u < wU D) (hib : ib < 2 ^ (wG D + 1)) (h4 : n4 ≤ 3) (h5 : n5 ≤ 100) : WF D' := by
  obtain ⟨⟨a1, a2, a3, a4⟩, ⟨b1, b2, b3⟩, c, d, e, f, g, i, j, k, l, m⟩ := hw
  have hu7 : u < 7 := by omega
  have hd2 : wD D < 2 ^ (wG D + 1) := Nat.lt_of_lt_of_le b3.2 (Nat.pow_le_pow_right (by omega) (by omega))
  have p0 : ∀ q, q ≠ 5 → q ≠ 2 → D' 0 q = D 0 q := fun q h1 h2 => by rw [h.1, if_neg h1, if_neg h2]
  unfold WF
  rw [g_U h, g_E h, g_G h, g_F h, g_I h, g_P h, g_D h, p0 0 (by omega) (by omega), p0 1 (by omega) (by omega), p0 3 (by omega) (by omega), p0 4 (by omega) (by omega), p0 6 (by omega) (by omega), h.1 2, h.1 5, if_neg (show ¬ 2 = 5 by omega), if_pos rfl, if_pos rfl, h.2.2.2.2.2 2 (by omega), h.2.2.2.2.2 3 (by omega), h.2.2.2.2.2 6 (by omega), h.2.2.2.2.2 7 (by omega)]
  have ho : wHo D' = wHo D := by funext q; unfold wHo; rw [h.2.2.2.2.2 3 (by omega)]
  have fr : wFr D' = wFr D := by funext q; unfold wFr; rw [h.2.2.2.2.2 7 (by omega)]
  have no : ∀ q, wNo D' q = if q = wG D then n4 else wNo D q := fun q => by
    unfold wNo
    rw [h.2.2.2.1]
    split
    · rw [pu_nn]
    · rfl
  have co : ∀ q, wCo D' q = if q = wG D then n5 else wCo D q := fun q => by
    unfold wCo
    rw [h.2.2.2.2.1]
    split
    · rw [pu_nn]
    · rfl
  rw [ho, fr]
  refine ⟨⟨a1, a2, ⟨rfl, by omega⟩, a4⟩, ⟨b1, ⟨rfl, hib⟩, ⟨b3.1, hd2⟩⟩, fun r v hr hv => ?_, d, e, fun q hq => ?_, fun q hq => ?_, i, j, fun q hq => ?_, fun r hr => ?_, fun q hq => ?_⟩
  · rw [g_num h hu7 r v hv]
    split
    · omega
    · exact c r v hr hv
  · rw [h.2.2.2.1, no]
    by_cases z : q = wG D
    · rw [if_pos z, if_pos z]
      exact ⟨rfl, h4⟩
    · rw [if_neg z, if_neg z]
      exact f q hq
  · rw [h.2.2.2.2.1, co]
    by_cases z : q = wG D
    · rw [if_pos z, if_pos z]
      exact ⟨rfl, h5⟩
    · rw [if_neg z, if_neg z]
      exact g q hq
  · obtain ⟨k1, k2⟩ := k q hq
    refine ⟨k1, ?_⟩
    unfold isRw at k2 ⊢
    rw [g_E h, g_G h]
    rw [Bool.or_eq_true, Bool.and_eq_true, decide_eq_true_iff, decide_eq_true_iff, decide_eq_true_iff] at k2 ⊢
    omega
  · rw [g_H h hr, h.2.2.1]
    obtain ⟨l1, l2, l3⟩ := l r hr
    by_cases z : r = 8 + wG D
    · rw [if_pos z, if_pos z]
      refine ⟨rfl, Nat.pow_lt_pow_right (by omega) hu, fun v hv => ?_⟩
      rw [g_num h hu7 r v hv, tb_pow, decide_eq_true_iff]
      have hfr := (hf.2.1 (wG D) (Nat.le_refl _) h6).1 v hv
      by_cases y : v = u
      · rw [if_pos ⟨z, y⟩]
        exact ⟨fun _ => by decide, fun _ => y.symm⟩
      · rw [if_neg (fun q => y q.2), z, hfr]
        exact ⟨fun q => absurd q.symm y, fun q => absurd rfl q⟩
    · rw [if_neg z, if_neg z]
      refine ⟨l1, l2, fun v hv => ?_⟩
      rw [g_num h hu7 r v hv, if_neg (fun q => z q.1)]
      exact l3 v hv
  · by_cases z : q = wG D
    · refine ⟨u, hu, fun v hv => ?_⟩
      rw [g_num h hu7 (8 + q) v hv]
      have hfr := (hf.2.1 (wG D) (Nat.le_refl _) h6).1 v hv
      by_cases y : v = u
      · rw [if_pos ⟨by omega, y⟩, if_pos y]
      · rw [if_neg (fun p => y p.2), if_neg y, z]
        exact hfr
    · obtain ⟨x, x1, x2⟩ := m q (by omega)
      refine ⟨x, x1, fun v hv => ?_⟩
      rw [g_num h hu7 (8 + q) v hv, if_neg (by omega)]
      exact x2 v hv
theorem g_GD {sd t t' : Nat} {M M' : mM} (h : GS D D' u ib n4 n5) (hg : GDd sd t D M) (h6 : wG D < 6) (hu : u < wU D) (hib : ib < 2 ^ (wG D + 1)) (h4 : n4 ≤ 3) (h5 : n5 ≤ 100) (ht : t ≤ t') (k1 : M' 113 = M 113 ∧ M' 114 = M 114 ∧ M' 121 = M 121) (k2 : ∀ o k, 116 ≤ o → o ≤ 119 → k ≠ 6 * sd + wG D → M' o k = M o k) (k3 : M' 116 (6 * sd + wG D) = (u : Int) ∧ M' 117 (6 * sd + wG D) = (n4 : Int) ∧ M' 118 (6 * sd + wG D) = (n5 : Int) ∧ (M' 119 (6 * sd + wG D) = 0 ↔ ib.testBit (wG D) = true)) (k4 : ∀ g, g < wG D → ib.testBit g = (wI D).testBit g) : GDd sd t' D' M' := by
  obtain ⟨h1, h2, h3, h4', h5', h6'⟩ := hg
  have hw := h1
  have hu7 : u < 7 := by have := (wf_U hw).2; omega
  refine ⟨g_WF h h1 h2 h6 hu hib h4 h5, ?_, fun e he => ?_, fun e he => ?_, fun g hg => ?_, fun f hf => ?_⟩
  · obtain ⟨q1, q2, q3, q4⟩ := h2
    unfold FRd
    rw [g_E h, g_G h, h.1 4, h.1 6, if_neg (show ¬ 4 = 5 by omega), if_neg (show ¬ 4 = 2 by omega), if_neg (show ¬ 6 = 5 by omega), if_neg (show ¬ 6 = 2 by omega), h.2.2.2.2.2 2 (by omega), h.2.2.2.2.2 3 (by omega), h.2.2.2.2.2 6 (by omega)]
    refine ⟨fun e he he8 => ⟨fun v hv => ?_, (q1 e he he8).2⟩, fun g hg hg6 => ⟨fun v hv => ?_, ?_, ?_⟩, q3, q4⟩
    · rw [g_num h hu7 e v hv, if_neg (by omega)]
      exact (q1 e he he8).1 v hv
    · rw [g_num h hu7 (8 + g) v hv, if_neg (by omega)]
      exact (q2 g (by omega) hg6).1 v hv
    · rw [h.2.2.2.1, if_neg (by omega)]
      exact (q2 g (by omega) hg6).2.1
    · rw [h.2.2.2.2.1, if_neg (by omega)]
      exact (q2 g (by omega) hg6).2.2
  · rw [h.2.2.2.2.2 2 (by omega)]
    have := h3 e he
    omega
  · rw [g_E h] at he
    obtain ⟨e1, e2, e3⟩ := h4' e he
    have hE := (wf_E hw).2
    unfold RDe
    rw [k1.1, k1.2.1, h.2.2.2.2.2 2 (by omega), h.2.2.2.2.2 3 (by omega)]
    refine ⟨fun v hv => ?_, e2, e3⟩
    rw [g_num h hu7 e v hv, if_neg (by omega)]
    exact e1 v hv
  · rw [g_G h] at hg
    unfold RDg
    rw [g_U h, g_I h]
    by_cases z : g = wG D
    · rw [z]
      have hfr := (h2.2.1 (wG D) (Nat.le_refl _) h6).1
      refine ⟨⟨u, hu, k3.1, fun v hv => ?_⟩, ?_, ?_, k3.2.2.2⟩
      · rw [g_num h hu7 (8 + wG D) v hv]
        by_cases y : v = u
        · rw [if_pos ⟨rfl, y⟩, if_pos y]
        · rw [if_neg (fun p => y p.2), if_neg y]
          exact hfr v hv
      · rw [h.2.2.2.1, if_pos rfl]
        exact k3.2.1
      · rw [h.2.2.2.2.1, if_pos rfl]
        exact k3.2.2.1
    · obtain ⟨⟨x, x1, x2, x3⟩, y1, y2, y3⟩ := h5' g (by omega)
      rw [k2 116 _ (by omega) (by omega) (by omega), k2 117 _ (by omega) (by omega) (by omega), k2 118 _ (by omega) (by omega) (by omega), k2 119 _ (by omega) (by omega) (by omega), k4 g (by omega), h.2.2.2.1, h.2.2.2.2.1, if_neg z, if_neg z]
      refine ⟨⟨x, x1, x2, fun v hv => ?_⟩, y1, y2, y3⟩
      rw [g_num h hu7 (8 + g) v hv, if_neg (by omega)]
      exact x3 v hv
  · rw [g_F h] at hf
    rw [k1.2.2, h.2.2.2.2.2 7 (by omega)]
    exact h6' f hf
end DG
/-- the ends of the class's GAUGE -/
noncomputable def zGt (c : Int) (M : mM) : Option mR := bI (gC 55 [rv 4 2, iv c] M) fun c7 M7 =>
if c7 = 0 then
some (none, M7)
else
bI (gC 56 [rv 4 2, iv c] M7) fun c8 M8 =>
if c8 = 0 then
some (none, M8)
else
bI (gC 44 [rv 4 2, iv 13] M8) fun c9 M9 =>
some (none, M9)
noncomputable def zGr (c : Int) (M : mM) : Option mR := bI (gC 44 [rv 4 2, iv 9] M) fun c3 M3 =>
if c3 = 0 then
some (none, M3)
else
bI (gC 44 [rv 4 2, iv 2] M3) fun c4 M4 =>
if ¬ c4 = 0 then
bI (gC 53 [rv 4 2, iv 4] M4) fun c5 M5 =>
if ¬ c5 = (-1) then
bV (gC 106 [rv 9 ((M5 2 1).toNat), iv (w32 (8 + c)), iv c5, iv 1] M5) fun M6 =>
zGt c M6
else
bV (gC 46 [rv 4 2, iv 4, iv (w32 ((M5 2 2) - 1))] M5) fun M10 =>
zGt c M10
else
some (none, M4)
theorem e_parseGauge (x1 : Int) (M : mM) : gC 54 [rv 4 2, iv x1] M =
bI (gC 42 [rv 4 2, iv x1, iv (M (M 2 1).toNat 2), iv 6] M) fun c1 M1 =>
if ¬ c1 = 0 then
if ¬ x1 = 7 then
bI (gC 129 [iv ((st M1 (M1 2 1).toNat 2 (w32 ((M1 (M1 2 1).toNat 2) + 1))) ((st M1 (M1 2 1).toNat 2 (w32 ((M1 (M1 2 1).toNat 2) + 1))) 2 1).toNat 5), iv (M (M 2 1).toNat 2), iv 0] (st M1 (M1 2 1).toNat 2 (w32 ((M1 (M1 2 1).toNat 2) + 1)))) fun c2 M2 =>
zGr (M (M 2 1).toNat 2) (st M2 ((st M1 (M1 2 1).toNat 2 (w32 ((M1 (M1 2 1).toNat 2) + 1))) 2 1).toNat 5 c2)
else
bI (gC 129 [iv ((st M1 (M1 2 1).toNat 2 (w32 ((M1 (M1 2 1).toNat 2) + 1))) ((st M1 (M1 2 1).toNat 2 (w32 ((M1 (M1 2 1).toNat 2) + 1))) 2 1).toNat 5), iv (M (M 2 1).toNat 2), iv 1] (st M1 (M1 2 1).toNat 2 (w32 ((M1 (M1 2 1).toNat 2) + 1)))) fun c14 M14 =>
zGr (M (M 2 1).toNat 2) (st M14 ((st M1 (M1 2 1).toNat 2 (w32 ((M1 (M1 2 1).toNat 2) + 1))) 2 1).toNat 5 c14)
else
some (none, M1) := e_Parser_parseGauge x1 M
theorem withB_tb (s g : Nat) (b : Int) (i : Nat) : (withB s g b).testBit i = if i = g then decide (b ≠ 0) else s.testBit i := by
  unfold withB
  by_cases z : b = 0
  · rw [if_pos z, tb_del]
    by_cases y : i = g
    · rw [if_pos y, decide_eq_true y.symm, Bool.not_true, Bool.and_false, decide_eq_false (fun q => q z)]
    · rw [if_neg y, decide_eq_false (fun q => y q.symm), Bool.not_false, Bool.and_true]
  · rw [if_neg z, Nat.testBit_or, tb_pow]
    by_cases y : i = g
    · rw [if_pos y, decide_eq_true y.symm, Bool.or_true, decide_eq_true z]
    · rw [if_neg y, decide_eq_false (fun q => y q.symm), Bool.or_false]
section TG
variable {T : TKS} {w2 lv sd : Nat} {M0C M0R MC MR : mM} {t : Nat}
/-- both from behind the head on -/
theorem gaugeRest {N : NMS} {nn : Nat} {D : mM} {ks ks1 : Int × Int} {kd : Nat} (hok : TKok T) (t2 : t + 2 ≤ tm T) (kk : tK T (t + 1) = 2) (h6 : wG D < 6) {ib : Nat} (hib : ib = withB (wI D) (wG D) (if kd = 8 then 0 else 1)) {B A : mM} {N' : NMS} (hN' : nadd N nn (tW T (t + 1), 2, wG D) = N') (hD : DW0 D) (hNk : NOKk N nn) (hnb : NB N nn D) (hgood : ks.1 = 0 → ND N nn ∧ GDd sd t D MR) (hcn : CNT sd D MR) (hks1 : hdK T N nn t ks = ks1) (hks2 : KOs T (t + 2) ks1) (hC : CCp T w2 M0C (t + 2) ks1 B) (hW : CW w2 (st (st D 0 2 ((wG D + 1 : Nat) : Int)) 0 5 (ib : Int)) B) (hN : NCk N' (nn + 1) B) (hR : RCp T lv sd M0R (t + 2) ks1 A) (hNR : NRk N nn A) (hA : (∀ o, o ≠ 100 → o ≠ 119 → A o = MR o) ∧ ∀ k, A 119 k = if k = 6 * sd + wG D then (if kd = 8 then 1 else 0) else MR 119 k) {x115 : Int} (hx : w32 (w32 (6 * MR 100 19) + x115) = ((6 * sd + wG D : Nat) : Int)) : ∃ MC' MR', zGr (wG D : Int) B = some (none, MC') ∧ (bV (gC 193 [rv 11 100, iv 25] A) fun M4 =>
if (M4 100 13) ≤ 0 then
bI (gC 199 [rv 11 100, iv 0, iv 0] M4) fun c5 M5 =>
if ¬ c5 = (-1) then
if 0 ≤ c5 ∧ c5 < 40 then
if 0 ≤ (w32 ((w32 (6 * (MR 100 19))) + x115)) ∧ (w32 ((w32 (6 * (MR 100 19))) + x115)) < 12 then
if 0 ≤ (w32 ((w32 (6 * (MR 100 19))) + x115)) ∧ (w32 ((w32 (6 * (MR 100 19))) + x115)) < 12 then
if 0 ≤ (w32 ((w32 (6 * (MR 100 19))) + x115)) ∧ (w32 ((w32 (6 * (MR 100 19))) + x115)) < 12 then
gNoise (w32 ((w32 (6 * (MR 100 19))) + x115)) ((t + 1 : Nat) : Int) (st (st (st M5 116 (w32 ((w32 (6 * (MR 100 19))) + x115)).toNat (M5 110 (c5).toNat)) 117 (w32 ((w32 (6 * (MR 100 19))) + x115)).toNat 0) 118 (w32 ((w32 (6 * (MR 100 19))) + x115)).toNat 1)
else none
else none
else none
else none
else
if 0 ≤ (w32 ((w32 (6 * (MR 100 19))) + x115)) ∧ (w32 ((w32 (6 * (MR 100 19))) + x115)) < 12 then
if 0 ≤ (w32 ((w32 (6 * (MR 100 19))) + x115)) ∧ (w32 ((w32 (6 * (MR 100 19))) + x115)) < 12 then
if 0 ≤ (w32 ((w32 (6 * (MR 100 19))) + x115)) ∧ (w32 ((w32 (6 * (MR 100 19))) + x115)) < 12 then
gNoise (w32 ((w32 (6 * (MR 100 19))) + x115)) ((t + 1 : Nat) : Int) (st (st (st M5 116 (w32 ((w32 (6 * (MR 100 19))) + x115)).toNat 0) 117 (w32 ((w32 (6 * (MR 100 19))) + x115)).toNat 0) 118 (w32 ((w32 (6 * (MR 100 19))) + x115)).toNat 1)
else none
else none
else none
else
if 0 ≤ (w32 ((w32 (6 * (MR 100 19))) + x115)) ∧ (w32 ((w32 (6 * (MR 100 19))) + x115)) < 12 then
if 0 ≤ (w32 ((w32 (6 * (MR 100 19))) + x115)) ∧ (w32 ((w32 (6 * (MR 100 19))) + x115)) < 12 then
if 0 ≤ (w32 ((w32 (6 * (MR 100 19))) + x115)) ∧ (w32 ((w32 (6 * (MR 100 19))) + x115)) < 12 then
gNoise (w32 ((w32 (6 * (MR 100 19))) + x115)) ((t + 1 : Nat) : Int) (st (st (st M4 116 (w32 ((w32 (6 * (MR 100 19))) + x115)).toNat 0) 117 (w32 ((w32 (6 * (MR 100 19))) + x115)).toNat 0) 118 (w32 ((w32 (6 * (MR 100 19))) + x115)).toNat 1)
else none
else none
else none) = some (none, MR') ∧ OUT T w2 M0C lv sd M0R t MC' MR' := by
  obtain ⟨⟨⟨d0, d0'⟩, ⟨d1, d1'⟩, ⟨d2, d2'⟩, ⟨d3, d3'⟩⟩, d5, d8⟩ := id hD
  have h4 := hok.1
  have hw2 := hC.2.2.2
  have hsd := hR.2.2.2
  have hw := hok.2.2.2.2.2.1 (t + 1) (by omega) kk
  have h29 : nn + 1 ≤ 29 := by have := hnb.1; omega
  have hNk' : NOKk N' (nn + 1) := by rw [← hN']; exact NOK_add hNk hw.1 hw.2 (by decide : (2 : Nat) < 4)
  rw [hx]
  generalize hix : 6 * sd + wG D = ix at hA
  have hix12 : ix < 12 := by omega
  have ri : 0 ≤ (ix : Int) ∧ (ix : Int) < 12 := by omega
  have nk : ∀ o, 116 ≤ o → o ≤ 119 → ¬ kpR lv o ix := fun o h1 h2 => by unfold kpR; omega
  have nk5 : ¬ kpR lv 115 sd := by unfold kpR; omega
  have f3 : ∀ {f : Int × Int} {M : mM}, RFp lv sd M0R f M → ∀ a b c : Int, RFp lv sd M0R f (st (st (st M 116 ix a) 117 ix b) 118 ix c) := fun h a b c => RFp_o (RFp_o (RFp_o h (by omega) (nk 116 (by omega) (by omega)) a) (by omega) (nk 117 (by omega) (by omega)) b) (by omega) (nk 118 (by omega) (by omega)) c
  unfold zGr
  rcases z_accept hC hok t2 9 (x := 9) rfl with ⟨a1, a2, a3⟩ | ⟨f, M3, a1, a2, a3⟩
  · have t3 := ac_next hok t2 a1 (by omega)
    have hks3 := KO_up hok hks2 (show t + 2 ≤ t + 3 by omega) t3
    rcases y_must hR hok t2 9 (by omega) (x := 25) rfl with ⟨_, b2, b3⟩ | ⟨f, A3, b1, _⟩
    · generalize hA3 : st A 100 11 ((t + 2 + 1 : Nat) : Int) = A3 at b2 b3
      generalize hB3 : st B 2 2 ((t + 2 + 1 : Nat) : Int) = B3 at a2 a3
      have o3 : ∀ o, o ≠ 100 → A3 o = A o := fun o ho => by rw [← hA3, st_ob ho]
      have hN3 : NRk N nn A3 := NRk_s hNR (fun o _ _ => o3 o (by omega)) (by rw [← hA3, st_nk (by omega)])
      have hNB : NCk N' (nn + 1) B3 := NCk_s hN (fun o _ _ => by rw [← hB3, st_ob (by omega)]) (by rw [← hB3, st_nk (by omega)])
      have hWB := CW_k hW (M' := B3) (fun o ho => by rw [← hB3, st_ob (by omega)])
      rw [a2, bI_some, if_neg (by omega), b2, bV_none, b3.2.1.2.1, if_pos (show (0 : Int) ≤ 0 by omega)]
      rcases z_accept a3 hok t3 2 (x := 2) rfl with ⟨c1, c2, c3⟩ | ⟨f, M3, c1, c2, c3⟩
      · have t4 := ac_next hok t3 c1 (by omega)
        have k3 := (ac_none c1).1
        rcases y_known b3 hok t3 hN3 hNk (by omega) hks3 (a := 0) (b := 0) (x := 0) (y := 0) rfl rfl with ⟨_, A4, g1, g2, g3, g5⟩ | ⟨f, A4, g0, _⟩
        · generalize hB4 : st B3 2 2 ((t + 2 + 1 + 1 : Nat) : Int) = B4 at c2 c3
          have hNB4 : NCk N' (nn + 1) B4 := NCk_s hNB (fun o _ _ => by rw [← hB4, st_ob (by omega)]) (by rw [← hB4, st_nk (by omega)])
          have hWB4 := CW_k hWB (M' := B4) (fun o ho => by rw [← hB4, st_ob (by omega)])
          have hN4 : NRk N nn A4 := NRk_s hN3 (fun o _ _ => g3 o (by omega)) (g5 20 (by omega) (by omega) (by omega))
          have n1 := z_numberNamed c3 hok t3 k3 hNB4 hNk' h29 (s := 0) (by omega)
          rw [show ((csort 0 : Nat) : Int) = 4 from rfl] at n1
          rw [c2, bI_some, if_pos (show ¬ (1 : Int) = 0 by omega), n1, bI_some, g1, bI_some]
          generalize hx1 : numC N' (nn + 1) (tW T (t + 2 + 1)) 0 = x1
          generalize hj : knI N nn (tW T (t + 2 + 1)) 0 0 = j at g2
          generalize hks4 : (if j = -1 then keepA ks1 4 (tP T (t + 2 + 1) : Int) else ks1) = ks4 at g2
          have hsame : (if x1 = -1 then keepA ks1 4 (tP T (t + 2 + 1) : Int) else ks1) = ks4 := by
            by_cases q : ks1.1 = 0
            · rw [← hks1] at q
              obtain ⟨q1, q2, q3⟩ := hdK_0 q
              obtain ⟨r1, _⟩ := hgood q1
              have hnd : ND (nadd N nn (tW T (t + 1), 2, wG D)) (nn + 1) := ND_add r1 q2
              rw [← hks4, ← hx1, ← hN', ← hj]
              rcases kn_char N nn (tW T (t + 2 + 1)) 0 0 with ⟨p1, p2⟩ | ⟨k, p1, p2, p3, p4⟩
              · rw [num_none hnd (by decide : ¬ (2 : Nat) = 0) (fun i hi hw => (p2 i hi hw).1), p1, if_pos rfl]
              · rw [num_some hnd p1 p3, p2, if_neg (show ¬ (k : Int) = -1 by omega), if_pos (show (N k).2.1 = 0 by omega), if_neg (show ¬ (((N k).2.2 : Nat) : Int) = -1 by omega)]
            · rw [← hks4, keepA_id q, ite_self, ite_self]
          have hsegC : ∃ B5 D2, (if ¬ x1 = (-1) then
bV (gC 106 [rv 9 ((B4 2 1).toNat), iv (w32 (8 + (wG D : Int))), iv x1, iv 1] B4) fun M6 =>
zGt (wG D : Int) M6
else
bV (gC 46 [rv 4 2, iv 4, iv (w32 ((B4 2 2) - 1))] B4) fun M10 =>
zGt (wG D : Int) M10) = zGt (wG D : Int) B5 ∧ CCp T w2 M0C (t + 2 + 1 + 1) ks4 B5 ∧ CW w2 D2 B5 ∧ NCk N' (nn + 1) B5 ∧ ((∀ j, j ≠ 0 → j ≠ 1 → j ≠ 8 → D2 j = D j) ∧ (∀ k, D2 0 k = if k = 5 then (ib : Int) else if k = 2 then ((wG D + 1 : Nat) : Int) else D 0 k)) ∧ (∀ r, r < 14 → D2 8 r = (wH D2 r : Int) ∧ wH D2 r < 128) ∧ ∀ u : Nat, x1 = (u : Int) → (∀ k, D2 1 k = if k = (8 + wG D) * 7 + u then 1 else D 1 k) ∧ ∀ r, D2 8 r = if r = 8 + wG D then ((wH D (8 + wG D) ||| 2 ^ u : Nat) : Int) else D 8 r := by
            generalize hD1 : st (st D 0 2 ((wG D + 1 : Nat) : Int)) 0 5 (ib : Int) = D1 at hWB4
            have e0 : ∀ k, D1 0 k = if k = 5 then (ib : Int) else if k = 2 then ((wG D + 1 : Nat) : Int) else D 0 k := fun k => by rw [← hD1, st_if, st_if]
            have ej : ∀ j, j ≠ 0 → D1 j = D j := fun j hj => by rw [← hD1, st_ob hj, st_ob hj]
            have eH : wH D1 = wH D := by funext r; unfold wH; rw [ej 8 (by omega)]
            have h8 : ∀ r, r < 14 → D1 8 r = (wH D1 r : Int) ∧ wH D1 r < 128 := fun r hr => by rw [ej 8 (by omega), eH]; exact d8 r hr
            rw [← hsame]
            rcases num_cases N' (nn + 1) (tW T (t + 2 + 1)) 0 with hm | ⟨k, m1, m2, m3, m4⟩
            · rw [hx1] at hm
              obtain ⟨MK, p1, p2, p3, p4⟩ := z_keep c3 hok (i := t + 2 + 1) (by omega) 4
              rw [if_neg (fun q => q hm), if_pos hm, z_at1 c3 hok (by omega), p1, bV_none]
              exact ⟨MK, D1, rfl, p2, CW_k hWB4 (fun o ho => p3 o (by omega)), NCk_s hNB4 (fun o _ _ => p3 o (by omega)) p4, ⟨fun j h0 _ _ => ej j h0, e0⟩, h8, fun u hu => by omega⟩
            · rw [hx1] at m4
              have hkn : k < nn := by
                rcases Nat.lt_or_ge k nn with z | z
                · exact z
                · have : k = nn := by omega
                  rw [this, ← hN', nadd_eq] at m3
                  exact absurd m3 (by decide : ¬ (2 : Nat) = 0)
              have m3' := m3
              have m4' := m4
              rw [← hN', nadd_lt hkn] at m3' m4'
              have hu7 := (hnb.2 k hkn).1 m3'
              generalize hu : (N k).2.2 = u at m4' hu7
              have h87 : u < 7 := by omega
              have h2g : 8 + wG D < 2147483648 := by omega
              have h14 : 8 + wG D < 14 := by omega
              have ha := z_addNumber hWB4 h8 (r := 8 + wG D) (u := u) h14 h87 1
              have n1x : ¬ x1 = -1 := by omega
              rw [if_pos n1x, if_neg n1x, c3.2.1.1, pu_nn, show w32 (8 + (wG D : Int)) = ((8 + wG D : Nat) : Int) from w32_addn (a := 8) h2g, m4', ha, bV_none]
              refine ⟨_, st (st D1 1 ((8 + wG D) * 7 + u) 1) 8 (8 + wG D) ((wH D1 (8 + wG D) ||| 2 ^ u : Nat) : Int), rfl, CCp_o (CCp_o c3 (by omega) _ _) (by omega) _ _, CW_st (CW_st hWB4 1 _ _) 8 _ _, NCk_s hNB4 (fun o _ _ => by rw [st_ob (by omega), st_ob (by omega)]) (by rw [st_ob (by omega), st_ob (by omega)]), ⟨fun j h0 h1 h8' => by rw [st_ob h8', st_ob h1]; exact ej j h0, fun k => by rw [st_ob (by omega), st_ob (by omega)]; exact e0 k⟩, fun r hr => ?_, fun u' hu' => ?_⟩
              · have hlt := (h8 (8 + wG D) (by omega)).2
                have hor : wH D1 (8 + wG D) ||| 2 ^ u < 128 := Nat.or_lt_two_pow (n := 7) hlt (Nat.pow_lt_pow_right (by omega) h87)
                have ew : wH (st (st D1 1 ((8 + wG D) * 7 + u) 1) 8 (8 + wG D) ((wH D1 (8 + wG D) ||| 2 ^ u : Nat) : Int)) r = if r = 8 + wG D then wH D1 (8 + wG D) ||| 2 ^ u else wH D1 r := by
                  have : wH (st (st D1 1 ((8 + wG D) * 7 + u) 1) 8 (8 + wG D) ((wH D1 (8 + wG D) ||| 2 ^ u : Nat) : Int)) r = (st (st D1 1 ((8 + wG D) * 7 + u) 1) 8 (8 + wG D) ((wH D1 (8 + wG D) ||| 2 ^ u : Nat) : Int) 8 r).toNat := by
                    unfold wH
                    rw [if_pos hr]
                  rw [this, st_if, st_ob (by omega)]
                  split
                  · rw [pu_nn]
                  · rw [(h8 r hr).1, pu_nn]
                rw [ew, st_if, st_ob (by omega)]
                split
                · exact ⟨rfl, hor⟩
                · exact h8 r hr
              · have : u' = u := by omega
                subst this
                refine ⟨fun k => ?_, fun r => ?_⟩
                · rw [st_ob (by omega), st_if, ej 1 (by omega)]
                · rw [st_if, st_ob (by omega), ej 8 (by omega), eH]
          obtain ⟨B5, D2, s1, s2, s3, s4, ⟨s5, s6⟩, s7, s8⟩ := hsegC
          rw [s1]
          have hks4o : KOs T (t + 2 + 1 + 1) ks4 := by
            rw [← hks4]
            by_cases e : j = -1
            · rw [if_pos e]
              exact KO_keep hok (KO_up hok hks3 (by omega) t4) (by omega) t4 _
            · rw [if_neg e]
              exact KO_up hok hks3 (by omega) t4
          -- the reference's unknown
          have hsegR : ∃ A5 v6, (if ¬ j = (-1) then
if 0 ≤ j ∧ j < 40 then
if 0 ≤ (ix : Int) ∧ (ix : Int) < 12 then
if 0 ≤ (ix : Int) ∧ (ix : Int) < 12 then
if 0 ≤ (ix : Int) ∧ (ix : Int) < 12 then
gNoise (ix : Int) ((t + 1 : Nat) : Int) (st (st (st A4 116 ((ix : Int)).toNat (A4 110 (j).toNat)) 117 ((ix : Int)).toNat 0) 118 ((ix : Int)).toNat 1)
else none
else none
else none
else none
else
if 0 ≤ (ix : Int) ∧ (ix : Int) < 12 then
if 0 ≤ (ix : Int) ∧ (ix : Int) < 12 then
if 0 ≤ (ix : Int) ∧ (ix : Int) < 12 then
gNoise (ix : Int) ((t + 1 : Nat) : Int) (st (st (st A4 116 ((ix : Int)).toNat 0) 117 ((ix : Int)).toNat 0) 118 ((ix : Int)).toNat 1)
else none
else none
else none) = gNoise (ix : Int) ((t + 1 : Nat) : Int) A5 ∧ A5 = st (st (st A4 116 ix v6) 117 ix 0) 118 ix 1 ∧ (j = -1 ∨ ∃ k : Nat, k < nn ∧ j = (k : Int) ∧ (N k).1 = tW T (t + 2 + 1) ∧ (N k).2.1 = 0 ∧ v6 = (((N k).2.2 : Nat) : Int)) := by
            rw [if_pos ri, if_pos ri, if_pos ri, if_pos ri, if_pos ri, if_pos ri, pu_nn]
            rcases kn_char N nn (tW T (t + 2 + 1)) 0 0 with ⟨q1, q2⟩ | ⟨k, q1, q2, q3, q4⟩
            · rw [hj] at q1
              rw [if_neg (fun e => e q1)]
              exact ⟨_, 0, rfl, rfl, Or.inl q1⟩
            · rw [hj] at q2
              obtain ⟨e108, e109, e110⟩ := hN4.2 k q1
              rw [if_pos (show ¬ j = -1 by omega), if_pos (by omega), q2, pu_nn, e110]
              exact ⟨_, _, rfl, rfl, Or.inr ⟨k, q1, rfl, q3, by omega, rfl⟩⟩
          obtain ⟨A5, v6, u1, u2, u3⟩ := hsegR
          rw [u1]
          have hR5 : RCp T lv sd M0R (t + 2 + 1 + 1) ks4 A5 := by
            rw [u2]
            exact RCp_o (RCp_o (RCp_o g2 (by omega) (nk 116 (by omega) (by omega)) _) (by omega) (nk 117 (by omega) (by omega)) _) (by omega) (nk 118 (by omega) (by omega)) _
          have o5 : ∀ o, o ≠ 100 → (o < 116 ∨ 119 < o) → A5 o = MR o := fun o h1 h2 => by
            rw [u2, st_ob (by omega), st_ob (by omega), st_ob (by omega), g3 o h1, o3 o h1]
            exact hA.1 o h1 (by omega)
          have p5 : ∀ k, A5 116 k = if k = ix then v6 else MR 116 k := by
            intro k
            rw [u2, st_ob (by omega), st_ob (by omega), st_if, g3 116 (by omega), o3 116 (by omega), hA.1 116 (by omega) (by omega)]
          have p6 : ∀ k, A5 117 k = if k = ix then 0 else MR 117 k := by
            intro k
            rw [u2, st_ob (by omega), st_if, st_ob (by omega), g3 117 (by omega), o3 117 (by omega), hA.1 117 (by omega) (by omega)]
          have p7 : ∀ k, A5 118 k = if k = ix then 1 else MR 118 k := by
            intro k
            rw [u2, st_if, st_ob (by omega), st_ob (by omega), g3 118 (by omega), o3 118 (by omega), hA.1 118 (by omega) (by omega)]
          have p8 : ∀ k, A5 119 k = if k = ix then (if kd = 8 then 1 else 0) else MR 119 k := by
            intro k
            rw [u2, st_ob (by omega), st_ob (by omega), st_ob (by omega), g3 119 (by omega), o3 119 (by omega), hA.2 k]
          have hN5 : NRk N nn A5 := NRk_s hN4 (fun o _ _ => by rw [u2, st_ob (by omega), st_ob (by omega), st_ob (by omega)]) (by rw [u2, st_ob (by omega), st_ob (by omega), st_ob (by omega)])
          unfold zGt
          rcases noisePart s2 s3 s4 hR5 hok t4 hks4o (g := wG D) (i := ix) h6 hix12 (nk 117 (by omega) (by omega)) ((t + 1 : Nat) : Int) with ⟨ta, ka, va, va', B6, A6, ⟨ta1, ta2, ta3⟩, e1, e2, ⟨e3, e4, e5⟩, ⟨e6, e7, e8, e9⟩, e10⟩ | ⟨f, B6, A6, e1, e2, e3, e4⟩
          · rw [e1, bI_some, if_neg (show ¬ (1 : Int) = 0 by omega), e2]
            rcases costPart e3 e4 e5 e6 hok ta2 ta3 (g := wG D) (i := ix) h6 hix12 (nk 118 (by omega) (by omega)) ((t + 1 : Nat) : Int) with ⟨tb, kb, vb, vb', B7, A7, ⟨tb1, tb2, tb3⟩, i1, i2, ⟨i3, i4, i5⟩, ⟨i6, i7, i8, i9⟩, i10⟩ | ⟨f, B7, A7, i1, i2, i3, i4⟩
            · rw [i1, bI_some, if_neg (show ¬ (1 : Int) = 0 by omega), i2]
              unfold gFin
              rcases z_accept i3 hok tb2 13 (x := 13) rfl with ⟨l1, l2, l3⟩ | ⟨f, M3, l1, l2, l3⟩
              · have t5 := ac_next hok tb2 l1 (by omega)
                rcases y_must i6 hok tb2 13 (by omega) (x := 4) rfl with ⟨_, q2, q3⟩ | ⟨f, A8, q1, _⟩
                · generalize hA8 : st A7 100 11 ((tb + 1 : Nat) : Int) = A8 at q2 q3
                  have o7 : ∀ o, o ≠ 100 → (o < 116 ∨ 119 < o) → A8 o = MR o := fun o h1 h2 => by
                    rw [← hA8, st_ob h1, i7 o h1 (by omega), e7 o h1 (by omega)]
                    exact o5 o h1 h2
                  have hN8 : NRk N nn A8 := NRk_s hN5 (fun o _ _ => by rw [← hA8, st_ob (by omega), i7 o (by omega) (by omega), e7 o (by omega) (by omega)]) (by rw [← hA8, st_nk (by omega), i9, e9])
                  have e115 : A8 115 (A8 100 19).toNat = (wG D : Int) := by rw [q3.2.1.2.2.2.2, pu_nn, o7 115 (by omega) (by omega), hcn.2.2.1]; exact d2
                  obtain ⟨A9, w1, w2', w3, w4, w5⟩ := y_knows q3 hok (i := t + 1) (by omega) kk hN8 (by omega) 2 (wG D) (x := 2) rfl e115
                  have e19 : A9 100 19 = (sd : Int) := by rw [w5 19 (by omega)]; exact q3.2.1.2.2.2.2
                  have e15 : A9 115 sd = (wG D : Int) := by rw [w4 115 (by omega) (by omega), o7 115 (by omega) (by omega), hcn.2.2.1]; exact d2
                  rw [l2, bI_some, q2, bV_none, q3.2.1.2.1, if_pos (show (0 : Int) ≤ 0 by omega), if_pos (by rw [q3.2.1.2.2.2.2]; omega), w1, bV_none, e19, if_pos (by omega), if_pos (by omega), pu_nn, e15, pu_inc (by omega)]
                  generalize hDf : st (st D2 4 (wG D) va) 5 (wG D) vb = Df at i4
                  have f0 : ∀ k, Df 0 k = if k = 5 then (ib : Int) else if k = 2 then ((wG D + 1 : Nat) : Int) else D 0 k := fun k => by rw [← hDf, st_ob (by omega), st_ob (by omega)]; exact s6 k
                  have f8 : Df 8 = D2 8 := by rw [← hDf, st_ob (by omega), st_ob (by omega)]
                  have fH : wH Df = wH D2 := by funext r; unfold wH; rw [f8]
                  have fU : wU Df = wU D := by unfold wU; rw [f0, if_neg (by omega), if_neg (by omega)]
                  have fE : wE Df = wE D := by unfold wE; rw [f0, if_neg (by omega), if_neg (by omega)]
                  have fF : wF Df = wF D := by unfold wF; rw [f0, if_neg (by omega), if_neg (by omega)]
                  have fG : wG Df = wG D + 1 := by
                    have : wG Df = (Df 0 2).toNat := rfl
                    rw [this, f0, if_neg (by omega), if_pos rfl, pu_nn]
                  have fI : wI Df = ib := by unfold wI; rw [f0, if_pos rfl, pu_nn]
                  have hib64 : ib < 64 := by
                    rw [hib]
                    exact withB_lt (n := 6) d5.2 (by omega)
                  refine ⟨_, _, rfl, rfl, Or.inl ⟨tb + 1, by omega, kb, N', nn + 1, Df, ⟨t5, KO_up hok tb3 (by omega) t5⟩, ⟨l3, CW_k i4 (fun o ho => st_ob (by omega)), NCk_s i5 (fun o _ _ => st_ob (by omega)) (st_nk (by omega))⟩, ⟨RCp_o w2' (by omega) nk5 _, by rw [← hN']; exact NRk_s w3 (fun o _ _ => st_ob (by omega)) (by rw [st_ob (by omega)]), ?_⟩, ⟨?_, hNk', ?_⟩, fun q => ?_⟩⟩
                  · unfold CNT
                    rw [f0 0, f0 1, f0 2, f0 3, st_same, st_ob (show 111 ≠ 115 by omega), st_ob (show 112 ≠ 115 by omega), st_ob (show 120 ≠ 115 by omega), w4 111 (by omega) (by omega), w4 112 (by omega) (by omega), w4 120 (by omega) (by omega), o7 111 (by omega) (by omega), o7 112 (by omega) (by omega), o7 120 (by omega) (by omega)]
                    exact ⟨hcn.1, hcn.2.1, rfl, hcn.2.2.2⟩
                  · unfold DW0
                    rw [fU, fE, fG, fF, fI, fH, f8, f0 0, f0 1, f0 2, f0 3, f0 5]
                    exact ⟨⟨⟨d0, d0'⟩, ⟨d1, d1'⟩, ⟨rfl, by omega⟩, ⟨d3, d3'⟩⟩, ⟨rfl, hib64⟩, s7⟩
                  · rw [← hN']
                    refine NB_add hnb (by rw [fU]; omega) (by rw [fE]; omega) (by rw [fG]; omega) ?_ ?_ ?_ ?_
                    · rw [fU, fE, fG, fF]; have := hnb.1; omega
                    · exact fun q => absurd q (by decide : ¬ (2 : Nat) = 0)
                    · exact fun q => absurd q (by decide : ¬ (2 : Nat) = 1)
                    · intro _
                      rw [fG]
                      exact Nat.lt_succ_self _
                  · obtain ⟨r1, r2⟩ := i10 q
                    obtain ⟨r3, r4⟩ := e10 r1
                    have hj1 : ¬ j = -1 := fun e => by
                      rw [if_pos e] at hks4
                      rw [← hks4] at r3
                      exact keepA_ne ks1 (by decide) _ r3
                    rw [if_neg hj1] at hks4
                    rw [← hks4, ← hks1] at r3
                    obtain ⟨m1, m2, m3⟩ := hdK_0 r3
                    obtain ⟨g1', g2'⟩ := hgood m1
                    have hnd : ND (nadd N nn (tW T (t + 1), 2, wG D)) (nn + 1) := ND_add g1' m2
                    refine ⟨by rw [← hN']; exact hnd, ?_⟩
                    rcases u3 with u3 | ⟨k, k1, k2, k3', k4, k5⟩
                    · exact absurd u3 hj1
                    · have nb := (hnb.2 k k1).1 k4
                      have c1' := num_some hnd k1 k3' 0
                      rw [hN', hx1, if_pos k4] at c1'
                      obtain ⟨x1a, x1b⟩ := s8 _ c1'
                      generalize hun : (N k).2.2 = u at nb k5 x1a x1b
                      obtain ⟨_, hfr, _⟩ := id g2'
                      have hwf := g2'.1
                      have fz := hfr.2.1 (wG D) (Nat.le_refl _) h6
                      have hz8 : wH D (8 + wG D) = 0 := by
                        obtain ⟨z1, z2, z3⟩ := wf_has hwf (8 + wG D) (by omega)
                        apply Nat.eq_of_testBit_eq
                        intro i
                        rw [Nat.zero_testBit, ← Bool.not_eq_true]
                        intro hb
                        have hi7 : i < 7 := by
                          have := tb_in z2 hb
                          omega
                        exact (z3 i hi7).mp hb (fz.1 i hi7)
                      have hva : ∃ n4 : Nat, n4 ≤ 3 ∧ va = (n4 : Int) ∧ va' = (n4 : Int) := by
                        rcases r4 with ⟨y1, y2⟩ | ⟨n, y1, y2, y3⟩
                        · refine ⟨0, by omega, ?_, ?_⟩
                          · rw [y1, s5 4 (by omega) (by omega) (by omega)]
                            exact fz.2.1
                          · rw [y2, p6, if_pos rfl]
                            rfl
                        · exact ⟨n, y1, y2, y3⟩
                      have hvb : ∃ n5 : Nat, n5 ≤ 100 ∧ vb = (n5 : Int) ∧ vb' = (n5 : Int) := by
                        rcases r2 with ⟨y1, y2⟩ | ⟨n, y1, y2, y3⟩
                        · refine ⟨1, by omega, ?_, ?_⟩
                          · rw [y1, st_ob (by omega), s5 5 (by omega) (by omega) (by omega)]
                            exact fz.2.2
                          · rw [y2, e7 118 (by omega) (by omega), p7, if_pos rfl]
                            rfl
                        · exact ⟨n, y1, y2, y3⟩
                      obtain ⟨n4, n41, n42, n43⟩ := hva
                      obtain ⟨n5, n51, n52, n53⟩ := hvb
                      have hGS : GS D Df u ib n4 n5 := by
                        refine ⟨f0, fun k => ?_, fun r => ?_, fun k => ?_, fun k => ?_, fun j hj => ?_⟩
                        · rw [← hDf, st_ob (by omega), st_ob (by omega)]
                          exact x1a k
                        · rw [f8, x1b, hz8, Nat.zero_or]
                        · rw [← hDf, st_ob (by omega), st_if, s5 4 (by omega) (by omega) (by omega), n42]
                        · rw [← hDf, st_if, st_ob (by omega), s5 5 (by omega) (by omega) (by omega), n52]
                        · rw [← hDf, st_ob (by omega), st_ob (by omega)]
                          exact s5 j (by omega) (by omega) (by omega)
                      have hI2 : wI D < 2 ^ wG D := (wf_I hwf).2
                      refine g_GD hGS g2' h6 nb ?_ n41 n51 (by omega) ?_ (fun o k h1 h2 h3 => ?_) ?_ (fun g hg => ?_)
                      · rw [hib]
                        exact withB_lt (Nat.lt_of_lt_of_le hI2 (Nat.pow_le_pow_right (by omega) (by omega))) (by omega)
                      · rw [st_ob (show 113 ≠ 115 by omega), st_ob (show 114 ≠ 115 by omega), st_ob (show 121 ≠ 115 by omega), w4 113 (by omega) (by omega), w4 114 (by omega) (by omega), w4 121 (by omega) (by omega), o7 113 (by omega) (by omega), o7 114 (by omega) (by omega), o7 121 (by omega) (by omega)]
                        exact ⟨rfl, rfl, rfl⟩
                      · rw [hix] at h3
                        rw [st_ob (by omega), w4 o (by omega) (by omega), ← hA8, st_ob (by omega)]
                        have hc : o = 116 ∨ o = 117 ∨ o = 118 ∨ o = 119 := by omega
                        rcases hc with rfl | rfl | rfl | rfl
                        · rw [i7 116 (by omega) (by omega), e7 116 (by omega) (by omega), p5, if_neg h3]
                        · rw [i7 117 (by omega) (by omega), e8, if_neg h3, p6, if_neg h3]
                        · rw [i8, if_neg h3, e7 118 (by omega) (by omega), p7, if_neg h3]
                        · rw [i7 119 (by omega) (by omega), e7 119 (by omega) (by omega), p8, if_neg h3]
                      · rw [hix, st_ob (show 116 ≠ 115 by omega), st_ob (show 117 ≠ 115 by omega), st_ob (show 118 ≠ 115 by omega), st_ob (show 119 ≠ 115 by omega), w4 116 (by omega) (by omega), w4 117 (by omega) (by omega), w4 118 (by omega) (by omega), w4 119 (by omega) (by omega), ← hA8, st_ob (show 116 ≠ 100 by omega), st_ob (show 117 ≠ 100 by omega), st_ob (show 118 ≠ 100 by omega), st_ob (show 119 ≠ 100 by omega), i7 116 (by omega) (by omega), e7 116 (by omega) (by omega), p5, if_pos rfl, i7 117 (by omega) (by omega), e8, if_pos rfl, i8, if_pos rfl, i7 119 (by omega) (by omega), e7 119 (by omega) (by omega), p8, if_pos rfl, hib, withB_tb, if_pos rfl]
                        refine ⟨k5, n43, n53, ?_⟩
                        by_cases z : kd = 8
                        · rw [if_pos z, if_pos z]
                          exact ⟨fun q => absurd q (by decide), fun q => absurd q (by decide)⟩
                        · rw [if_neg z, if_neg z]
                          exact ⟨fun _ => by decide, fun _ => rfl⟩
                      · rw [hib, withB_tb, if_neg (by omega)]
                · rw [l1] at q1
                  cases q1
              · rcases y_must i6 hok tb2 13 (by omega) (x := 4) rfl with ⟨q1, _⟩ | ⟨f', A8, q1, q2, q3, q4⟩
                · rw [l1] at q1
                  cases q1
                · rw [l1] at q1
                  cases q1
                  rw [l2, bI_some, q2, bV_none, if_neg (RFp_le q3)]
                  exact ⟨_, _, rfl, rfl, Or.inr ⟨f, l3, q3⟩⟩
            · rw [i1, bI_some, if_pos rfl, i3]
              exact ⟨_, _, rfl, rfl, Or.inr ⟨f, i2, i4⟩⟩
          · rw [e1, bI_some, if_pos rfl, e3]
            exact ⟨_, _, rfl, rfl, Or.inr ⟨f, e2, e4⟩⟩
        · rw [c1] at g0
          cases g0
      · rcases y_known b3 hok t3 hN3 hNk (by omega) hks3 (a := 0) (b := 0) (x := 0) (y := 0) rfl rfl with ⟨g0, _⟩ | ⟨f', A4, g0, g1, g2, g3⟩
        · rw [c1] at g0
          cases g0
        · rw [c1] at g0
          cases g0
          rw [c2, bI_some, if_neg (show ¬ ¬ (0 : Int) = 0 from fun q => q rfl), g1, bI_some, if_neg (show ¬ ¬ (-1 : Int) = -1 from fun q => q rfl), if_pos ri, if_pos ri, if_pos ri, pu_nn, gNoise_f (f3 g2 0 0 1)]
          exact ⟨_, _, rfl, rfl, Or.inr ⟨f, c3, f3 g2 0 0 1⟩⟩
    · rw [a1] at b1
      cases b1
  · rcases y_must hR hok t2 9 (by omega) (x := 25) rfl with ⟨b1, _⟩ | ⟨f', A3, b1, b2, b3, b4⟩
    · rw [a1] at b1
      cases b1
    · rw [a1] at b1
      cases b1
      rw [a2, bI_some, if_pos rfl, b2, bV_none, if_neg (RFp_le b3), if_pos ri, if_pos ri, if_pos ri, pu_nn, gNoise_f (f3 b3 0 0 1)]
      exact ⟨_, _, rfl, rfl, Or.inr ⟨f, a3, f3 b3 0 0 1⟩⟩
end TG
