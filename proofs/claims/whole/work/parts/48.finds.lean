/-! The reference's search for a matching. -/
/-- the search's state: top of the stack, what is seen, who asks, what is asked; m the matching -/
def FJ (H : Nat → Nat) (wo U i : Nat) (m : Nat → Int) (top : Nat) (sn ar ad : Nat → Int) : Prop :=
  top ≤ 7 ∧ ar 0 = (i : Int) ∧
  (∀ k, k < top → ∃ a : Nat, ad k = (a : Int) ∧ a < U ∧ sn a ≠ 0 ∧ (H (ar k).toNat).testBit a = true ∧ wo.testBit a = false ∧ m a ≠ -1 ∧ ar (k + 1) = m a) ∧
  (∀ k l, k < top → l < top → ad k = ad l → k = l) ∧
  (-1 ≤ ad top ∧ ad top < (U : Int)) ∧
  (∀ k, k ≤ top → ∀ u : Nat, u < U → (u : Int) ≤ ad k → (H (ar k).toNat).testBit u = true → sn u ≠ 0) ∧
  (∀ u : Nat, u < U → sn u = 0 ∨ wo.testBit u = true ∨ (m u ≠ -1 ∧ ((∃ k, k < top ∧ ad k = (u : Int)) ∨ ∀ v : Nat, v < U → (H (m u).toNat).testBit v = true → sn v ≠ 0))) ∧
  (∀ u : Nat, u < U → wo.testBit u = true → sn u ≠ 0)
/-- nothing found: what is seen is closed -/
def FC (H : Nat → Nat) (wo i : Nat) (m : Nat → Int) : Prop := ∃ V : Nat, (∀ u, V.testBit u = true → u < 7 ∧ m u ≠ -1 ∧ ∀ v, (H (m u).toNat).testBit v = true → wo.testBit v = false → V.testBit v = true) ∧ ∀ v, (H i).testBit v = true → wo.testBit v = false → V.testBit v = true
def FQ (H : Nat → Nat) (wo i R : Nat) (M0 : mM) (o : Option mR) : Prop :=
  ∃ (b : Bool) (M' : mM), o = some (iv (if b = true then 1 else 0), M') ∧ (∀ o', (o' < 123 ∨ 126 < o') → M' o' = M0 o') ∧
  (b = true → VM H wo (R ||| 2 ^ i) (M' 123) ∧ pop 7 (Dm (M' 123)) = pop 7 (Dm (M0 123)) + 1) ∧ (b = false → M' 123 = M0 123 ∧ FC H wo i (M0 123))
/-- no more to ask at the top: one less -/
theorem FJ_pop {H : Nat → Nat} {wo U i : Nat} {m : Nat → Int} {top : Nat} {sn ar ad ad' : Nat → Int} (h : FJ H wo U i m (top + 1) sn ar ad) (hc : ∀ v : Nat, v < U → (H (ar (top + 1)).toNat).testBit v = true → sn v ≠ 0) (had : ∀ k, k ≤ top → ad' k = ad k) : FJ H wo U i m top sn ar ad' := by
  obtain ⟨h1, h2, h3, h4, h5, h6, h7, h8⟩ := h
  obtain ⟨a, a1, a2, a3, a4, a5, a6, a7⟩ := h3 top (by omega)
  refine ⟨by omega, h2, fun k hk => by rw [had k (by omega)]; exact h3 k (by omega), fun k l hk hl => by rw [had k (by omega), had l (by omega)]; exact h4 k l (by omega) (by omega), ⟨by rw [had top (by omega)]; omega, by rw [had top (by omega)]; omega⟩, fun k hk => by rw [had k hk]; exact h6 k (by omega), fun u hu => ?_, h8⟩
  rcases h7 u hu with q | q | ⟨q1, q2⟩
  · exact Or.inl q
  · exact Or.inr (Or.inl q)
  · refine Or.inr (Or.inr ⟨q1, ?_⟩)
    rcases q2 with ⟨k, k1, k2⟩ | q2
    · by_cases e : k = top
      · refine Or.inr ?_
        rw [e, a1] at k2
        have : a = u := by omega
        rw [← this, ← a7]
        exact hc
      · exact Or.inl ⟨k, by omega, by rw [had k (by omega)]; exact k2⟩
    · exact Or.inr q2
/-- asked one more, which is seen or not had -/
theorem FJ_next {H : Nat → Nat} {wo U i : Nat} {m : Nat → Int} {top u : Nat} {sn ar ad ad' : Nat → Int} (h : FJ H wo U i m top sn ar ad) (hu : ad top + 1 = (u : Int)) (huU : u < U) (hc : (H (ar top).toNat).testBit u = true → sn u ≠ 0) (had : ∀ k, k ≠ top → ad' k = ad k) (hat : ad' top = (u : Int)) : FJ H wo U i m top sn ar ad' := by
  obtain ⟨h1, h2, h3, h4, h5, h6, h7, h8⟩ := h
  refine ⟨h1, h2, fun k hk => by rw [had k (by omega)]; exact h3 k hk, fun k l hk hl => by rw [had k (by omega), had l (by omega)]; exact h4 k l hk hl, ⟨by omega, by omega⟩, fun k hk v hv hvk hb => ?_, fun v hv => ?_, h8⟩
  · by_cases e : k = top
    · subst e
      rw [hat] at hvk
      by_cases e2 : v = u
      · subst e2; exact hc hb
      · exact h6 k hk v hv (by omega) hb
    · rw [had k e] at hvk
      exact h6 k hk v hv hvk hb
  · rcases h7 v hv with q | q | ⟨q1, q2⟩
    · exact Or.inl q
    · exact Or.inr (Or.inl q)
    · refine Or.inr (Or.inr ⟨q1, ?_⟩)
      rcases q2 with ⟨k, k1, k2⟩ | q2
      · exact Or.inl ⟨k, k1, by rw [had k (by omega)]; exact k2⟩
      · exact Or.inr q2
/-- on to the row that has it -/
theorem FJ_push {H : Nat → Nat} {wo U i : Nat} {m : Nat → Int} {top u : Nat} {sn ar ad sn' ar' ad' : Nat → Int} (hU : U ≤ 7) (h : FJ H wo U i m top sn ar ad) (hu : ad top + 1 = (u : Int)) (huU : u < U) (hs0 : sn u = 0) (hb : (H (ar top).toNat).testBit u = true) (hm : m u ≠ -1)
    (hs1 : sn' u ≠ 0) (hs2 : ∀ v, v ≠ u → sn' v = sn v) (ha1 : ar' (top + 1) = m u) (ha2 : ∀ k, k ≠ top + 1 → ar' k = ar k) (hd1 : ad' top = (u : Int)) (hd2 : ad' (top + 1) = -1) (hd3 : ∀ k, k < top → ad' k = ad k) : FJ H wo U i m (top + 1) sn' ar' ad' := by
  obtain ⟨h1, h2, h3, h4, h5, h6, h7, h8⟩ := h
  have hsm : ∀ v, sn v ≠ 0 → sn' v ≠ 0 := by
    intro v hv
    by_cases e : v = u
    · rw [e]; exact hs1
    · rw [hs2 v e]; exact hv
  have hw : wo.testBit u = false := by
    rw [← tb_not]
    exact fun z => h8 u huU z hs0
  have hne : ∀ k, k < top → ad k ≠ (u : Int) := by
    intro k hk e
    obtain ⟨a, a1, a2, a3, _⟩ := h3 k hk
    rw [e] at a1
    have : a = u := by omega
    rw [this] at a3
    exact a3 hs0
  have hinj : ∀ k l, k < top + 1 → l < top + 1 → ad' k = ad' l → k = l := by
    intro k l hk hl e
    by_cases e1 : k = top
    · by_cases e2 : l = top
      · omega
      · rw [e1, hd1, hd3 l (by omega)] at e
        exact absurd e.symm (hne l (by omega))
    · by_cases e2 : l = top
      · rw [e2, hd1, hd3 k (by omega)] at e
        exact absurd e (hne k (by omega))
      · rw [hd3 k (by omega), hd3 l (by omega)] at e
        exact h4 k l (by omega) (by omega) e
  have hnat : ∀ k, k < top + 1 → ∃ a : Nat, ad' k = (a : Int) ∧ a < U := by
    intro k hk
    by_cases e1 : k = top
    · exact ⟨u, by rw [e1, hd1], huU⟩
    · obtain ⟨a, a1, a2, _⟩ := h3 k (by omega)
      exact ⟨a, by rw [hd3 k (by omega), a1], a2⟩
  have hlen : top + 1 ≤ U := by
    refine nat_inj (f := fun k => (ad' k).toNat) (fun k hk => ?_) (fun k l hk hl e => ?_)
    · obtain ⟨a, a1, a2⟩ := hnat k hk
      show (ad' k).toNat < U
      rw [a1, pu_nn]
      exact a2
    · obtain ⟨a, a1, a2⟩ := hnat k hk
      obtain ⟨b, b1, b2⟩ := hnat l hl
      have e : (ad' k).toNat = (ad' l).toNat := e
      rw [a1, b1, pu_nn, pu_nn] at e
      exact hinj k l hk hl (by rw [a1, b1, e])
  refine ⟨by omega, by rw [ha2 0 (by omega)]; exact h2, fun k hk => ?_, hinj, ⟨by omega, by omega⟩, fun k hk v hv hvk hbv => ?_, fun v hv => ?_, fun v hv hwv => hsm v (h8 v hv hwv)⟩
  · by_cases e : k = top
    · subst e
      exact ⟨u, hd1, huU, hs1, by rw [ha2 k (by omega)]; exact hb, hw, hm, ha1⟩
    · obtain ⟨a, a1, a2, a3, a4, a5, a6, a7⟩ := h3 k (by omega)
      exact ⟨a, by rw [hd3 k (by omega), a1], a2, hsm a a3, by rw [ha2 k (by omega)]; exact a4, a5, a6, by rw [ha2 (k + 1) (by omega)]; exact a7⟩
  · by_cases e : k = top + 1
    · rw [e, hd2] at hvk
      omega
    · rw [ha2 k e] at hbv
      by_cases e1 : k = top
      · subst e1
        rw [hd1] at hvk
        by_cases e2 : v = u
        · rw [e2]; exact hs1
        · exact hsm v (h6 k (by omega) v hv (by omega) hbv)
      · rw [hd3 k (by omega)] at hvk
        exact hsm v (h6 k (by omega) v hv hvk hbv)
  · by_cases e : v = u
    · subst e
      exact Or.inr (Or.inr ⟨hm, Or.inl ⟨top, by omega, hd1⟩⟩)
    · rcases h7 v hv with q | q | ⟨q1, q2⟩
      · exact Or.inl (by rw [hs2 v e]; exact q)
      · exact Or.inr (Or.inl q)
      · refine Or.inr (Or.inr ⟨q1, ?_⟩)
        rcases q2 with ⟨k, k1, k2⟩ | q2
        · exact Or.inl ⟨k, by omega, by rw [hd3 k k1]; exact k2⟩
        · exact Or.inr (fun w hw1 hw2 => hsm w (q2 w hw1 hw2))
theorem FJ_fail {H : Nat → Nat} {wo U i : Nat} {m : Nat → Int} {sn ar ad : Nat → Int} (hH : ∀ r, H r < 2 ^ U) (hU : U ≤ 7) (h : FJ H wo U i m 0 sn ar ad) (hc : ∀ v : Nat, v < U → (H (ar 0).toNat).testBit v = true → sn v ≠ 0) : FC H wo i m := by
  obtain ⟨h1, h2, h3, h4, h5, h6, h7, h8⟩ := h
  have tb : ∀ v, (bset (fun u => decide (u < U) && (decide (sn u ≠ 0) && !wo.testBit u)) 7).testBit v = true ↔ v < U ∧ sn v ≠ 0 ∧ wo.testBit v = false := by
    intro v
    rw [bset_tb, Bool.and_eq_true, Bool.and_eq_true, Bool.and_eq_true, decide_eq_true_iff, decide_eq_true_iff, decide_eq_true_iff, Bool.not_eq_true']
    constructor
    · rintro ⟨_, b⟩; exact b
    · rintro ⟨b, c⟩; exact ⟨by omega, b, c⟩
  refine ⟨bset (fun u => decide (u < U) && (decide (sn u ≠ 0) && !wo.testBit u)) 7, fun u hu => ?_, fun v hv hw => ?_⟩
  · obtain ⟨q1, q2, q3⟩ := (tb u).mp hu
    rcases h7 u q1 with q | q | ⟨q4, q5⟩
    · exact absurd q q2
    · rw [q3] at q; cases q
    · refine ⟨by omega, q4, fun v hv hw => (tb v).mpr ?_⟩
      have hvU := tb_in (hH _) hv
      rcases q5 with ⟨k, k1, _⟩ | q5
      · omega
      · exact ⟨hvU, q5 v hvU hv, hw⟩
  · have hvU := tb_in (hH _) hv
    refine (tb v).mpr ⟨hvU, hc v hvU ?_, hw⟩
    rw [h2, pu_nn]
    exact hv
theorem nsum_split (f : Nat → Nat) (k : Nat) : nsum f (k + 1) = nsum f k + f k := rfl
section FS
variable {lv : Nat} {W M0 : mM}
/-- the measure -/
def snc (f : Nat → Int) : Nat := pop 7 (bset (fun u => decide (f u ≠ 0)) 7)
def rst (U : Nat) (ad : Nat → Int) (n : Nat) : Nat := nsum (fun k => ((U : Int) - ad k).toNat) n
theorem rst_succ (U : Nat) (ad : Nat → Int) (n : Nat) : rst U ad (n + 1) = rst U ad n + ((U : Int) - ad n).toNat := rfl
theorem rst_congr {U : Nat} {f g : Nat → Int} {n : Nat} (h : ∀ k, k < n → f k = g k) : rst U f n = rst U g n := nsum_congr n (fun k hk => by
  show ((U : Int) - f k).toNat = ((U : Int) - g k).toNat
  rw [h k hk])
def Fmu (U : Nat) (s : Nat × mM) : Nat := 10 * (7 - snc (s.2 124)) + rst U (s.2 126) (s.1 + 1)
def FI (lv : Nat) (W M0 : mM) (wo i : Nat) (s : Nat × mM) : Prop := (∀ o, (o < 124 ∨ 126 < o) → s.2 o = M0 o) ∧ FJ (wH W) wo (wU W) i (M0 123) s.1 (s.2 124) (s.2 125) (s.2 126)
/-- flipping -/
theorem r_flip {top : Nat} {a ar : Nat → Nat} (M : mM) (ht : top ≤ 7) (ha : ∀ k, k ≤ top → M 126 k = (a k : Int) ∧ a k < 8) (har : ∀ k, k ≤ top → M 125 k = (ar k : Int)) (hinj : ∀ k l, k ≤ top → l ≤ top → a k = a l → k = l) : ∃ M', gA 216 138 [rv 11 100, none, none, none, none, iv (top : Int)] [] M = some (iv 1, M') ∧ (∀ o, o ≠ 123 → M' o = M o) ∧ (∀ k, k ≤ top → M' 123 (a k) = (ar k : Int)) ∧ (∀ u, (∀ k, k ≤ top → u ≠ a k) → M' 123 u = M 123 u) := by
  have key := pu_rel (S := mM) (G := fun i M' => gA 216 138 [rv 11 100, none, none, none, none, iv ((top : Int) - (i : Int))] [] M') (I := fun i M' => (∀ o, o ≠ 123 → M' o = M o) ∧ (∀ k, k ≤ top → top < k + i → M' 123 (a k) = (ar k : Int)) ∧ (∀ u, (∀ k, k ≤ top → u ≠ a k) → M' 123 u = M 123 u)) (top + 1) (fun i M' hi hI => by
    obtain ⟨i1, i2, i3⟩ := hI
    obtain ⟨a1, a2⟩ := ha (top - i) (by omega)
    refine ⟨st M' 123 (a (top - i)) (ar (top - i)), ⟨fun o ho => ?_, fun k hk hki => ?_, fun u hu => ?_⟩, ?_⟩
    · rw [st_ob ho]; exact i1 o ho
    · rw [st_if]
      by_cases e : k = top - i
      · rw [e, if_pos rfl]
      · rw [if_neg (fun z => e (hinj k (top - i) hk (by omega) z))]
        exact i2 k hk (by omega)
    · rw [st_if, if_neg (hu (top - i) (by omega))]
      exact i3 u hu
    · try dsimp only
      have e : ((top : Int) - (i : Int)) = ((top - i : Nat) : Int) := by omega
      rw [s_GaugeNetModel_finds_138, if_neg (by omega), if_pos (by omega), if_pos (by omega), e, pu_nn, i1 126 (by omega), a1, if_pos (by omega), pu_nn, i1 125 (by omega), har (top - i) (by omega), pu_w32 (by omega) (by omega), show ((top - i : Nat) : Int) + -1 = (top : Int) - ((i + 1 : Nat) : Int) by omega]) 0 M (by omega) ⟨fun _ _ => rfl, fun k hk hki => by omega, fun _ _ => rfl⟩
  obtain ⟨M', ⟨h1, h2, h3⟩, h4⟩ := key
  refine ⟨M', ?_, h1, fun k hk => h2 k hk (by omega), h3⟩
  try dsimp only at h4
  rw [show (top : Int) - ((0 : Nat) : Int) = (top : Int) by omega] at h4
  rw [h4, s_GaugeNetModel_finds_138, if_pos (by omega)]
theorem told_row {r : Nat} (hq : (told W).testBit r = true) : isRw W r = true := by
  rw [told_tb, Bool.and_eq_true] at hq
  exact hq.2
theorem r_finds_loop (hr : RW lv W M0) (h : WF W) {i R : Nat} {x : Int} (hiw : isRw W i = true) (hR : sbs R (told W)) (hRi : R.testBit i = false) (hv : VM (wH W) (woB x) R (M0 123)) : ∀ s, FI lv W M0 (woB x) i s → FQ (wH W) (woB x) i R M0 (gA 216 46 [rv 11 100, none, none, iv (s.1 : Int), none, none] [] s.2) := by
  refine pu_wf (Fmu (wU W)) (fun s hs => ?_)
  obtain ⟨top, M⟩ := s
  obtain ⟨hf, hJ⟩ := hs
  dsimp only at hf hJ ⊢
  have hU := (wf_U h).2
  have hlv := rw_lv hr
  have hJ' := hJ
  obtain ⟨j1, j2, j3, j4, j5, j6, j7, j8⟩ := hJ
  have hrow : ∀ k, k ≤ top → ∃ r : Nat, M 125 k = (r : Int) ∧ isRw W r = true := by
    intro k hk
    cases k with
    | zero => exact ⟨i, j2, hiw⟩
    | succ k =>
      obtain ⟨a, a1, a2, a3, a4, a5, a6, a7⟩ := j3 k (by omega)
      rcases hv.1 a (by omega) with q | ⟨r, r1, r2, _⟩
      · exact absurd q a6
      · exact ⟨r, by rw [a7, r1], told_row (hR r r2)⟩
  obtain ⟨u, hu⟩ : ∃ u : Nat, M 126 top + 1 = (u : Int) := ⟨(M 126 top + 1).toNat, by omega⟩
  have hz : w32 (M 126 top + 1) = (u : Int) := by rw [pu_w32 (by omega) (by omega), hu]
  obtain ⟨r, r1, r2⟩ := hrow top (Nat.le_refl _)
  rw [s_GaugeNetModel_finds_46, if_neg (by omega)]
  simp only [pu_nn, hz]
  generalize hM1 : st M 126 top (u : Int) = M1
  have m1 : M1 126 top = (u : Int) := by rw [← hM1, st_same]
  have m2 : ∀ o, o ≠ 126 → M1 o = M o := fun o ho => by rw [← hM1, st_ob ho]
  have m3 : ∀ k, k ≠ top → M1 126 k = M 126 k := fun k hk => by rw [← hM1, st_nk hk]
  have mf : ∀ o, (o < 124 ∨ 126 < o) → M1 o = M0 o := fun o ho => by rw [m2 o (by omega), hf o ho]
  have hlive : M1 100 18 = (lv : Int) := by rw [mf 100 (by omega)]; exact rw_live hr
  have hlU : M1 111 lv = (wU W : Int) := by rw [mf 111 (by omega), rw_U hr, (wf_U h).1]
  have e124 : M1 124 = M 124 := m2 124 (by omega)
  have hrst : ∀ n, n ≤ top → rst (wU W) (M1 126) n = rst (wU W) (M 126) n := fun n hn => rst_congr (fun k hk => m3 k (by omega))
  have hmu : M 126 top = (u : Int) - 1 := by omega
  rw [if_pos (by omega), if_pos (by omega), if_pos (by omega), hlive, if_pos (by omega), m1]
  simp only [pu_nn]
  rw [hlU]
  by_cases hend : u = wU W
  · rw [if_neg (by omega)]
    have hc : ∀ v : Nat, v < wU W → (wH W (M 125 top).toNat).testBit v = true → M 124 v ≠ 0 := fun v hvU hb => j6 top (Nat.le_refl _) v hvU (by omega) hb
    cases top with
    | zero =>
      refine Or.inl ?_
      rw [pu_w32 (by omega) (by omega), s_GaugeNetModel_finds_46, if_pos (by omega)]
      refine ⟨false, M1, rfl, fun o ho => mf o (by omega), fun z => (by cases z), fun _ => ⟨mf 123 (by omega), FJ_fail (wH_lt h) hU hJ' hc⟩⟩
    | succ t =>
      refine Or.inr ⟨(t, M1), ⟨mf, ?_⟩, ?_, ?_⟩
      · show FJ _ _ _ _ _ t (M1 124) (M1 125) (M1 126)
        rw [m2 124 (by omega), m2 125 (by omega)]
        exact FJ_pop hJ' hc (fun k hk => m3 k (by omega))
      · unfold Fmu
        try dsimp only
        rw [e124, hrst (t + 1) (by omega), rst_succ _ _ (t + 1), hmu]
        omega
      · try dsimp only
        rw [pu_w32 (by omega) (by omega), show ((t + 1 : Nat) : Int) + -1 = (t : Int) by omega]
  · rw [if_pos (by omega), if_pos (by omega)]
    have huU : u < wU W := by omega
    have next : ((wH W (M 125 top).toNat).testBit u = true → M 124 u ≠ 0) → ∃ s', FI lv W M0 (woB x) i s' ∧ Fmu (wU W) s' < Fmu (wU W) (top, M) ∧ gA 216 46 [rv 11 100, none, none, iv (top : Int), none, none] [] M1 = gA 216 46 [rv 11 100, none, none, iv (s'.1 : Int), none, none] [] s'.2 := by
      intro hc
      refine ⟨(top, M1), ⟨mf, ?_⟩, ?_, rfl⟩
      · show FJ _ _ _ _ _ top (M1 124) (M1 125) (M1 126)
        rw [m2 124 (by omega), m2 125 (by omega)]
        exact FJ_next hJ' hu huU hc m3 m1
      · unfold Fmu
        try dsimp only
        rw [e124, rst_succ, rst_succ, hrst top (Nat.le_refl _), m1, hmu]
        omega
    by_cases hseen : M1 124 u = 0
    · rw [if_neg (fun z => z hseen), if_pos (by omega)]
      have hRW1 : RW lv W M1 := RW_k hr ⟨fun o _ ho => mf o (by omega), fun k _ => by rw [mf 100 (by omega)]⟩
      rw [m2 125 (by omega), r1, r_has hRW1 h r2 huU, bI_some]
      by_cases hb : (wH W r).testBit u = true
      · rw [if_pos hb, if_pos (by decide), if_pos (by omega), if_pos (by omega)]
        have hs0 : M 124 u = 0 := by rw [← m2 124 (by omega)]; exact hseen
        have hb' : (wH W (M 125 top).toNat).testBit u = true := by rw [r1, pu_nn]; exact hb
        rw [st_ob (show 123 ≠ 124 by omega), mf 123 (by omega)]
        by_cases hmu0 : M0 123 u = -1
        · rw [if_neg (fun z => z hmu0)]
          refine Or.inl ?_
          have hw : (woB x).testBit u = false := by
            rw [← tb_not]
            exact fun z => j8 u huU z hs0
          -- the way
          have hne : ∀ k, k < top → M 126 k ≠ (u : Int) := by
            intro k hk e
            obtain ⟨a, a1, a2, a3, _⟩ := j3 k hk
            rw [e] at a1
            have : a = u := by omega
            rw [this] at a3
            exact a3 hs0
          have hA : ∀ k, k ≤ top → ∃ a : Nat, M1 126 k = (a : Int) ∧ a < wU W ∧ (wH W (M 125 k).toNat).testBit a = true ∧ (woB x).testBit a = false ∧ (k < top → M 126 k = (a : Int) ∧ M0 123 a = M 125 (k + 1)) ∧ (k = top → a = u) := by
            intro k hk
            by_cases e : k = top
            · refine ⟨u, by rw [e, m1], huU, by rw [e]; exact hb', hw, fun z => by omega, fun _ => rfl⟩
            · obtain ⟨a, a1, a2, a3, a4, a5, a6, a7⟩ := j3 k (by omega)
              exact ⟨a, by rw [m3 k e, a1], a2, a4, a5, fun _ => ⟨a1, a7.symm⟩, fun z => absurd z e⟩
          have aN : ∀ k, k ≤ top → M1 126 k = (((M1 126 k).toNat : Nat) : Int) := fun k hk => by
            obtain ⟨a, a1, _⟩ := hA k hk
            rw [a1, pu_nn]
          have rN : ∀ k, k ≤ top → M 125 k = (((M 125 k).toNat : Nat) : Int) := fun k hk => by
            obtain ⟨q, q1, _⟩ := hrow k hk
            rw [q1, pu_nn]
          have inj : ∀ k l, k ≤ top → l ≤ top → (M1 126 k).toNat = (M1 126 l).toNat → k = l := by
            intro k l hk hl e
            have e2 : M1 126 k = M1 126 l := by rw [aN k hk, aN l hl, e]
            by_cases e1 : k = top
            · by_cases e3 : l = top
              · omega
              · rw [e1, m1, m3 l e3] at e2
                exact absurd e2.symm (hne l (by omega))
            · by_cases e3 : l = top
              · rw [e3, m1, m3 k e1] at e2
                exact absurd e2 (hne k (by omega))
              · rw [m3 k e1, m3 l e3] at e2
                exact j4 k l (by omega) (by omega) e2
          generalize hM2 : st M1 124 u 1 = M2
          have n1 : ∀ o, o ≠ 124 → M2 o = M1 o := fun o ho => by rw [← hM2, st_ob ho]
          obtain ⟨M', f1, f2, f3, f4⟩ := r_flip (top := top) (a := fun k => (M1 126 k).toNat) (ar := fun k => (M 125 k).toNat) M2 j1 (fun k hk => by
            obtain ⟨a, a1, a2, _⟩ := hA k hk
            try dsimp only
            rw [n1 126 (by omega), a1, pu_nn]
            exact ⟨rfl, by omega⟩) (fun k hk => by
            try dsimp only
            rw [n1 125 (by omega), m2 125 (by omega)]
            exact rN k hk) inj
          have n3 : M2 123 = M0 123 := by rw [n1 123 (by omega), mf 123 (by omega)]
          obtain ⟨g1, g2⟩ := augment (H := wH W) (wo := woB x) (R := R) (i := i) (top := top) (m := M0 123) (m' := M' 123) (a := fun k => (M1 126 k).toNat) (ar := fun k => (M 125 k).toNat) hv hRi (fun k hk => by
            obtain ⟨a, a1, a2, a3, a4, _⟩ := hA k hk
            try dsimp only
            rw [a1, pu_nn]
            exact ⟨by omega, a3, a4⟩) (by (try dsimp only); rw [j2, pu_nn]) (fun k hk => by
            obtain ⟨a, a1, _, _, _, a5, _⟩ := hA k (by omega)
            try dsimp only
            rw [a1, pu_nn, (a5 hk).2]
            exact rN (k + 1) (by omega)) (by (try dsimp only); rw [m1, pu_nn]; exact hmu0) inj (fun k hk => f3 k hk) (fun v _ hv2 => by rw [f4 v hv2, n3])
          refine ⟨true, M', f1, fun o ho => ?_, fun _ => ⟨g1, g2⟩, fun z => (by cases z)⟩
          rw [f2 o (by omega), n1 o (by omega), mf o (by omega)]
        · rw [if_pos hmu0, if_pos (by omega)]
          rw [pu_inc (show top < 2147483647 by omega), if_pos (by omega), if_pos (by omega), pu_nn]
          refine Or.inr ?_
          generalize hM2 : st (st (st M1 124 u 1) 125 (top + 1) (M0 123 u)) 126 (top + 1) (-1) = M2
          have n1 : ∀ o, (o < 124 ∨ 126 < o) → M2 o = M0 o := fun o ho => by rw [← hM2, st_ob (by omega), st_ob (by omega), st_ob (by omega), mf o ho]
          have n2 : ∀ k, M2 124 k = if k = u then 1 else M 124 k := fun k => by rw [← hM2, st_ob (by omega), st_ob (by omega), st_if, m2 124 (by omega)]
          have n3 : ∀ k, M2 125 k = if k = top + 1 then M0 123 u else M 125 k := fun k => by rw [← hM2, st_ob (by omega), st_if, st_ob (by omega), m2 125 (by omega)]
          have n4 : ∀ k, M2 126 k = if k = top + 1 then -1 else M1 126 k := fun k => by rw [← hM2, st_if, st_ob (by omega), st_ob (by omega)]
          refine ⟨(top + 1, M2), ⟨n1, ?_⟩, ?_, rfl⟩
          · refine FJ_push hU hJ' hu huU hs0 hb' hmu0 (sn' := M2 124) (ar' := M2 125) (ad' := M2 126) ?_ (fun v hv2 => ?_) ?_ (fun k hk => ?_) ?_ ?_ (fun k hk => ?_)
            · rw [n2, if_pos rfl]; decide
            · rw [n2, if_neg hv2]
            · rw [n3, if_pos rfl]
            · rw [n3, if_neg hk]
            · rw [n4, if_neg (by omega), m1]
            · rw [n4, if_pos rfl]
            · rw [n4, if_neg (by omega), m3 k (by omega)]
          · unfold Fmu
            try dsimp only
            have e1 : bset (fun v => decide (M2 124 v ≠ 0)) 7 = bset (fun v => decide (M 124 v ≠ 0)) 7 ||| 2 ^ u := by
              apply Nat.eq_of_testBit_eq
              intro v
              rw [bset_tb, Nat.testBit_or, bset_tb, tb_pow, n2]
              by_cases e : v = u
              · subst e
                rw [if_pos rfl, decide_eq_true (show v < 7 by omega)]
                simp
              · rw [if_neg e, decide_eq_false (show ¬ u = v by omega), Bool.or_false]
            have e2 : snc (M2 124) = snc (M 124) + 1 := by
              unfold snc
              rw [e1]
              exact pop_ins (by rw [bset_tb, hs0]; simp) (by omega)
            have e3 : snc (M2 124) ≤ 7 := pop_le 7 _
            have e4 : rst (wU W) (M2 126) (top + 1) = rst (wU W) (M1 126) (top + 1) := rst_congr (fun k hk => by rw [n4, if_neg (by omega)])
            rw [rst_succ _ (M2 126) (top + 1), e4, rst_succ, rst_succ, hrst top (Nat.le_refl _), n4, if_pos rfl, m1, hmu]
            omega
      · rw [if_neg hb, if_neg (by decide)]
        refine Or.inr (next (fun z => ?_))
        rw [r1, pu_nn] at z
        exact absurd z hb
    · rw [if_pos hseen]
      refine Or.inr (next (fun _ => ?_))
      rw [← m2 124 (by omega)]
      exact hseen
theorem r_finds (hr : RW lv W M0) (h : WF W) {i R : Nat} {x : Int} (hiw : isRw W i = true) (hR : sbs R (told W)) (hRi : R.testBit i = false) (hv : VM (wH W) (woB x) R (M0 123)) : FQ (wH W) (woB x) i R M0 (gC 216 [rv 11 100, iv (i : Int), iv x] M0) := by
  have hU := (wf_U h).2
  rw [e_GaugeNetModel_finds]
  have key := pu_rel (S := mM) (G := fun k M => gA 216 2 [rv 11 100, iv (i : Int), iv x, iv (k : Int), none, none] [] M) (I := fun k M => (∀ o, o ≠ 124 → M o = M0 o) ∧ ∀ u, u < k → M 124 u = if (u : Int) = x then 1 else 0) 8 (fun k M hk hI => by
    obtain ⟨i1, i2⟩ := hI
    refine ⟨st M 124 k (if (k : Int) = x then 1 else 0), ⟨fun o ho => by rw [st_ob ho]; exact i1 o ho, fun u hu => ?_⟩, ?_⟩
    · rw [st_if]
      by_cases e : u = k
      · rw [if_pos e, e]
      · rw [if_neg e]
        exact i2 u (by omega)
    · try dsimp only
      rw [s_GaugeNetModel_finds_2, if_neg (by omega), pu_inc (by omega)]
      by_cases e : (k : Int) = x
      · rw [if_neg (fun z => z e), if_pos (by omega), pu_nn, if_pos e]
      · rw [if_pos e, if_pos (by omega), pu_nn, if_neg e]) 0 M0 (by omega) ⟨fun _ _ => rfl, fun u hu => by omega⟩
  obtain ⟨M, ⟨k1, k2⟩, k3⟩ := key
  try dsimp only at k3
  rw [show ((0 : Nat) : Int) = 0 from rfl] at k3
  rw [k3, s_GaugeNetModel_finds_2, if_pos (by omega)]
  generalize hM2 : st (st M 125 0 (i : Int)) 126 0 (-1) = M2
  have n1 : ∀ o, (o < 124 ∨ 126 < o) → M2 o = M0 o := fun o ho => by rw [← hM2, st_ob (by omega), st_ob (by omega), k1 o (by omega)]
  have n2 : M2 124 = M 124 := by rw [← hM2, st_ob (by omega), st_ob (by omega)]
  have n3 : M2 125 0 = (i : Int) := by rw [← hM2, st_ob (by omega), st_same]
  have n4 : M2 126 0 = -1 := by rw [← hM2, st_same]
  have sn : ∀ u : Nat, u < wU W → (M2 124 u ≠ 0 ↔ (woB x).testBit u = true) := by
    intro u hu
    rw [n2, k2 u (by omega), woB_tb, decide_eq_true_iff]
    by_cases e : (u : Int) = x
    · rw [if_pos e]; simp [e]
    · rw [if_neg e]; simp [e]
  refine r_finds_loop hr h hiw hR hRi hv (0, M2) ⟨n1, ?_⟩
  refine ⟨by omega, n3, fun k hk => by omega, fun k l hk => by omega, ?_, fun k hk u hu hle => ?_, fun u hu => ?_, fun u hu hw => (sn u hu).mpr hw⟩
  · show -1 ≤ M2 126 0 ∧ M2 126 0 < _
    rw [n4]
    omega
  · have : k = 0 := by omega
    rw [this] at hle
    have : (u : Int) ≤ M2 126 0 := hle
    rw [n4] at this
    omega
  · by_cases q : M2 124 u = 0
    · exact Or.inl q
    · exact Or.inr (Or.inl ((sn u hu).mp q))
theorem r_pairsOf (hr : RW lv W M0) (h : WF W) {set : Nat} {x : Int} (hs : sbs set (told W)) : ∃ M', gC 215 [rv 11 100, iv (set : Int), iv x] M0 = some (iv ((mu (wH W) (woB x) set : Nat) : Int), M') ∧ (∀ o, (o < 123 ∨ 126 < o) → M' o = M0 o) ∧ VM (wH W) (woB x) set (M' 123) ∧ pop 7 (Dm (M' 123)) = mu (wH W) (woB x) set := by
  have hset : set < 16384 := Nat.lt_of_le_of_lt (sbs_le hs) (told_lt W)
  rw [e_GaugeNetModel_pairsOf]
  have key := pu_rel (S := mM) (G := fun k M => gA 215 2 [rv 11 100, iv (set : Int), iv x, iv (k : Int), none] [] M) (I := fun k M => (∀ o, o ≠ 123 → M o = M0 o) ∧ ∀ u, u < k → M 123 u = -1) 8 (fun k M hk hI => by
    obtain ⟨i1, i2⟩ := hI
    refine ⟨st M 123 k (-1), ⟨fun o ho => by rw [st_ob ho]; exact i1 o ho, fun u hu => ?_⟩, ?_⟩
    · rw [st_if]
      by_cases e : u = k
      · rw [if_pos e]
      · rw [if_neg e]
        exact i2 u (by omega)
    · try dsimp only
      rw [s_GaugeNetModel_pairsOf_2, if_neg (by omega), pu_inc (by omega), if_pos (by omega), pu_nn]) 0 M0 (by omega) ⟨fun _ _ => rfl, fun u hu => by omega⟩
  obtain ⟨M, ⟨k1, k2⟩, k3⟩ := key
  try dsimp only at k3
  rw [show ((0 : Nat) : Int) = 0 from rfl] at k3
  rw [k3, s_GaugeNetModel_pairsOf_2, if_pos (by omega)]
  have hH128 := wH_128 h
  have hlow : ∀ j, lowb set j < 16384 := fun j => Nat.lt_of_le_of_lt (sbs_le (lowb_sub set j)) hset
  have key := pu_rel (S := Nat × mM) (G := fun j s => gA 215 26 [rv 11 100, iv (set : Int), iv x, iv (s.1 : Int), iv (j : Int)] [] s.2) (I := fun j s => (∀ o, (o < 123 ∨ 126 < o) → s.2 o = M0 o) ∧ VM (wH W) (woB x) (lowb set j) (s.2 123) ∧ s.1 = pop 7 (Dm (s.2 123)) ∧ ∃ S, sbs S (lowb set j) ∧ cov (wH W) (woB x) (lowb set j) S = s.1) 14 (fun j s hj hI => by
    obtain ⟨n, M⟩ := s
    obtain ⟨i1, i2, i3, S, i4, i5⟩ := hI
    dsimp only at i1 i2 i3 i5 ⊢
    have hn := pop_le 7 (Dm (M 123))
    rw [s_GaugeNetModel_pairsOf_26, if_neg (by omega)]
    by_cases hb : set.testBit j = true
    · rw [if_neg (fun z => z ((and1_eq1 (by omega) (by omega)).mpr hb))]
      have hlj : (lowb set j).testBit j = false := by rw [lowb_tb, decide_eq_false (by omega), Bool.false_and]
      have hRW1 : RW lv W M := RW_k hr ⟨fun o h1 h2 => i1 o (by omega), fun k _ => by rw [i1 100 (by omega)]⟩
      obtain ⟨b, M', f1, f2, f3, f4⟩ := r_finds hRW1 h (x := x) (i := j) (R := lowb set j) (told_row (hs j hb)) (sbs_trans (lowb_sub set j) hs) hlj i2
      rw [f1, bI_some, pu_inc (by omega)]
      cases b with
      | true =>
        obtain ⟨g1, g2⟩ := f3 rfl
        refine ⟨(n + 1, M'), ⟨fun o ho => by (try dsimp only); rw [f2 o ho, i1 o ho], ?_, ?_, S, ?_, ?_⟩, ?_⟩
        · rw [lowb_yes hb]; exact g1
        · show n + 1 = _; rw [g2, i3]
        · rw [lowb_yes hb]
          exact sbs_trans i4 (fun r q => by rw [Nat.testBit_or, q]; rfl)
        · rw [lowb_yes hb, cov_add hj hlj, i5]
          rw [← tb_not]
          exact fun z => by have := i4 j z; rw [hlj] at this; cases this
        · rw [ite01_0, if_pos rfl, pu_inc (by omega)]
      | false =>
        obtain ⟨g1, V, g2, g3⟩ := f4 rfl
        obtain ⟨S', s1, s2⟩ := match_fail hH128 hj (hlow j) i4 i2 (by rw [i5, i3]) g2 g3
        refine ⟨(n, M'), ⟨fun o ho => by (try dsimp only); rw [f2 o ho, i1 o ho], ?_, ?_, S', ?_, ?_⟩, ?_⟩
        · show VM _ _ _ (M' 123)
          rw [lowb_yes hb, g1]
          exact VM_mono (fun r q => by rw [Nat.testBit_or, q]; rfl) i2
        · show n = pop 7 (Dm (M' 123)); rw [g1, i3]
        · rw [lowb_yes hb]; exact s1
        · rw [lowb_yes hb, s2, i3]
        · rw [ite01_0, if_neg Bool.false_ne_true]
    · have hb2 : set.testBit j = false := tb_not.mp hb
      rw [if_pos (fun z => hb ((and1_eq1 (by omega) (by omega)).mp z)), pu_inc (by omega)]
      refine ⟨(n, M), ⟨i1, ?_, i3, S, ?_, ?_⟩, rfl⟩
      · rw [lowb_no hb2]; exact i2
      · rw [lowb_no hb2]; exact i4
      · rw [lowb_no hb2]; exact i5) 0 (0, M) (by omega) ⟨fun o ho => k1 o (by omega), ?_, ?_, 0, fun i q => (by rw [Nat.zero_testBit] at q; cases q), ?_⟩
  · obtain ⟨⟨n, M'⟩, ⟨i1, i2, i3, S, i4, i5⟩, i6⟩ := key
    try dsimp only at i1 i2 i3 i5 i6
    rw [show ((0 : Nat) : Int) = 0 from rfl] at i6
    rw [lowb_all (j := 14) hset] at i2 i4 i5
    have hmu := mu_match hset i2 i4 (by rw [i5, i3])
    rw [i6, s_GaugeNetModel_pairsOf_26, if_pos (by omega)]
    exact ⟨M', by rw [hmu, i3], i1, i2, hmu.symm⟩
  · exact ⟨fun u hu => Or.inl (k2 u (by omega)), fun u v hu _ _ hne => absurd (k2 u (by omega)) hne⟩
  · have : Dm (M 123) = 0 := by
      apply Nat.eq_of_testBit_eq
      intro u
      rw [Nat.zero_testBit, ← tb_not, Dm_tb]
      exact fun z => z.2 (k2 u (by omega))
    show 0 = pop 7 (Dm (M 123))
    rw [this, pop_zero]
  · have e : lowb set 0 = 0 := by unfold lowb; omega
    show cov _ _ (lowb set 0) 0 = 0
    rw [e]
    unfold cov
    have e1 : nbr (wH W) 14 0 = 0 := by
      apply Nat.eq_of_testBit_eq
      intro u
      rw [Nat.zero_testBit, ← tb_not, nbr_tb]
      rintro ⟨r, _, q, _⟩
      rw [Nat.zero_testBit] at q
      cases q
    rw [e1, show ∀ w, bdiff 0 w = 0 from fun w => sbs_zero.mpr (fun i q => by rw [Nat.zero_testBit] at q; cases q), show ∀ w, bdiff 0 w = 0 from fun w => sbs_zero.mpr (fun i q => by rw [Nat.zero_testBit] at q; cases q), pop_zero, pop_zero]
end FS
