/-! The reference's list of TESTS. -/
noncomputable def qn (W : mM) (s : Nat) : Bool := decide (bdiff s (net W) = 0) && tp0 W s
theorem qn_iff {W : mM} (h : WF W) {s : Nat} : qn W s = true ↔ sbs s (net W) ∧ isTB W s = true := by
  unfold qn
  rw [Bool.and_eq_true, decide_eq_true_iff, sbs_zero, tp0_iff]
  exact ⟨fun q => ⟨q.1, q.2.2⟩, fun q => ⟨q.1, sbs_trans q.1 (net_told h), q.2⟩⟩
theorem TN_eq (W : mM) : TN W = tlist (qn W) 8 := tlist_filter (tp0 W) _ 8
theorem TN_eq9 {W : mM} (h : WF W) : tlist (qn W) 9 = TN W := by
  rw [TN_eq]
  show tlist (qn W) 8 ++ szl (qn W) 9 16384 = _
  have e : szl (qn W) 9 16384 = [] := by
    apply List.eq_nil_iff_forall_not_mem.mpr
    intro s hs
    obtain ⟨a, b, c⟩ := szl_mem.mp hs
    have := isT_pop a ((qn_iff h).mp b).2
    omega
  rw [e, List.append_nil]
theorem pre_lenq {W : mM} (h : WF W) {n c : Nat} (hc : c < 16384) (hq : (qn W c && decide (pop 14 c = n + 1)) = true) : (tlist (qn W) n ++ szl (qn W) (n + 1) c).length < 3432 := by
  have hc2 := hq
  rw [Bool.and_eq_true, qn_iff h, decide_eq_true_iff] at hc2
  have h1 := pre_nodup (qn W) (c + 1) n
  rw [szl_succ, if_pos hq, ← List.append_assoc] at h1
  have h2 := tests_bound (W := W) h1 (fun s hs => by
    rw [List.mem_append, List.mem_append] at hs
    rcases hs with (hs | hs) | hs
    · obtain ⟨a, b, _⟩ := tlist_mem.mp hs
      exact ⟨a, ((qn_iff h).mp b).2⟩
    · obtain ⟨a, b, _⟩ := szl_mem.mp hs
      exact ⟨by omega, ((qn_iff h).mp b).2⟩
    · have : s = c := by
        rcases List.mem_cons.mp hs with e | e
        · exact e
        · cases e
      rw [this]
      exact ⟨hc, hc2.1.2⟩)
  rw [List.length_append] at h2
  have h2 : (tlist (qn W) n ++ szl (qn W) (n + 1) c).length + 1 ≤ 3432 := h2
  omega
/-- holds a set that has more rows than unknowns -/
def hv (W : mM) (s : Nat) : Prop := ∃ S, sbs S s ∧ viol W S
theorem hv_0 (W : mM) : ¬ hv W 0 := by
  rintro ⟨S, h1, h2⟩
  have : S = 0 := sbs_anti h1 (fun i hi => by rw [Nat.zero_testBit] at hi; cases hi)
  subst this
  unfold viol at h2
  rw [pop_zero] at h2
  exact Nat.not_lt_zero _ h2
theorem hv_below {W : mM} {s : Nat} : (∃ r, s.testBit r = true ∧ hv W (bdiff s (2 ^ r))) ↔ ∃ S, sbs S s ∧ S ≠ s ∧ viol W S := by
  constructor
  · rintro ⟨r, h1, S, h2, h3⟩
    refine ⟨S, sbs_trans h2 (sbs_bdiff s _), fun e => ?_, h3⟩
    subst e
    have := h2 r h1
    rw [tb_del, decide_eq_true rfl] at this
    simp at this
  · rintro ⟨S, h1, h2, h3⟩
    obtain ⟨r, r1, r2⟩ := sub_miss h1 h2
    exact ⟨r, r1, S, sub_del h1 r2, h3⟩
theorem hv_iff {W : mM} {s : Nat} : hv W s ↔ viol W s ∨ ∃ r, s.testBit r = true ∧ hv W (bdiff s (2 ^ r)) := by
  rw [hv_below]
  constructor
  · rintro ⟨S, h1, h2⟩
    by_cases z : S = s
    · rw [z] at h2
      exact Or.inl h2
    · exact Or.inr ⟨S, h1, z, h2⟩
  · rintro (h1 | ⟨S, h1, _, h2⟩)
    · exact ⟨s, sbs_refl s, h1⟩
    · exact ⟨S, h1, h2⟩
theorem isT_hv {W : mM} {s : Nat} (hs : s < 16384) : isTB W s = true ↔ viol W s ∧ ¬ ∃ r, s.testBit r = true ∧ hv W (bdiff s (2 ^ r)) := by
  rw [isT_least hs, hv_below]
  constructor
  · exact fun h => ⟨h.1, fun ⟨S, a, b, c⟩ => h.2 S a b c⟩
  · exact fun h => ⟨h.1, fun S a b c => h.2 ⟨S, a, b, c⟩⟩
/-- the table of a list of TESTS -/
def TT (W : mM) (L : List Nat) (M : mM) : Prop := M 100 45 = (L.length : Int) ∧ ∀ i, i < L.length → M 127 i = (gd L i : Int) ∧ M 129 i = (if cr W (gd L i) = true then 1 else 0) ∧ ∀ r, r < 14 → M 128 (14 * i + r) = wt W (gd L i) r
theorem TT_k {W : mM} {L : List Nat} {M M' : mM} (h : TT W L M) (k : ∀ o, o = 100 ∨ o = 127 ∨ o = 128 ∨ o = 129 → M' o = M o) : TT W L M' := by
  unfold TT
  rw [k 100 (by omega), k 127 (by omega), k 128 (by omega), k 129 (by omega)]
  exact h
def Sk (M M' : mM) : Prop := (∀ o, o ≠ 100 → o < 127 → M' o = M o) ∧ ∀ k, k ≠ 44 → k ≠ 45 → M' 100 k = M 100 k
theorem Sk_Rk {M M' : mM} (h : Sk M M') : Rk M M' := ⟨fun o h1 h2 => h.1 o h1 (by omega), fun k hk => h.2 k (by omega) (by omega)⟩
theorem Sk_st {M M' : mM} (h : Sk M M') {o k : Nat} {v : Int} (ho : 126 < o) : Sk M (st M' o k v) := ⟨fun o' h1 h2 => by rw [st_ob (by omega)]; exact h.1 o' h1 h2, fun j hj hj2 => by rw [st_ob (by omega)]; exact h.2 j hj hj2⟩
theorem Sk_s1 {M M' : mM} (h : Sk M M') {k : Nat} {v : Int} (hk : k = 44 ∨ k = 45) : Sk M (st M' 100 k v) := ⟨fun o' h1 h2 => by rw [st_ob h1]; exact h.1 o' h1 h2, fun j hj hj2 => by rw [st_nk (by omega)]; exact h.2 j hj hj2⟩
theorem Sk_W {t : Nat} {M M' M'' : mM} (h : Sk M M') (k : Wfr t M' M'') : Sk M M'' := ⟨fun o h1 h2 => by rw [k.1 o (by omega) (by omega) (by omega) (by omega)]; exact h.1 o h1 h2, fun j hj hj2 => by rw [k.1 100 (by omega) (by omega) (by omega) (by omega)]; exact h.2 j hj hj2⟩
def HO (W : mM) (n c : Nat) (M : mM) : Prop := ∀ s, sbs s (net W) → (pop 14 s < n ∨ (pop 14 s = n ∧ s < c)) → (M 130 s = 1 ∧ hv W s) ∨ (M 130 s = 0 ∧ ¬ hv W s)
theorem HO_skip {W : mM} {n c : Nat} {M : mM} (h : HO W n c M) (hs : ¬ (sbs c (net W) ∧ pop 14 c = n)) : HO W n (c + 1) M := by
  intro s h1 h2
  rcases h2 with h2 | ⟨h2, h3⟩
  · exact h s h1 (Or.inl h2)
  · by_cases z : s = c
    · rw [z] at h1 h2
      exact absurd ⟨h1, h2⟩ hs
    · exact h s h1 (Or.inr ⟨h2, by omega⟩)
theorem HO_add {W : mM} {n c : Nat} {M M' : mM} (h : HO W n c M) (h1 : ∀ s, s ≠ c → M' 130 s = M 130 s) (h2 : pop 14 c = n) (h3 : (M' 130 c = 1 ∧ hv W c) ∨ (M' 130 c = 0 ∧ ¬ hv W c)) : HO W n (c + 1) M' := by
  intro s q1 q2
  by_cases z : s = c
  · rw [z]
    exact h3
  · rw [h1 s z]
    rcases q2 with q2 | ⟨q2, q3⟩
    · exact h s q1 (Or.inl q2)
    · exact h s q1 (Or.inr ⟨q2, by omega⟩)
theorem HO_k {W : mM} {n c : Nat} {M M' : mM} (h : HO W n c M) (k : M' 130 = M 130) : HO W n c M' := by
  unfold HO
  rw [k]
  exact h
def SInv (W M : mM) (n c : Nat) (M' : mM) : Prop := Sk M M' ∧ M' 100 44 = 1 ∧ TT W (tlist (qn W) n ++ szl (qn W) (n + 1) c) M' ∧ HO W (n + 1) c M'
theorem szl_skip {q : Nat → Bool} {n c : Nat} (h : (q c && decide (pop 14 c = n)) = false) : szl q n (c + 1) = szl q n c := by
  rw [szl_succ, h, if_neg Bool.false_ne_true, List.append_nil]
section SE
variable {lv : Nat} {W M : mM}
theorem r_below {n c b : Nat} (hc : c < 16384) (M : mM) (hM : ∀ r, c.testBit r = true → M 130 (bdiff c (2 ^ r)) = 0 ∨ M 130 (bdiff c (2 ^ r)) = 1) : gA 223 87 [rv 11 100, iv (n : Int), iv (b : Int), iv (c : Int), iv 0, iv 0] [] M = gA 223 87 [rv 11 100, iv (n : Int), iv (b : Int), iv (c : Int), iv (if anyB (fun r => c.testBit r && decide (M 130 (bdiff c (2 ^ r)) = 1)) 14 = true then 1 else 0), iv 14] [] M := by
  have key := pu_up (fun i : Nat => gA 223 87 [rv 11 100, iv (n : Int), iv (b : Int), iv (c : Int), iv (if anyB (fun r => c.testBit r && decide (M 130 (bdiff c (2 ^ r)) = 1)) i = true then 1 else 0), iv (i : Int)] [] M) 14 (fun i hi => by
    try dsimp only
    have hb := bdiff_le c (2 ^ i)
    rw [s_GaugeNetModel_seeks_87, if_neg (by omega), ite01_n, anyB, pu_inc (by omega)]
    cases z : anyB (fun r => c.testBit r && decide (M 130 (bdiff c (2 ^ r)) = 1)) i with
    | true => rw [if_pos rfl, Bool.true_or, if_pos rfl]
    | false =>
      rw [if_neg Bool.false_ne_true, Bool.false_or]
      by_cases y : c.testBit i = true
      · rw [if_neg (fun q => q ((and1_eq1 (by omega) (by omega)).mpr y)), andnot1 (by omega) (by omega), if_pos (by omega), pu_nn, y, Bool.true_and]
        rcases hM i y with x | x
        · rw [x, if_pos rfl, decide_eq_false (by omega), if_neg Bool.false_ne_true]
        · rw [x, if_neg (by omega), decide_eq_true rfl, if_pos rfl]
      · rw [if_pos (fun q => y ((and1_eq1 (by omega) (by omega)).mp q)), if_neg (by rw [Bool.and_eq_true]; exact fun q => y q.1)])
  exact key
theorem TT_add {L : List Nat} {c t : Nat} {N M' : mM} (h : TT W L N) (ht : t = L.length) (h1 : M' 100 45 = ((t + 1 : Nat) : Int)) (h2 : ∀ i, M' 127 i = if i = t then (c : Int) else N 127 i) (h3 : ∀ i, M' 129 i = if i = t then (if cr W c = true then 1 else 0) else N 129 i) (h4 : ∀ x, (x < 14 * t ∨ 14 * t + 14 ≤ x) → M' 128 x = N 128 x) (h5 : ∀ r, r < 14 → M' 128 (14 * t + r) = wt W c r) : TT W (L ++ [c]) M' := by
  have hl : (L ++ [c]).length = t + 1 := by rw [List.length_append, ht]; rfl
  refine ⟨by rw [hl]; exact h1, fun i hi => ?_⟩
  rw [hl] at hi
  rw [h2, h3]
  by_cases z : i = t
  · subst z
    rw [if_pos rfl, if_pos rfl, ht, gd_snoc, ← ht]
    exact ⟨rfl, rfl, h5⟩
  · rw [if_neg z, if_neg z, gd_left (by omega)]
    obtain ⟨a, b, d⟩ := h.2 i (by omega)
    refine ⟨a, b, fun r hr => ?_⟩
    rw [h4 _ (by omega)]
    exact d r hr
theorem r_seekOne (hr : RW lv W M) (h : WF W) {n c : Nat} (hn : n < 9) (hc : c < 16384) {M' : mM} (hI : SInv W M n c M') : ∃ M'', SInv W M n (c + 1) M'' ∧ gA 223 55 [rv 11 100, iv (net W : Int), iv ((n + 1 : Nat) : Int), iv (c : Int), none, none] [] M' = gA 223 55 [rv 11 100, iv (net W : Int), iv ((n + 1 : Nat) : Int), iv ((c + 1 : Nat) : Int), none, none] [] M'' := by
  obtain ⟨i1, i2, i3, i4⟩ := hI
  have hnet := net_lt h
  rw [s_GaugeNetModel_seeks_55, if_neg (by omega), andnot32 (by omega) (by omega), pu_inc (by omega)]
  by_cases z : bdiff c (net W) = 0
  · have hsn := sbs_zero.mp z
    have hst : sbs c (told W) := sbs_trans hsn (net_told h)
    rw [if_neg (by omega), r_bits (by omega), bI_some, pop_ext (k := 14) (by omega) (by omega)]
    by_cases y : pop 14 c = n + 1
    · have hM : ∀ r, c.testBit r = true → (M' 130 (bdiff c (2 ^ r)) = 1 ∧ hv W (bdiff c (2 ^ r))) ∨ (M' 130 (bdiff c (2 ^ r)) = 0 ∧ ¬ hv W (bdiff c (2 ^ r))) := fun r hrb => by
        have h14 : r < 14 := tb_in (n := 14) hc hrb
        have := pop_del (a := c) (r := r) (k := 14) hrb h14
        exact i4 _ (sbs_trans (sbs_bdiff c _) hsn) (Or.inl (by omega))
      rw [if_pos (by omega), r_below hc M' (fun r hrb => by rcases hM r hrb with q | q; exact Or.inr q.1; exact Or.inl q.1), s_GaugeNetModel_seeks_87, if_pos (by omega), if_pos (by omega), ite01_n, pu_nn, pu_inc (by omega)]
      have hany : anyB (fun r => c.testBit r && decide (M' 130 (bdiff c (2 ^ r)) = 1)) 14 = true ↔ ∃ r, c.testBit r = true ∧ hv W (bdiff c (2 ^ r)) := by
        rw [anyB_iff]
        constructor
        · rintro ⟨r, r1, r2⟩
          rw [Bool.and_eq_true, decide_eq_true_iff] at r2
          rcases hM r r2.1 with q | q
          · exact ⟨r, r2.1, q.2⟩
          · exact absurd r2.2 (by rw [q.1]; omega)
        · rintro ⟨r, r1, r2⟩
          refine ⟨r, tb_in (n := 14) hc r1, ?_⟩
          rw [Bool.and_eq_true, decide_eq_true_iff]
          rcases hM r r1 with q | q
          · exact ⟨r1, q.1⟩
          · exact absurd r2 q.2
      by_cases x : anyB (fun r => c.testBit r && decide (M' 130 (bdiff c (2 ^ r)) = 1)) 14 = true
      · rw [if_pos x, if_pos x]
        refine ⟨_, ⟨Sk_st i1 (by omega), by rw [st_ob (by omega)]; exact i2, ?_, HO_add i4 (fun s hs => st_nk hs) y (Or.inl ⟨by rw [st_same]; rfl, hv_iff.mpr (Or.inr (hany.mp x))⟩)⟩, rfl⟩
        have hno : qn W c = false := by
          rw [← Bool.not_eq_true, qn_iff h, isT_hv hc]
          exact fun q => q.2.2 (hany.mp x)
        rw [szl_skip (by rw [hno]; rfl)]
        exact TT_k i3 (fun o ho => st_ob (by omega))
      · have hr1 : RW lv W (st M' 130 c (0 % 2)) := RW_k hr (Sk_Rk (Sk_st i1 (by omega)))
        have hnbl := nbW_lt h c
        rw [if_neg x, if_neg x, r_unknownsOf hr1 h hst, bI_some, r_bits (by omega), bI_some, pop_ext (k := 7) (by omega) (by omega)]
        by_cases u : pop 7 (nbW W c) < n + 1
        · have hvi : viol W c := by
            unfold viol
            rw [y]
            exact u
          have hT : isTB W c = true := (isT_hv hc).mpr ⟨hvi, fun q => x (hany.mpr q)⟩
          have hq : (qn W c && decide (pop 14 c = n + 1)) = true := by
            rw [Bool.and_eq_true, qn_iff h, decide_eq_true_iff]
            exact ⟨⟨hsn, hT⟩, y⟩
          have hlen := pre_lenq h hc hq
          generalize hL : tlist (qn W) n ++ szl (qn W) (n + 1) c = L at i3 hlen
          have e1 : (st (st M' 130 c (0 % 2)) 130 c 1) 100 45 = (L.length : Int) := by rw [st_ob (by omega), st_ob (by omega)]; exact i3.1
          have e2 : (st (st (st M' 130 c (0 % 2)) 130 c 1) 127 L.length (c : Int)) 100 45 = (L.length : Int) := by rw [st_ob (by omega)]; exact e1
          have s2 : Sk M (st (st (st M' 130 c (0 % 2)) 130 c 1) 127 L.length (c : Int)) := Sk_st (Sk_st (Sk_st i1 (by omega)) (by omega)) (by omega)
          obtain ⟨M3, a1, a2, a3⟩ := r_weighs (t := L.length) (RW_k hr (Sk_Rk s2)) h (by omega) hst hT
          have e3 : M3 100 45 = (L.length : Int) := by rw [a2.1 100 (by omega) (by omega) (by omega) (by omega)]; exact e2
          rw [if_pos (by omega), if_pos (by omega), e1, if_pos (by omega), pu_nn, e2, a1, bI_some, if_pos (by omega), pu_nn, st_ob (show 100 ≠ 129 by omega), e3, pu_inc (by omega)]
          refine ⟨_, ⟨Sk_s1 (Sk_st (Sk_W s2 a2) (by omega)) (by omega), ?_, ?_, ?_⟩, rfl⟩
          · rw [st_nk (by omega), st_ob (by omega), a2.1 100 (by omega) (by omega) (by omega) (by omega), st_ob (by omega), st_ob (by omega), st_ob (by omega)]
            exact i2
          · rw [szl_succ, if_pos hq, ← List.append_assoc, hL]
            refine TT_add i3 rfl (st_same _ _ _ _) (fun i => ?_) (fun i => ?_) (fun v hv => ?_) (fun r hr14 => ?_)
            · rw [st_ob (by omega), st_ob (by omega), a2.1 127 (by omega) (by omega) (by omega) (by omega), st_if, st_ob (by omega), st_ob (by omega)]
            · rw [st_ob (by omega), st_if, a2.1 129 (by omega) (by omega) (by omega) (by omega), st_ob (by omega), st_ob (by omega), st_ob (by omega)]
              by_cases v : i = L.length
              · rw [if_pos v, if_pos v]
                split <;> rfl
              · rw [if_neg v, if_neg v]
            · rw [st_ob (by omega), st_ob (by omega), a2.2 v hv, st_ob (by omega), st_ob (by omega), st_ob (by omega)]
            · rw [st_ob (by omega), st_ob (by omega), a3 r hr14]
          · refine HO_add i4 (fun s hs => ?_) y (Or.inl ⟨?_, hv_iff.mpr (Or.inl hvi)⟩)
            · rw [st_ob (by omega), st_ob (by omega), a2.1 130 (by omega) (by omega) (by omega) (by omega), st_ob (by omega), st_nk hs, st_nk hs]
            · rw [st_ob (by omega), st_ob (by omega), a2.1 130 (by omega) (by omega) (by omega) (by omega), st_ob (by omega), st_same]
        · have hnv : ¬ viol W c := by
            unfold viol
            rw [y]
            exact u
          rw [if_neg (by omega)]
          refine ⟨_, ⟨Sk_st i1 (by omega), by rw [st_ob (by omega)]; exact i2, ?_, HO_add i4 (fun s hs => st_nk hs) y (Or.inr ⟨by rw [st_same]; rfl, fun q => by
            rcases hv_iff.mp q with q | q
            · exact hnv q
            · exact x (hany.mpr q)⟩)⟩, rfl⟩
          have hno : qn W c = false := by
            rw [← Bool.not_eq_true, qn_iff h, isT_hv hc]
            exact fun q => hnv q.2.1
          rw [szl_skip (by rw [hno]; rfl)]
          exact TT_k i3 (fun o ho => st_ob (by omega))
    · rw [if_neg (by omega)]
      refine ⟨M', ⟨i1, i2, ?_, HO_skip i4 (fun q => y q.2)⟩, rfl⟩
      rw [szl_skip (by rw [decide_eq_false y, Bool.and_false])]
      exact i3
  · rw [if_pos (by omega)]
    refine ⟨M', ⟨i1, i2, ?_, HO_skip i4 (fun q => z (sbs_zero.mpr q.1))⟩, rfl⟩
    have hno : qn W c = false := by
      rw [← Bool.not_eq_true, qn_iff h]
      exact fun q => z (sbs_zero.mpr q.1)
    rw [szl_skip (by rw [hno]; rfl)]
    exact i3
end SE
/-- the reference with its TESTS -/
def RY (W : mM) (tl : Nat) (tp : Nat → Int) (pl : Int) (M : mM) : Prop := ∃ lv, RB lv W tl tp pl M ∧ M 100 44 = 1 ∧ SR W M
theorem RY_RI {W : mM} {tl : Nat} {tp : Nat → Int} {pl : Int} {M : mM} (h : RY W tl tp pl M) : RI W tl tp pl M := by
  obtain ⟨lv, h1, h2, h3⟩ := h
  exact ⟨lv, h1, Or.inr ⟨h2, h3⟩⟩
theorem RY_s {W : mM} {tl : Nat} {tp : Nat → Int} {pl : Int} {M M' : mM} (h : RY W tl tp pl M) (k : Rs M M') : RY W tl tp pl M' := by
  obtain ⟨lv, h1, h2, h3⟩ := h
  refine ⟨lv, RB_k h1 (Rs_Rk k), ?_, SR_s h3 k⟩
  rw [k.2 44 (by omega)]
  exact h2
theorem r_seeks2 {W : mM} {tl : Nat} {tp : Nat → Int} {pl : Int} {M : mM} (hc : RI W tl tp pl M) (h : WF W) : ∃ M', gC 223 [rv 11 100] M = some (none, M') ∧ RY W tl tp pl M' ∧ Sk M M' := by
  obtain ⟨lv, hb, hd⟩ := hc
  rw [e_GaugeNetModel_seeks]
  rcases hd with q | ⟨q1, q2⟩
  · have hnet := net_lt h
    have s0 : Sk M (st (st M 100 44 1) 100 45 0) := Sk_s1 (Sk_s1 ⟨fun _ _ _ => rfl, fun _ _ _ => rfl⟩ (by omega)) (by omega)
    rw [if_pos q, r_netNow (RW_k hb.1 (Sk_Rk s0)) h, bI_some]
    have key := pu_rel (S := mM) (G := fun i M' => gA 223 25 [rv 11 100, iv (net W : Int), iv (i : Int), none, none, none] [] M') (I := fun i M' => Sk M M' ∧ M' 100 44 = 1 ∧ M' 100 45 = 0 ∧ (0 < i → M' 130 0 = 0)) 16384 (fun i M' hi hI => by
      obtain ⟨i1, i2, i3, i4⟩ := hI
      try dsimp only
      rw [s_GaugeNetModel_seeks_25, if_neg (by omega), if_pos (by omega), pu_nn, pu_inc (by omega)]
      refine ⟨_, ⟨Sk_st i1 (by omega), by rw [st_ob (by omega)]; exact i2, by rw [st_ob (by omega)]; exact i3, fun _ => ?_⟩, rfl⟩
      rw [st_if]
      split
      · rfl
      · exact i4 (by omega)) 0 _ (Nat.zero_le _) ⟨s0, by rw [st_nk (by omega), st_same], st_same _ _ _ _, fun z => absurd z (Nat.lt_irrefl 0)⟩
    obtain ⟨M1, ⟨a1, a2, a3, a4⟩, a5⟩ := key
    try dsimp only at a5
    rw [show ((0 : Nat) : Int) = 0 from rfl] at a5
    rw [a5, s_GaugeNetModel_seeks_25, if_pos (by omega)]
    have key := pu_rel (S := mM) (G := fun n M' => gA 223 47 [rv 11 100, iv (net W : Int), iv ((n + 1 : Nat) : Int), none, none, none] [] M') (I := fun n M' => SInv W M n 0 M') 9 (fun n M' hn hI => by
      try dsimp only
      rw [s_GaugeNetModel_seeks_47, if_neg (by omega)]
      have key := pu_rel (S := mM) (G := fun c M' => gA 223 55 [rv 11 100, iv (net W : Int), iv ((n + 1 : Nat) : Int), iv (c : Int), none, none] [] M') (I := fun c M' => SInv W M n c M') 16384 (fun c M' hc hI => r_seekOne hb.1 h hn hc hI) 0 M' (Nat.zero_le _) hI
      obtain ⟨M2, b1, b2⟩ := key
      try dsimp only at b2
      rw [show ((0 : Nat) : Int) = 0 from rfl] at b2
      rw [b2, s_GaugeNetModel_seeks_55, if_pos (by omega), pu_inc (by omega)]
      refine ⟨M2, ⟨b1.1, b1.2.1, ?_, fun s h1 h2 => ?_⟩, rfl⟩
      · have e : tlist (qn W) (n + 1) ++ szl (qn W) (n + 1 + 1) 0 = tlist (qn W) n ++ szl (qn W) (n + 1) 16384 := by
          show (tlist (qn W) n ++ szl (qn W) (n + 1) 16384) ++ [] = _
          rw [List.append_nil]
        rw [e]
        exact b1.2.2.1
      · refine b1.2.2.2 s h1 ?_
        have h16 : s < 16384 := Nat.lt_of_le_of_lt (sbs_le h1) hnet
        omega) 0 M1 (Nat.zero_le _) ⟨a1, a2, ⟨a3, fun i hi => absurd hi (Nat.not_lt_zero i)⟩, fun s h1 h2 => by
        have h16 : s < 16384 := Nat.lt_of_le_of_lt (sbs_le h1) hnet
        have : s = 0 := pop_pos (k := 14) h16 (by omega)
        rw [this]
        exact Or.inr ⟨a4 (by omega), hv_0 W⟩⟩
    obtain ⟨M2, ⟨b1, b2, b3, b4⟩, b5⟩ := key
    try dsimp only at b5
    rw [show ((0 + 1 : Nat) : Int) = 1 from rfl] at b5
    rw [b5, s_GaugeNetModel_seeks_47, if_pos (by omega)]
    refine ⟨M2, rfl, ⟨lv, RB_k hb (Sk_Rk b1), b2, ?_⟩, b1⟩
    have e : tlist (qn W) 9 ++ szl (qn W) (9 + 1) 0 = TN W := by
      rw [← TN_eq9 h]
      exact List.append_nil _
    rw [e] at b3
    exact b3
  · rw [if_neg (by omega)]
    exact ⟨M, rfl, ⟨lv, hb, q1, q2⟩, fun _ _ _ => rfl, fun _ _ _ => rfl⟩
theorem r_seeks {W : mM} {tl : Nat} {tp : Nat → Int} {pl : Int} {M : mM} (hc : RI W tl tp pl M) (h : WF W) : ∃ M', gC 223 [rv 11 100] M = some (none, M') ∧ RY W tl tp pl M' := by
  obtain ⟨M', a1, a2, _⟩ := r_seeks2 hc h
  exact ⟨M', a1, a2⟩
