/-! TESTS: lists, least sets, and how many there can be. -/
theorem gd_left {L K : List Nat} {i : Nat} (h : i < L.length) : gd (L ++ K) i = gd L i := by
  unfold gd
  rw [List.getD_eq_getElem?_getD, List.getD_eq_getElem?_getD, List.getElem?_append_left h]
theorem gd_snoc (L : List Nat) (c : Nat) : gd (L ++ [c]) L.length = c := by
  unfold gd
  rw [List.getD_eq_getElem?_getD, List.getElem?_append_right (Nat.le_refl _), Nat.sub_self]
  rfl
theorem gd_mem {L : List Nat} {i : Nat} (h : i < L.length) : gd L i ∈ L := by
  unfold gd
  rw [List.getD_eq_getElem?_getD, List.getElem?_eq_getElem h]
  exact List.getElem_mem h
theorem szl_succ (p : Nat → Bool) (n c : Nat) : szl p n (c + 1) = szl p n c ++ (if (p c && decide (pop 14 c = n)) = true then [c] else []) := by
  unfold szl
  rw [List.range_succ, List.filter_append]
  congr 1
  rw [List.filter_cons]
  split <;> rfl
theorem szl_const {p : Nat → Bool} {n a b : Nat} (hab : a ≤ b) (h : ∀ s, a ≤ s → s < b → p s = false) : szl p n a = szl p n b := by
  induction b with
  | zero => rw [show a = 0 by omega]
  | succ b ih =>
    by_cases e : a = b + 1
    · rw [e]
    · rw [szl_succ, h b (by omega) (by omega), ih (by omega) (fun s h1 h2 => h s h1 (by omega))]
      simp
theorem szl_mem {p : Nat → Bool} {n c s : Nat} : s ∈ szl p n c ↔ s < c ∧ p s = true ∧ pop 14 s = n := by
  unfold szl
  rw [List.mem_filter, List.mem_range, Bool.and_eq_true, decide_eq_true_iff]
theorem tlist_mem {p : Nat → Bool} {s : Nat} : ∀ {n : Nat}, s ∈ tlist p n ↔ s < 16384 ∧ p s = true ∧ 1 ≤ pop 14 s ∧ pop 14 s ≤ n := by
  intro n
  induction n with
  | zero =>
    constructor
    · intro h; cases h
    · rintro ⟨_, _, a, b⟩; omega
  | succ n ih =>
    rw [tlist, List.mem_append, ih, szl_mem]
    constructor
    · rintro (⟨a, b, c, d⟩ | ⟨a, b, c⟩)
      · exact ⟨a, b, c, by omega⟩
      · exact ⟨a, b, by omega, by omega⟩
    · rintro ⟨a, b, c, d⟩
      by_cases e : pop 14 s = n + 1
      · exact Or.inr ⟨a, b, e⟩
      · exact Or.inl ⟨a, b, c, by omega⟩
theorem szl_nodup (p : Nat → Bool) (n c : Nat) : (szl p n c).Nodup := List.Pairwise.filter _ List.nodup_range
theorem pre_nodup (p : Nat → Bool) (c : Nat) : ∀ n, (tlist p n ++ szl p (n + 1) c).Nodup := by
  intro n
  induction n generalizing c with
  | zero => exact szl_nodup p 1 c
  | succ n ih =>
    rw [List.nodup_append]
    refine ⟨ih 16384, szl_nodup p _ c, fun a ha b hb e => ?_⟩
    have h1 := (tlist_mem.mp ha).2.2.2
    have h2 := (szl_mem.mp hb).2.2
    rw [e] at h1
    omega
theorem tlist_nodup (p : Nat → Bool) (n : Nat) : (tlist p n).Nodup := by
  cases n with
  | zero => exact List.nodup_nil
  | succ n => exact pre_nodup p 16384 n
/-! no more than 3432 sets of 14 rows of which none has all of another one -/
/-- the lower end of the chain of s (below k), with o open ones above -/
def cbt : Nat → Nat → Nat → Nat
  | 0, _, _ => 0
  | k + 1, o, s => if s.testBit k = true then (if o = 0 then cbt k 0 s else 2 ^ k + cbt k (o - 1) s) else cbt k (o + 1) s
theorem cbt_lt : ∀ k o s, cbt k o s < 2 ^ k := by
  intro k
  induction k with
  | zero => intro o s; exact Nat.one_pos
  | succ k ih =>
    intro o s
    have h : 2 ^ (k + 1) = 2 ^ k + 2 ^ k := by rw [Nat.pow_succ]; omega
    rw [cbt]
    have h0 := ih 0 s
    have h1 := ih (o - 1) s
    have h2 := ih (o + 1) s
    split
    · split <;> omega
    · omega
theorem cbt_up : ∀ k a d s t, 1 ≤ d → cbt k a s = cbt k (a + d) t → ∀ i, i < k → t.testBit i = true → s.testBit i = true := by
  intro k
  induction k with
  | zero => intro a d s t _ _ i hi; omega
  | succ k ih =>
    intro a d s t hd h i hi hti
    rw [cbt, cbt] at h
    have l1 := cbt_lt k 0 s
    have l2 := cbt_lt k (a - 1) s
    have l3 := cbt_lt k (a + 1) s
    have l4 := cbt_lt k (a + d - 1) t
    have l5 := cbt_lt k (a + d + 1) t
    by_cases hs : s.testBit k = true
    · rw [if_pos hs] at h
      by_cases ht : t.testBit k = true
      · rw [if_pos ht, if_neg (show ¬ a + d = 0 by omega)] at h
        by_cases ha : a = 0
        · rw [if_pos ha] at h; omega
        · rw [if_neg ha] at h
          by_cases e : i = k
          · rw [e]; exact hs
          · exact ih (a - 1) d s t hd (by rw [show a - 1 + d = a + d - 1 by omega]; omega) i (by omega) hti
      · rw [if_neg ht] at h
        by_cases ha : a = 0
        · rw [if_pos ha] at h
          by_cases e : i = k
          · rw [e]; exact hs
          · exact ih 0 (d + 1) s t (by omega) (by rw [h, ha, show 0 + d + 1 = 0 + (d + 1) by omega]) i (by omega) hti
        · rw [if_neg ha] at h; omega
    · rw [if_neg hs] at h
      by_cases ht : t.testBit k = true
      · rw [if_pos ht, if_neg (show ¬ a + d = 0 by omega)] at h
        omega
      · rw [if_neg ht] at h
        by_cases e : i = k
        · rw [e] at hti; exact absurd hti ht
        · exact ih (a + 1) d s t hd (by rw [h, show a + 1 + d = a + d + 1 by omega]) i (by omega) hti
theorem cbt_comp : ∀ k a s t, cbt k a s = cbt k a t → (∀ i, i < k → t.testBit i = true → s.testBit i = true) ∨ ∀ i, i < k → s.testBit i = true → t.testBit i = true := by
  intro k
  induction k with
  | zero => intro a s t _; exact Or.inl (fun i hi => by omega)
  | succ k ih =>
    intro a s t h
    rw [cbt, cbt] at h
    have l1 := cbt_lt k 0 s
    have l2 := cbt_lt k (a - 1) s
    have l3 := cbt_lt k (a + 1) s
    have m1 := cbt_lt k 0 t
    have m2 := cbt_lt k (a - 1) t
    have m3 := cbt_lt k (a + 1) t
    by_cases hs : s.testBit k = true
    · rw [if_pos hs] at h
      by_cases ht : t.testBit k = true
      · rw [if_pos ht] at h
        have h' : ∃ b, cbt k b s = cbt k b t := by
          by_cases ha : a = 0
          · rw [if_pos ha, if_pos ha] at h; exact ⟨_, h⟩
          · rw [if_neg ha, if_neg ha] at h; exact ⟨a - 1, by omega⟩
        obtain ⟨b, hb⟩ := h'
        rcases ih b s t hb with q | q
        · refine Or.inl (fun i hi hb => ?_)
          by_cases e : i = k
          · rw [e]; exact hs
          · exact q i (by omega) hb
        · refine Or.inr (fun i hi hb => ?_)
          by_cases e : i = k
          · rw [e]; exact ht
          · exact q i (by omega) hb
      · rw [if_neg ht] at h
        by_cases ha : a = 0
        · rw [if_pos ha] at h
          refine Or.inl (fun i hi hb => ?_)
          by_cases e : i = k
          · rw [e]; exact hs
          · exact cbt_up k 0 1 s t (by omega) (by rw [h, ha]) i (by omega) hb
        · rw [if_neg ha] at h; omega
    · rw [if_neg hs] at h
      by_cases ht : t.testBit k = true
      · rw [if_pos ht] at h
        by_cases ha : a = 0
        · rw [if_pos ha] at h
          refine Or.inr (fun i hi hb => ?_)
          by_cases e : i = k
          · rw [e]; exact ht
          · exact cbt_up k 0 1 t s (by omega) (by rw [← h, ha]) i (by omega) hb
        · rw [if_neg ha] at h; omega
      · rw [if_neg ht] at h
        rcases ih (a + 1) s t h with q | q
        · refine Or.inl (fun i hi hb => ?_)
          by_cases e : i = k
          · rw [e] at hb; exact absurd hb ht
          · exact q i (by omega) hb
        · refine Or.inr (fun i hi hb => ?_)
          by_cases e : i = k
          · rw [e] at hb; exact absurd hb hs
          · exact q i (by omega) hb
def cIn : Nat → Nat → Nat → Prop
  | 0, _, b => b = 0
  | k + 1, o, b => (b < 2 ^ k ∧ cIn k (o + 1) b) ∨ (1 ≤ o ∧ 2 ^ k ≤ b ∧ cIn k (o - 1) (b - 2 ^ k))
theorem cIn_up : ∀ k o b, cIn k o b → cIn k (o + 1) b := by
  intro k
  induction k with
  | zero => intro o b h; exact h
  | succ k ih =>
    rintro o b (⟨h1, h2⟩ | ⟨h1, h2, h3⟩)
    · exact Or.inl ⟨h1, ih _ _ h2⟩
    · refine Or.inr ⟨by omega, h2, ?_⟩
      have := ih _ _ h3
      rw [show o - 1 + 1 = o + 1 - 1 by omega] at this
      exact this
theorem cbt_in : ∀ k o s, cIn k o (cbt k o s) := by
  intro k
  induction k with
  | zero => intro o s; exact rfl
  | succ k ih =>
    intro o s
    rw [cbt]
    by_cases hs : s.testBit k = true
    · rw [if_pos hs]
      by_cases ho : o = 0
      · rw [if_pos ho]
        exact Or.inl ⟨cbt_lt _ _ _, by rw [ho]; exact cIn_up _ _ _ (ih 0 s)⟩
      · rw [if_neg ho]
        refine Or.inr ⟨by omega, by omega, ?_⟩
        rw [Nat.add_sub_cancel_left]
        exact ih _ s
    · rw [if_neg hs]
      exact Or.inl ⟨cbt_lt _ _ _, ih _ s⟩
def cN : Nat → Nat → Nat
  | 0, _ => 1
  | k + 1, o => cN k (o + 1) + (if o = 0 then 0 else cN k (o - 1))
theorem filter_len {α : Type} (p : α → Bool) : ∀ L : List α, L.length = (L.filter p).length + (L.filter (fun a => !p a)).length := by
  intro L
  induction L with
  | nil => rfl
  | cons a L ih =>
    rw [List.filter_cons, List.filter_cons, List.length_cons, ih]
    cases h : p a
    · simp; omega
    · simp; omega
theorem nodup_map {α β : Type} {f : α → β} {L : List α} (h : L.Nodup) (inj : ∀ a, a ∈ L → ∀ b, b ∈ L → f a = f b → a = b) : (L.map f).Nodup := by
  induction L with
  | nil => exact List.nodup_nil
  | cons a L ih =>
    rw [List.map_cons, List.nodup_cons]
    rw [List.nodup_cons] at h
    refine ⟨fun hm => ?_, ih h.2 (fun x hx y hy => inj x (List.mem_cons_of_mem _ hx) y (List.mem_cons_of_mem _ hy))⟩
    obtain ⟨b, hb, e⟩ := List.mem_map.mp hm
    have := inj b (List.mem_cons_of_mem _ hb) a List.mem_cons_self e
    rw [this] at hb
    exact h.1 hb
theorem cIn_len : ∀ k o (L : List Nat), L.Nodup → (∀ b, b ∈ L → cIn k o b) → L.length ≤ cN k o := by
  intro k
  induction k with
  | zero =>
    intro o L hn h
    cases L with
    | nil => exact Nat.zero_le _
    | cons a L =>
      cases L with
      | nil => exact Nat.le_refl _
      | cons b L =>
        have h1 : a = 0 := h a List.mem_cons_self
        have h2 : b = 0 := h b (List.mem_cons_of_mem _ List.mem_cons_self)
        rw [h1, h2, List.nodup_cons] at hn
        exact absurd List.mem_cons_self hn.1
  | succ k ih =>
    intro o L hn h
    have hs := filter_len (fun b => decide (b < 2 ^ k)) L
    have h1 := ih (o + 1) (L.filter (fun b => decide (b < 2 ^ k))) (List.Pairwise.filter _ hn) (fun b hb => by
      obtain ⟨b1, b2⟩ := List.mem_filter.mp hb
      have b2 := of_decide_eq_true b2
      rcases h b b1 with ⟨_, q⟩ | ⟨_, q, _⟩
      · exact q
      · omega)
    have h2 : (L.filter (fun a => !decide (a < 2 ^ k))).length ≤ (if o = 0 then 0 else cN k (o - 1)) := by
      have hge : ∀ b, b ∈ L.filter (fun a => !decide (a < 2 ^ k)) → 1 ≤ o ∧ 2 ^ k ≤ b ∧ cIn k (o - 1) (b - 2 ^ k) := by
        intro b hb
        obtain ⟨b1, b2⟩ := List.mem_filter.mp hb
        rw [Bool.not_eq_true', decide_eq_false_iff_not] at b2
        rcases h b b1 with ⟨q, _⟩ | q
        · exact absurd q b2
        · exact q
      cases o with
      | zero =>
        cases hc : L.filter (fun a => !decide (a < 2 ^ k)) with
        | nil => exact Nat.le_refl _
        | cons b K =>
          have := (hge b (by rw [hc]; exact List.mem_cons_self)).1
          omega
      | succ o =>
        have := ih o ((L.filter (fun a => !decide (a < 2 ^ k))).map (fun b => b - 2 ^ k)) (nodup_map (List.Pairwise.filter _ hn) (fun a ha b hb e => by
          have := (hge a ha).2.1
          have := (hge b hb).2.1
          have e : a - 2 ^ k = b - 2 ^ k := e
          omega)) (fun c hc => by
          obtain ⟨b, hb, e⟩ := List.mem_map.mp hc
          rw [← e]
          exact (hge b hb).2.2)
        rw [List.length_map] at this
        rw [if_neg (by omega), Nat.add_sub_cancel]
        exact this
    rw [cN]
    omega
theorem sperner {L : List Nat} (hn : L.Nodup) (hlt : ∀ s, s ∈ L → s < 16384) (anti : ∀ s, s ∈ L → ∀ t, t ∈ L → sbs s t → s = t) : L.length ≤ 3432 := by
  have h := cIn_len 14 0 (L.map (cbt 14 0)) (nodup_map hn (fun a ha b hb e => by
    have sub : ∀ x y, x < 16384 → (∀ i, i < 14 → x.testBit i = true → y.testBit i = true) → sbs x y := fun x y hx hxy i hi => hxy i (tb_in (n := 14) hx hi) hi
    rcases cbt_comp 14 0 a b e with q | q
    · exact (anti b hb a ha (sub b a (hlt b hb) q)).symm
    · exact anti a ha b hb (sub a b (hlt a ha) q))) (fun b hb => by
    obtain ⟨s, _, e⟩ := List.mem_map.mp hb
    rw [← e]
    exact cbt_in 14 0 s)
  rw [List.length_map] at h
  exact Nat.le_trans h (show cN 14 0 ≤ 3432 by decide +kernel)
/-! tests as least sets with more rows than unknowns -/
def viol (W : mM) (s : Nat) : Prop := pop 7 (nbW W s) < pop 14 s
theorem cov_sub {W : mM} {R S : Nat} (h : sbs S R) : cov (wH W) 0 R S + pop 14 S = pop 7 (nbW W S) + pop 14 R := by
  unfold cov
  rw [bdiff_zero]
  have := pop_split 14 h
  show pop 7 (nbW W S) + _ + _ = _
  omega
theorem mu_noviol {W : mM} {R : Nat} : mu (wH W) 0 R = pop 14 R ↔ ∀ S, sbs S R → ¬ viol W S := by
  have h0 : cov (wH W) 0 R 0 = pop 14 R := by
    have := cov_sub (W := W) (R := R) (S := 0) (fun i q => by rw [Nat.zero_testBit] at q; cases q)
    have e1 : nbW W 0 = 0 := by
      apply Nat.eq_of_testBit_eq
      intro u
      rw [Nat.zero_testBit, ← tb_not]
      unfold nbW
      rw [nbr_tb]
      rintro ⟨r, _, q, _⟩
      rw [Nat.zero_testBit] at q
      cases q
    rw [e1, pop_zero, pop_zero] at this
    omega
  obtain ⟨⟨S, s1, s2⟩, hmin⟩ := mu_spec (wH W) 0 R
  have hle := hmin 0 (fun i q => by rw [Nat.zero_testBit] at q; cases q)
  constructor
  · intro e T hT hv
    have h1 := hmin T hT
    have h2 := cov_sub (W := W) hT
    unfold viol at hv
    omega
  · intro hno
    have h1 := hno S s1
    have h2 := cov_sub (W := W) s1
    unfold viol at h1
    omega
theorem del_ne {s r : Nat} (h : s.testBit r = true) : bdiff s (2 ^ r) ≠ s := by
  intro e
  have := tb_del s r r
  rw [e, h, decide_eq_true rfl] at this
  cases this
theorem sub_del {S s r : Nat} (h : sbs S s) (hr : S.testBit r = false) : sbs S (bdiff s (2 ^ r)) := by
  intro i hi
  rw [bd_true, tb_pow, decide_eq_false_iff_not]
  exact ⟨h i hi, fun e => by rw [← e, hr] at hi; cases hi⟩
theorem sub_miss {S s : Nat} (h : sbs S s) (hne : S ≠ s) : ∃ r, s.testBit r = true ∧ S.testBit r = false := by
  apply Classical.byContradiction
  intro q
  apply hne
  apply sbs_anti h
  intro i hi
  cases z : S.testBit i with
  | true => rfl
  | false => exact absurd ⟨i, hi, z⟩ q
theorem isT_least {W : mM} {s : Nat} (hs : s < 16384) : isTB W s = true ↔ viol W s ∧ ∀ S, sbs S s → S ≠ s → ¬ viol W S := by
  rw [isTB_iff]
  constructor
  · rintro ⟨h1, h2⟩
    have hno : ∀ S, sbs S s → S ≠ s → ¬ viol W S := by
      intro S hS hne
      obtain ⟨r, r1, r2⟩ := sub_miss hS hne
      have h3 := h2 r r1
      have h4 := pop_del r1 (tb_in (n := 14) hs r1)
      exact mu_noviol.mp (by omega) S (sub_del hS r2)
    refine ⟨?_, hno⟩
    apply Classical.byContradiction
    intro hv
    have : mu (wH W) 0 s = pop 14 s := mu_noviol.mpr (fun S hS => by
      by_cases e : S = s
      · rw [e]; exact hv
      · exact hno S hS e)
    omega
  · rintro ⟨hv, hno⟩
    have hdel : ∀ r, s.testBit r = true → mu (wH W) 0 (bdiff s (2 ^ r)) + 1 = pop 14 s := by
      intro r hr
      have h4 := pop_del hr (tb_in (n := 14) hs hr)
      have : mu (wH W) 0 (bdiff s (2 ^ r)) = pop 14 (bdiff s (2 ^ r)) := mu_noviol.mpr (fun S hS => hno S (sbs_trans hS (sbs_bdiff _ _)) (fun e => by rw [e] at hS; exact del_ne hr (sbs_anti (sbs_bdiff _ _) hS)))
      omega
    refine ⟨?_, hdel⟩
    obtain ⟨⟨S, s1, s2⟩, hmin⟩ := mu_spec (wH W) 0 s
    have h1 := cov_sub (W := W) s1
    have h2 := hmin s (sbs_refl s)
    have h3 := cov_sub (W := W) (sbs_refl s)
    unfold viol at hv
    by_cases e : S = s
    · rw [e] at s2 h1
      have hpos : ∃ r, s.testBit r = true := by
        apply Classical.byContradiction
        intro q
        have : s = 0 := by
          apply Nat.eq_of_testBit_eq
          intro i
          rw [Nat.zero_testBit, ← tb_not]
          exact fun z => q ⟨i, z⟩
        rw [this, pop_zero] at hv
        omega
      obtain ⟨r, hr⟩ := hpos
      have h5 := hno (bdiff s (2 ^ r)) (sbs_bdiff _ _) (del_ne hr)
      have h4 := pop_del hr (tb_in (n := 14) hs hr)
      unfold viol at h5
      have h6 : pop 7 (nbW W (bdiff s (2 ^ r))) ≤ pop 7 (nbW W s) := by
        apply pop_sbs
        intro u hu
        unfold nbW at hu ⊢
        rw [nbr_tb] at hu ⊢
        obtain ⟨a, a1, a2, a3⟩ := hu
        exact ⟨a, a1, (bd_true.mp a2).1, a3⟩
      omega
    · have := hno S s1 e
      unfold viol at this
      have h7 : mu (wH W) 0 s ≤ pop 7 (nbW W s) := by omega
      omega
theorem isT_pop {W : mM} {s : Nat} (hs : s < 16384) (h : isTB W s = true) : pop 14 s = pop 7 (nbW W s) + 1 ∧ 1 ≤ pop 14 s ∧ pop 14 s ≤ 8 := by
  have h7 := pop_le 7 (nbW W s)
  obtain ⟨hv, hno⟩ := (isT_least hs).mp h
  unfold viol at hv
  have hpos : ∃ r, s.testBit r = true := by
    apply Classical.byContradiction
    intro q
    have : s = 0 := by
      apply Nat.eq_of_testBit_eq
      intro i
      rw [Nat.zero_testBit, ← tb_not]
      exact fun z => q ⟨i, z⟩
    rw [this, pop_zero] at hv
    omega
  obtain ⟨r, hr⟩ := hpos
  have h5 := hno (bdiff s (2 ^ r)) (sbs_bdiff _ _) (del_ne hr)
  have h4 := pop_del hr (tb_in (n := 14) hs hr)
  unfold viol at h5
  have h6 : pop 7 (nbW W (bdiff s (2 ^ r))) ≤ pop 7 (nbW W s) := by
    apply pop_sbs
    intro u hu
    unfold nbW at hu ⊢
    rw [nbr_tb] at hu ⊢
    obtain ⟨a, a1, a2, a3⟩ := hu
    exact ⟨a, a1, (bd_true.mp a2).1, a3⟩
  omega
theorem isT_anti {W : mM} {s t : Nat} (hs : s < 16384) (ht : t < 16384) (h1 : isTB W s = true) (h2 : isTB W t = true) (h : sbs s t) : s = t := by
  apply Classical.byContradiction
  intro hne
  exact ((isT_least ht).mp h2).2 s h hne ((isT_least hs).mp h1).1
theorem tests_bound {W : mM} {L : List Nat} (hn : L.Nodup) (h : ∀ s, s ∈ L → s < 16384 ∧ isTB W s = true) : L.length ≤ 3432 :=
  sperner hn (fun s hs => (h s hs).1) (fun s hs t ht hst => isT_anti (h s hs).1 (h t ht).1 (h s hs).2 (h t ht).2 hst)
theorem tp0_iff {W : mM} {s : Nat} : tp0 W s = true ↔ sbs s (told W) ∧ isTB W s = true := by
  unfold tp0
  rw [Bool.and_eq_true, decide_eq_true_iff, sbs_zero]
theorem TL_mem {W : mM} {s : Nat} : s ∈ TL W ↔ sbs s (told W) ∧ isTB W s = true := by
  unfold TL
  rw [tlist_mem, tp0_iff]
  constructor
  · exact fun h => h.2.1
  · intro h
    have := isT_pop (told16 h.1) h.2
    exact ⟨told16 h.1, h, this.2⟩
theorem TL_len (W : mM) : (TL W).length ≤ 3432 := tests_bound (W := W) (tlist_nodup _ _) (fun s hs => ⟨told16 (TL_mem.mp hs).1, (TL_mem.mp hs).2⟩)
theorem TN_mem {W : mM} {s : Nat} : s ∈ TN W ↔ s ∈ TL W ∧ sbs s (net W) := by
  unfold TN
  rw [List.mem_filter, decide_eq_true_iff, sbs_zero]
theorem TN_len (W : mM) : (TN W).length ≤ 3432 := Nat.le_trans (List.length_filter_le _ _) (TL_len W)
theorem tlist_filter (p q : Nat → Bool) : ∀ n, (tlist p n).filter q = tlist (fun s => q s && p s) n := by
  intro n
  induction n with
  | zero => rfl
  | succ n ih =>
    rw [tlist, tlist, List.filter_append, ih]
    unfold szl
    rw [List.filter_filter, List.filter_congr (q := fun s => q s && p s && decide (pop 14 s = n + 1)) (fun s _ => (Bool.and_assoc _ _ _).symm)]
