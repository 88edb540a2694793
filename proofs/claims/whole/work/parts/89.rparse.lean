/-! The reference's parser, step by step. -/
def kpR (lv o k : Nat) : Prop := (o ≠ 100 ∨ k = 2 ∨ k = 18 ∨ (35 ≤ k ∧ k ≤ 37) ∨ (44 ≤ k ∧ k ≤ 56)) ∧ (o < 102 ∨ 106 < o) ∧ (o < 108 ∨ 110 < o) ∧ ((o ≠ 111 ∧ o ≠ 112 ∧ o ≠ 115 ∧ o ≠ 120) ∨ k = lv) ∧ (o ≠ 113 ∨ (72 * lv ≤ k ∧ k < 72 * lv + 72)) ∧ ((o ≠ 114 ∧ o ≠ 121) ∨ (8 * lv ≤ k ∧ k < 8 * lv + 8)) ∧ (o < 116 ∨ 119 < o ∨ (6 * lv ≤ k ∧ k < 6 * lv + 6))
def Fq (lv : Nat) (M0 M : mM) : Prop := ∀ o k, kpR lv o k → M o k = M0 o k
theorem Fq_st {lv : Nat} {M0 M : mM} (h : Fq lv M0 M) {o k : Nat} (hk : ¬ kpR lv o k) (v : Int) : Fq lv M0 (st M o k v) := fun p q hp => by
  rw [← h p q hp]
  unfold st
  rw [if_neg (fun e => hk (by rw [← e.1, ← e.2]; exact hp))]
def RCp (T : TKS) (lv sd : Nat) (M0 : mM) (t : Nat) (ks : Int × Int) (M : mM) : Prop := TRk T M ∧ (M 100 11 = (t : Int) ∧ M 100 13 = 0 ∧ M 100 15 = ks.1 ∧ (ks.1 ≠ 0 → M 100 16 = ks.2 ∧ 0 < ks.1) ∧ M 100 19 = (sd : Int)) ∧ Fq lv M0 M ∧ lv + sd = 1
def RFp (lv sd : Nat) (M0 : mM) (f : Int × Int) (M : mM) : Prop := (M 100 13 = f.1 ∧ M 100 14 = f.2 ∧ M 100 19 = (sd : Int)) ∧ Fq lv M0 M ∧ 0 < f.1
theorem TRk_s {T : TKS} {M M' : mM} (h : TRk T M) (k : ∀ o, 103 ≤ o → o ≤ 106 → M' o = M o) : TRk T M' := by
  unfold TRk
  rw [k 103 (by omega) (by omega), k 104 (by omega) (by omega), k 105 (by omega) (by omega), k 106 (by omega) (by omega)]
  exact h
section YP
variable {T : TKS} {lv sd : Nat} {M0 M : mM} {t : Nat} {ks f : Int × Int}
theorem np_100 {lv k : Nat} (h : k ≠ 2 ∧ k ≠ 18 ∧ (k < 35 ∨ (37 < k ∧ k < 44))) : ¬ kpR lv 100 k := by
  unfold kpR
  omega
theorem RCp_t (h : RCp T lv sd M0 t ks M) (t' : Nat) : RCp T lv sd M0 t' ks (st M 100 11 (t' : Int)) := by
  obtain ⟨h1, ⟨h2, h3, h4, h5, h6⟩, h7, h8⟩ := h
  refine ⟨TRk_s h1 (fun o _ _ => st_ob (by omega)), ⟨st_same _ _ _ _, ?_, ?_, ?_, ?_⟩, Fq_st h7 (np_100 (by omega)) _, h8⟩
  · rw [st_nk (by omega)]; exact h3
  · rw [st_nk (by omega)]; exact h4
  · rw [st_nk (by omega)]; exact h5
  · rw [st_nk (by omega)]; exact h6
theorem RCp_k (h : RCp T lv sd M0 t ks M) {k : Nat} (hk : k = 20 ∨ k = 39) (v : Int) : RCp T lv sd M0 t ks (st M 100 k v) := by
  obtain ⟨h1, ⟨h2, h3, h4, h5, h6⟩, h7, h8⟩ := h
  refine ⟨TRk_s h1 (fun o _ _ => st_ob (by omega)), ⟨?_, ?_, ?_, ?_, ?_⟩, Fq_st h7 (np_100 (by omega)) _, h8⟩
  · rw [st_nk (by omega)]; exact h2
  · rw [st_nk (by omega)]; exact h3
  · rw [st_nk (by omega)]; exact h4
  · rw [st_nk (by omega)]; exact h5
  · rw [st_nk (by omega)]; exact h6
theorem RCp_o (h : RCp T lv sd M0 t ks M) {o k : Nat} (ho : o ≠ 100 ∧ (o < 103 ∨ 106 < o)) (hk : ¬ kpR lv o k) (v : Int) : RCp T lv sd M0 t ks (st M o k v) := by
  obtain ⟨h1, ⟨h2, h3, h4, h5, h6⟩, h7, h8⟩ := h
  refine ⟨TRk_s h1 (fun p _ _ => st_ob (by omega)), ⟨?_, ?_, ?_, ?_, ?_⟩, Fq_st h7 hk _, h8⟩
  · rw [st_ob (by omega)]; exact h2
  · rw [st_ob (by omega)]; exact h3
  · rw [st_ob (by omega)]; exact h4
  · rw [st_ob (by omega)]; exact h5
  · rw [st_ob (by omega)]; exact h6
theorem RFp_o (h : RFp lv sd M0 f M) {o k : Nat} (ho : o ≠ 100) (hk : ¬ kpR lv o k) (v : Int) : RFp lv sd M0 f (st M o k v) := by
  obtain ⟨⟨h1, h2, h3⟩, h4, h5⟩ := h
  refine ⟨⟨?_, ?_, ?_⟩, Fq_st h4 hk _, h5⟩
  · rw [st_ob (by omega)]; exact h1
  · rw [st_ob (by omega)]; exact h2
  · rw [st_ob (by omega)]; exact h3
theorem RFp_39 (h : RFp lv sd M0 f M) (v : Int) : RFp lv sd M0 f (st M 100 39 v) := by
  obtain ⟨⟨h1, h2, h3⟩, h4, h5⟩ := h
  refine ⟨⟨?_, ?_, ?_⟩, Fq_st h4 (np_100 (by omega)) _, h5⟩
  · rw [st_nk (by omega)]; exact h1
  · rw [st_nk (by omega)]; exact h2
  · rw [st_nk (by omega)]; exact h3
theorem RFp_of (h : RCp T lv sd M0 t ks M) {f : Int × Int} (hf : 0 < f.1) : RFp lv sd M0 f (st (st M 100 13 f.1) 100 14 f.2) := by
  obtain ⟨h1, ⟨h2, h3, h4, h5, h6⟩, h7, h8⟩ := h
  refine ⟨⟨?_, st_same _ _ _ _, ?_⟩, Fq_st (Fq_st h7 (np_100 (by omega)) _) (np_100 (by omega)) _, hf⟩
  · rw [st_nk (by omega)]
    exact st_same _ _ _ _
  · rw [st_nk (by omega), st_nk (by omega)]
    exact h6
theorem y_is (h : RCp T lv sd M0 t ks M) (hok : TKok T) (ht : t ≤ tm T) {k : Nat} (hk : k < 18) {x : Int} (hx : x = ((rkd k : Nat) : Int)) : gC 187 [rv 11 100, iv x] M = some (iv (if tK T t = k then 1 else 0), M) := by
  have h4 := hok.1
  rw [e_GaugeNetModel_is, h.2.1.2.1, if_neg (fun q => q rfl), h.2.1.1, if_pos (by omega), pu_nn, (h.1 t ht).1, hx]
  by_cases z : tK T t = k
  · rw [if_neg (fun q => q (by rw [z])), if_pos z]
  · rw [if_pos (fun q => z (rkd_inj _ (by have := hok.2.1 t ht; omega) k hk (by omega))), if_neg z]
theorem y_is_f (h : M 100 13 ≠ 0) (x : Int) : gC 187 [rv 11 100, iv x] M = some (iv 0, M) := by
  rw [e_GaugeNetModel_is, if_pos h]
theorem y_fail (h : RCp T lv sd M0 t ks M) (hok : TKok T) (ht : t ≤ tm T) (v : Int) : gC 189 [rv 11 100, iv v] M = some (none, st (st M 100 13 v) 100 14 (tP T t : Int)) := by
  have h4 := hok.1
  have e1 : st M 100 13 v 100 11 = (t : Int) := by rw [st_nk (by omega)]; exact h.2.1.1
  rw [e_GaugeNetModel_fail, h.2.1.2.1, if_pos (by omega), e1, if_pos (by omega), pu_nn, st_ob (by omega), (h.1 t ht).2.1]
theorem y_fail_f (h : RFp lv sd M0 f M) (v : Int) : gC 189 [rv 11 100, iv v] M = some (none, M) := by
  rw [e_GaugeNetModel_fail, h.1.1, if_neg (by have := h.2.2; omega)]
theorem RFp_ne (h : RFp lv sd M0 f M) : M 100 13 ≠ 0 := by
  rw [h.1.1]
  have := h.2.2
  omega
theorem RFp_le (h : RFp lv sd M0 f M) : ¬ M 100 13 ≤ 0 := by
  rw [h.1.1]
  have := h.2.2
  omega
theorem y_goesOn (h : RCp T lv sd M0 t ks M) (hok : TKok T) (ht : t ≤ tm T) : (acF T t (tK T t) = none ∧ gC 191 [rv 11 100] M = some (none, st M 100 11 ((t + 1 : Nat) : Int)) ∧ RCp T lv sd M0 (t + 1) ks (st M 100 11 ((t + 1 : Nat) : Int))) ∨ ∃ f M', acF T t (tK T t) = some f ∧ gC 191 [rv 11 100] M = some (none, M') ∧ RFp lv sd M0 f M' ∧ ∀ o, o ≠ 100 → M' o = M o := by
  have h4 := hok.1
  rw [e_GaugeNetModel_goesOn, h.2.1.1]
  unfold acF
  rw [if_pos rfl]
  by_cases y : t = 400
  · rw [if_pos y, if_neg (fun q => q (by omega)), y_fail h hok ht, bV_none]
    exact Or.inr ⟨_, _, rfl, rfl, RFp_of h (f := (2, (tP T t : Int))) (by decide : (0 : Int) < 2), fun o ho => by rw [st_ob ho, st_ob ho]⟩
  · rw [if_neg y, if_pos (show ¬ (t : Int) = 400 by omega), pu_inc (by omega)]
    exact Or.inl ⟨rfl, rfl, RCp_t h _⟩
theorem y_must (h : RCp T lv sd M0 t ks M) (hok : TKok T) (ht : t ≤ tm T) (k : Nat) (hk : k < 18) {x : Int} (hx : x = ((rkd k : Nat) : Int)) : (acF T t k = none ∧ gC 193 [rv 11 100, iv x] M = some (none, st M 100 11 ((t + 1 : Nat) : Int)) ∧ RCp T lv sd M0 (t + 1) ks (st M 100 11 ((t + 1 : Nat) : Int))) ∨ ∃ f M', acF T t k = some f ∧ gC 193 [rv 11 100, iv x] M = some (none, M') ∧ RFp lv sd M0 f M' ∧ ∀ o, o ≠ 100 → M' o = M o := by
  rw [e_GaugeNetModel_must, y_is h hok ht hk hx, bI_some]
  by_cases z : tK T t = k
  · rw [if_pos z, if_neg (by omega), ← z]
    rcases y_goesOn h hok ht with ⟨a1, a2, a3⟩ | ⟨f, M1, a1, a2, a3, a4⟩
    · rw [a2, bV_none]
      exact Or.inl ⟨a1, rfl, a3⟩
    · rw [a2, bV_none]
      exact Or.inr ⟨f, M1, a1, rfl, a3, a4⟩
  · rw [if_neg z, if_pos rfl, y_fail h hok ht, bV_none]
    unfold acF
    rw [if_neg z]
    exact Or.inr ⟨_, _, rfl, rfl, RFp_of h (f := (1, (tP T t : Int))) (by decide : (0 : Int) < 1), fun o ho => by rw [st_ob ho, st_ob ho]⟩
theorem y_must_f (h : RFp lv sd M0 f M) (x : Int) : gC 193 [rv 11 100, iv x] M = some (none, M) := by
  rw [e_GaugeNetModel_must, y_is_f (RFp_ne h), bI_some, if_pos rfl, y_fail_f h, bV_none]
theorem y_wrong (h : RCp T lv sd M0 t ks M) (hok : TKok T) {i : Nat} (hi : i ≤ tm T) (n : Int) (hks : ks.1 ≠ 0 → ks.2 < (tP T i : Int) ∨ (ks.2 = (tP T i : Int) ∧ ks.1 ≤ n)) (hn : 0 < n := by decide) : ∃ M', gC 194 [rv 11 100, iv n, iv (i : Int)] M = some (none, M') ∧ RCp T lv sd M0 t (keepA ks n (tP T i : Int)) M' ∧ (∀ o, o ≠ 100 → M' o = M o) ∧ ∀ k, k ≠ 15 → k ≠ 16 → M' 100 k = M 100 k := by
  have h4 := hok.1
  obtain ⟨h1, ⟨h2, h3, hk, h5, h6⟩, h7, h8⟩ := id h
  rw [e_GaugeNetModel_wrong, if_pos (by omega), h3, if_neg (by omega), hk, pu_nn, (h1 i hi).2.1]
  unfold keepA
  by_cases z : ks.1 = 0
  · rw [if_pos z, if_pos z]
    refine ⟨_, rfl, ⟨TRk_s h1 (fun o _ _ => by rw [st_ob (by omega), st_ob (by omega)]), ⟨?_, ?_, ?_, fun _ => ⟨st_same _ _ _ _, hn⟩, ?_⟩, Fq_st (Fq_st h7 (np_100 (by omega)) _) (np_100 (by omega)) _, h8⟩, fun o ho => by rw [st_ob ho, st_ob ho], fun k k1 k2 => by rw [st_nk k2, st_nk k1]⟩
    · rw [st_nk (by omega), st_nk (by omega)]; exact h2
    · rw [st_nk (by omega), st_nk (by omega)]; exact h3
    · rw [st_nk (by omega)]; exact st_same _ _ _ _
    · rw [st_nk (by omega), st_nk (by omega)]; exact h6
  · rw [if_neg z, if_neg z, (h5 z).1]
    have hq := hks z
    by_cases y : ks.2 < (tP T i : Int)
    · rw [if_pos y]
      exact ⟨M, rfl, h, fun _ _ => rfl, fun _ _ _ => rfl⟩
    · rw [if_neg y, if_neg (fun q => q (by omega)), if_neg (by omega)]
      exact ⟨M, rfl, h, fun _ _ => rfl, fun _ _ _ => rfl⟩
end YP
/-! Names. -/
def NRk (N : NMS) (nn : Nat) (M : mM) : Prop := M 100 20 = (nn : Int) ∧ ∀ i, i < nn → M 108 i = ((ewd 27 (N i).1 : Nat) : Int) ∧ M 109 i = (((N i).2.1 : Nat) : Int) ∧ M 110 i = (((N i).2.2 : Nat) : Int)
theorem NRk_s {N : NMS} {nn : Nat} {M M' : mM} (h : NRk N nn M) (k : ∀ o, 108 ≤ o → o ≤ 110 → M' o = M o) (k2 : M' 100 20 = M 100 20) : NRk N nn M' := by
  unfold NRk
  rw [k 108 (by omega) (by omega), k 109 (by omega) (by omega), k 110 (by omega) (by omega), k2]
  exact h
def exN (N : NMS) (w : List Nat) : Nat → Bool
  | 0 => false
  | i + 1 => exN N w i || decide ((N i).1 = w)
theorem exN_iff {N : NMS} {w : List Nat} : ∀ n, exN N w n = true ↔ ∃ i, i < n ∧ (N i).1 = w
  | 0 => by
    constructor
    · intro h
      cases h
    · rintro ⟨i, h, _⟩
      exact absurd h (Nat.not_lt_zero i)
  | n + 1 => by
    rw [exN, Bool.or_eq_true, decide_eq_true_iff, exN_iff n]
    constructor
    · rintro (⟨i, a, b⟩ | h)
      · exact ⟨i, by omega, b⟩
      · exact ⟨n, by omega, h⟩
    · rintro ⟨i, a, b⟩
      by_cases z : i = n
      · rw [z] at b
        exact Or.inr b
      · exact Or.inl ⟨i, by omega, b⟩
theorem exN_fdx (N : NMS) (nn : Nat) (w : List Nat) : exN N w nn = false ↔ fdx N nn w = -1 := by
  rw [← Bool.not_eq_true, exN_iff]
  rcases fdx_cases N nn w with ⟨a, b⟩ | ⟨k, a, b, c, d⟩
  · exact ⟨fun _ => a, fun _ ⟨i, i1, i2⟩ => b i i1 i2⟩
  · constructor
    · exact fun q => absurd ⟨k, a, c⟩ q
    · intro q
      rw [b] at q
      omega
/-- the reference's place of a name of one sort or another -/
noncomputable def knI (N : NMS) (nn : Nat) (w : List Nat) (a b : Nat) : Int := fstI (fun i => decide ((N i).1 = w) && (decide ((N i).2.1 = a) || decide ((N i).2.1 = b))) nn (-1)
section YN
variable {N : NMS} {nn : Nat} {T : TKS} {lv sd : Nat} {M0 M : mM} {t : Nat} {ks f : Int × Int}
theorem y_nameEq (h : TRk T M) (hok : TKok T) {j : Nat} (hj : j ≤ tm T) (hk : tK T j = 2) (hN : NRk N nn M) (hNk : NOKk N nn) {i : Nat} (hi : i < nn) : lcmp (M 108 i) (M 106 j) = 0 ↔ (N i).1 = tW T j := by
  rw [(hN.2 i hi).1, (h j hj).2.2.1 hk, lcmp_eq]
  constructor
  · intro q
    exact ewd_inj (b := 27) (by omega) _ _ (hNk i hi).1 (hok.2.2.2.2.2.1 j hj hk).1 (by omega)
  · intro q
    rw [q]
theorem y_named (h : RCp T lv sd M0 t ks M) (hok : TKok T) (ht : t ≤ tm T) (hN : NRk N nn M) (hNk : NOKk N nn) (h29 : nn ≤ 29) (hks : ks.1 ≠ 0 → ks.2 < (tP T t : Int)) : (acF T t 2 = none ∧ ∃ M', gC 192 [rv 11 100] M = some (iv (t : Int), M') ∧ RCp T lv sd M0 (t + 1) (if fdx N nn (tW T t) = -1 then ks else keepA ks 3 (tP T t : Int)) M' ∧ (∀ o, o ≠ 100 → M' o = M o) ∧ ∀ k, k ≠ 11 → k ≠ 15 → k ≠ 16 → M' 100 k = M 100 k) ∨ ∃ f M', acF T t 2 = some f ∧ gC 192 [rv 11 100] M = some (iv (t : Int), M') ∧ RFp lv sd M0 f M' ∧ ∀ o, o ≠ 100 → M' o = M o := by
  have h4 := hok.1
  rw [e_GaugeNetModel_named]
  rcases y_must h hok ht 2 (by omega) (x := 1) rfl with ⟨a1, a2, a3⟩ | ⟨f, M1, a1, a2, a3, a4⟩
  · have hk2 := (ac_none a1).1
    have hN1 : NRk N nn (st M 100 11 ((t + 1 : Nat) : Int)) := NRk_s hN (fun o _ _ => st_ob (by omega)) (st_nk (by omega))
    refine Or.inl ⟨a1, ?_⟩
    rw [a2, bV_none, h.2.1.1]
    have key := pu_rel (S := mM) (G := fun i M' => gA 192 12 [rv 11 100, iv (t : Int), iv (i : Int)] [] M') (I := fun i M' => RCp T lv sd M0 (t + 1) (if exN N (tW T t) i = true then keepA ks 3 (tP T t : Int) else ks) M' ∧ NRk N nn M' ∧ (∀ o, o ≠ 100 → M' o = M o) ∧ ∀ k, k ≠ 11 → k ≠ 15 → k ≠ 16 → M' 100 k = M 100 k) nn (fun i M' hi hI => by
      obtain ⟨i1, i2, i3, i4⟩ := hI
      try dsimp only
      rw [s_GaugeNetModel_named_12, i2.1, if_neg (show ¬ (nn : Int) ≤ (i : Int) by omega), i1.2.1.2.1, if_neg (show ¬ ¬ (0 : Int) = 0 from fun q => q rfl), if_pos (show 0 ≤ (i : Int) ∧ (i : Int) < 40 by omega), if_pos (show 0 ≤ (t : Int) ∧ (t : Int) < 403 by omega), pu_nn, pu_nn, pu_inc (by omega), exN]
      have hq := y_nameEq i1.1 hok ht hk2 i2 hNk hi
      by_cases z : (N i).1 = tW T t
      · rw [decide_eq_true z, Bool.or_true, if_pos (show true = true from rfl), if_neg (show ¬ ¬ lcmp (M' 108 i) (M' 106 t) = 0 from fun q => q (hq.mpr z))]
        cases e : exN N (tW T t) i with
        | true =>
          rw [e, if_pos rfl] at i1
          obtain ⟨M2, g1, g2, g3, g5⟩ := y_wrong i1 hok ht 3 (fun q => by
            unfold keepA at q ⊢
            by_cases y : ks.1 = 0
            · rw [if_pos y]
              exact Or.inr ⟨rfl, Int.le_refl 3⟩
            · rw [if_neg y]
              exact Or.inl (hks y))
          have ek : keepA (keepA ks 3 (tP T t : Int)) 3 (tP T t : Int) = keepA ks 3 (tP T t : Int) := by
            unfold keepA
            by_cases y : ks.1 = 0
            · rw [if_pos y]
              exact if_neg (by decide : ¬ (3 : Int) = 0)
            · rw [if_neg y, if_neg y]
          rw [ek] at g2
          rw [g1, bV_none]
          exact ⟨M2, ⟨g2, NRk_s i2 (fun o _ _ => g3 o (by omega)) (g5 20 (by omega) (by omega)), fun o ho => by rw [g3 o ho]; exact i3 o ho, fun k k1 k2 k3 => by rw [g5 k k2 k3]; exact i4 k k1 k2 k3⟩, rfl⟩
        | false =>
          rw [e, if_neg Bool.false_ne_true] at i1
          obtain ⟨M2, g1, g2, g3, g5⟩ := y_wrong i1 hok ht 3 (fun q => Or.inl (hks q))
          rw [g1, bV_none]
          exact ⟨M2, ⟨g2, NRk_s i2 (fun o _ _ => g3 o (by omega)) (g5 20 (by omega) (by omega)), fun o ho => by rw [g3 o ho]; exact i3 o ho, fun k k1 k2 k3 => by rw [g5 k k2 k3]; exact i4 k k1 k2 k3⟩, rfl⟩
      · rw [decide_eq_false z, Bool.or_false, if_pos (show ¬ lcmp (M' 108 i) (M' 106 t) = 0 from fun q => z (hq.mp q))]
        exact ⟨M', ⟨i1, i2, i3, i4⟩, rfl⟩) 0 (st M 100 11 ((t + 1 : Nat) : Int)) (Nat.zero_le _) ⟨a3, hN1, fun o ho => st_ob ho, fun k k1 _ _ => st_nk k1⟩
    obtain ⟨M2, ⟨k1, k2, k3, k4⟩, k5⟩ := key
    try dsimp only at k5
    rw [show ((0 : Nat) : Int) = 0 from rfl] at k5
    rw [k5, s_GaugeNetModel_named_12, k2.1, if_pos (by omega)]
    refine ⟨M2, rfl, ?_, k3, k4⟩
    cases e : exN N (tW T t) nn with
    | true =>
      rw [e, if_pos rfl] at k1
      rw [if_neg (fun q => by rw [(exN_fdx N nn (tW T t)).mpr q] at e; cases e)]
      exact k1
    | false =>
      rw [e, if_neg Bool.false_ne_true] at k1
      rw [if_pos ((exN_fdx N nn (tW T t)).mp e)]
      exact k1
  · refine Or.inr ⟨f, M1, a1, ?_, a3, a4⟩
    rw [a2, bV_none, h.2.1.1, s_GaugeNetModel_named_12]
    by_cases z : M1 100 20 ≤ 0
    · rw [if_pos z]
    · rw [if_neg z, if_pos (RFp_ne a3)]
theorem y_named_f (h : RFp lv sd M0 f M) : gC 192 [rv 11 100] M = some (iv (M 100 11), M) := by
  rw [e_GaugeNetModel_named, y_must_f h, bV_none, s_GaugeNetModel_named_12]
  by_cases z : M 100 20 ≤ 0
  · rw [if_pos z]
  · rw [if_neg z, if_pos (RFp_ne h)]
theorem y_known_f (h : RFp lv sd M0 f M) (a b : Int) : gC 199 [rv 11 100, iv a, iv b] M = some (iv (-1), M) := by
  rw [e_GaugeNetModel_known, y_must_f h, bV_none, if_neg (RFp_le h)]
theorem y_known (h : RCp T lv sd M0 t ks M) (hok : TKok T) (ht : t ≤ tm T) (hN : NRk N nn M) (hNk : NOKk N nn) (h29 : nn ≤ 29) (hks : ks.1 ≠ 0 → ks.2 < (tP T t : Int)) {a b : Nat} {x y : Int} (hx : x = (a : Int)) (hy : y = (b : Int)) : (acF T t 2 = none ∧ ∃ M', gC 199 [rv 11 100, iv x, iv y] M = some (iv (knI N nn (tW T t) a b), M') ∧ RCp T lv sd M0 (t + 1) (if knI N nn (tW T t) a b = -1 then keepA ks 4 (tP T t : Int) else ks) M' ∧ (∀ o, o ≠ 100 → M' o = M o) ∧ ∀ k, k ≠ 11 → k ≠ 15 → k ≠ 16 → M' 100 k = M 100 k) ∨ ∃ f M', acF T t 2 = some f ∧ gC 199 [rv 11 100, iv x, iv y] M = some (iv (-1), M') ∧ RFp lv sd M0 f M' ∧ ∀ o, o ≠ 100 → M' o = M o := by
  have h4 := hok.1
  rw [e_GaugeNetModel_known, hx, hy]
  rcases y_must h hok ht 2 (by omega) (x := 1) rfl with ⟨a1, a2, a3⟩ | ⟨f, M1, a1, a2, a3, a4⟩
  · have hk2 := (ac_none a1).1
    generalize hM1 : st M 100 11 ((t + 1 : Nat) : Int) = M1 at a2 a3
    have o1 : ∀ o, o ≠ 100 → M1 o = M o := fun o ho => by rw [← hM1, st_ob ho]
    have o2 : ∀ k, k ≠ 11 → M1 100 k = M 100 k := fun k hk => by rw [← hM1, st_nk hk]
    have hN1 : NRk N nn M1 := NRk_s hN (fun o _ _ => o1 o (by omega)) (o2 20 (by omega))
    refine Or.inl ⟨a1, ?_⟩
    rw [a2, bV_none, a3.2.1.2.1, if_pos (by omega), h.2.1.1]
    have no : ∀ i : Nat, i < nn → (decide ((N i).1 = tW T t) && (decide ((N i).2.1 = a) || decide ((N i).2.1 = b))) = false → gA 199 25 [rv 11 100, iv (a : Int), iv (b : Int), iv (t : Int), iv (-1), iv (i : Int)] [] M1 = gA 199 25 [rv 11 100, iv (a : Int), iv (b : Int), iv (t : Int), iv (-1), iv ((i + 1 : Nat) : Int)] [] M1 := by
      intro i hi hp
      have hq := y_nameEq a3.1 hok ht hk2 hN1 hNk hi
      rw [s_GaugeNetModel_known_25, hN1.1, if_neg (by omega), if_neg (fun q => q rfl), if_pos (by omega), if_pos (by omega), pu_nn, pu_nn, pu_inc (by omega)]
      by_cases z : (N i).1 = tW T t
      · rw [decide_eq_true z, Bool.true_and, Bool.or_eq_false_iff, decide_eq_false_iff_not, decide_eq_false_iff_not] at hp
        rw [if_neg (fun q => q (hq.mpr z)), if_pos (by omega), (hN1.2 i hi).2.1, if_neg (fun q => hp.1 (by omega)), if_pos (by omega), if_pos (fun q => hp.2 (by omega))]
      · rw [if_pos (fun q => z (hq.mp q))]
    unfold knI
    rcases fstI_spec (fun i => decide ((N i).1 = tW T t) && (decide ((N i).2.1 = a) || decide ((N i).2.1 = b))) nn (-1) with ⟨k, b1, b2, b3, b4⟩ | ⟨b1, b4⟩
    · rw [b4, if_neg (show ¬ (k : Int) = -1 by omega)]
      have key := pu_up (fun i : Nat => gA 199 25 [rv 11 100, iv (a : Int), iv (b : Int), iv (t : Int), iv (-1), iv (i : Int)] [] M1) k (fun i hi => no i (by omega) (b3 i hi))
      try dsimp only at key
      rw [show ((0 : Nat) : Int) = 0 from rfl] at key
      have b2 : (decide ((N k).1 = tW T t) && (decide ((N k).2.1 = a) || decide ((N k).2.1 = b))) = true := b2
      rw [Bool.and_eq_true, Bool.or_eq_true, decide_eq_true_iff, decide_eq_true_iff, decide_eq_true_iff] at b2
      have hq := y_nameEq a3.1 hok ht hk2 hN1 hNk b1
      have hit : gA 199 25 [rv 11 100, iv (a : Int), iv (b : Int), iv (t : Int), iv (-1), iv (k : Int)] [] M1 = gA 199 25 [rv 11 100, iv (a : Int), iv (b : Int), iv (t : Int), iv (k : Int), iv ((k + 1 : Nat) : Int)] [] M1 := by
        rw [s_GaugeNetModel_known_25, hN1.1, if_neg (by omega), if_neg (fun q => q rfl), if_pos (by omega), if_pos (by omega), pu_nn, pu_nn, pu_inc (by omega), if_neg (fun q => q (hq.mpr b2.1)), if_pos (by omega), (hN1.2 k b1).2.1]
        by_cases z : (N k).2.1 = a
        · rw [if_pos (by omega)]
        · rw [if_neg (by omega), if_pos (by omega), if_neg (fun q => q (by omega))]
      have key2 := pu_from (fun i : Nat => gA 199 25 [rv 11 100, iv (a : Int), iv (b : Int), iv (t : Int), iv (k : Int), iv (i : Int)] [] M1) (k + 1) nn (by omega) (fun i i1 i2 => by
        try dsimp only
        rw [s_GaugeNetModel_known_25, hN1.1, if_neg (by omega), if_pos (by omega), pu_inc (by omega)])
      try dsimp only at key2
      rw [key, hit, key2, s_GaugeNetModel_known_25, hN1.1, if_pos (by omega), if_pos (by omega)]
      exact ⟨M1, rfl, a3, o1, fun k k1 _ _ => o2 k k1⟩
    · rw [b4, if_pos rfl]
      have key := pu_up (fun i : Nat => gA 199 25 [rv 11 100, iv (a : Int), iv (b : Int), iv (t : Int), iv (-1), iv (i : Int)] [] M1) nn (fun i hi => no i hi (b1 i hi))
      try dsimp only at key
      rw [show ((0 : Nat) : Int) = 0 from rfl] at key
      obtain ⟨M2, g1, g2, g3, g5⟩ := y_wrong a3 hok ht 4 (fun q => Or.inl (hks q))
      rw [key, s_GaugeNetModel_known_25, hN1.1, if_pos (by omega), if_neg (fun q => q rfl), g1, bV_none]
      exact ⟨M2, rfl, g2, fun o ho => by rw [g3 o ho]; exact o1 o ho, fun k k1 k2 k3 => by rw [g5 k k2 k3]; exact o2 k k1⟩
  · refine Or.inr ⟨f, M1, a1, ?_, a3, a4⟩
    rw [a2, bV_none, if_neg (RFp_le a3)]
theorem y_knows (h : RCp T lv sd M0 t ks M) (hok : TKok T) {i : Nat} (hi : i ≤ tm T) (hk : tK T i = 2) (hN : NRk N nn M) (h29 : nn < 40) (s c : Nat) {x y : Int} (hx : x = (s : Int)) (hy : y = (c : Int)) : ∃ M', gC 195 [rv 11 100, iv (i : Int), iv x, iv y] M = some (none, M') ∧ RCp T lv sd M0 t ks M' ∧ NRk (nadd N nn (tW T i, s, c)) (nn + 1) M' ∧ (∀ o, o ≠ 100 → (o < 108 ∨ 110 < o) → M' o = M o) ∧ ∀ k, k ≠ 20 → M' 100 k = M 100 k := by
  have h4 := hok.1
  have n20 := hN.1
  have e1 : ∀ v, st M 108 nn v 100 20 = (nn : Int) := fun v => by rw [st_ob (by omega)]; exact n20
  have e2 : ∀ v w, st (st M 108 nn v) 109 nn w 100 20 = (nn : Int) := fun v w => by rw [st_ob (by omega)]; exact e1 v
  have e3 : ∀ v w z, st (st (st M 108 nn v) 109 nn w) 110 nn z 100 20 = (nn : Int) := fun v w z => by rw [st_ob (by omega)]; exact e2 v w
  have n8 : ¬ kpR lv 108 nn := by unfold kpR; omega
  have n9 : ¬ kpR lv 109 nn := by unfold kpR; omega
  have n10 : ¬ kpR lv 110 nn := by unfold kpR; omega
  rw [e_GaugeNetModel_knows, if_pos (by omega), n20, if_pos (by omega), pu_nn, pu_nn, e1, if_pos (by omega), pu_nn, e2, if_pos (by omega), pu_nn, e3, pu_inc (by omega), (h.1 i hi).2.2.1 hk, hx, hy]
  refine ⟨_, rfl, RCp_k (RCp_o (RCp_o (RCp_o h (by omega) n8 _) (by omega) n9 _) (by omega) n10 _) (Or.inl rfl) _, ⟨st_same _ _ _ _, fun j hj => ?_⟩, fun o h1 h2 => by rw [st_ob h1, st_ob (by omega), st_ob (by omega), st_ob (by omega)], fun k hk => by rw [st_nk hk, st_ob (by omega), st_ob (by omega), st_ob (by omega)]⟩
  unfold nadd
  rw [st_ob (show 108 ≠ 100 by omega), st_ob (show 108 ≠ 110 by omega), st_ob (show 108 ≠ 109 by omega), st_if, st_ob (show 109 ≠ 100 by omega), st_ob (show 109 ≠ 110 by omega), st_if, st_ob (show 109 ≠ 108 by omega), st_ob (show 110 ≠ 100 by omega), st_if, st_ob (show 110 ≠ 109 by omega), st_ob (show 110 ≠ 108 by omega)]
  by_cases e : j = nn
  · rw [if_pos e, if_pos e, if_pos e, if_pos e]
    exact ⟨rfl, rfl, rfl⟩
  · rw [if_neg e, if_neg e, if_neg e, if_neg e]
    exact hN.2 j (by omega)
theorem y_toldInt (h : RCp T lv sd M0 t ks M) (hok : TKok T) (ht : t ≤ tm T) (hks : ks.1 ≠ 0 → ks.2 < (tP T t : Int)) (a b : Int) : (acF T t 3 = none ∧ ∃ M', gC 197 [rv 11 100, iv a, iv b] M = some (iv (tV T t : Int), M') ∧ RCp T lv sd M0 (t + 1) (if (tV T t : Int) < a ∨ b < (tV T t : Int) then keepA ks 5 (tP T t : Int) else ks) M' ∧ (∀ o, o ≠ 100 → M' o = M o) ∧ ∀ k, k ≠ 11 → k ≠ 15 → k ≠ 16 → M' 100 k = M 100 k) ∨ ∃ f v M', acF T t 3 = some f ∧ gC 197 [rv 11 100, iv a, iv b] M = some (iv v, M') ∧ RFp lv sd M0 f M' ∧ ∀ o, o ≠ 100 → M' o = M o := by
  have h4 := hok.1
  rw [e_GaugeNetModel_toldInt, y_is h hok ht (k := 3) (by omega) (x := 2) rfl, bI_some]
  by_cases z : tK T t = 3
  · have e5 := (h.1 t ht).2.2.2 z
    rw [if_pos z, if_neg (by omega), h.2.1.1, if_pos (by omega), pu_nn, e5]
    rcases y_must h hok ht 3 (by omega) (x := 2) rfl with ⟨a1, a2, a3⟩ | ⟨f, M1, a1, a2, a3, a4⟩
    · generalize hM1 : st M 100 11 ((t + 1 : Nat) : Int) = M1 at a2 a3
      have o1 : ∀ o, o ≠ 100 → M1 o = M o := fun o ho => by rw [← hM1, st_ob ho]
      have o2 : ∀ k, k ≠ 11 → M1 100 k = M 100 k := fun k hk => by rw [← hM1, st_nk hk]
      obtain ⟨M2, g1, g2, g3, g5⟩ := y_wrong a3 hok ht 5 (fun q => Or.inl (hks q))
      refine Or.inl ⟨a1, ?_⟩
      rw [a2, bV_none, a3.2.1.2.1, if_neg (fun q => q rfl), g1, bV_none]
      by_cases y : (tV T t : Int) < a
      · rw [if_pos y, if_pos (Or.inl y)]
        exact ⟨M2, rfl, g2, fun o ho => by rw [g3 o ho]; exact o1 o ho, fun k k1 k2 k3 => by rw [g5 k k2 k3]; exact o2 k k1⟩
      · rw [if_neg y]
        by_cases x : (tV T t : Int) ≤ b
        · rw [if_pos x, if_neg (by omega)]
          exact ⟨M1, rfl, a3, o1, fun k k1 _ _ => o2 k k1⟩
        · rw [if_neg x, if_pos (by omega)]
          exact ⟨M2, rfl, g2, fun o ho => by rw [g3 o ho]; exact o1 o ho, fun k k1 k2 k3 => by rw [g5 k k2 k3]; exact o2 k k1⟩
    · refine Or.inr ⟨f, (tV T t : Int), M1, a1, ?_, a3, a4⟩
      rw [a2, bV_none, if_pos (RFp_ne a3)]
  · rw [if_neg z, if_pos rfl]
    rcases y_must h hok ht 3 (by omega) (x := 2) rfl with ⟨a1, a2, a3⟩ | ⟨f, M1, a1, a2, a3, a4⟩
    · exact absurd (ac_none a1).1 z
    · refine Or.inr ⟨f, 0, M1, a1, ?_, a3, a4⟩
      rw [a2, bV_none, if_pos (RFp_ne a3)]
theorem y_toldInt_f (h : RFp lv sd M0 f M) (a b : Int) : gC 197 [rv 11 100, iv a, iv b] M = some (iv 0, M) := by
  rw [e_GaugeNetModel_toldInt, y_is_f (RFp_ne h), bI_some, if_pos rfl, y_must_f h, bV_none, if_pos (RFp_ne h)]
end YN
