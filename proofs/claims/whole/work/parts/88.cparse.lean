/-! The class's parser, step by step. -/
abbrev TKS := (Nat → Nat) × (Nat → Nat) × (Nat → Nat) × (Nat → List Nat) × Nat
def tK (T : TKS) : Nat → Nat := T.1
def tP (T : TKS) : Nat → Nat := T.2.1
def tV (T : TKS) : Nat → Nat := T.2.2.1
def tW (T : TKS) : Nat → List Nat := T.2.2.2.1
def tm (T : TKS) : Nat := T.2.2.2.2
def TKok (T : TKS) : Prop := tm T ≤ 400 ∧ (∀ i, i ≤ tm T → tK T i ≤ 17) ∧ (∀ i, i < tm T → tK T i ≠ 0) ∧ (tK T (tm T) = 0 ∨ tm T = 400) ∧ (∀ i j, i < j → j ≤ tm T → tP T i < tP T j) ∧ (∀ i, i ≤ tm T → tK T i = 2 → dgs (tW T i) ∧ (tW T i).length ≤ 8) ∧ ∀ i, i ≤ tm T → tK T i = 3 → tV T i ≤ 9999
def TCk (T : TKS) (M : mM) : Prop := (∃ c : Nat, M 6 3 = (c : Int) ∧ tm T < c ∧ c ≤ 402) ∧ ∀ i, i ≤ tm T → M 7 i = (tK T i : Int) ∧ M 8 i = (tP T i : Int) ∧ (tK T i = 2 → M 9 i = ((ewd 32 (tW T i) : Nat) : Int)) ∧ (tK T i = 3 → M 9 i = (tV T i : Int))
def TRk (T : TKS) (M : mM) : Prop := ∀ i, i ≤ tm T → M 103 i = ((rkd (tK T i) : Nat) : Int) ∧ M 104 i = (tP T i : Int) ∧ (tK T i = 2 → M 106 i = ((ewd 27 (tW T i) : Nat) : Int)) ∧ (tK T i = 3 → M 105 i = (tV T i : Int))
theorem tok_T {m : Nat} {MC MR : mM} (h : TOK m MC MR) : ∃ T, tm T = m ∧ TKok T ∧ TCk T MC ∧ TRk T MR := by
  obtain ⟨h1, h2, h3, h4, h5⟩ := h
  have ent : ∀ i, i ≤ m → ENT MC MR i ∨ (i = m ∧ MC 7 m = 0 ∧ MR 103 m = 0 ∧ ∃ p : Nat, MC 8 m = (p : Int) ∧ MR 104 m = (p : Int)) := fun i hi => by
    by_cases z : i < m
    · exact Or.inl (h3 i z)
    · have : i = m := by omega
      rw [this]
      rcases h5 with h5 | h5
      · exact Or.inl h5.2
      · exact Or.inr ⟨rfl, h5⟩
  have hw : ∀ i, ∃ w, i ≤ m → (MC 7 i).toNat = 2 → dgs w ∧ w.length ≤ 8 ∧ MC 9 i = ((ewd 32 w : Nat) : Int) ∧ MR 106 i = ((ewd 27 w : Nat) : Int) := fun i => by
    by_cases z : i ≤ m
    · rcases ent i z with ⟨k, p, a, b, c, d, e⟩ | ⟨a, b, c⟩
      · by_cases y : k = 2
        · obtain ⟨w, w1⟩ := d y
          exact ⟨w, fun _ _ => w1⟩
        · exact ⟨[], fun _ q => absurd q (by rw [b.1, pu_nn]; exact y)⟩
      · exact ⟨[], fun _ q => absurd q (by rw [a, b]; decide)⟩
    · exact ⟨[], fun q => absurd q z⟩
  obtain ⟨Wd, hWd⟩ := Classical.axiomOfChoice hw
  refine ⟨(fun i => (MC 7 i).toNat, fun i => (MC 8 i).toNat, fun i => (MC 9 i).toNat, Wd, m), rfl, ⟨h1, fun i hi => ?_, fun i hi => ?_, ?_, fun i j hij hj => ?_, fun i hi hk => ?_, fun i hi hk => ?_⟩, ⟨h2, fun i hi => ?_⟩, fun i hi => ?_⟩
  · show (MC 7 i).toNat ≤ 17
    rcases ent i hi with ⟨k, p, a, b, c, d, e⟩ | ⟨a, b, c⟩
    · rw [b.1, pu_nn]
      omega
    · rw [a, b]
      decide
  · show (MC 7 i).toNat ≠ 0
    obtain ⟨k, p, a, b, c, d, e⟩ := h3 i hi
    rw [b.1, pu_nn]
    omega
  · rcases h5 with h5 | h5
    · exact Or.inr h5.1
    · refine Or.inl ?_
      show (MC 7 m).toNat = 0
      rw [h5.1]
      rfl
  · show (MC 8 i).toNat < (MC 8 j).toNat
    have hj : j ≤ m := hj
    have := h4 i j hij hj
    have : 0 ≤ MC 8 i := by
      rcases ent i (by omega) with ⟨k, p, a, b, c, d, e⟩ | ⟨a, b, c, p, d, e⟩
      · rw [c.1]
        omega
      · rw [a, d]
        omega
    omega
  · have := hWd i hi hk
    exact ⟨this.1, this.2.1⟩
  · show (MC 9 i).toNat ≤ 9999
    have hk : (MC 7 i).toNat = 3 := hk
    rcases ent i hi with ⟨k, p, a, b, c, d, e⟩ | ⟨a, b, c⟩
    · rw [b.1, pu_nn] at hk
      obtain ⟨v, v1, v2, v3⟩ := e hk
      rw [v2, pu_nn]
      exact v1
    · rw [a, b] at hk
      exact absurd hk (by decide)
  · refine ⟨?_, ?_, fun hk => (hWd i hi hk).2.2.1, fun hk => ?_⟩
    · show MC 7 i = (((MC 7 i).toNat : Nat) : Int)
      rcases ent i hi with ⟨k, p, a, b, c, d, e⟩ | ⟨a, b, c⟩
      · rw [b.1, pu_nn]
      · rw [a, b]
        rfl
    · show MC 8 i = (((MC 8 i).toNat : Nat) : Int)
      rcases ent i hi with ⟨k, p, a, b, c, d, e⟩ | ⟨a, b, c, p, d, e⟩
      · rw [c.1, pu_nn]
      · rw [a, d, pu_nn]
    · show MC 9 i = (((MC 9 i).toNat : Nat) : Int)
      have hk : (MC 7 i).toNat = 3 := hk
      rcases ent i hi with ⟨k, p, a, b, c, d, e⟩ | ⟨a, b, c⟩
      · rw [b.1, pu_nn] at hk
        obtain ⟨v, v1, v2, v3⟩ := e hk
        rw [v2, pu_nn]
      · rw [a, b] at hk
        exact absurd hk (by decide)
  · have hi : i ≤ m := hi
    refine ⟨?_, ?_, fun hk => (hWd i hi hk).2.2.2, fun hk => ?_⟩
    · show MR 103 i = ((rkd (MC 7 i).toNat : Nat) : Int)
      rcases ent i hi with ⟨k, p, a, b, c, d, e⟩ | ⟨a, b, c, _⟩
      · rw [b.1, pu_nn]
        exact b.2
      · rw [a, b, c]
        rfl
    · show MR 104 i = (((MC 8 i).toNat : Nat) : Int)
      rcases ent i hi with ⟨k, p, a, b, c, d, e⟩ | ⟨a, b, c, p, d, e⟩
      · rw [c.1, pu_nn]
        exact c.2
      · rw [a, d, pu_nn]
        exact e
    · show MR 105 i = (((MC 9 i).toNat : Nat) : Int)
      have hk : (MC 7 i).toNat = 3 := hk
      rcases ent i hi with ⟨k, p, a, b, c, d, e⟩ | ⟨a, b, c⟩
      · rw [b.1, pu_nn] at hk
        obtain ⟨v, v1, v2, v3⟩ := e hk
        rw [v2, pu_nn]
        exact v3
      · rw [a, b] at hk
        exact absurd hk (by decide)
/-! What is kept; what is accepted. -/
def keepA (ks : Int × Int) (n p : Int) : Int × Int := if ks.1 = 0 then (n, p) else ks
def acF (T : TKS) (t k : Nat) : Option (Int × Int) := if tK T t = k then (if t = 400 then some (2, (tP T t : Int)) else none) else some (1, (tP T t : Int))
theorem ac_none {T : TKS} {t k : Nat} (h : acF T t k = none) : tK T t = k ∧ t ≠ 400 := by
  unfold acF at h
  by_cases z : tK T t = k
  · rw [if_pos z] at h
    refine ⟨z, fun q => ?_⟩
    rw [if_pos q] at h
    cases h
  · rw [if_neg z] at h
    cases h
theorem ac_next {T : TKS} (hok : TKok T) {t k : Nat} (ht : t ≤ tm T) (h : acF T t k = none) (hk : k ≠ 0) : t + 1 ≤ tm T := by
  obtain ⟨h1, h2⟩ := ac_none h
  rcases Nat.lt_or_ge t (tm T) with q | q
  · exact q
  · have e : t = tm T := by omega
    rcases hok.2.2.2.1 with a | a
    · rw [← e, h1] at a
      exact absurd a hk
    · omega
theorem ac_some {T : TKS} {t k : Nat} {f : Int × Int} (h : acF T t k = some f) : 0 < f.1 := by
  unfold acF at h
  by_cases z : tK T t = k
  · rw [if_pos z] at h
    by_cases y : t = 400
    · rw [if_pos y] at h
      cases h
      exact (by decide : (0 : Int) < 2)
    · rw [if_neg y] at h
      cases h
  · rw [if_neg z] at h
    cases h
    exact (by decide : (0 : Int) < 1)
def FCp (w2 : Nat) (M0 M : mM) : Prop := ∀ o, (o < 2 ∨ 9 < o) → (o < w2 ∨ w2 + 8 < o) → M o = M0 o
def CCp (T : TKS) (w2 : Nat) (M0 : mM) (t : Nat) (ks : Int × Int) (M : mM) : Prop := TCk T M ∧ (M 2 1 = (w2 : Int) ∧ M 2 2 = (t : Int) ∧ M 2 3 = 0 ∧ M 2 5 = ks.1 ∧ M 2 6 = if ks.1 = 0 then -1 else ks.2) ∧ FCp w2 M0 M ∧ (w2 = 40 ∨ w2 = 50)
def CFp (w2 : Nat) (M0 : mM) (f : Int × Int) (M : mM) : Prop := M 2 1 = (w2 : Int) ∧ (M 2 3 = f.1 ∧ M 2 4 = f.2) ∧ FCp w2 M0 M
theorem TCk_s {T : TKS} {M M' : mM} (h : TCk T M) (k : ∀ o, 6 ≤ o → o ≤ 9 → M' o = M o) : TCk T M' := by
  unfold TCk
  rw [k 6 (by omega) (by omega), k 7 (by omega) (by omega), k 8 (by omega) (by omega), k 9 (by omega) (by omega)]
  exact h
theorem FCp_st {w2 : Nat} {M0 M : mM} (h : FCp w2 M0 M) {o k : Nat} {v : Int} (ho : (2 ≤ o ∧ o ≤ 9) ∨ (w2 ≤ o ∧ o ≤ w2 + 8)) : FCp w2 M0 (st M o k v) := fun p h1 h2 => by
  rw [st_ob (by omega)]
  exact h p h1 h2
section ZP
variable {T : TKS} {w2 : Nat} {M0 M : mM} {t : Nat} {ks : Int × Int}
theorem CCp_2 (h : CCp T w2 M0 t ks M) (t' : Nat) : CCp T w2 M0 t' ks (st M 2 2 (t' : Int)) := by
  obtain ⟨h1, ⟨h2, h3, h4, h5, h6⟩, h7, h8⟩ := h
  refine ⟨TCk_s h1 (fun o _ _ => st_ob (by omega)), ⟨?_, st_same _ _ _ _, ?_, ?_, ?_⟩, FCp_st h7 (by omega), h8⟩
  · rw [st_nk (by omega)]; exact h2
  · rw [st_nk (by omega)]; exact h4
  · rw [st_nk (by omega)]; exact h5
  · rw [st_nk (by omega)]; exact h6
theorem CCp_10 (h : CCp T w2 M0 t ks M) (v : Int) : CCp T w2 M0 t ks (st M 2 10 v) := by
  obtain ⟨h1, ⟨h2, h3, h4, h5, h6⟩, h7, h8⟩ := h
  refine ⟨TCk_s h1 (fun o _ _ => st_ob (by omega)), ⟨?_, ?_, ?_, ?_, ?_⟩, FCp_st h7 (by omega), h8⟩
  · rw [st_nk (by omega)]; exact h2
  · rw [st_nk (by omega)]; exact h3
  · rw [st_nk (by omega)]; exact h4
  · rw [st_nk (by omega)]; exact h5
  · rw [st_nk (by omega)]; exact h6
theorem CCp_o (h : CCp T w2 M0 t ks M) {o : Nat} (ho : (3 ≤ o ∧ o ≤ 5) ∨ (w2 ≤ o ∧ o ≤ w2 + 8)) (k : Nat) (v : Int) : CCp T w2 M0 t ks (st M o k v) := by
  obtain ⟨h1, ⟨h2, h3, h4, h5, h6⟩, h7, h8⟩ := h
  refine ⟨TCk_s h1 (fun p _ _ => st_ob (by omega)), ⟨?_, ?_, ?_, ?_, ?_⟩, FCp_st h7 (by omega), h8⟩
  · rw [st_ob (by omega)]; exact h2
  · rw [st_ob (by omega)]; exact h3
  · rw [st_ob (by omega)]; exact h4
  · rw [st_ob (by omega)]; exact h5
  · rw [st_ob (by omega)]; exact h6
theorem CFp_of (h : CCp T w2 M0 t ks M) (f : Int × Int) : CFp w2 M0 f (st (st M 2 3 f.1) 2 4 f.2) := by
  obtain ⟨h1, ⟨h2, h3, h4, h5, h6⟩, h7, h8⟩ := h
  refine ⟨?_, ⟨?_, st_same _ _ _ _⟩, FCp_st (FCp_st h7 (by omega)) (by omega)⟩
  · rw [st_nk (by omega), st_nk (by omega)]
    exact h2
  · rw [st_nk (by omega)]
    exact st_same _ _ _ _
theorem z_kindAt (hT : TCk T M) (hok : TKok T) {i : Nat} (hi : i ≤ tm T) : gC 100 [rv 8 6, iv (i : Int)] M = some (iv (tK T i : Int), M) := by
  obtain ⟨⟨c, c1, c2, c3⟩, h⟩ := hT
  have := hok.1
  rw [e_Tokens_kindAt, c1, if_neg (by omega), if_neg (by omega), if_pos (by omega), pu_nn, (h i hi).1]
theorem z_placeAt (hT : TCk T M) (hok : TKok T) {i : Nat} (hi : i ≤ tm T) : gC 101 [rv 8 6, iv (i : Int)] M = some (iv (tP T i : Int), M) := by
  obtain ⟨⟨c, c1, c2, c3⟩, h⟩ := hT
  have := hok.1
  rw [e_Tokens_placeAt, c1, if_neg (by omega), if_neg (by omega), if_pos (by omega), pu_nn, (h i hi).2.1]
theorem z_nameAt (hT : TCk T M) (hok : TKok T) {i : Nat} (hi : i ≤ tm T) (hk : tK T i = 2) : gC 102 [rv 8 6, iv (i : Int)] M = some (jv ((ewd 32 (tW T i) : Nat) : Int), M) := by
  obtain ⟨⟨c, c1, c2, c3⟩, h⟩ := hT
  have := hok.1
  rw [e_Tokens_valueAt, c1, if_neg (by omega), if_neg (by omega), if_pos (by omega), pu_nn, (h i hi).2.2.1 hk]
theorem z_intAt (hT : TCk T M) (hok : TKok T) {i : Nat} (hi : i ≤ tm T) (hk : tK T i = 3) : gC 102 [rv 8 6, iv (i : Int)] M = some (jv (tV T i : Int), M) := by
  obtain ⟨⟨c, c1, c2, c3⟩, h⟩ := hT
  have := hok.1
  rw [e_Tokens_valueAt, c1, if_neg (by omega), if_neg (by omega), if_pos (by omega), pu_nn, (h i hi).2.2.2 hk]
theorem z_kind (h : CCp T w2 M0 t ks M) (hok : TKok T) (ht : t ≤ tm T) : gC 40 [rv 4 2] M = some (iv (tK T t : Int), M) := by
  rw [e_Parser_kind, h.2.1.2.1, z_kindAt h.1 hok ht, bI_some]
theorem z_stop (h : CCp T w2 M0 t ks M) (hok : TKok T) (ht : t ≤ tm T) (v : Int) : gC 43 [rv 4 2, iv v] M = some (iv 0, st (st M 2 3 v) 2 4 (tP T t : Int)) := by
  have hT : TCk T (st M 2 3 v) := TCk_s h.1 (fun o _ _ => st_ob (by omega))
  have e : st M 2 3 v 2 2 = (t : Int) := by rw [st_nk (by omega)]; exact h.2.1.2.1
  rw [e_Parser_stop, h.2.1.2.2.1, if_neg (fun q => q rfl), e, z_placeAt hT hok ht, bI_some]
theorem z_accept (h : CCp T w2 M0 t ks M) (hok : TKok T) (ht : t ≤ tm T) (k : Nat) {x : Int} (hx : x = (k : Int)) : (acF T t k = none ∧ gC 44 [rv 4 2, iv x] M = some (iv 1, st M 2 2 ((t + 1 : Nat) : Int)) ∧ CCp T w2 M0 (t + 1) ks (st M 2 2 ((t + 1 : Nat) : Int))) ∨ ∃ f M', acF T t k = some f ∧ gC 44 [rv 4 2, iv x] M = some (iv 0, M') ∧ CFp w2 M0 f M' := by
  rw [hx]
  have h4 := hok.1
  rw [e_Parser_accept, h.2.1.2.2.1, if_pos rfl, z_kind h hok ht, bI_some, h.2.1.2.1]
  unfold acF
  by_cases z : tK T t = k
  · rw [if_pos z, if_pos (show (tK T t : Int) = (k : Int) by omega)]
    by_cases y : t = 400
    · rw [if_pos y, if_neg (show ¬ (t : Int) < 400 by omega), z_stop h hok ht, bI_some, if_pos (by omega)]
      exact Or.inr ⟨_, _, rfl, rfl, CFp_of h (2, (tP T t : Int))⟩
    · rw [if_neg y, if_pos (show (t : Int) < 400 by omega), pu_inc (by omega)]
      exact Or.inl ⟨rfl, rfl, CCp_2 h _⟩
  · rw [if_neg z, if_neg (show ¬ (tK T t : Int) = (k : Int) by omega), z_stop h hok ht, bI_some, if_pos (by omega)]
    exact Or.inr ⟨_, _, rfl, rfl, CFp_of h (1, (tP T t : Int))⟩
theorem z_at1 (h : CCp T w2 M0 (t + 1) ks M) (hok : TKok T) (ht : t ≤ tm T) : w32 (M 2 2 - 1) = (t : Int) := by
  have h4 := hok.1
  rw [h.2.1.2.1, pu_w32 (by omega) (by omega)]
  omega
theorem z_keep (h : CCp T w2 M0 t ks M) (hok : TKok T) {i : Nat} (hi : i ≤ tm T) (n : Int) (hn : n ≠ 0 := by decide) : ∃ M', gC 46 [rv 4 2, iv n, iv (i : Int)] M = some (none, M') ∧ CCp T w2 M0 t (keepA ks n (tP T i : Int)) M' ∧ (∀ o, o ≠ 2 → M' o = M o) ∧ M' 2 10 = M 2 10 := by
  obtain ⟨h1, ⟨h2, h3, h4, h5, h6⟩, h7, h8⟩ := id h
  rw [e_Parser_keep, h5]
  unfold keepA
  by_cases z : ks.1 = 0
  · have hT : TCk T (st M 2 5 n) := TCk_s h.1 (fun o _ _ => st_ob (by omega))
    rw [if_neg (fun q => q z), if_pos z, z_placeAt hT hok hi, bI_some]
    refine ⟨_, rfl, ⟨TCk_s h1 (fun o _ _ => by rw [st_ob (by omega), st_ob (by omega)]), ⟨?_, ?_, ?_, ?_, by rw [st_same]; exact (if_neg hn).symm⟩, FCp_st (FCp_st h7 (by omega)) (by omega), h8⟩, fun o ho => by rw [st_ob ho, st_ob ho], ?_⟩
    · rw [st_nk (by omega), st_nk (by omega)]; exact h2
    · rw [st_nk (by omega), st_nk (by omega)]; exact h3
    · rw [st_nk (by omega), st_nk (by omega)]; exact h4
    · rw [st_nk (by omega)]; exact st_same _ _ _ _
    · rw [st_nk (by omega), st_nk (by omega)]
  · rw [if_pos z, if_neg z]
    exact ⟨M, rfl, h, fun _ _ => rfl, rfl⟩
end ZP
/-! Names. -/
abbrev NMS := Nat → List Nat × Nat × Nat
def csort (s : Nat) : Nat := if s = 0 then 4 else if s = 1 then 5 else if s = 2 then 7 else 12
theorem csort_inj : ∀ a, a < 4 → ∀ b, b < 4 → csort a = csort b → a = b := by decide +kernel
def NCk (N : NMS) (nn : Nat) (M : mM) : Prop := M 2 10 = (nn : Int) ∧ ∀ i, i < nn → M 3 i = ((ewd 32 (N i).1 : Nat) : Int) ∧ M 4 i = ((csort (N i).2.1 : Nat) : Int) ∧ M 5 i = (((N i).2.2 : Nat) : Int)
def NOKk (N : NMS) (nn : Nat) : Prop := ∀ i, i < nn → dgs (N i).1 ∧ (N i).1.length ≤ 8 ∧ (N i).2.1 < 4
noncomputable def fdx (N : NMS) (nn : Nat) (w : List Nat) : Int := fstI (fun i => decide ((N i).1 = w)) nn (-1)
def nadd (N : NMS) (nn : Nat) (e : List Nat × Nat × Nat) : NMS := fun i => if i = nn then e else N i
theorem NCk_s {N : NMS} {nn : Nat} {M M' : mM} (h : NCk N nn M) (k : ∀ o, 3 ≤ o → o ≤ 5 → M' o = M o) (k2 : M' 2 10 = M 2 10) : NCk N nn M' := by
  unfold NCk
  rw [k 3 (by omega) (by omega), k 4 (by omega) (by omega), k 5 (by omega) (by omega), k2]
  exact h
theorem NOK_add {N : NMS} {nn : Nat} (h : NOKk N nn) {e : List Nat × Nat × Nat} (h1 : dgs e.1) (h2 : e.1.length ≤ 8) (h3 : e.2.1 < 4) : NOKk (nadd N nn e) (nn + 1) := by
  intro i hi
  unfold nadd
  by_cases z : i = nn
  · rw [if_pos z]
    exact ⟨h1, h2, h3⟩
  · rw [if_neg z]
    exact h i (by omega)
section ZN
variable {N : NMS} {nn : Nat} {T : TKS} {w2 : Nat} {M0 M : mM} {t : Nat} {ks : Int × Int}
theorem z_find (hN : NCk N nn M) (hk : NOKk N nn) (h29 : nn ≤ 29) {w : List Nat} (hw : dgs w) : gC 45 [rv 4 2, jv ((ewd 32 w : Nat) : Int)] M = some (iv (fdx N nn w), M) := by
  rw [e_Parser_find]
  have one : ∀ i : Nat, i < nn → gA 45 2 [rv 4 2, jv ((ewd 32 w : Nat) : Int), none, iv (i : Int)] [] M = if decide ((N i).1 = w) = true then some (iv (i : Int), M) else gA 45 2 [rv 4 2, jv ((ewd 32 w : Nat) : Int), none, iv ((i + 1 : Nat) : Int)] [] M := by
    intro i hi
    rw [s_Parser_find_2, hN.1, if_neg (by omega), if_neg (by omega), if_pos (by omega), pu_nn, (hN.2 i hi).1, pu_inc (by omega)]
    by_cases z : (N i).1 = w
    · rw [if_neg (fun q => q (lcmp_eq.mpr (by rw [z]))), if_pos (decide_eq_true z)]
    · rw [if_pos (fun q => z (ewd_inj (b := 32) (by omega) _ _ (hk i hi).1 hw (by have := lcmp_eq.mp q; omega))), if_neg (by rw [decide_eq_true_iff]; exact z)]
  unfold fdx
  rcases fstI_spec (fun i => decide ((N i).1 = w)) nn (-1) with ⟨k, a, b, c, d⟩ | ⟨a, d⟩
  · have key := pu_up (fun i : Nat => gA 45 2 [rv 4 2, jv ((ewd 32 w : Nat) : Int), none, iv (i : Int)] [] M) k (fun i hi => by
      try dsimp only
      rw [one i (by omega), if_neg (by rw [show decide ((N i).1 = w) = false from c i hi]; exact Bool.false_ne_true)])
    try dsimp only at key
    rw [show ((0 : Nat) : Int) = 0 from rfl] at key
    rw [key, one k a, if_pos b, d]
  · have key := pu_up (fun i : Nat => gA 45 2 [rv 4 2, jv ((ewd 32 w : Nat) : Int), none, iv (i : Int)] [] M) nn (fun i hi => by
      try dsimp only
      rw [one i (by omega), if_neg (by rw [show decide ((N i).1 = w) = false from a i hi]; exact Bool.false_ne_true)])
    try dsimp only at key
    rw [show ((0 : Nat) : Int) = 0 from rfl] at key
    rw [key, s_Parser_find_2, hN.1, if_pos (by omega), d]
theorem fdx_cases (N : NMS) (nn : Nat) (w : List Nat) : (fdx N nn w = -1 ∧ ∀ i, i < nn → (N i).1 ≠ w) ∨ ∃ k : Nat, k < nn ∧ fdx N nn w = (k : Int) ∧ (N k).1 = w ∧ ∀ i, i < k → (N i).1 ≠ w := by
  rcases fstI_spec (fun i => decide ((N i).1 = w)) nn (-1) with ⟨k, a, b, c, d⟩ | ⟨a, d⟩
  · exact Or.inr ⟨k, a, d, decide_eq_true_iff.mp b, fun i hi => decide_eq_false_iff_not.mp (c i hi)⟩
  · exact Or.inl ⟨d, fun i hi => decide_eq_false_iff_not.mp (a i hi)⟩
/-- the class's number of a name of a sort -/
noncomputable def numC (N : NMS) (nn : Nat) (w : List Nat) (s : Nat) : Int := if fdx N nn w = -1 then -1 else if (N (fdx N nn w).toNat).2.1 = s then (((N (fdx N nn w).toNat).2.2 : Nat) : Int) else -1
theorem z_numberNamed (h : CCp T w2 M0 (t + 1) ks M) (hok : TKok T) (ht : t ≤ tm T) (hk : tK T t = 2) (hN : NCk N nn M) (hNk : NOKk N nn) (h29 : nn ≤ 29) {s : Nat} (hs : s < 4) : gC 53 [rv 4 2, iv ((csort s : Nat) : Int)] M = some (iv (numC N nn (tW T t) s), M) := by
  have h4 := hok.1
  have hw := (hok.2.2.2.2.2.1 t ht hk).1
  rw [e_Parser_numberNamed, h.2.1.2.1, pu_w32 (x := ((t + 1 : Nat) : Int) - 1) (by omega) (by omega), show ((t + 1 : Nat) : Int) - 1 = (t : Int) by omega, z_nameAt h.1 hok ht hk, bJ_some, z_find hN hNk h29 hw, bI_some]
  unfold numC
  rcases fdx_cases N nn (tW T t) with ⟨a, b⟩ | ⟨k, a, b, c, d⟩
  · rw [a, if_pos (by omega), if_pos rfl]
  · rw [b, if_neg (by omega), if_neg (by omega), if_pos (by omega), pu_nn, (hN.2 k a).2.1, if_neg (show ¬ (k : Int) = -1 by omega)]
    by_cases z : (N k).2.1 = s
    · rw [if_neg (fun q => q (by rw [z])), if_pos (by omega), (hN.2 k a).2.2, if_pos z]
    · rw [if_pos (fun q => z (csort_inj _ (hNk k a).2.2 s hs (by omega))), if_neg z]
def hdF (T : TKS) (t c most : Nat) : Option (Int × Int) := if c < most then (match acF T t (tK T t) with
  | some f => some f
  | none => acF T (t + 1) 2) else some (2, (tP T t : Int))
noncomputable def hdK (T : TKS) (N : NMS) (nn t : Nat) (ks : Int × Int) : Int × Int := if fdx N nn (tW T (t + 1)) = -1 then ks else keepA ks 3 (tP T (t + 1) : Int)
theorem z_head (h : CCp T w2 M0 t ks M) (hok : TKok T) (ht : t ≤ tm T) (hN : NCk N nn M) (hNk : NOKk N nn) (h29 : nn < 29) {k s c most : Nat} (hk : tK T t = k) (hk0 : k ≠ 0) (hs : csort s = if k = 8 then 7 else k) : (hdF T t c most = none ∧ ∃ M', gC 42 [rv 4 2, iv (k : Int), iv (c : Int), iv (most : Int)] M = some (iv 1, M') ∧ CCp T w2 M0 (t + 2) (hdK T N nn t ks) M' ∧ NCk (nadd N nn (tW T (t + 1), s, c)) (nn + 1) M' ∧ ∀ o, 9 < o → M' o = M o) ∨ ∃ f M', hdF T t c most = some f ∧ gC 42 [rv 4 2, iv (k : Int), iv (c : Int), iv (most : Int)] M = some (iv 0, M') ∧ CFp w2 M0 f M' := by
  have h4 := hok.1
  rw [e_Parser_acceptHead]
  unfold hdF
  by_cases z : c < most
  · rw [if_pos z, if_pos (show (c : Int) < (most : Int) by omega), hk]
    rcases z_accept h hok ht k rfl with ⟨a1, a2, a3⟩ | ⟨f, M1, a1, a2, a3⟩
    · have ht1 := ac_next hok ht a1 hk0
      rw [a1, a2, bI_some, if_neg (by omega)]
      dsimp only
      rcases z_accept a3 hok ht1 2 (x := 2) rfl with ⟨b1, b2, b3⟩ | ⟨f, M1, b1, b2, b3⟩
      · refine Or.inl ⟨b1, ?_⟩
        have hk2 := (ac_none b1).1
        have hw := hok.2.2.2.2.2.1 (t + 1) ht1 hk2
        generalize hMB : st (st M 2 2 ((t + 1 : Nat) : Int)) 2 2 ((t + 1 + 1 : Nat) : Int) = MB at b2 b3
        have o1 : ∀ o, o ≠ 2 → MB o = M o := fun o ho => by rw [← hMB, st_ob ho, st_ob ho]
        have hNB : NCk N nn MB := NCk_s hN (fun o _ _ => o1 o (by omega)) (by rw [← hMB, st_nk (by omega), st_nk (by omega)])
        have fin : ∀ (M5 : mM) (ks' : Int × Int), CCp T w2 M0 (t + 2) ks' M5 → NCk N nn M5 → (∀ o, 9 < o → M5 o = M o) → ∃ M', (if 29 ≤ (M5 2 10) then
some (iv 1, M5)
else
if 0 ≤ (M5 2 10) ∧ (M5 2 10) < 29 then
if ¬ (k : Int) = 8 then
if 0 ≤ ((st M5 3 (M5 2 10).toNat ((ewd 32 (tW T (t + 1)) : Nat) : Int)) 2 10) ∧ ((st M5 3 (M5 2 10).toNat ((ewd 32 (tW T (t + 1)) : Nat) : Int)) 2 10) < 29 then
if 0 ≤ ((st (st M5 3 (M5 2 10).toNat ((ewd 32 (tW T (t + 1)) : Nat) : Int)) 4 ((st M5 3 (M5 2 10).toNat ((ewd 32 (tW T (t + 1)) : Nat) : Int)) 2 10).toNat (k : Int)) 2 10) ∧ ((st (st M5 3 (M5 2 10).toNat ((ewd 32 (tW T (t + 1)) : Nat) : Int)) 4 ((st M5 3 (M5 2 10).toNat ((ewd 32 (tW T (t + 1)) : Nat) : Int)) 2 10).toNat (k : Int)) 2 10) < 29 then
some (iv 1, st (st (st (st M5 3 (M5 2 10).toNat ((ewd 32 (tW T (t + 1)) : Nat) : Int)) 4 ((st M5 3 (M5 2 10).toNat ((ewd 32 (tW T (t + 1)) : Nat) : Int)) 2 10).toNat (k : Int)) 5 ((st (st M5 3 (M5 2 10).toNat ((ewd 32 (tW T (t + 1)) : Nat) : Int)) 4 ((st M5 3 (M5 2 10).toNat ((ewd 32 (tW T (t + 1)) : Nat) : Int)) 2 10).toNat (k : Int)) 2 10).toNat (c : Int)) 2 10 (w32 (((st (st (st M5 3 (M5 2 10).toNat ((ewd 32 (tW T (t + 1)) : Nat) : Int)) 4 ((st M5 3 (M5 2 10).toNat ((ewd 32 (tW T (t + 1)) : Nat) : Int)) 2 10).toNat (k : Int)) 5 ((st (st M5 3 (M5 2 10).toNat ((ewd 32 (tW T (t + 1)) : Nat) : Int)) 4 ((st M5 3 (M5 2 10).toNat ((ewd 32 (tW T (t + 1)) : Nat) : Int)) 2 10).toNat (k : Int)) 2 10).toNat (c : Int)) 2 10) + 1)))
else none
else none
else
if 0 ≤ ((st M5 3 (M5 2 10).toNat ((ewd 32 (tW T (t + 1)) : Nat) : Int)) 2 10) ∧ ((st M5 3 (M5 2 10).toNat ((ewd 32 (tW T (t + 1)) : Nat) : Int)) 2 10) < 29 then
if 0 ≤ ((st (st M5 3 (M5 2 10).toNat ((ewd 32 (tW T (t + 1)) : Nat) : Int)) 4 ((st M5 3 (M5 2 10).toNat ((ewd 32 (tW T (t + 1)) : Nat) : Int)) 2 10).toNat 7) 2 10) ∧ ((st (st M5 3 (M5 2 10).toNat ((ewd 32 (tW T (t + 1)) : Nat) : Int)) 4 ((st M5 3 (M5 2 10).toNat ((ewd 32 (tW T (t + 1)) : Nat) : Int)) 2 10).toNat 7) 2 10) < 29 then
some (iv 1, st (st (st (st M5 3 (M5 2 10).toNat ((ewd 32 (tW T (t + 1)) : Nat) : Int)) 4 ((st M5 3 (M5 2 10).toNat ((ewd 32 (tW T (t + 1)) : Nat) : Int)) 2 10).toNat 7) 5 ((st (st M5 3 (M5 2 10).toNat ((ewd 32 (tW T (t + 1)) : Nat) : Int)) 4 ((st M5 3 (M5 2 10).toNat ((ewd 32 (tW T (t + 1)) : Nat) : Int)) 2 10).toNat 7) 2 10).toNat (c : Int)) 2 10 (w32 (((st (st (st M5 3 (M5 2 10).toNat ((ewd 32 (tW T (t + 1)) : Nat) : Int)) 4 ((st M5 3 (M5 2 10).toNat ((ewd 32 (tW T (t + 1)) : Nat) : Int)) 2 10).toNat 7) 5 ((st (st M5 3 (M5 2 10).toNat ((ewd 32 (tW T (t + 1)) : Nat) : Int)) 4 ((st M5 3 (M5 2 10).toNat ((ewd 32 (tW T (t + 1)) : Nat) : Int)) 2 10).toNat 7) 2 10).toNat (c : Int)) 2 10) + 1)))
else none
else none
else none) = some (iv 1, M') ∧ CCp T w2 M0 (t + 2) ks' M' ∧ NCk (nadd N nn (tW T (t + 1), s, c)) (nn + 1) M' ∧ ∀ o, 9 < o → M' o = M o := by
          intro M5 ks' hC hN5 ho5
          have n10 := hN5.1
          have e1 : ∀ v, st M5 3 nn v 2 10 = (nn : Int) := fun v => by rw [st_ob (by omega)]; exact n10
          have e2 : ∀ v x, st (st M5 3 nn v) 4 nn x 2 10 = (nn : Int) := fun v x => by rw [st_ob (by omega)]; exact e1 v
          have e3 : ∀ v x y, st (st (st M5 3 nn v) 4 nn x) 5 nn y 2 10 = (nn : Int) := fun v x y => by rw [st_ob (by omega)]; exact e2 v x
          have out : ∀ v : Int, v = ((csort s : Nat) : Int) → CCp T w2 M0 (t + 2) ks' (st (st (st (st M5 3 nn ((ewd 32 (tW T (t + 1)) : Nat) : Int)) 4 nn v) 5 nn (c : Int)) 2 10 ((nn + 1 : Nat) : Int)) ∧ NCk (nadd N nn (tW T (t + 1), s, c)) (nn + 1) (st (st (st (st M5 3 nn ((ewd 32 (tW T (t + 1)) : Nat) : Int)) 4 nn v) 5 nn (c : Int)) 2 10 ((nn + 1 : Nat) : Int)) ∧ ∀ o, 9 < o → st (st (st (st M5 3 nn ((ewd 32 (tW T (t + 1)) : Nat) : Int)) 4 nn v) 5 nn (c : Int)) 2 10 ((nn + 1 : Nat) : Int) o = M o := by
            intro v hv
            refine ⟨CCp_10 (CCp_o (CCp_o (CCp_o hC (by omega) _ _) (by omega) _ _) (by omega) _ _) _, ⟨st_same _ _ _ _, fun i hi => ?_⟩, fun o ho => by rw [st_ob (by omega), st_ob (by omega), st_ob (by omega), st_ob (by omega)]; exact ho5 o ho⟩
            unfold nadd
            rw [st_ob (by omega), st_ob (by omega), st_ob (by omega), st_if, st_ob (show 4 ≠ 2 by omega), st_ob (show 4 ≠ 5 by omega), st_if, st_ob (show 4 ≠ 3 by omega), st_ob (show 5 ≠ 2 by omega), st_if, st_ob (show 5 ≠ 4 by omega), st_ob (show 5 ≠ 3 by omega)]
            by_cases e : i = nn
            · rw [if_pos e, if_pos e, if_pos e, if_pos e]
              exact ⟨rfl, hv, rfl⟩
            · rw [if_neg e, if_neg e, if_neg e, if_neg e]
              exact hN5.2 i (by omega)
          rw [n10, if_neg (by omega), if_pos (by omega), pu_nn]
          by_cases y : k = 8
          · rw [if_neg (fun q => q (by omega)), e1, pu_nn, if_pos (by omega), e2, pu_nn, if_pos (by omega), e3, pu_inc (by omega)]
            rw [if_pos y] at hs
            exact ⟨_, rfl, out 7 (by rw [hs]; rfl)⟩
          · rw [if_pos (by omega), e1, pu_nn, if_pos (by omega), e2, pu_nn, if_pos (by omega), e3, pu_inc (by omega)]
            rw [if_neg y] at hs
            exact ⟨_, rfl, out (k : Int) (by rw [hs])⟩
        rw [b2, bI_some, if_pos (by omega), b3.2.1.2.1, pu_w32 (x := ((t + 1 + 1 : Nat) : Int) - 1) (by omega) (by omega), show ((t + 1 + 1 : Nat) : Int) - 1 = ((t + 1 : Nat) : Int) by omega, z_nameAt b3.1 hok ht1 hk2, bJ_some, z_find hNB hNk (by omega) hw.1, bI_some]
        unfold hdK
        by_cases y : fdx N nn (tW T (t + 1)) = -1
        · rw [if_pos y, if_pos y]
          exact fin MB ks b3 hNB (fun o ho => o1 o (by omega))
        · obtain ⟨MK, g1, g2, g3, g4⟩ := z_keep b3 hok ht1 3
          rw [if_neg y, if_neg y, z_at1 b3 hok ht1, g1, bV_none]
          exact fin MK _ g2 (NCk_s hNB (fun o _ _ => g3 o (by omega)) g4) (fun o ho => by rw [g3 o (by omega)]; exact o1 o (by omega))
      · rw [b2, bI_some, if_neg (fun q => q rfl)]
        exact Or.inr ⟨f, M1, b1, rfl, b3⟩
    · rw [a1, a2, bI_some, if_pos rfl]
      exact Or.inr ⟨f, M1, rfl, rfl, a3⟩
  · rw [if_neg z, if_neg (show ¬ (c : Int) < (most : Int) by omega), z_stop h hok ht, bI_some, if_pos (by omega)]
    exact Or.inr ⟨_, _, rfl, rfl, CFp_of h (2, (tP T t : Int))⟩
end ZN
