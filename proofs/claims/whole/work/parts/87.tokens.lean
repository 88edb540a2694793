/-! The TOKENS that both programs find. -/
def ENT (MC MR : mM) (i : Nat) : Prop := ∃ k p : Nat, (1 ≤ k ∧ k ≤ 17) ∧ (MC 7 i = (k : Int) ∧ MR 103 i = ((rkd k : Nat) : Int)) ∧ (MC 8 i = (p : Int) ∧ MR 104 i = (p : Int)) ∧ (k = 2 → ∃ w, dgs w ∧ w.length ≤ 8 ∧ MC 9 i = ((ewd 32 w : Nat) : Int) ∧ MR 106 i = ((ewd 27 w : Nat) : Int)) ∧ (k = 3 → ∃ v : Nat, v ≤ 9999 ∧ MC 9 i = (v : Int) ∧ MR 105 i = (v : Int))
/-- n TOKENS, all before the byte a -/
def TI (n a : Nat) (MC MR : mM) : Prop := (MC 6 3 = (n : Int) ∧ MR 100 10 = (n : Int)) ∧ (∀ i, i < n → ENT MC MR i) ∧ (∀ i j, i < j → j < n → MC 8 i < MC 8 j) ∧ ∀ i, i < n → MC 8 i < (a : Int)
/-- what stays: the class's, the reference's -/
def Kc (M M' : mM) : Prop := ∀ o, (o < 6 ∨ 9 < o) → M' o = M o
def Kr (M M' : mM) : Prop := (∀ o, o ≠ 100 → (o < 103 ∨ 106 < o) → M' o = M o) ∧ ∀ k, k ≠ 10 → M' 100 k = M 100 k
theorem Kc_refl (M : mM) : Kc M M := fun _ _ => rfl
theorem Kr_refl (M : mM) : Kr M M := ⟨fun _ _ _ => rfl, fun _ _ => rfl⟩
theorem Kc_trans {A B C : mM} (h : Kc A B) (h' : Kc B C) : Kc A C := fun o ho => (h' o ho).trans (h o ho)
theorem Kr_trans {A B C : mM} (h : Kr A B) (h' : Kr B C) : Kr A C := ⟨fun o h1 h2 => (h'.1 o h1 h2).trans (h.1 o h1 h2), fun k hk => (h'.2 k hk).trans (h.2 k hk)⟩
theorem c_tput {n : Nat} {M : mM} (hn : M 6 3 = (n : Int)) (h : n < 402) (k p v : Int) : gC 96 [rv 8 6, iv k, iv p, jv v] M = some (none, st (st (st (st M 7 n k) 8 n p) 9 n v) 6 3 ((n + 1 : Nat) : Int)) := by
  have e1 : ∀ v, st M 7 n v 6 3 = (n : Int) := fun v => by rw [st_ob (by omega)]; exact hn
  have e2 : ∀ v w, st (st M 7 n v) 8 n w 6 3 = (n : Int) := fun v w => by rw [st_ob (by omega)]; exact e1 v
  have e3 : ∀ v w x, st (st (st M 7 n v) 8 n w) 9 n x 6 3 = (n : Int) := fun v w x => by rw [st_ob (by omega)]; exact e2 v w
  rw [e_Tokens_put, hn, if_neg (by omega), if_neg (by omega), if_pos (by omega), pu_nn, e1, if_pos (by omega), pu_nn, e2, if_pos (by omega), pu_nn, e3, pu_inc (by omega)]
theorem r_token {n : Nat} {M : mM} (hn : M 100 10 = (n : Int)) (h : n < 403) (k p v x : Int) : gC 183 [rv 11 100, iv k, iv p, iv v, jv x] M = some (none, st (st (st (st (st M 103 n k) 104 n p) 105 n v) 106 n x) 100 10 ((n + 1 : Nat) : Int)) := by
  have e1 : ∀ v, st M 103 n v 100 10 = (n : Int) := fun v => by rw [st_ob (by omega)]; exact hn
  have e2 : ∀ v w, st (st M 103 n v) 104 n w 100 10 = (n : Int) := fun v w => by rw [st_ob (by omega)]; exact e1 v
  have e3 : ∀ v w x, st (st (st M 103 n v) 104 n w) 105 n x 100 10 = (n : Int) := fun v w x => by rw [st_ob (by omega)]; exact e2 v w
  have e4 : ∀ v w x y, st (st (st (st M 103 n v) 104 n w) 105 n x) 106 n y 100 10 = (n : Int) := fun v w x y => by rw [st_ob (by omega)]; exact e3 v w x
  rw [e_GaugeNetModel_token, hn, if_pos (by omega), pu_nn, e1, if_pos (by omega), pu_nn, e2, if_pos (by omega), pu_nn, e3, if_pos (by omega), pu_nn, e4, pu_inc (by omega)]
/-- both write one TOKEN more -/
theorem TI_add {n a a' : Nat} {MC MR : mM} (h : TI n a MC MR) {k : Nat} (hk : 1 ≤ k ∧ k ≤ 17) (ha : a < a') {vC vR xR : Int} (h2 : k = 2 → ∃ w, dgs w ∧ w.length ≤ 8 ∧ vC = ((ewd 32 w : Nat) : Int) ∧ xR = ((ewd 27 w : Nat) : Int)) (h3 : k = 3 → ∃ v : Nat, v ≤ 9999 ∧ vC = (v : Int) ∧ vR = (v : Int)) : TI (n + 1) a' (st (st (st (st MC 7 n (k : Int)) 8 n (a : Int)) 9 n vC) 6 3 ((n + 1 : Nat) : Int)) (st (st (st (st (st MR 103 n ((rkd k : Nat) : Int)) 104 n (a : Int)) 105 n vR) 106 n xR) 100 10 ((n + 1 : Nat) : Int)) := by
  obtain ⟨⟨t1, t2⟩, t3, t4, t5⟩ := h
  generalize hC : st (st (st (st MC 7 n (k : Int)) 8 n (a : Int)) 9 n vC) 6 3 ((n + 1 : Nat) : Int) = MC'
  generalize hR : st (st (st (st (st MR 103 n ((rkd k : Nat) : Int)) 104 n (a : Int)) 105 n vR) 106 n xR) 100 10 ((n + 1 : Nat) : Int) = MR'
  have c7 : ∀ i, MC' 7 i = if i = n then (k : Int) else MC 7 i := fun i => by rw [← hC, st_ob (by omega), st_ob (by omega), st_ob (by omega), st_if]
  have c8 : ∀ i, MC' 8 i = if i = n then (a : Int) else MC 8 i := fun i => by rw [← hC, st_ob (by omega), st_ob (by omega), st_if, st_ob (by omega)]
  have c9 : ∀ i, MC' 9 i = if i = n then vC else MC 9 i := fun i => by rw [← hC, st_ob (by omega), st_if, st_ob (by omega), st_ob (by omega)]
  have r3 : ∀ i, MR' 103 i = if i = n then ((rkd k : Nat) : Int) else MR 103 i := fun i => by rw [← hR, st_ob (by omega), st_ob (by omega), st_ob (by omega), st_ob (by omega), st_if]
  have r4 : ∀ i, MR' 104 i = if i = n then (a : Int) else MR 104 i := fun i => by rw [← hR, st_ob (by omega), st_ob (by omega), st_ob (by omega), st_if, st_ob (by omega)]
  have r5 : ∀ i, MR' 105 i = if i = n then vR else MR 105 i := fun i => by rw [← hR, st_ob (by omega), st_ob (by omega), st_if, st_ob (by omega), st_ob (by omega)]
  have r6 : ∀ i, MR' 106 i = if i = n then xR else MR 106 i := fun i => by rw [← hR, st_ob (by omega), st_if, st_ob (by omega), st_ob (by omega), st_ob (by omega)]
  refine ⟨⟨by rw [← hC]; exact st_same _ _ _ _, by rw [← hR]; exact st_same _ _ _ _⟩, fun i hi => ?_, fun i j hij hj => ?_, fun i hi => ?_⟩
  · unfold ENT
    rw [c7, c8, c9, r3, r4, r5, r6]
    by_cases e : i = n
    · rw [if_pos e, if_pos e, if_pos e, if_pos e, if_pos e, if_pos e, if_pos e]
      exact ⟨k, a, hk, ⟨rfl, rfl⟩, ⟨rfl, rfl⟩, h2, h3⟩
    · rw [if_neg e, if_neg e, if_neg e, if_neg e, if_neg e, if_neg e, if_neg e]
      exact t3 i (by omega)
  · rw [c8, c8, if_neg (by omega)]
    by_cases e : j = n
    · rw [if_pos e]
      exact t5 i (by omega)
    · rw [if_neg e]
      exact t4 i j hij (by omega)
  · rw [c8]
    by_cases e : i = n
    · rw [if_pos e]
      omega
    · rw [if_neg e]
      have := t5 i (by omega)
      omega
theorem Kc_put {n : Nat} {M : mM} {a b c d : Int} : Kc M (st (st (st (st M 7 n a) 8 n b) 9 n c) 6 3 d) := fun o ho => by rw [st_ob (by omega), st_ob (by omega), st_ob (by omega), st_ob (by omega)]
theorem Kr_put {n : Nat} {M : mM} {a b c d e : Int} : Kr M (st (st (st (st (st M 103 n a) 104 n b) 105 n c) 106 n d) 100 10 e) := ⟨fun o h1 h2 => by rw [st_ob h1, st_ob (by omega), st_ob (by omega), st_ob (by omega), st_ob (by omega)], fun k hk => by rw [st_nk hk, st_ob (by omega), st_ob (by omega), st_ob (by omega), st_ob (by omega)]⟩
section TK
variable {tl : Nat} {B : Nat → Nat} {MC MR : mM}
/-- both take one TOKEN -/
theorem takeOne (hc : TXc tl B MC) (hr : TXr tl B MR) (ho : TXok tl B) (hk : MR 107 = keysM) {n a : Nat} (hT : TI n a MC MR) (hn : n ≤ 400) (ha : a < tl) (hb : isBl (B a) = false) : ∃ a' MC' MR', a < a' ∧ a' ≤ tl ∧ gC 91 [rv 8 6, rv 8102 1, iv (tl : Int), iv (a : Int)] MC = some (iv (a' : Int), MC') ∧ gA 181 7 [rv 11 100, iv (a : Int), none, none, none, none, none, none] [] MR = gA 181 7 [rv 11 100, iv (a' : Int), none, none, none, none, none, none] [] MR' ∧ TI (n + 1) a' MC' MR' ∧ Kc MC MC' ∧ Kr MR MR' := by
  have h0 := ho.1
  have nb : ¬ (B a = 9 ∨ B a = 10 ∨ B a = 13 ∨ B a = 32) := fun q => by
    rw [isBl_iff.mpr q] at hb
    cases hb
  have hR : gA 181 7 [rv 11 100, iv (a : Int), none, none, none, none, none, none] [] MR = (bI (gC 184 [iv (B a : Int)] MR) fun c2 M2 =>
if c2 = 0 then
bI (gC 185 [iv (B a : Int)] M2) fun c3 M3 =>
if c3 = 0 then
bI (gC 186 [iv (B a : Int)] M3) fun c4 M4 =>
bV (gC 183 [rv 11 100, iv c4, iv (a : Int), iv 0, jv 0] M4) fun M5 =>
gA 181 7 [rv 11 100, iv (w32 ((a : Int) + 1)), none, none, none, none, none, none] [] M5
else
gA 181 208 [rv 11 100, iv (a : Int), none, iv 0, iv 0, none, none, none] [] M3
else
gA 181 85 [rv 11 100, iv (a : Int), none, iv 0, jv 0, none, none, none] [] M2) := by
    rw [s_GaugeNetModel_cut_7, hT.1.2, if_neg (by omega), r_byteAt hr ho, bI_some, hr.1, if_pos (by omega), if_neg (by omega), if_neg (by omega), if_neg (by omega), if_pos (by omega)]
  rw [e_Tokens_take, c_signAt hc ho, bI_some, c_isLetter, bI_some, ite01_0, hR, r_isLetter, bI_some, ite01_0]
  by_cases l : isL (B a) = true
  · obtain ⟨m, m1, m2, m3⟩ := run_end ho (p := isL) rfl (a := a) (by omega)
    have hm : 0 < m := by
      rcases Nat.eq_zero_or_pos m with q | q
      · rw [q, Nat.add_zero, l] at m2
        cases m2
      · exact q
    have hd := wrd_dg m m1
    have hkc := kcl_le (wrd B a m)
    rw [if_pos l, if_pos l, c_takeLetters hc ho m1 m2 m3, c_tput hT.1.1 (by omega), bV_none, bI_some, r_takeLetters hr ho hk m1 m2 m3, r_token hT.1.2 (by omega), bV_none]
    refine ⟨a + m, _, _, by omega, m3, rfl, rfl, TI_add hT ?_ (by omega) (fun _ => ⟨wrd B a m, hd, by rw [wrd_len]; omega, rfl, rfl⟩) (fun q => ?_), Kc_put, Kr_put⟩
    · split <;> omega
    · split at q
      · unfold kcl at q
        exact absurd q (by repeat' split
                           all_goals omega)
      · omega
  · rw [if_neg l, if_neg l, c_isDigit, bI_some, ite01_0, r_isDigit, bI_some, ite01_0]
    by_cases d : isDg (B a) = true
    · obtain ⟨m, m1, m2, m3⟩ := run_end ho (p := isDg) rfl (a := a) (by omega)
      have hm : 0 < m := by
        rcases Nat.eq_zero_or_pos m with q | q
        · rw [q, Nat.add_zero, d] at m2
          cases m2
        · exact q
      have hd := dvl_le m1
      rw [if_pos d, if_pos d, c_takeDigits hc ho m1 m2 m3, c_tput hT.1.1 (by omega), bV_none, bI_some, r_takeDigits hr ho m1 m2 m3, r_token hT.1.2 (by omega), bV_none]
      refine ⟨a + m, _, _, by omega, m3, rfl, rfl, TI_add hT ?_ (by omega) (fun q => ?_) (fun _ => ⟨dvl B a m, hd, rfl, rfl⟩), Kc_put, Kr_put⟩
      · split <;> omega
      · split at q <;> omega
    · have hs := sgn_le (B a)
      rw [if_neg d, if_neg d, c_kindOfSign, bI_some, c_tput hT.1.1 (by omega), bV_none, r_sign, bI_some, r_token hT.1.2 (by omega), bV_none, pu_inc (by omega)]
      refine ⟨a + 1, _, _, by omega, by omega, rfl, rfl, TI_add hT (by omega) (by omega) (fun q => absurd q hs.2.2.1) (fun q => absurd q hs.2.2.2), Kc_put, Kr_put⟩
/-- the reference passes blanks -/
theorem r_skip (hr : TXr tl B MR) (ho : TXok tl B) {n : Nat} (hn : MR 100 10 = (n : Int)) (h4 : n ≤ 400) {i a : Nat} (hi : i ≤ a) (ha : a ≤ tl) (hb : ∀ j, i ≤ j → j < a → isBl (B j) = true) : gA 181 7 [rv 11 100, iv (i : Int), none, none, none, none, none, none] [] MR = gA 181 7 [rv 11 100, iv (a : Int), none, none, none, none, none, none] [] MR := by
  have h0 := ho.1
  have key := pu_from (fun j : Nat => gA 181 7 [rv 11 100, iv (j : Int), none, none, none, none, none, none] [] MR) i a hi (fun j j1 j2 => by
    have hbl := isBl_iff.mp (hb j j1 j2)
    try dsimp only
    rw [s_GaugeNetModel_cut_7, hn, if_neg (by omega), r_byteAt hr ho, bI_some, hr.1, if_pos (by omega), pu_inc (by omega)]
    by_cases z9 : B j = 9
    · rw [if_pos (by omega)]
    · by_cases z10 : B j = 10
      · rw [if_neg (by omega), if_pos (by omega)]
      · by_cases z13 : B j = 13
        · rw [if_neg (by omega), if_neg (by omega), if_pos (by omega)]
        · rw [if_neg (by omega), if_neg (by omega), if_neg (by omega), if_neg (fun q => q (by omega))])
  exact key
/-- the TOKENS up to the m-th: the text's end, or the 401st -/
def TOK (m : Nat) (MC MR : mM) : Prop := m ≤ 400 ∧ (∃ c : Nat, MC 6 3 = (c : Int) ∧ m < c ∧ c ≤ 402) ∧ (∀ i, i < m → ENT MC MR i) ∧ (∀ i j, i < j → j ≤ m → MC 8 i < MC 8 j) ∧ ((m = 400 ∧ ENT MC MR m) ∨ (MC 7 m = 0 ∧ MR 103 m = 0 ∧ ∃ p : Nat, MC 8 m = (p : Int) ∧ MR 104 m = (p : Int)))
theorem tokens (ho : TXok tl B) : ∀ (f n i a : Nat) (MC MR : mM), TXc tl B MC → TXr tl B MR → MR 107 = keysM → n + f = 401 → TI n i MC MR → i ≤ a → a ≤ tl → (∀ j, i ≤ j → j < a → isBl (B j) = true) → (a < tl → isBl (B a) = false) → ∃ m MC' MR', gA 87 15 [rv 8 6, rv 8102 1, iv (tl : Int), iv (a : Int), iv (n : Int)] [] MC = some (none, MC') ∧ gA 181 7 [rv 11 100, iv (i : Int), none, none, none, none, none, none] [] MR = some (none, MR') ∧ TOK m MC' MR' ∧ Kc MC MC' ∧ Kr MR MR'
  | 0, n, i, a, MC, MR, hc, hr, hk, hn, hT, hi, ha, hb, he => by
    have hn : n = 401 := by omega
    have h0 := ho.1
    subst hn
    rw [s_Tokens_part_15, if_pos (by omega), c_tput hT.1.1 (by omega), bV_none, s_GaugeNetModel_cut_7, hT.1.2, if_pos (by omega)]
    refine ⟨400, _, _, rfl, rfl, ?_, Kc_put, Kr_refl _⟩
    obtain ⟨⟨t1, t2⟩, t3, t4, t5⟩ := hT
    generalize hC : st (st (st (st MC 7 401 0) 8 401 (tl : Int)) 9 401 0) 6 3 ((401 + 1 : Nat) : Int) = MC'
    have c7 : ∀ i, i < 401 → MC' 7 i = MC 7 i := fun i hi => by rw [← hC, st_ob (by omega), st_ob (by omega), st_ob (by omega), st_if, if_neg (by omega)]
    have c8 : ∀ i, i < 401 → MC' 8 i = MC 8 i := fun i hi => by rw [← hC, st_ob (by omega), st_ob (by omega), st_if, if_neg (by omega), st_ob (by omega)]
    have c9 : ∀ i, i < 401 → MC' 9 i = MC 9 i := fun i hi => by rw [← hC, st_ob (by omega), st_if, if_neg (by omega), st_ob (by omega), st_ob (by omega)]
    have ent : ∀ i, i < 401 → ENT MC' MR i := fun i hi => by
      unfold ENT
      rw [c7 i hi, c8 i hi, c9 i hi]
      exact t3 i hi
    refine ⟨by omega, ⟨402, by rw [← hC]; exact st_same _ _ _ _, by omega, by omega⟩, fun i hi => ent i (by omega), fun i j hij hj => ?_, Or.inl ⟨rfl, ent 400 (by omega)⟩⟩
    rw [c8 i (by omega), c8 j (by omega)]
    exact t4 i j hij (by omega)
  | f + 1, n, i, a, MC, MR, hc, hr, hk, hn, hT, hi, ha, hb, he => by
    have h0 := ho.1
    rw [r_skip hr ho hT.1.2 (by omega) hi ha hb]
    have hT2 : TI n a MC MR := ⟨hT.1, hT.2.1, hT.2.2.1, fun j hj => by have := hT.2.2.2 j hj; omega⟩
    by_cases z : a = tl
    · rw [s_Tokens_part_15, if_neg (by omega), if_pos (by omega), c_tput hT.1.1 (by omega), bV_none, s_GaugeNetModel_cut_7, hT.1.2, if_neg (by omega), r_byteAt hr ho, bI_some, hr.1, if_neg (by omega), r_token hT.1.2 (by omega), bV_none]
      refine ⟨n, _, _, rfl, rfl, ?_, Kc_put, Kr_put⟩
      obtain ⟨⟨t1, t2⟩, t3, t4, t5⟩ := hT2
      generalize hC : st (st (st (st MC 7 n 0) 8 n (tl : Int)) 9 n 0) 6 3 ((n + 1 : Nat) : Int) = MC'
      generalize hR : st (st (st (st (st MR 103 n 0) 104 n (tl : Int)) 105 n 0) 106 n 0) 100 10 ((n + 1 : Nat) : Int) = MR'
      have c7 : ∀ i, MC' 7 i = if i = n then 0 else MC 7 i := fun i => by rw [← hC, st_ob (by omega), st_ob (by omega), st_ob (by omega), st_if]
      have c8 : ∀ i, MC' 8 i = if i = n then (tl : Int) else MC 8 i := fun i => by rw [← hC, st_ob (by omega), st_ob (by omega), st_if, st_ob (by omega)]
      have c9 : ∀ i, MC' 9 i = if i = n then 0 else MC 9 i := fun i => by rw [← hC, st_ob (by omega), st_if, st_ob (by omega), st_ob (by omega)]
      have r3 : ∀ i, MR' 103 i = if i = n then 0 else MR 103 i := fun i => by rw [← hR, st_ob (by omega), st_ob (by omega), st_ob (by omega), st_ob (by omega), st_if]
      have r4 : ∀ i, MR' 104 i = if i = n then (tl : Int) else MR 104 i := fun i => by rw [← hR, st_ob (by omega), st_ob (by omega), st_ob (by omega), st_if, st_ob (by omega)]
      have r5 : ∀ i, MR' 105 i = if i = n then 0 else MR 105 i := fun i => by rw [← hR, st_ob (by omega), st_ob (by omega), st_if, st_ob (by omega), st_ob (by omega)]
      have r6 : ∀ i, MR' 106 i = if i = n then 0 else MR 106 i := fun i => by rw [← hR, st_ob (by omega), st_if, st_ob (by omega), st_ob (by omega), st_ob (by omega)]
      refine ⟨by omega, ⟨n + 1, by rw [← hC]; exact st_same _ _ _ _, by omega, by omega⟩, fun i hi => ?_, fun i j hij hj => ?_, Or.inr ⟨by rw [c7, if_pos rfl], by rw [r3, if_pos rfl], tl, by rw [c8, if_pos rfl], by rw [r4, if_pos rfl]⟩⟩
      · unfold ENT
        rw [c7, c8, c9, r3, r4, r5, r6, if_neg (by omega), if_neg (by omega), if_neg (by omega), if_neg (by omega), if_neg (by omega), if_neg (by omega), if_neg (by omega)]
        exact t3 i hi
      · rw [c8, c8, if_neg (by omega)]
        by_cases e : j = n
        · rw [if_pos e]
          have := t5 i (by omega)
          omega
        · rw [if_neg e]
          exact t4 i j hij (by omega)
    · obtain ⟨a1, MC1, MR1, s1, s2, s3, s4, s5, s6, s7⟩ := takeOne hc hr ho hk hT2 (by omega) (by omega) (he (by omega))
      obtain ⟨a2, u1, u2, u3, u4⟩ := blank_end B tl s2
      have hc1 : TXc tl B MC1 := TXc_s hc (s6 1 (by omega))
      have hr1 : TXr tl B MR1 := TXr_s hr (s7.1 102 (by omega) (by omega)) (s7.2 4 (by omega))
      obtain ⟨m, MC2, MR2, v1, v2, v3, v4, v5⟩ := tokens ho f (n + 1) a1 a2 MC1 MR1 hc1 hr1 (by rw [s7.1 107 (by omega) (by omega)]; exact hk) (by omega) s5 u1 u2 u3 u4
      refine ⟨m, MC2, MR2, ?_, ?_, v3, Kc_trans s6 v4, Kr_trans s7 v5⟩
      · rw [s_Tokens_part_15, if_neg (by omega), if_neg (by omega), s3, bI_some, c_behind hc1 ho u1 u2 u3 u4, bI_some, pu_inc (by omega)]
        exact v1
      · rw [s4]
        exact v2
/-- part and cut -/
theorem parted (hc : TXc tl B MC) (hr : TXr tl B MR) (ho : TXok tl B) (hk : MR 107 = keysM) : ∃ m MC' MR', gC 87 [rv 8 6, rv 8102 1, iv (tl : Int)] MC = some (none, MC') ∧ gC 181 [rv 11 100] MR = some (none, MR') ∧ TOK m MC' MR' ∧ Kc MC MC' ∧ Kr MR MR' := by
  obtain ⟨a, u1, u2, u3, u4⟩ := blank_end B tl (Nat.zero_le tl)
  have kc : Kc MC (st MC 6 3 0) := fun o ho => st_ob (by omega)
  have kr : Kr MR (st MR 100 10 0) := ⟨fun o h1 _ => st_ob h1, fun k hk => st_nk hk⟩
  have hc1 : TXc tl B (st MC 6 3 0) := TXc_s hc (kc 1 (by omega))
  have hr1 : TXr tl B (st MR 100 10 0) := TXr_s hr (kr.1 102 (by omega) (by omega)) (kr.2 4 (by omega))
  obtain ⟨m, MC2, MR2, v1, v2, v3, v4, v5⟩ := tokens ho 401 0 0 a (st MC 6 3 0) (st MR 100 10 0) hc1 hr1 (by rw [kr.1 107 (by omega) (by omega)]; exact hk) (by omega) ⟨⟨st_same _ _ _ _, st_same _ _ _ _⟩, fun i hi => absurd hi (Nat.not_lt_zero i), fun i j _ hj => absurd hj (Nat.not_lt_zero j), fun i hi => absurd hi (Nat.not_lt_zero i)⟩ u1 u2 u3 u4
  refine ⟨m, MC2, MR2, ?_, ?_, v3, Kc_trans kc v4, Kr_trans kr v5⟩
  · have e := c_behind hc1 ho u1 u2 u3 u4
    rw [show ((0 : Nat) : Int) = 0 from rfl] at e
    rw [e_Tokens_part, e, bI_some]
    exact v1
  · rw [e_GaugeNetModel_cut]
    exact v2
end TK
