/-! Tests, weights, and what holds of both programs between calls. -/
noncomputable def isTB (W : mM) (s : Nat) : Bool := @decide (mu (wH W) 0 s + 1 = pop 14 s ∧ ∀ r, s.testBit r = true → mu (wH W) 0 (bdiff s (2 ^ r)) + 1 = pop 14 s) (Classical.propDecidable _)
theorem isTB_iff {W : mM} {s : Nat} : isTB W s = true ↔ mu (wH W) 0 s + 1 = pop 14 s ∧ ∀ r, s.testBit r = true → mu (wH W) 0 (bdiff s (2 ^ r)) + 1 = pop 14 s := by
  unfold isTB
  exact @decide_eq_true_iff _ (Classical.propDecidable _)
def szl (p : Nat → Bool) (n c : Nat) : List Nat := (List.range c).filter (fun s => p s && decide (pop 14 s = n))
def tlist (p : Nat → Bool) : Nat → List Nat
  | 0 => []
  | n + 1 => tlist p n ++ szl p (n + 1) 16384
noncomputable def tp0 (W : mM) (s : Nat) : Bool := decide (bdiff s (told W) = 0) && isTB W s
noncomputable def TL (W : mM) : List Nat := tlist (tp0 W) 8
noncomputable def TN (W : mM) : List Nat := (TL W).filter (fun s => decide (bdiff s (net W) = 0))
def gd (L : List Nat) (i : Nat) : Nat := L.getD i 0
/-- the k-th of the bits of s (below n) -/
def sl (s k : Nat) : Nat → Nat
  | 0 => 0
  | n + 1 => if s.testBit n = true ∧ pop n s = k then n else sl s k n
def sg (n : Nat) : Int := if n % 2 = 0 then 1 else -1
def wgs (v ω : Nat → Int) (S : Nat) : Nat → Int
  | 0 => 0
  | m + 1 => wgs v ω S m + (if S.testBit m = true then sg (pop 8 S + 1 + pop m S) * (v m * ω (bdiff S (2 ^ m))) else 0)
def wg (v ω : Nat → Int) (S : Nat) : Int := wgs v ω S 8
def om (v : Nat → Nat → Int) : Nat → Nat → Int
  | 0, S => if S = 0 then 1 else 0
  | k + 1, S => wg (v k) (om v k) S
/-- the number of the k-th row of s at its j-th unknown -/
def vec (W : mM) (s k j : Nat) : Int := W 1 (sl s k 14 * 7 + sl (nbW W s) j 7)
def mny (W : mM) (s : Nat) : Nat := pop 7 (nbW W s)
def mi (W : mM) (s k : Nat) : Int := om (fun i => vec W s (if i < k then i else i + 1)) (mny W s) (2 ^ mny W s - 1)
def raw (W : mM) (s k : Nat) : Int := sg k * mi W s k
def gcdTo (f : Nat → Int) : Nat → Nat
  | 0 => 0
  | n + 1 => Nat.gcd (gcdTo f n) (f n).natAbs
/-- the first that is not 0 -/
def fs (f : Nat → Int) : Nat → Int
  | 0 => 0
  | n + 1 => if fs f n = 0 then f n else fs f n
def nrm (f : Nat → Int) (n k : Nat) : Int := (f k).tdiv (if fs f n < 0 then -(gcdTo f n : Int) else (gcdTo f n : Int))
def wtk (W : mM) (s k : Nat) : Int := nrm (raw W s) (pop 14 s) k
def cr (W : mM) (s : Nat) : Bool := decide (gcdTo (raw W s) (pop 14 s) ≠ 0)
def wt (W : mM) (s r : Nat) : Int := if s.testBit r = true then wtk W s (pop r s) else 0
/-- the class's table of TESTS -/
def TR (W M : mM) : Prop := M 13 4 = ((TL W).length : Int) ∧ ∀ i, i < (TL W).length → M 14 i = (gd (TL W) i : Int) ∧ (M 15 i = 0 ∨ (M 15 i = (if cr W (gd (TL W) i) = true then 1 else 2) ∧ ∀ k, k < 8 → M 16 (i * 8 + k) = if k < pop 14 (gd (TL W) i) then wtk W (gd (TL W) i) k else 0))
/-- the reference's -/
def SR (W M : mM) : Prop := M 100 45 = ((TN W).length : Int) ∧ ∀ i, i < (TN W).length → M 127 i = (gd (TN W) i : Int) ∧ M 129 i = (if cr W (gd (TN W) i) = true then 1 else 0) ∧ ∀ r, r < 14 → M 128 (14 * i + r) = wt W (gd (TN W) i) r
/-- the class's base: works at w, the spare at w2, the tape, the place -/
def CB (w w2 : Nat) (W : mM) (tl : Nat) (tp : Nat → Int) (pl : Int) (M : mM) : Prop :=
  ((w = 40 ∧ w2 = 50) ∨ (w = 50 ∧ w2 = 40)) ∧ M 0 4 = (w : Int) ∧ M 2 1 = (w2 : Int) ∧ CW w W M ∧ (M 0 1 = (tl : Int) ∧ tl ≤ 2000 ∧ ∀ i, i < tl → M 1 i = tp i) ∧ M 0 2 = pl
def CI (W : mM) (tl : Nat) (tp : Nat → Int) (pl : Int) (M : mM) : Prop := ∃ w w2, CB w w2 W tl tp pl M ∧ (M 0 5 = 0 ∨ (M 0 5 = 1 ∧ PR W M ∧ TR W M))
def RB (lv : Nat) (W : mM) (tl : Nat) (tp : Nat → Int) (pl : Int) (M : mM) : Prop :=
  RW lv W M ∧ (M 100 2 = (tl : Int) ∧ tl ≤ 2000 ∧ ∀ i, i < tl → M 101 i = tp i) ∧ M 100 17 = pl ∧ M 107 = keysM
def RI (W : mM) (tl : Nat) (tp : Nat → Int) (pl : Int) (M : mM) : Prop := ∃ lv, RB lv W tl tp pl M ∧ (M 100 44 = 0 ∨ (M 100 44 = 1 ∧ SR W M))
def TPok (tl : Nat) (tp : Nat → Int) : Prop := ∀ i, i < tl → -128 ≤ tp i ∧ tp i < 128
def Rel (MC MR : mM) : Prop := ∃ (W : mM) (tl : Nat) (tp : Nat → Int) (pl : Int), WF W ∧ TPok tl tp ∧ CI W tl tp pl MC ∧ RI W tl tp pl MR
/-- all but what is written anew at each use -/
def Cs (M M' : mM) : Prop := ∀ o, (o ≤ 2 ∨ o = 11 ∨ (13 ≤ o ∧ o ≤ 16) ∨ 40 ≤ o) → M' o = M o
theorem Cs_refl (M : mM) : Cs M M := fun _ _ => rfl
theorem Cs_trans {A B C : mM} (h : Cs A B) (h' : Cs B C) : Cs A C := fun o ho => (h' o ho).trans (h o ho)
theorem Cs_Ck {M M' : mM} (h : Cs M M') : Ck M M' := fun o ho => h o (by omega)
theorem PR_s {W M M' : mM} (h : PR W M) (k : M' 11 = M 11) : PR W M' := fun s hs => by rw [k]; exact h s hs
theorem TR_s {W M M' : mM} (h : TR W M) (k : ∀ o, 13 ≤ o → o ≤ 16 → M' o = M o) : TR W M' := by
  unfold TR
  rw [k 13 (by omega) (by omega), k 14 (by omega) (by omega), k 15 (by omega) (by omega), k 16 (by omega) (by omega)]
  exact h
theorem CB_s {w w2 : Nat} {W : mM} {tl : Nat} {tp : Nat → Int} {pl : Int} {M M' : mM} (h : CB w w2 W tl tp pl M) (k : ∀ o, (o ≤ 2 ∨ 40 ≤ o) → M' o = M o) : CB w w2 W tl tp pl M' := by
  obtain ⟨h1, h2, h3, h4, h5, h6⟩ := h
  unfold CB
  rw [k 0 (by omega), k 1 (by omega), k 2 (by omega)]
  exact ⟨h1, h2, h3, CW_k h4 (fun o ho => k o (by omega)), h5, h6⟩
theorem CI_s {W : mM} {tl : Nat} {tp : Nat → Int} {pl : Int} {M M' : mM} (h : CI W tl tp pl M) (k : Cs M M') : CI W tl tp pl M' := by
  obtain ⟨w, w2, h1, h2⟩ := h
  refine ⟨w, w2, CB_s h1 (fun o ho => k o (by omega)), ?_⟩
  rw [k 0 (by omega)]
  rcases h2 with h2 | ⟨h2, h3, h4⟩
  · exact Or.inl h2
  · exact Or.inr ⟨h2, PR_s h3 (k 11 (by omega)), TR_s h4 (fun o ho ho2 => k o (by omega))⟩
def Rs (M M' : mM) : Prop := (∀ o, o ≠ 100 → (o < 123 ∨ (127 ≤ o ∧ o ≤ 129)) → M' o = M o) ∧ ∀ k, k < 46 → M' 100 k = M 100 k
theorem Rs_refl (M : mM) : Rs M M := ⟨fun _ _ _ => rfl, fun _ _ => rfl⟩
theorem Rs_trans {A B C : mM} (h : Rs A B) (h' : Rs B C) : Rs A C := ⟨fun o h1 h2 => (h'.1 o h1 h2).trans (h.1 o h1 h2), fun k hk => (h'.2 k hk).trans (h.2 k hk)⟩
theorem Rs_Rk {M M' : mM} (h : Rs M M') : Rk M M' := ⟨fun o h1 h2 => h.1 o h1 (by omega), fun k hk => h.2 k (by omega)⟩
theorem Rs_of {M M' : mM} (h : ∀ o, (o < 123 ∨ 126 < o) → M' o = M o) : Rs M M' := ⟨fun o _ h2 => h o (by omega), fun k _ => by rw [h 100 (by omega)]⟩
theorem RB_k {lv : Nat} {W : mM} {tl : Nat} {tp : Nat → Int} {pl : Int} {M M' : mM} (h : RB lv W tl tp pl M) (k : Rk M M') : RB lv W tl tp pl M' := by
  obtain ⟨h1, h2, h3, h4⟩ := h
  refine ⟨RW_k h1 k, ?_⟩
  rw [k.2 2 (by omega), k.2 17 (by omega), k.1 101 (by omega) (by omega), k.1 107 (by omega) (by omega)]
  exact ⟨h2, h3, h4⟩
theorem SR_s {W M M' : mM} (h : SR W M) (k : Rs M M') : SR W M' := by
  unfold SR
  rw [k.2 45 (by omega), k.1 127 (by omega) (by omega), k.1 128 (by omega) (by omega), k.1 129 (by omega) (by omega)]
  exact h
theorem RI_s {W : mM} {tl : Nat} {tp : Nat → Int} {pl : Int} {M M' : mM} (h : RI W tl tp pl M) (k : Rs M M') : RI W tl tp pl M' := by
  obtain ⟨lv, h1, h2⟩ := h
  refine ⟨lv, RB_k h1 (Rs_Rk k), ?_⟩
  rw [k.2 44 (by omega)]
  rcases h2 with h2 | ⟨h2, h3⟩
  · exact Or.inl h2
  · exact Or.inr ⟨h2, SR_s h3 k⟩
/-! Works that differ in what calls change alone. -/
def Ws (W W' : mM) : Prop := (∀ j, j ≠ 0 → j ≠ 6 → W' j = W j) ∧ ∀ k, k < 4 → W' 0 k = W 0 k
section WS
variable {W W' : mM}
theorem Ws_U (h : Ws W W') : wU W' = wU W := by unfold wU; rw [h.2 0 (by omega)]
theorem Ws_E (h : Ws W W') : wE W' = wE W := by unfold wE; rw [h.2 1 (by omega)]
theorem Ws_G (h : Ws W W') : wG W' = wG W := by unfold wG; rw [h.2 2 (by omega)]
theorem Ws_F (h : Ws W W') : wF W' = wF W := by unfold wF; rw [h.2 3 (by omega)]
theorem Ws_H (h : Ws W W') : wH W' = wH W := by
  funext r
  unfold wH
  rw [h.1 8 (by omega) (by omega)]
theorem Ws_Ho (h : Ws W W') : wHo W' = wHo W := by
  funext r
  unfold wHo
  rw [h.1 3 (by omega) (by omega)]
theorem Ws_No (h : Ws W W') : wNo W' = wNo W := by
  funext r
  unfold wNo
  rw [h.1 4 (by omega) (by omega)]
theorem Ws_Co (h : Ws W W') : wCo W' = wCo W := by
  funext r
  unfold wCo
  rw [h.1 5 (by omega) (by omega)]
theorem Ws_Fr (h : Ws W W') : wFr W' = wFr W := by
  funext r
  unfold wFr
  rw [h.1 7 (by omega) (by omega)]
theorem Ws_rw (h : Ws W W') : isRw W' = isRw W := by
  funext r
  unfold isRw
  rw [Ws_E h, Ws_G h]
theorem Ws_told (h : Ws W W') : told W' = told W := by unfold told; rw [Ws_rw h]
theorem Ws_nb (h : Ws W W') : nbW W' = nbW W := by
  funext s
  unfold nbW
  rw [Ws_H h]
theorem Ws_isTB (h : Ws W W') : isTB W' = isTB W := by
  funext s
  unfold isTB
  rw [Ws_H h]
theorem Ws_TL (h : Ws W W') : TL W' = TL W := by
  unfold TL
  congr 1
  funext s
  unfold tp0
  rw [Ws_told h, Ws_isTB h]
theorem Ws_raw (h : Ws W W') : raw W' = raw W := by
  funext s k
  unfold raw mi mny
  have e : vec W' = vec W := by
    funext a b c
    unfold vec
    rw [h.1 1 (by omega) (by omega), Ws_nb h]
  rw [e, Ws_nb h]
theorem Ws_wtk (h : Ws W W') : wtk W' = wtk W := by
  funext s k
  unfold wtk
  rw [Ws_raw h]
theorem Ws_cr (h : Ws W W') : cr W' = cr W := by
  funext s
  unfold cr
  rw [Ws_raw h]
theorem Ws_PR (h : Ws W W') {M M' : mM} (hP : PR W M) (k : M' 11 = M 11) : PR W' M' := by
  intro s hs
  rw [Ws_told h] at hs
  rw [Ws_H h, k]
  exact hP s hs
theorem Ws_TR (h : Ws W W') {M M' : mM} (hT : TR W M) (k : ∀ o, 13 ≤ o → o ≤ 16 → M' o = M o) : TR W' M' := by
  have := TR_s hT k
  unfold TR at this ⊢
  rw [Ws_TL h, Ws_cr h, Ws_wtk h]
  exact this
/-- what a change must keep -/
theorem Ws_WF (hw : Ws W W') (h : WF W) (h4 : W' 0 4 = (wP W' : Int) ∧ wP W' < 4) (h5 : W' 0 5 = (wI W' : Int) ∧ wI W' < 2 ^ wG W) (h6 : W' 0 6 = (wD W' : Int) ∧ wD W' < 2 ^ wG W) (hr : ∀ g, g < 6 → -9999 ≤ W' 6 g ∧ W' 6 g ≤ 9999) : WF W' := by
  unfold WF
  rw [Ws_U hw, Ws_E hw, Ws_G hw, Ws_F hw, Ws_Ho hw, Ws_No hw, Ws_Co hw, Ws_Fr hw, Ws_rw hw, Ws_H hw, hw.1 1 (by omega) (by omega), hw.1 2 (by omega) (by omega), hw.1 3 (by omega) (by omega), hw.1 4 (by omega) (by omega), hw.1 5 (by omega) (by omega), hw.1 7 (by omega) (by omega), hw.1 8 (by omega) (by omega), hw.2 0 (by omega), hw.2 1 (by omega), hw.2 2 (by omega), hw.2 3 (by omega)]
  obtain ⟨a, b, c, d, e, f, g, i, j⟩ := h
  exact ⟨a, ⟨h4, h5, h6⟩, c, d, e, f, g, hr, j⟩
theorem Ws_RW {lv : Nat} {M M' : mM} (hw : Ws W W') (h : RW lv W M) (k1 : ∀ o, o ≠ 100 → o < 122 → M' o = M o) (k2 : M' 100 18 = M 100 18) (h4 : M' 100 35 = W' 0 4) (h5 : M' 100 36 = W' 0 5) (h6 : M' 100 37 = W' 0 6) (hr : ∀ g, g < 6 → M' 122 g = W' 6 g) : RW lv W' M' := by
  unfold RW
  rw [Ws_U hw, Ws_E hw, Ws_G hw, Ws_F hw, k2, k1 111 (by omega) (by omega), k1 112 (by omega) (by omega), k1 115 (by omega) (by omega), k1 120 (by omega) (by omega), k1 113 (by omega) (by omega), k1 114 (by omega) (by omega), k1 116 (by omega) (by omega), k1 117 (by omega) (by omega), k1 118 (by omega) (by omega), k1 121 (by omega) (by omega), hw.1 1 (by omega) (by omega), hw.1 2 (by omega) (by omega), hw.1 3 (by omega) (by omega), hw.1 4 (by omega) (by omega), hw.1 5 (by omega) (by omega), hw.1 7 (by omega) (by omega), hw.2 0 (by omega), hw.2 1 (by omega), hw.2 2 (by omega), hw.2 3 (by omega)]
  obtain ⟨a, b, c, d, e, f, g, i, j, k, l, m⟩ := h
  exact ⟨a, b, c, ⟨h4, h5, h6⟩, e, f, g, i, j, k, l, hr⟩
end WS
theorem CW_st {w : Nat} {W M : mM} (h : CW w W M) (j k : Nat) (v : Int) : CW w (st W j k v) (st M (w + j) k v) := by
  refine ⟨h.1, fun i hi => ?_⟩
  by_cases e : i = j
  · subst e
    funext n
    rw [st_if, st_if, h.2 i hi]
  · rw [st_ob (show w + i ≠ w + j by omega), st_ob e]
    exact h.2 i hi
theorem Ws_st0 {W : mM} {k : Nat} {v : Int} (hk : 4 ≤ k) : Ws W (st W 0 k v) := ⟨fun j hj _ => st_ob hj, fun i hi => by rw [st_if, if_neg (by omega)]⟩
theorem Ws_st6 {W : mM} {k : Nat} {v : Int} : Ws W (st W 6 k v) := ⟨fun j _ hj => st_ob hj, fun i hi => by rw [st_ob (by omega)]⟩
/-- a change of what calls change, in the class -/
theorem CI_change {W : mM} {tl : Nat} {tp : Nat → Int} {pl : Int} {M : mM} {w w2 j k : Nat} {v : Int} (hb : CB w w2 W tl tp pl M) (hd : M 0 5 = 0 ∨ (M 0 5 = 1 ∧ PR W M ∧ TR W M)) (hj : j ≤ 8) (hw : Ws W (st W j k v)) : CI (st W j k v) tl tp pl (st M (w + j) k v) := by
  obtain ⟨h1, h2, h3, h4, h5, h6⟩ := hb
  have k0 : ∀ o, o < 40 → st M (w + j) k v o = M o := fun o ho => st_ob (by omega)
  refine ⟨w, w2, ⟨h1, ?_, ?_, CW_st h4 j k v, ?_, ?_⟩, ?_⟩
  · rw [k0 0 (by omega)]; exact h2
  · rw [k0 2 (by omega)]; exact h3
  · rw [k0 0 (by omega), k0 1 (by omega)]; exact h5
  · rw [k0 0 (by omega)]; exact h6
  · rw [k0 0 (by omega)]
    rcases hd with q | ⟨q1, q2, q3⟩
    · exact Or.inl q
    · exact Or.inr ⟨q1, Ws_PR hw q2 (k0 11 (by omega)), Ws_TR hw q3 (fun o _ ho => k0 o (by omega))⟩
