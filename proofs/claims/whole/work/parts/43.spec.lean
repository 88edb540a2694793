/-! What is told: W j k are the works' own cells (0 numbers of things, 1 numbers, 2 constants, 3 holds, 4 noises, 5 costs, 6 readings, 7 rows of faults, 8 unknowns that a row has). -/
def wU (W : mM) : Nat := (W 0 0).toNat
def wE (W : mM) : Nat := (W 0 1).toNat
def wG (W : mM) : Nat := (W 0 2).toNat
def wF (W : mM) : Nat := (W 0 3).toNat
def wP (W : mM) : Nat := (W 0 4).toNat
def wI (W : mM) : Nat := (W 0 5).toNat
def wD (W : mM) : Nat := (W 0 6).toNat
def wHo (W : mM) (e : Nat) : Nat := (W 3 e).toNat
def wNo (W : mM) (g : Nat) : Nat := (W 4 g).toNat
def wCo (W : mM) (g : Nat) : Nat := (W 5 g).toNat
def wFr (W : mM) (f : Nat) : Nat := (W 7 f).toNat
def wH (W : mM) (r : Nat) : Nat := if r < 14 then (W 8 r).toNat else 0
/-- rows told -/
def isRw (W : mM) (r : Nat) : Bool := decide (r < wE W) || (decide (8 ≤ r) && decide (r - 8 < wG W))
def told (W : mM) : Nat := bset (isRw W) 14
def WF (W : mM) : Prop :=
  ((W 0 0 = (wU W : Int) ∧ wU W ≤ 7) ∧ (W 0 1 = (wE W : Int) ∧ wE W ≤ 8) ∧ (W 0 2 = (wG W : Int) ∧ wG W ≤ 6) ∧ (W 0 3 = (wF W : Int) ∧ wF W ≤ 8)) ∧
  ((W 0 4 = (wP W : Int) ∧ wP W < 4) ∧ (W 0 5 = (wI W : Int) ∧ wI W < 2 ^ wG W) ∧ (W 0 6 = (wD W : Int) ∧ wD W < 2 ^ wG W)) ∧
  (∀ r u, r < 14 → u < 7 → -9 ≤ W 1 (r * 7 + u) ∧ W 1 (r * 7 + u) ≤ 9) ∧
  (∀ e, e < 8 → -400000 ≤ W 2 e ∧ W 2 e ≤ 400000) ∧
  (∀ e, e < 8 → W 3 e = (wHo W e : Int) ∧ wHo W e < 16) ∧
  (∀ g, g < 6 → W 4 g = (wNo W g : Int) ∧ wNo W g ≤ 3) ∧
  (∀ g, g < 6 → W 5 g = (wCo W g : Int) ∧ wCo W g ≤ 100) ∧
  (∀ g, g < 6 → -9999 ≤ W 6 g ∧ W 6 g ≤ 9999) ∧
  (∀ f, f < 8 → W 7 f = (wFr W f : Int)) ∧
  (∀ f, f < wF W → wFr W f < 14 ∧ isRw W (wFr W f) = true) ∧
  (∀ r, r < 14 → W 8 r = (wH W r : Int) ∧ wH W r < 2 ^ wU W ∧ ∀ u, u < 7 → ((wH W r).testBit u = true ↔ W 1 (r * 7 + u) ≠ 0)) ∧
  (∀ g, g < wG W → ∃ k, k < wU W ∧ ∀ u, u < 7 → W 1 ((8 + g) * 7 + u) = if u = k then 1 else 0)
section WFP
variable {W : mM}
theorem wf_U (h : WF W) : W 0 0 = (wU W : Int) ∧ wU W ≤ 7 := h.1.1
theorem wf_E (h : WF W) : W 0 1 = (wE W : Int) ∧ wE W ≤ 8 := h.1.2.1
theorem wf_G (h : WF W) : W 0 2 = (wG W : Int) ∧ wG W ≤ 6 := h.1.2.2.1
theorem wf_F (h : WF W) : W 0 3 = (wF W : Int) ∧ wF W ≤ 8 := h.1.2.2.2
theorem wf_P (h : WF W) : W 0 4 = (wP W : Int) ∧ wP W < 4 := h.2.1.1
theorem wf_I (h : WF W) : W 0 5 = (wI W : Int) ∧ wI W < 2 ^ wG W := h.2.1.2.1
theorem wf_D (h : WF W) : W 0 6 = (wD W : Int) ∧ wD W < 2 ^ wG W := h.2.1.2.2
theorem wf_num (h : WF W) : ∀ r u, r < 14 → u < 7 → -9 ≤ W 1 (r * 7 + u) ∧ W 1 (r * 7 + u) ≤ 9 := h.2.2.1
theorem wf_con (h : WF W) : ∀ e, e < 8 → -400000 ≤ W 2 e ∧ W 2 e ≤ 400000 := h.2.2.2.1
theorem wf_hol (h : WF W) : ∀ e, e < 8 → W 3 e = (wHo W e : Int) ∧ wHo W e < 16 := h.2.2.2.2.1
theorem wf_noi (h : WF W) : ∀ g, g < 6 → W 4 g = (wNo W g : Int) ∧ wNo W g ≤ 3 := h.2.2.2.2.2.1
theorem wf_cos (h : WF W) : ∀ g, g < 6 → W 5 g = (wCo W g : Int) ∧ wCo W g ≤ 100 := h.2.2.2.2.2.2.1
theorem wf_rea (h : WF W) : ∀ g, g < 6 → -9999 ≤ W 6 g ∧ W 6 g ≤ 9999 := h.2.2.2.2.2.2.2.1
theorem wf_frw (h : WF W) : ∀ f, f < 8 → W 7 f = (wFr W f : Int) := h.2.2.2.2.2.2.2.2.1
theorem wf_frt (h : WF W) : ∀ f, f < wF W → wFr W f < 14 ∧ isRw W (wFr W f) = true := h.2.2.2.2.2.2.2.2.2.1
theorem wf_has (h : WF W) : ∀ r, r < 14 → W 8 r = (wH W r : Int) ∧ wH W r < 2 ^ wU W ∧ ∀ u, u < 7 → ((wH W r).testBit u = true ↔ W 1 (r * 7 + u) ≠ 0) := h.2.2.2.2.2.2.2.2.2.2.1
theorem wf_gau (h : WF W) : ∀ g, g < wG W → ∃ k, k < wU W ∧ ∀ u, u < 7 → W 1 ((8 + g) * 7 + u) = if u = k then 1 else 0 := h.2.2.2.2.2.2.2.2.2.2.2
theorem wf_G64 (h : WF W) : 2 ^ wG W ≤ 64 := Nat.le_trans (Nat.pow_le_pow_right (by omega) (wf_G h).2) (Nat.le_refl 64)
theorem wf_I64 (h : WF W) : wI W < 64 := Nat.lt_of_lt_of_le (wf_I h).2 (wf_G64 h)
theorem wf_D64 (h : WF W) : wD W < 64 := Nat.lt_of_lt_of_le (wf_D h).2 (wf_G64 h)
theorem wH_lt (h : WF W) (r : Nat) : wH W r < 2 ^ wU W := by
  by_cases hr : r < 14
  · exact ((wf_has h) r hr).2.1
  · unfold wH
    rw [if_neg hr]
    exact Nat.two_pow_pos _
theorem wH_128 (h : WF W) (r : Nat) : wH W r < 128 := Nat.lt_of_lt_of_le (wH_lt h r) (Nat.le_trans (Nat.pow_le_pow_right (by omega) (wf_U h).2) (Nat.le_refl 128))
end WFP
/-- the class holds the works W at w -/
def CW (w : Nat) (W M : mM) : Prop := (w = 40 ∨ w = 50) ∧ ∀ j, j ≤ 8 → M (w + j) = W j
/-- what must stay for CW to stay -/
def Ck (M M' : mM) : Prop := ∀ o, 40 ≤ o → M' o = M o
theorem Ck_refl (M : mM) : Ck M M := fun _ _ => rfl
theorem Ck_trans {A B C : mM} (h : Ck A B) (h' : Ck B C) : Ck A C := fun o ho => (h' o ho).trans (h o ho)
theorem CW_k {w : Nat} {W M M' : mM} (h : CW w W M) (k : Ck M M') : CW w W M' := ⟨h.1, fun j hj => by
  have := h.1
  rw [k (w + j) (by omega)]
  exact h.2 j hj⟩
/-- THE NET of a POSITION, with GAUGES in and dead -/
def netA (W : mM) (p ins dea : Nat) : Nat := bset (fun e => (wHo W e).testBit p) (wE W) ||| bdiff ins dea * 256
def net (W : mM) : Nat := netA W (wP W) (wI W) (wD W)
theorem tb_256 (x i : Nat) : (x * 256).testBit i = (decide (8 ≤ i) && x.testBit (i - 8)) := by
  rw [show x * 256 = x <<< 8 from (Nat.shiftLeft_eq x 8).symm, Nat.testBit_shiftLeft]
theorem netA_tb (W : mM) (p ins dea i : Nat) : (netA W p ins dea).testBit i = ((decide (i < wE W) && (wHo W i).testBit p) || (decide (8 ≤ i) && (ins.testBit (i - 8) && !dea.testBit (i - 8)))) := by
  unfold netA
  rw [Nat.testBit_or, bset_tb, tb_256, bdiff_testBit]
theorem netA_lt {W : mM} (h : WF W) {p ins dea : Nat} (hi : ins < 64) : netA W p ins dea < 16384 := by
  unfold netA
  apply Nat.or_lt_two_pow (n := 14)
  · exact Nat.lt_of_lt_of_le (bset_lt _ _) (Nat.pow_le_pow_right (by omega) (by have := (wf_E h).2; omega))
  · have := bdiff_le ins dea
    omega
theorem net_lt {W : mM} (h : WF W) : net W < 16384 := netA_lt h (wf_I64 h)
theorem told_tb (W : mM) (i : Nat) : (told W).testBit i = (decide (i < 14) && isRw W i) := bset_tb _ _ _
theorem told_lt (W : mM) : told W < 16384 := bset_lt _ 14
theorem netA_told {W : mM} (h : WF W) {p ins dea : Nat} (hi : ins < 2 ^ wG W) : sbs (netA W p ins dea) (told W) := by
  intro i hb
  rw [netA_tb] at hb
  rw [told_tb]
  unfold isRw
  have hE := (wf_E h).2
  have hG := (wf_G h).2
  by_cases h1 : i < wE W
  · rw [decide_eq_true (show i < 14 by omega), decide_eq_true h1]
    rfl
  · rw [decide_eq_false h1, Bool.false_and, Bool.false_or] at hb
    by_cases h2 : 8 ≤ i
    · rw [decide_eq_true h2, Bool.true_and] at hb
      cases hc : ins.testBit (i - 8) with
      | false => rw [hc] at hb; cases hb
      | true =>
        have := tb_in hi hc
        rw [decide_eq_true (show i < 14 by omega), decide_eq_true h2, decide_eq_true this]
        simp
    · rw [decide_eq_false h2] at hb
      cases hb
theorem net_told {W : mM} (h : WF W) : sbs (net W) (told W) := netA_told h (wf_I h).2
/-- the reference holds W, on the side lv -/
def RW (lv : Nat) (W M : mM) : Prop :=
  lv < 2 ∧ M 100 18 = (lv : Int) ∧ (M 111 lv = W 0 0 ∧ M 112 lv = W 0 1 ∧ M 115 lv = W 0 2 ∧ M 120 lv = W 0 3) ∧ (M 100 35 = W 0 4 ∧ M 100 36 = W 0 5 ∧ M 100 37 = W 0 6) ∧
  (∀ e u, e < wE W → u < wU W → M 113 (9 * (8 * lv + e) + u) = W 1 (e * 7 + u)) ∧
  (∀ e, e < wE W → M 113 (9 * (8 * lv + e) + 8) = W 2 e) ∧
  (∀ e, e < wE W → M 114 (8 * lv + e) = W 3 e) ∧
  (∀ g, g < wG W → ∃ k : Nat, k < wU W ∧ M 116 (6 * lv + g) = (k : Int) ∧ ∀ u, u < 7 → W 1 ((8 + g) * 7 + u) = if u = k then 1 else 0) ∧
  (∀ g, g < wG W → M 117 (6 * lv + g) = W 4 g) ∧
  (∀ g, g < wG W → M 118 (6 * lv + g) = W 5 g) ∧
  (∀ f, f < wF W → M 121 (8 * lv + f) = W 7 f) ∧
  (∀ g, g < 6 → M 122 g = W 6 g)
/-- what must stay for RW to stay -/
def Rk (M M' : mM) : Prop := (∀ o, o ≠ 100 → o < 123 → M' o = M o) ∧ ∀ k, k < 44 → M' 100 k = M 100 k
theorem Rk_refl (M : mM) : Rk M M := ⟨fun _ _ _ => rfl, fun _ _ => rfl⟩
theorem Rk_trans {A B C : mM} (h : Rk A B) (h' : Rk B C) : Rk A C := ⟨fun o h1 h2 => (h'.1 o h1 h2).trans (h.1 o h1 h2), fun k hk => (h'.2 k hk).trans (h.2 k hk)⟩
theorem RW_k {lv : Nat} {W M M' : mM} (h : RW lv W M) (k : Rk M M') : RW lv W M' := by
  obtain ⟨k1, k2⟩ := k
  unfold RW
  rw [k2 18 (by omega), k2 35 (by omega), k2 36 (by omega), k2 37 (by omega), k1 111 (by omega) (by omega), k1 112 (by omega) (by omega), k1 115 (by omega) (by omega), k1 120 (by omega) (by omega), k1 113 (by omega) (by omega), k1 114 (by omega) (by omega), k1 116 (by omega) (by omega), k1 117 (by omega) (by omega), k1 118 (by omega) (by omega), k1 121 (by omega) (by omega), k1 122 (by omega) (by omega)]
  exact h
