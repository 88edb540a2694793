/-! Rows of noise, one behind the other. -/
def rdx (m : Nat → Nat) : Nat → Nat
  | 0 => 1
  | k + 1 => rdx m k * (2 * m k + 1)
def stp (m d : Nat → Nat) (g : Nat) : Nat := if allB (fun j => decide (d j = 2 * m j)) g = true then (if d g = 2 * m g then 0 else d g + 1) else d g
def sq (m : Nat → Nat) : Nat → Nat → Nat
  | 0 => fun _ => 0
  | i + 1 => stp m (sq m i)
def vl (m d : Nat → Nat) (k : Nat) : Nat := nsum (fun g => d g * rdx m g) k
theorem vl_s (m d : Nat → Nat) (k : Nat) : vl m d (k + 1) = vl m d k + d k * rdx m k := rfl
theorem rdx_s (m : Nat → Nat) (k : Nat) : rdx m (k + 1) = 2 * m k * rdx m k + rdx m k := by
  rw [rdx, Nat.mul_succ, Nat.mul_comm]
theorem vl_le {m d : Nat → Nat} : ∀ k, (∀ g, g < k → d g ≤ 2 * m g) → vl m d k + 1 ≤ rdx m k
  | 0, _ => Nat.le_refl _
  | k + 1, h => by
    have h1 := vl_le k (fun g hg => h g (by omega))
    have h2 : d k * rdx m k ≤ 2 * m k * rdx m k := Nat.mul_le_mul_right _ (h k (by omega))
    rw [vl_s, rdx_s]
    omega
theorem vl_max {m d : Nat → Nat} : ∀ k, (∀ g, g < k → d g = 2 * m g) → vl m d k + 1 = rdx m k
  | 0, _ => rfl
  | k + 1, h => by
    have h1 := vl_max k (fun g hg => h g (by omega))
    rw [vl_s, rdx_s, h k (by omega)]
    omega
theorem vl_conv {m d : Nat → Nat} : ∀ k, (∀ g, g < k → d g ≤ 2 * m g) → vl m d k + 1 = rdx m k → ∀ g, g < k → d g = 2 * m g
  | 0, _, _ => fun g hg => absurd hg (Nat.not_lt_zero g)
  | k + 1, h, e => by
    have h1 := vl_le k (fun g hg => h g (by omega))
    rw [vl_s, rdx_s] at e
    have hk := h k (by omega)
    have hd : d k = 2 * m k := by
      apply Nat.le_antisymm hk
      apply Nat.le_of_not_lt
      intro q
      have h2 : (d k + 1) * rdx m k ≤ 2 * m k * rdx m k := Nat.mul_le_mul_right _ q
      rw [Nat.succ_mul] at h2
      omega
    rw [hd] at e
    have ih := vl_conv k (fun g hg => h g (by omega)) (by omega)
    intro g hg
    by_cases z : g = k
    · rw [z]; exact hd
    · exact ih g (by omega)
theorem stp_at {m d : Nat → Nat} {g : Nat} (h : ∀ j, j < g → d j = 2 * m j) : stp m d g = if d g = 2 * m g then 0 else d g + 1 := by
  unfold stp
  rw [if_pos (allB_iff.mpr (fun j hj => decide_eq_true (h j hj)))]
theorem stp_past {m d : Nat → Nat} {g j : Nat} (hj : j < g) (h : d j ≠ 2 * m j) : stp m d g = d g := by
  unfold stp
  rw [if_neg (fun q => h (of_decide_eq_true (allB_iff.mp q j hj)))]
theorem stp_le {m d : Nat → Nat} {g : Nat} (h : d g ≤ 2 * m g) : stp m d g ≤ 2 * m g := by
  unfold stp
  split
  · split <;> omega
  · exact h
theorem sq_le (m : Nat → Nat) (g : Nat) : ∀ i, sq m i g ≤ 2 * m g
  | 0 => Nat.zero_le _
  | i + 1 => stp_le (sq_le m g i)
theorem vl_stp {m d : Nat → Nat} : ∀ k, (∀ g, g < k → d g ≤ 2 * m g) → ((∀ g, g < k → d g = 2 * m g) ∧ vl m (stp m d) k = 0) ∨ ((∃ g, g < k ∧ d g ≠ 2 * m g) ∧ vl m (stp m d) k = vl m d k + 1)
  | 0, _ => Or.inl ⟨fun g hg => absurd hg (Nat.not_lt_zero g), rfl⟩
  | k + 1, h => by
    rcases vl_stp k (fun g hg => h g (by omega)) with ⟨a, b⟩ | ⟨⟨g, g1, g2⟩, b⟩
    · by_cases z : d k = 2 * m k
      · refine Or.inl ⟨fun g hg => ?_, ?_⟩
        · by_cases y : g = k
          · rw [y]; exact z
          · exact a g (by omega)
        · rw [vl_s, b, stp_at a, if_pos z, Nat.zero_mul]
      · refine Or.inr ⟨⟨k, by omega, z⟩, ?_⟩
        have := vl_max k a
        rw [vl_s, b, stp_at a, if_neg z, vl_s, Nat.succ_mul]
        omega
    · refine Or.inr ⟨⟨g, by omega, g2⟩, ?_⟩
      rw [vl_s, b, stp_past g1 g2, vl_s]
      omega
theorem sq_vl (m : Nat → Nat) (k : Nat) : ∀ i, i < rdx m k → vl m (sq m i) k = i
  | 0, _ => by
    have : ∀ k, vl m (sq m 0) k = 0 := by
      intro k
      induction k with
      | zero => rfl
      | succ k ih =>
        rw [vl_s, ih]
        show 0 + 0 * rdx m k = 0
        rw [Nat.zero_mul]
    exact this k
  | i + 1, hi => by
    have ih := sq_vl m k i (by omega)
    rcases vl_stp (m := m) (d := sq m i) k (fun g _ => sq_le m g i) with ⟨a, b⟩ | ⟨a, b⟩
    · have := vl_max k a
      omega
    · show vl m (stp m (sq m i)) k = i + 1
      omega
theorem sq_max {m : Nat → Nat} {k i : Nat} (hi : i < rdx m k) : (∀ g, g < k → sq m i g = 2 * m g) ↔ i + 1 = rdx m k := by
  have h := sq_vl m k i hi
  constructor
  · intro a
    have := vl_max k a
    omega
  · intro e
    exact vl_conv k (fun g _ => sq_le m g i) (by omega)
theorem rdx_le {m : Nat → Nat} : ∀ k, (∀ g, g < k → m g ≤ 3) → 1 ≤ rdx m k ∧ rdx m k ≤ 7 ^ k
  | 0, _ => ⟨Nat.le_refl _, Nat.le_refl _⟩
  | k + 1, h => by
    obtain ⟨h1, h2⟩ := rdx_le k (fun g hg => h g (by omega))
    have h3 : rdx m k * (2 * m k + 1) ≤ 7 ^ k * 7 := Nat.mul_le_mul h2 (by have := h k (by omega); omega)
    refine ⟨?_, by rw [rdx, Nat.pow_succ]; exact h3⟩
    rw [rdx_s]
    omega
def trm (m : Nat → Nat) (w : Nat → Int) (d : Nat → Nat) (g : Nat) : Int := w g * ((d g : Int) - (m g : Int))
def abv (m : Nat → Nat) (w : Nat → Int) (add mark : Int) (i : Nat) : Nat := if mark < ((add + zs (trm m w (sq m i)) 6).natAbs : Int) then 1 else 0
theorem trm_abs2 {m d : Nat → Nat} {w : Nat → Int} {g : Nat} (hm : m g ≤ 3) (hd : d g ≤ 2 * m g) (hw : (w g).natAbs ≤ 24056562600) : (trm m w d g).natAbs ≤ 72169687800 := by
  unfold trm
  rw [Int.natAbs_mul]
  have h3 : ((d g : Int) - (m g : Int)).natAbs ≤ 3 := by omega
  exact Nat.mul_le_mul hw h3
theorem c_step {m d : Nat → Nat} {w : Nat → Int} (M : mM) (hm : ∀ g, g < 6 → m g ≤ 3) (hd : ∀ g, g < 6 → d g ≤ 2 * m g) (hw : ∀ g, g < 6 → (w g).natAbs ≤ 24056562600) (h26 : ∀ g, g < 6 → M 26 g = w g) (h27 : ∀ g, g < 6 → M 27 g = (m g : Int)) (h28 : ∀ g, g < 6 → M 28 g = (d g : Int) - (m g : Int)) : ∃ M', gC 29 [rv 2 25] M = some (jv (zs (fun g => w g * ((stp m d g : Int) - (d g : Int))) 6), M') ∧ (∀ o, o ≠ 28 → M' o = M o) ∧ ∀ g, g < 6 → M' 28 g = (stp m d g : Int) - (m g : Int) := by
  rw [e_Noises_step]
  have hzb : ∀ g, g < 6 → (w g * ((stp m d g : Int) - (d g : Int))).natAbs ≤ 24056562600 * 6 := by
    intro g hg
    have h1 := stp_le (m := m) (hd g hg)
    have h2 := hd g hg
    have h3 := hm g hg
    rw [Int.natAbs_mul]
    exact Nat.mul_le_mul (hw g hg) (by omega)
  have hzz : ∀ g, g ≤ 6 → (zs (fun g => w g * ((stp m d g : Int) - (d g : Int))) g).natAbs ≤ 6 * (24056562600 * 6) := fun g hg => Nat.le_trans (zs_le g (fun j hj => hzb j (by omega))) (Nat.mul_le_mul_right _ hg)
  refine pu_exit (S := mM) (G := fun g M' => gA 29 4 [rv 2 25, jv (zs (fun g => w g * ((stp m d g : Int) - (d g : Int))) g), none, iv (g : Int)] [] M') (I := fun g M' => (∀ j, j < g → d j = 2 * m j) ∧ (∀ o, o ≠ 28 → M' o = M o) ∧ ∀ j, j < 6 → M' 28 j = if j < g then - (m j : Int) else (d j : Int) - (m j : Int)) (Q := fun o => ∃ M', o = some (jv (zs (fun g => w g * ((stp m d g : Int) - (d g : Int))) 6), M') ∧ (∀ o, o ≠ 28 → M' o = M o) ∧ ∀ g, g < 6 → M' 28 g = (stp m d g : Int) - (m g : Int)) 6 (fun g M' hg hI => ?_) (fun M' hI => ?_) 0 M (Nat.zero_le _) ⟨fun j hj => absurd hj (Nat.not_lt_zero j), fun _ _ => rfl, fun j hj => by rw [if_neg (Nat.not_lt_zero j)]; exact h28 j hj⟩
  · obtain ⟨i1, i2, i3⟩ := hI
    have hmg := hm g hg
    have hdg := hd g hg
    have hwg := hw g hg
    have b1 := hzz g (by omega)
    have b2 := hzz (g + 1) (by omega)
    have es := stp_at (m := m) (d := d) (g := g) i1
    have e28 : M' 28 g = (d g : Int) - (m g : Int) := by rw [i3 g hg, if_neg (Nat.lt_irrefl g)]
    try dsimp only
    rw [s_Noises_step_4, if_neg (by omega), if_pos (by omega), if_pos (by omega), pu_nn, i2 27 (by omega), h27 g hg, e28]
    by_cases z : d g = 2 * m g
    · rw [if_pos z] at es
      have e1 : zs (fun g => w g * ((stp m d g : Int) - (d g : Int))) (g + 1) = zs (fun g => w g * ((stp m d g : Int) - (d g : Int))) g - w g * 2 * (m g : Int) := by
        rw [zs_1]
        show _ + w g * ((stp m d g : Int) - (d g : Int)) = _
        rw [es, z, show ((0 : Nat) : Int) - ((2 * m g : Nat) : Int) = - (2 * (m g : Int)) by omega, Int.mul_neg, Int.mul_assoc, ← Int.sub_eq_add_neg]
      have hx : (w g * 2 * (m g : Int)).natAbs ≤ 24056562600 * 2 * 3 := by
        rw [Int.natAbs_mul, Int.natAbs_mul]
        exact Nat.mul_le_mul (Nat.mul_le_mul hwg (Nat.le_refl 2)) (by omega)
      rw [if_pos (by omega), if_pos (by omega), if_pos (by omega), if_pos (by omega), if_pos (by omega), i2 26 (by omega), h26 g hg, pu_w64 (x := w g * 2) (by omega) (by omega), pu_w64 (x := w g * 2 * (m g : Int)) (by omega) (by omega), pu_w64 (by omega) (by omega), ← e1, pu_w32 (x := - (m g : Int)) (by omega) (by omega), pu_inc (by omega)]
      refine Or.inr ⟨_, ⟨fun j hj => ?_, fun o ho => by rw [st_ob ho]; exact i2 o ho, fun j hj => ?_⟩, rfl⟩
      · by_cases y : j = g
        · rw [y]; exact z
        · exact i1 j (by omega)
      · rw [st_if]
        by_cases y : j = g
        · rw [if_pos y, y, if_pos (Nat.lt_succ_self g)]
        · rw [if_neg y, i3 j hj]
          by_cases x : j < g
          · rw [if_pos x, if_pos (show j < g + 1 by omega)]
          · rw [if_neg x, if_neg (show ¬ j < g + 1 by omega)]
    · rw [if_neg z] at es
      have e1 : zs (fun g => w g * ((stp m d g : Int) - (d g : Int))) (g + 1) = zs (fun g => w g * ((stp m d g : Int) - (d g : Int))) g + w g := by
        rw [zs_1]
        show _ + w g * ((stp m d g : Int) - (d g : Int)) = _
        rw [es, show ((d g + 1 : Nat) : Int) - (d g : Int) = 1 by omega, Int.mul_one]
      have e2 : zs (fun g => w g * ((stp m d g : Int) - (d g : Int))) 6 = zs (fun g => w g * ((stp m d g : Int) - (d g : Int))) (g + 1) := zs_ext (show g + 1 ≤ 6 by omega) (fun j h1 h2 => by
        show w j * ((stp m d j : Int) - (d j : Int)) = 0
        rw [stp_past (show g < j by omega) z, Int.sub_self, Int.mul_zero])
      rw [if_neg (by omega), if_pos (by omega), if_pos (by omega), if_pos (by omega), st_ob (show 26 ≠ 28 by omega), i2 26 (by omega), h26 g hg, pu_w64 (by omega) (by omega), ← e1, e2, pu_w32 (x := (d g : Int) - (m g : Int) + 1) (by omega) (by omega)]
      refine Or.inl ⟨_, rfl, fun o ho => by rw [st_ob ho]; exact i2 o ho, fun j hj => ?_⟩
      rw [st_if]
      by_cases y : j = g
      · rw [if_pos y, y, es]
        omega
      · rw [if_neg y, i3 j hj]
        by_cases x : j < g
        · have := i1 j x
          rw [if_pos x, stp_at (fun i hi => i1 i (by omega)), if_pos this]
          omega
        · rw [if_neg x, stp_past (show g < j by omega) z]
  · obtain ⟨i1, i2, i3⟩ := hI
    try dsimp only
    rw [s_Noises_step_4, if_pos (by omega)]
    refine ⟨M', rfl, i2, fun j hj => ?_⟩
    rw [i3 j hj, if_pos hj, stp_at (fun i hi => i1 i (by omega)), if_pos (i1 j hj)]
    omega
