/-! How many PAIRS: the least of covers, and the most of matchings. -/
theorem least_ex {P : Nat → Prop} (h : ∃ n, P n) : ∃ n, P n ∧ ∀ m, P m → n ≤ m := by
  obtain ⟨n, hn⟩ := h
  induction n using Nat.strongRecOn with
  | ind n ih =>
    by_cases q : ∃ m, m < n ∧ P m
    · obtain ⟨m, hm, hp⟩ := q
      exact ih m hm hp
    · refine ⟨n, hn, fun m hm => ?_⟩
      rcases Nat.lt_or_ge m n with z | z
      · exact absurd ⟨m, z, hm⟩ q
      · exact z
noncomputable def bsetP (p : Nat → Prop) (k : Nat) : Nat := bset (fun i => @decide (p i) (Classical.propDecidable _)) k
theorem bsetP_tb (p : Nat → Prop) (k i : Nat) : (bsetP p k).testBit i = true ↔ i < k ∧ p i := by
  unfold bsetP
  rw [bset_tb, Bool.and_eq_true, decide_eq_true_iff, @decide_eq_true_iff _ (Classical.propDecidable _)]
theorem bsetP_lt (p : Nat → Prop) (k : Nat) : bsetP p k < 2 ^ k := bset_lt _ _
theorem bd_true {a b i : Nat} : (bdiff a b).testBit i = true ↔ a.testBit i = true ∧ b.testBit i = false := by
  rw [bdiff_testBit]
  cases a.testBit i <;> cases b.testBit i <;> simp
theorem tb_not {a i : Nat} : ¬ a.testBit i = true ↔ a.testBit i = false := by cases a.testBit i <;> simp
theorem pop_inj {k n D E : Nat} {f : Nat → Nat} (hf : ∀ u, u < k → D.testBit u = true → f u < n ∧ E.testBit (f u) = true) (inj : ∀ u v, u < k → v < k → D.testBit u = true → D.testBit v = true → f u = f v → u = v) : pop k D ≤ pop n E := by
  induction k generalizing E with
  | zero => exact Nat.zero_le _
  | succ k ih =>
    rw [pop]
    by_cases hk : D.testBit k = true
    · rw [if_pos hk]
      obtain ⟨h1, h2⟩ := hf k (by omega) hk
      have := ih (E := bdiff E (2 ^ f k)) (fun u hu hd => ⟨(hf u (by omega) hd).1, by
        rw [bd_true, tb_pow, decide_eq_false_iff_not]
        exact ⟨(hf u (by omega) hd).2, fun e => by have := inj u k (by omega) (by omega) hd hk e.symm; omega⟩⟩) (fun u v hu hv => inj u v (by omega) (by omega))
      have := pop_del h2 h1
      omega
    · rw [if_neg hk]
      exact ih (fun u hu => hf u (by omega)) (fun u v hu hv => inj u v (by omega) (by omega))
theorem pop_surj {k n D E : Nat} {f : Nat → Nat} (hf : ∀ u, u < k → D.testBit u = true → f u < n ∧ E.testBit (f u) = true) (inj : ∀ u v, u < k → v < k → D.testBit u = true → D.testBit v = true → f u = f v → u = v) (hp : pop n E ≤ pop k D) {e : Nat} (he : e < n) (hE : E.testBit e = true) : ∃ u, u < k ∧ D.testBit u = true ∧ f u = e := by
  apply Classical.byContradiction
  intro q
  have := pop_inj (k := k) (n := n) (D := D) (E := bdiff E (2 ^ e)) (f := f) (fun u hu hd => ⟨(hf u hu hd).1, by
    rw [bd_true, tb_pow, decide_eq_false_iff_not]
    exact ⟨(hf u hu hd).2, fun z => q ⟨u, hu, hd, z.symm⟩⟩⟩) inj
  have := pop_del hE he
  omega
section MU
variable (H : Nat → Nat) (wo : Nat)
def cov (R S : Nat) : Nat := pop 7 (bdiff (nbr H 14 S) wo) + pop 14 (bdiff R S)
def IsMu (R n : Nat) : Prop := (∃ S, sbs S R ∧ cov H wo R S = n) ∧ ∀ S, sbs S R → n ≤ cov H wo R S
theorem mu_ex (R : Nat) : ∃ n, IsMu H wo R n := by
  obtain ⟨n, ⟨S, h1, h2⟩, h3⟩ := least_ex (P := fun n => ∃ S, sbs S R ∧ cov H wo R S = n) ⟨_, R, sbs_refl R, rfl⟩
  exact ⟨n, ⟨S, h1, h2⟩, fun S hS => h3 _ ⟨S, hS, rfl⟩⟩
noncomputable def mu (R : Nat) : Nat := (mu_ex H wo R).choose
theorem mu_spec (R : Nat) : IsMu H wo R (mu H wo R) := (mu_ex H wo R).choose_spec
theorem mu_uniq {R n : Nat} (h : IsMu H wo R n) : mu H wo R = n := by
  obtain ⟨⟨S, h1, h2⟩, h3⟩ := mu_spec H wo R
  obtain ⟨⟨T, t1, t2⟩, t3⟩ := h
  have := h3 T t1
  have := t3 S h1
  omega
theorem cov_del {R S r : Nat} (h1 : R.testBit r = true) (h2 : S.testBit r = false) (h3 : r < 14) : cov H wo R S = cov H wo (bdiff R (2 ^ r)) S + 1 := by
  unfold cov
  have e : bdiff (bdiff R (2 ^ r)) S = bdiff (bdiff R S) (2 ^ r) := by
    apply Nat.eq_of_testBit_eq
    intro i
    rw [bdiff_testBit, bdiff_testBit, bdiff_testBit, bdiff_testBit]
    cases R.testBit i <;> cases S.testBit i <;> simp
  have := pop_del (a := bdiff R S) (r := r) (k := 14) (bd_true.mpr ⟨h1, h2⟩) h3
  rw [e]
  omega
theorem mu_le14 (R : Nat) : mu H wo R ≤ 14 := by
  have h := (mu_spec H wo R).2 0 (fun i q => by rw [Nat.zero_testBit] at q; cases q)
  have e : cov H wo R 0 ≤ 14 := by
    unfold cov
    have e1 : nbr H 14 0 = 0 := by
      apply Nat.eq_of_testBit_eq
      intro u
      rw [Nat.zero_testBit, ← tb_not, nbr_tb]
      rintro ⟨r, _, q, _⟩
      rw [Nat.zero_testBit] at q
      cases q
    rw [e1, show bdiff 0 wo = 0 from sbs_zero.mpr (fun i q => by rw [Nat.zero_testBit] at q; cases q), pop_zero]
    have := pop_le 14 (bdiff R 0)
    omega
  omega
/-- the least over the rows up to k -/
noncomputable def lst (R : Nat) : Nat → Nat
  | 0 => 14
  | k + 1 => if R.testBit k = true then (if mu H wo (bdiff R (2 ^ k)) + 1 < lst R k then mu H wo (bdiff R (2 ^ k)) + 1 else lst R k) else lst R k
theorem lst_le (R : Nat) : ∀ k, lst H wo R k ≤ 14 ∧ ∀ r, r < k → R.testBit r = true → lst H wo R k ≤ mu H wo (bdiff R (2 ^ r)) + 1 := by
  intro k
  induction k with
  | zero => exact ⟨Nat.le_refl _, fun r hr => by omega⟩
  | succ k ih =>
    have hstep : lst H wo R (k + 1) ≤ lst H wo R k := by
      rw [lst]
      split
      · split <;> omega
      · omega
    refine ⟨by omega, fun r hr hb => ?_⟩
    by_cases e : r = k
    · subst e
      rw [lst, if_pos hb]
      split <;> omega
    · have := ih.2 r (by omega) hb
      omega
theorem lst_ex (R : Nat) : ∀ k, lst H wo R k = 14 ∨ ∃ r, r < k ∧ R.testBit r = true ∧ lst H wo R k = mu H wo (bdiff R (2 ^ r)) + 1 := by
  intro k
  induction k with
  | zero => exact Or.inl rfl
  | succ k ih =>
    rw [lst]
    split
    · rename_i hb
      split
      · exact Or.inr ⟨k, by omega, hb, rfl⟩
      · rcases ih with e | ⟨r, h1, h2, h3⟩
        · exact Or.inl e
        · exact Or.inr ⟨r, by omega, h2, h3⟩
    · rcases ih with e | ⟨r, h1, h2, h3⟩
      · exact Or.inl e
      · exact Or.inr ⟨r, by omega, h2, h3⟩
theorem bdiff_zero (a : Nat) : bdiff a 0 = a := by
  apply Nat.eq_of_testBit_eq
  intro i
  rw [bdiff_testBit, Nat.zero_testBit]
  simp
theorem cov_self (R : Nat) : cov H 0 R R = pop 7 (nbr H 14 R) := by
  unfold cov
  rw [bdiff_self, pop_zero, bdiff_zero]
  rfl
theorem mu_rec {R : Nat} (hR : R < 16384) : mu H 0 R = if pop 7 (nbr H 14 R) < lst H 0 R 14 then pop 7 (nbr H 14 R) else lst H 0 R 14 := by
  have h7 := pop_le 7 (nbr H 14 R)
  apply mu_uniq
  constructor
  · split
    · exact ⟨R, sbs_refl R, cov_self H R⟩
    · rcases lst_ex H 0 R 14 with e | ⟨r, h1, h2, h3⟩
      · omega
      · obtain ⟨⟨S, s1, s2⟩, _⟩ := mu_spec H 0 (bdiff R (2 ^ r))
        have hSr : S.testBit r = false := by
          cases q : S.testBit r with
          | false => rfl
          | true =>
            have := (bd_true.mp (s1 r q)).2
            rw [tb_pow, decide_eq_true rfl] at this
            cases this
        refine ⟨S, sbs_trans s1 (sbs_bdiff _ _), ?_⟩
        rw [cov_del H 0 h2 hSr h1, s2, h3]
  · intro S hS
    by_cases e : S = R
    · subst e
      rw [cov_self]
      split <;> omega
    · have : ∃ r, R.testBit r = true ∧ S.testBit r = false := by
        apply Classical.byContradiction
        intro q
        apply e
        apply sbs_anti hS
        intro i hi
        cases z : S.testBit i with
        | true => rfl
        | false => exact absurd ⟨i, hi, z⟩ q
      obtain ⟨r, h1, h2⟩ := this
      have h3 : r < 14 := tb_in (n := 14) hR h1
      have h4 : sbs S (bdiff R (2 ^ r)) := by
        intro i hi
        rw [bd_true, tb_pow, decide_eq_false_iff_not]
        exact ⟨hS i hi, fun z => by rw [← z, h2] at hi; cases hi⟩
      have h5 := (mu_spec H 0 (bdiff R (2 ^ r))).2 S h4
      have h6 := (lst_le H 0 R 14).2 r h3 h1
      rw [cov_del H 0 h1 h2 h3]
      split <;> omega
/-! Matchings: m u is the row of the unknown u, or -1. -/
def VM (R : Nat) (m : Nat → Int) : Prop := (∀ u, u < 7 → m u = -1 ∨ ∃ r : Nat, m u = (r : Int) ∧ R.testBit r = true ∧ (H r).testBit u = true ∧ wo.testBit u = false) ∧ ∀ u v, u < 7 → v < 7 → m u = m v → m u ≠ -1 → u = v
def Dm (m : Nat → Int) : Nat := bset (fun u => decide (m u ≠ -1)) 7
theorem Dm_tb (m : Nat → Int) (u : Nat) : (Dm m).testBit u = true ↔ u < 7 ∧ m u ≠ -1 := by
  unfold Dm
  rw [bset_tb, Bool.and_eq_true, decide_eq_true_iff, decide_eq_true_iff]
/-- the matched ones whose rows are in S -/
def D1 (m : Nat → Int) (S : Nat) : Nat := bset (fun u => decide (m u ≠ -1) && S.testBit (m u).toNat) 7
theorem D1_tb (m : Nat → Int) (S u : Nat) : (D1 m S).testBit u = true ↔ u < 7 ∧ m u ≠ -1 ∧ S.testBit (m u).toNat = true := by
  unfold D1
  rw [bset_tb, Bool.and_eq_true, Bool.and_eq_true, decide_eq_true_iff, decide_eq_true_iff]
theorem D1_sub (m : Nat → Int) (S : Nat) : sbs (D1 m S) (Dm m) := by
  intro u h
  rw [D1_tb] at h
  rw [Dm_tb]
  exact ⟨h.1, h.2.1⟩
variable {H wo}
theorem D1_cov {R S : Nat} {m : Nat → Int} (hR : R < 16384) (hv : VM H wo R m) : sbs (D1 m S) (bdiff (nbr H 14 S) wo) := by
  intro u h
  rw [D1_tb] at h
  obtain ⟨h1, h2, h3⟩ := h
  rcases hv.1 u h1 with e | ⟨r, e1, e2, e3, e4⟩
  · exact absurd e h2
  · rw [e1, pu_nn] at h3
    rw [bd_true, nbr_tb]
    exact ⟨⟨r, tb_in (n := 14) hR e2, h3, e3⟩, e4⟩
theorem D2_in {R S : Nat} {m : Nat → Int} (hR : R < 16384) (hv : VM H wo R m) : ∀ u, u < 7 → (bdiff (Dm m) (D1 m S)).testBit u = true → (m u).toNat < 14 ∧ (bdiff R S).testBit (m u).toNat = true := by
  intro u hu h
  rw [bd_true, Dm_tb, ← tb_not, D1_tb] at h
  obtain ⟨⟨_, h2⟩, h3⟩ := h
  rcases hv.1 u hu with e | ⟨r, e1, e2, e3, e4⟩
  · exact absurd e h2
  · have hr := tb_in (n := 14) hR e2
    rw [e1, pu_nn] at h3 ⊢
    refine ⟨hr, bd_true.mpr ⟨e2, ?_⟩⟩
    rw [← tb_not]
    exact fun z => h3 ⟨hu, by omega, z⟩
theorem D2_inj {R : Nat} {D : Nat} {m : Nat → Int} (hv : VM H wo R m) (hD : sbs D (Dm m)) : ∀ u v, u < 7 → v < 7 → D.testBit u = true → D.testBit v = true → (m u).toNat = (m v).toNat → u = v := by
  intro u v hu hv' h1 h2 he
  have a1 := (Dm_tb m u).mp (hD u h1)
  have a2 := (Dm_tb m v).mp (hD v h2)
  rcases hv.1 u hu with e | ⟨r, e1, _⟩
  · exact absurd e a1.2
  · rcases hv.1 v hv' with f | ⟨s, f1, _⟩
    · exact absurd f a2.2
    · refine hv.2 u v hu hv' ?_ a1.2
      rw [e1, f1] at he ⊢
      rw [pu_nn, pu_nn] at he
      rw [he]
theorem match_cov {R S : Nat} {m : Nat → Int} (hR : R < 16384) (hv : VM H wo R m) : pop 7 (Dm m) ≤ cov H wo R S := by
  unfold cov
  have h1 := pop_sbs (D1_cov (S := S) hR hv) 7
  have h2 := pop_inj (f := fun u => (m u).toNat) (D2_in (S := S) hR hv) (D2_inj hv (sbs_bdiff _ _))
  have h3 := pop_split 7 (D1_sub m S)
  omega
theorem match_tight {R S : Nat} {m : Nat → Int} (hR : R < 16384) (hv : VM H wo R m) (ht : cov H wo R S = pop 7 (Dm m)) : (∀ u, (bdiff (nbr H 14 S) wo).testBit u = true → u < 7 → m u ≠ -1 ∧ S.testBit (m u).toNat = true) ∧ ∀ r, (bdiff R S).testBit r = true → ∃ u, u < 7 ∧ m u = (r : Int) := by
  unfold cov at ht
  have h1 := pop_sbs (D1_cov (S := S) hR hv) 7
  have h2 := pop_inj (f := fun u => (m u).toNat) (D2_in (S := S) hR hv) (D2_inj hv (sbs_bdiff _ _))
  have h3 := pop_split 7 (D1_sub m S)
  constructor
  · intro u hu h7
    have key : ∀ n, n ≤ 7 → pop n (D1 m S) ≤ pop n (bdiff (nbr H 14 S) wo) := fun n _ => pop_sbs (D1_cov (S := S) hR hv) n
    have e := pop_surj (k := 7) (n := 7) (D := D1 m S) (E := bdiff (nbr H 14 S) wo) (f := fun u => u) (fun v hv1 hv2 => ⟨hv1, D1_cov (S := S) hR hv v hv2⟩) (fun a b _ _ _ _ q => q) (by omega) h7 hu
    obtain ⟨v, _, v2, v3⟩ := e
    have v3 : v = u := v3
    subst v3
    exact ((D1_tb m S v).mp v2).2
  · intro r hr
    have hr14 : r < 14 := tb_in (n := 14) hR (bd_true.mp hr).1
    obtain ⟨u, u1, u2, u3⟩ := pop_surj (f := fun u => (m u).toNat) (D2_in (S := S) hR hv) (D2_inj hv (sbs_bdiff _ _)) (by omega) hr14 hr
    refine ⟨u, u1, ?_⟩
    have u3 : (m u).toNat = r := u3
    have a1 := (Dm_tb m u).mp ((bd_true.mp u2).1)
    rcases hv.1 u u1 with e | ⟨s, e1, _⟩
    · exact absurd e a1.2
    · rw [e1, pu_nn] at u3
      rw [e1, u3]
theorem VM_mono {R R' : Nat} {m : Nat → Int} (h : sbs R R') (hv : VM H wo R m) : VM H wo R' m := by
  refine ⟨fun u hu => ?_, hv.2⟩
  rcases hv.1 u hu with e | ⟨r, e1, e2, e3⟩
  · exact Or.inl e
  · exact Or.inr ⟨r, e1, h r e2, e3⟩
theorem mu_match {R S : Nat} {m : Nat → Int} (hR : R < 16384) (hv : VM H wo R m) (hS : sbs S R) (ht : cov H wo R S = pop 7 (Dm m)) : mu H wo R = pop 7 (Dm m) :=
  mu_uniq H wo ⟨⟨S, hS, ht⟩, fun T _ => match_cov hR hv⟩
/-- no way on from the row i: V is closed -/
theorem match_fail {R S i V : Nat} {m : Nat → Int} (hH : ∀ r, H r < 128) (hi : i < 14) (hR : R < 16384) (hS : sbs S R) (hv : VM H wo R m) (ht : cov H wo R S = pop 7 (Dm m))
    (hV : ∀ u, V.testBit u = true → u < 7 ∧ m u ≠ -1 ∧ ∀ v, (H (m u).toNat).testBit v = true → wo.testBit v = false → V.testBit v = true) (hVi : ∀ v, (H i).testBit v = true → wo.testBit v = false → V.testBit v = true) : ∃ S', sbs S' (R ||| 2 ^ i) ∧ cov H wo (R ||| 2 ^ i) S' = pop 7 (Dm m) := by
  obtain ⟨t1, t2⟩ := match_tight hR hv ht
  have hn7 : ∀ S u, (nbr H 14 S).testBit u = true → u < 7 := fun S u hu => tb_in (n := 7) (nbr_lt (n := 7) hH 14 S) hu
  have hR' : R ||| 2 ^ i < 16384 := Nat.or_lt_two_pow (n := 14) hR (Nat.pow_lt_pow_right (by omega) hi)
  have hRR : sbs R (R ||| 2 ^ i) := fun r q => by rw [Nat.testBit_or, q]; rfl
  have hS'tb := bsetP_tb (fun r => S.testBit r = true ∨ r = i ∨ ∃ u, u < 7 ∧ V.testBit u = true ∧ m u = (r : Int)) 14
  generalize bsetP (fun r => S.testBit r = true ∨ r = i ∨ ∃ u, u < 7 ∧ V.testBit u = true ∧ m u = (r : Int)) 14 = S' at hS'tb
  have hmR : ∀ u, u < 7 → m u ≠ -1 → ∃ r : Nat, m u = (r : Int) ∧ r < 14 ∧ R.testBit r = true := by
    intro u hu hm
    rcases hv.1 u hu with e | ⟨r, e1, e2, _⟩
    · exact absurd e hm
    · exact ⟨r, e1, tb_in (n := 14) hR e2, e2⟩
  have hsub : sbs S' (R ||| 2 ^ i) := by
    intro r hr
    rw [Nat.testBit_or, tb_pow, Bool.or_eq_true, decide_eq_true_iff]
    rcases ((hS'tb r).mp hr).2 with q | q | ⟨u, q1, q2, q3⟩
    · exact Or.inl (hS r q)
    · exact Or.inr q.symm
    · obtain ⟨s, s1, _, s3⟩ := hmR u q1 (hV u q2).2.1
      rw [q3] at s1
      have : r = s := by omega
      rw [this]
      exact Or.inl s3
  refine ⟨S', hsub, ?_⟩
  have hA : ∀ u, (bdiff (nbr H 14 S') wo).testBit u = true → (D1 m S').testBit u = true := by
    intro u hu
    rw [bd_true, nbr_tb] at hu
    obtain ⟨⟨r, r1, r2, r3⟩, hw⟩ := hu
    have hu7 : u < 7 := tb_in (n := 7) (hH r) r3
    have hVu : V.testBit u = true → (D1 m S').testBit u = true := by
      intro q
      rw [D1_tb]
      obtain ⟨_, a2, _⟩ := hV u q
      obtain ⟨s, s1, s2, _⟩ := hmR u hu7 a2
      refine ⟨hu7, a2, ?_⟩
      rw [s1, pu_nn, hS'tb]
      exact ⟨s2, Or.inr (Or.inr ⟨u, hu7, q, s1⟩)⟩
    rcases ((hS'tb r).mp r2).2 with q | q | ⟨v, q1, q2, q3⟩
    · obtain ⟨a1, a2⟩ := t1 u (by rw [bd_true, nbr_tb]; exact ⟨⟨r, r1, q, r3⟩, hw⟩) hu7
      obtain ⟨s, s1, s2, _⟩ := hmR u hu7 a1
      rw [D1_tb]
      refine ⟨hu7, a1, ?_⟩
      rw [s1, pu_nn] at a2 ⊢
      exact (hS'tb s).mpr ⟨s2, Or.inl a2⟩
    · rw [q] at r3
      exact hVu (hVi u r3 hw)
    · obtain ⟨_, _, a3⟩ := hV v q2
      rw [q3, pu_nn] at a3
      exact hVu (a3 u r3 hw)
  have hB : ∀ r, (bdiff (R ||| 2 ^ i) S').testBit r = true → ∃ u, u < 7 ∧ m u = (r : Int) := by
    intro r hr
    rw [bd_true, Nat.testBit_or, tb_pow, Bool.or_eq_true, decide_eq_true_iff] at hr
    obtain ⟨hr1, hr2⟩ := hr
    rw [← tb_not, hS'tb] at hr2
    have hri : ¬ i = r := fun e => hr2 ⟨by omega, Or.inr (Or.inl e.symm)⟩
    have hrR : R.testBit r = true := hr1.resolve_right hri
    have hr14 : r < 14 := tb_in (n := 14) hR hrR
    apply t2 r
    rw [bd_true]
    refine ⟨hrR, ?_⟩
    rw [← tb_not]
    exact fun z => hr2 ⟨hr14, Or.inl z⟩
  obtain ⟨f, hf⟩ := Classical.axiomOfChoice (r := fun (r u : Nat) => (bdiff (R ||| 2 ^ i) S').testBit r = true → u < 7 ∧ m u = (r : Int)) (fun r => by
    by_cases q : (bdiff (R ||| 2 ^ i) S').testBit r = true
    · obtain ⟨u, hu⟩ := hB r q
      exact ⟨u, fun _ => hu⟩
    · exact ⟨0, fun z => absurd z q⟩)
  have h1 := pop_sbs hA 7
  have h2 : pop 14 (bdiff (R ||| 2 ^ i) S') ≤ pop 7 (bdiff (Dm m) (D1 m S')) := by
    refine pop_inj (f := f) (fun r hr hb => ?_) (fun a b ha hb h3 h4 he => ?_)
    · obtain ⟨f1, f2⟩ := hf r hb
      refine ⟨f1, ?_⟩
      rw [bd_true, Dm_tb, ← tb_not, D1_tb, f2, pu_nn]
      refine ⟨⟨f1, by omega⟩, fun z => ?_⟩
      have := (bd_true.mp hb).2
      rw [z.2.2] at this
      cases this
    · have h5 := (hf a h3).2
      have h6 := (hf b h4).2
      rw [he, h6] at h5
      omega
  have h3 := pop_split 7 (D1_sub m S')
  have h4 := match_cov (S := S') hR' (VM_mono hRR hv)
  unfold cov at h4 ⊢
  omega
theorem cov_add {R S i : Nat} (hi : i < 14) (hRi : R.testBit i = false) (hSi : S.testBit i = false) : cov H wo (R ||| 2 ^ i) S = cov H wo R S + 1 := by
  rw [cov_del H wo (r := i) (by rw [Nat.testBit_or, tb_pow]; simp) hSi hi]
  have : bdiff (R ||| 2 ^ i) (2 ^ i) = R := by
    apply Nat.eq_of_testBit_eq
    intro j
    rw [bdiff_testBit, Nat.testBit_or, tb_pow]
    by_cases e : i = j
    · subst e; rw [hRi]; simp
    · simp [e]
  rw [this]
end MU
