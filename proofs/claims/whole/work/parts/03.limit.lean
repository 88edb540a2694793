/-! The machine's answers without a bound on steps: an equation for each place. -/
theorem mswt_mono {j j' : Nat → Option mR} {x : Int} {r : mR} (hj : ∀ n, j n = some r → j' n = some r) : ∀ (sw : List (Int × Nat)) (n : Nat), mswt j x n sw = some r → mswt j' x n sw = some r
  | [], n, h => hj n h
  | q :: qs, n, h => by
    unfold mswt at h ⊢
    split
    · rename_i hx; rw [if_pos hx] at h; exact hj _ h
    · rename_i hx; rw [if_neg hx] at h; exact mswt_mono hj qs n h
theorem mswt_ex {j : Nat → Option mR} {x : Int} {r : mR} : ∀ (sw : List (Int × Nat)) (n : Nat), mswt j x n sw = some r → ∃ k, j k = some r ∧ ∀ j' : Nat → Option mR, mswt j' x n sw = j' k
  | [], n, h => ⟨n, h, fun _ => rfl⟩
  | q :: qs, n, h => by
    unfold mswt at h
    by_cases hx : x = q.1
    · rw [if_pos hx] at h
      exact ⟨q.2, h, fun j' => by unfold mswt; rw [if_pos hx]⟩
    · rw [if_neg hx] at h
      obtain ⟨k, h1, h2⟩ := mswt_ex qs n h
      exact ⟨k, h1, fun j' => by unfold mswt; rw [if_neg hx]; exact h2 j'⟩
theorem mres_lim {kind : Nat} {w r : mR} {kV : mM → Option mR} {kI kJ : Int → mM → Option mR} {kR : Nat → mM → Option mR} {kVf : Nat → mM → Option mR} {kIf kJf : Nat → Int → mM → Option mR} {kRf : Nat → Nat → mM → Option mR}
    (hV : ∀ M, kV M = some r → ∃ f, ∀ g, f ≤ g → kVf g M = some r) (hI : ∀ x M, kI x M = some r → ∃ f, ∀ g, f ≤ g → kIf g x M = some r) (hJ : ∀ x M, kJ x M = some r → ∃ f, ∀ g, f ≤ g → kJf g x M = some r) (hR : ∀ x M, kR x M = some r → ∃ f, ∀ g, f ≤ g → kRf g x M = some r)
    (h : mres kind (some w) kV kI kJ kR = some r) : ∃ f, ∀ g, f ≤ g → mres kind (some w) (kVf g) (kIf g) (kJf g) (kRf g) = some r := by
  obtain ⟨v, M⟩ := w
  unfold mres at h ⊢
  split at h
  · unfold bV at h ⊢
    split at h
    · rename_i q; cases q; exact hV _ h
    · cases h
  · unfold bI at h ⊢
    split at h
    · rename_i q; cases q; exact hI _ _ h
    · cases h
  · unfold bJ at h ⊢
    split at h
    · rename_i q; cases q; exact hJ _ _ h
    · cases h
  · unfold bI at h ⊢
    split at h
    · rename_i q; cases q; exact hI _ _ h
    · cases h
  · unfold bR at h ⊢
    split at h
    · rename_i q
      cases q
      revert h
      generalize Nat.beq _ _ = bb
      intro h
      cases bb with
      | true => exact hR _ _ h
      | false => cases h
    · cases h
section
variable {fT : mFld} {kT : Nat → Nat} {rk : Nat}
theorem mstp_lim {cl : Nat → List mV → mM → Option mR} {jmp : Nat → List mV → List mV → mM → Option mR} {clf : Nat → Nat → List mV → mM → Option mR} {jmpf : Nat → Nat → List mV → List mV → mM → Option mR}
    (c1 : ∀ m a M r, cl m a M = some r → ∃ f, clf f m a M = some r) (c2 : ∀ f g m a M r, f ≤ g → clf f m a M = some r → clf g m a M = some r)
    (j1 : ∀ n L S M r, jmp n L S M = some r → ∃ f, jmpf f n L S M = some r) (j2 : ∀ f g n L S M r, f ≤ g → jmpf f n L S M = some r → jmpf g n L S M = some r) (r : mR) :
    ∀ (es : List mE) (L S : List mV) (M : mM), mstp fT kT rk cl jmp es L S M = some r → ∃ f, ∀ g, f ≤ g → mstp fT kT rk (clf g) (jmpf g) es L S M = some r := by
  intro es
  induction es with
  | nil => intro L S M h; cases h
  | cons e es ih =>
    intro L S M h
    unfold mstp at h ⊢
    generalize mone fT kT rk e L S M = E at h ⊢
    obtain ⟨k, c, x, y, n, sw, v, as, L', S', M'⟩ := E
    dsimp only at h ⊢
    split at h
    · simp only [mforce_eq] at h ⊢
      exact ih _ _ _ h
    · obtain ⟨f, hf⟩ := j1 _ _ _ _ _ h
      exact ⟨f, fun g hg => j2 _ _ _ _ _ _ _ hg hf⟩
    · by_cases hc : mcond c x y
      · simp only [if_pos hc] at h ⊢
        obtain ⟨f, hf⟩ := j1 _ _ _ _ _ h
        exact ⟨f, fun g hg => j2 _ _ _ _ _ _ _ hg hf⟩
      · simp only [if_neg hc] at h ⊢
        exact ih _ _ _ h
    · split at h
      · rename_i hc
        simp only [if_pos hc]
        exact ih _ _ _ h
      · cases h
    · split at h
      · cases h
      · rename_i hc
        simp only [if_neg hc]
        exact ih _ _ _ h
    · revert h
      generalize Nat.ble S'.length 4 = bb
      intro h
      cases bb with
      | true =>
        dsimp only at h ⊢
        split at h
        · rename_i q
          cases hcl : cl n as M' with
          | none =>
            rw [hcl] at h
            exact absurd h (by unfold mres; split <;> simp [bV, bI, bJ, bR])
          | some w =>
            rw [hcl] at h
            obtain ⟨f1, hf1⟩ := c1 _ _ _ _ hcl
            obtain ⟨f2, hf2⟩ := mres_lim (kVf := fun g M2 => mstp fT kT rk (clf g) (jmpf g) es L' S' M2) (kIf := fun g x M2 => mstp fT kT rk (clf g) (jmpf g) es L' (iv x :: S') M2) (kJf := fun g x M2 => mstp fT kT rk (clf g) (jmpf g) es L' (jv x :: S') M2) (kRf := fun g o M2 => mstp fT kT rk (clf g) (jmpf g) es L' (rv (q.2 - 10) o :: S') M2) (fun M2 h => ih _ _ _ h) (fun x M2 h => ih _ _ _ h) (fun x M2 h => ih _ _ _ h) (fun x M2 h => ih _ _ _ h) h
            refine ⟨max f1 f2, fun g hg => ?_⟩
            rw [c2 f1 g _ _ _ _ (by omega) hf1]
            exact hf2 g (by omega)
        · cases h
      | false => cases h
    · exact ⟨0, fun _ _ => h⟩
    · exact ⟨0, fun _ _ => h⟩
    · obtain ⟨k, h1, h2⟩ := mswt_ex _ _ h
      obtain ⟨f, hf⟩ := j1 _ _ _ _ _ h1
      exact ⟨f, fun g hg => by rw [h2]; exact j2 _ _ _ _ _ _ _ hg hf⟩
    · cases h
theorem mstp_mono {cl cl' : Nat → List mV → mM → Option mR} {jmp jmp' : Nat → List mV → List mV → mM → Option mR}
    (c1 : ∀ m a M r, cl m a M = some r → cl' m a M = some r) (j1 : ∀ n L S M r, jmp n L S M = some r → jmp' n L S M = some r) (r : mR) (es : List mE) (L S : List mV) (M : mM)
    (h : mstp fT kT rk cl jmp es L S M = some r) : mstp fT kT rk cl' jmp' es L S M = some r := by
  obtain ⟨f, hf⟩ := mstp_lim (fT := fT) (kT := kT) (rk := rk) (clf := fun _ => cl') (jmpf := fun _ => jmp') (fun m a M r h => ⟨0, c1 m a M r h⟩) (fun _ _ _ _ _ _ _ h => h) (fun n L S M r h => ⟨0, j1 n L S M r h⟩) (fun _ _ _ _ _ _ _ _ h => h) r es L S M h
  exact hf f (Nat.le_refl f)
end
section
variable (fT : mFld) (mT : mTab)
theorem mrun_step {f m pc : Nat} {L S : List mV} {M : mM} {r : mR} (h : mrun fT mT f m pc L S M = some r) : mrun fT mT (f + 1) m pc L S M = some r := by
  induction f generalizing m pc L S M r with
  | zero => cases h
  | succ f ih =>
    unfold mrun at h
    unfold mrun
    refine mstp_mono (fun m a M r h => ?_) (fun n L S M r h => ih h) _ _ _ _ _ h
    revert h
    cases Nat.ble (mlay a).length (mT m).1 with
    | true => exact fun h => ih h
    | false => exact fun h => h
theorem mrun_le {f g m pc : Nat} {L S : List mV} {M : mM} {r : mR} (hg : f ≤ g) (h : mrun fT mT f m pc L S M = some r) : mrun fT mT g m pc L S M = some r := by
  induction hg with
  | refl => exact h
  | step _ ih => exact mrun_step fT mT ih
noncomputable def mat (m pc : Nat) (L S : List mV) (M : mM) : Option mR :=
  @dite _ (∃ r f, mrun fT mT f m pc L S M = some r) (Classical.propDecidable _) (fun h => some h.choose) (fun _ => none)
theorem mat_iff {m pc : Nat} {L S : List mV} {M : mM} {r : mR} : mat fT mT m pc L S M = some r ↔ ∃ f, mrun fT mT f m pc L S M = some r := by
  unfold mat
  constructor
  · intro h
    split at h
    · rename_i q
      cases h
      exact q.choose_spec
    · cases h
  · rintro ⟨f, hf⟩
    have q : ∃ r f, mrun fT mT f m pc L S M = some r := ⟨r, f, hf⟩
    rw [dif_pos q]
    obtain ⟨g, hg⟩ := q.choose_spec
    have h1 := mrun_le fT mT (Nat.le_max_left f g) hf
    have h2 := mrun_le fT mT (Nat.le_max_right f g) hg
    exact h2.symm.trans h1
noncomputable def mcl (m : Nat) (as : List mV) (M : mM) : Option mR := match Nat.ble (mlay as).length (mT m).1 with
  | true => mat fT mT m 0 (mpad (mT m).1 (mlay as)) [] M
  | false => none
def mrc (f : Nat) (m : Nat) (as : List mV) (M : mM) : Option mR := match Nat.ble (mlay as).length (mT m).1 with
  | true => mrun fT mT f m 0 (mpad (mT m).1 (mlay as)) [] M
  | false => none
theorem mrc_le {f g m : Nat} {as : List mV} {M : mM} {r : mR} (hg : f ≤ g) (h : mrc fT mT f m as M = some r) : mrc fT mT g m as M = some r := by
  unfold mrc at h ⊢
  split at h
  · exact mrun_le fT mT hg h
  · cases h
theorem mcl_iff {m : Nat} {as : List mV} {M : mM} {r : mR} : mcl fT mT m as M = some r ↔ ∃ f, mrc fT mT f m as M = some r := by
  unfold mcl mrc
  split
  · exact mat_iff fT mT
  · exact ⟨fun h => (by cases h), fun ⟨_, h⟩ => (by cases h)⟩
noncomputable def mjm (m : Nat) (pc : Nat) (L S : List mV) (M : mM) : Option mR := mat fT mT m pc (mnorm (mmask pc (mT m).2.2.1) L) S M
theorem mat_eq (m pc : Nat) (L S : List mV) (M : mM) : mat fT mT m pc L S M = mstp fT (fun k => (mT k).2.1) (mT m).2.1 (mcl fT mT) (mjm fT mT m) (mfrom pc (mT m).2.2.2) L S M := by
  have key : ∀ r, mat fT mT m pc L S M = some r ↔ mstp fT (fun k => (mT k).2.1) (mT m).2.1 (mcl fT mT) (mjm fT mT m) (mfrom pc (mT m).2.2.2) L S M = some r := by
    intro r
    rw [mat_iff]
    constructor
    · rintro ⟨f, hf⟩
      cases f with
      | zero => cases hf
      | succ f =>
        unfold mrun at hf
        exact mstp_mono (fun m a M r h => (mcl_iff fT mT).mpr ⟨f, h⟩) (fun n L S M r h => (mat_iff fT mT).mpr ⟨f, h⟩) _ _ _ _ _ hf
    · intro h
      obtain ⟨f, hf⟩ := mstp_lim (clf := mrc fT mT) (jmpf := fun f pc' L' S' M' => mrun fT mT f m pc' (mnorm (mmask pc' (mT m).2.2.1) L') S' M')
        (fun m a M r h => (mcl_iff fT mT).mp h) (fun f g m a M r hg h => mrc_le fT mT hg h) (fun n L S M r h => (mat_iff fT mT).mp h) (fun f g n L S M r hg h => mrun_le fT mT hg h) r _ _ _ _ h
      exact ⟨f + 1, hf f (Nat.le_refl f)⟩
  cases h : mat fT mT m pc L S M with
  | some r => exact ((key r).mp h).symm
  | none =>
    cases h2 : mstp fT (fun k => (mT k).2.1) (mT m).2.1 (mcl fT mT) (mjm fT mT m) (mfrom pc (mT m).2.2.2) L S M with
    | none => rfl
    | some r => rw [(key r).mpr h2] at h; cases h
/-- unfolded as far as the next of the places 'cuts' -/
noncomputable def munf (cuts : List Nat) : Nat → Nat → Nat → List mV → List mV → mM → Option mR
  | 0, m, pc, L, S, M => mjm fT mT m pc L S M
  | n + 1, m, pc, L, S, M => match cuts.any (Nat.beq pc) with
    | true => mjm fT mT m pc L S M
    | false => mforce (mnorm (mmask pc (mT m).2.2.1) L) fun L => mstp fT (fun k => (mT k).2.1) (mT m).2.1 (mcl fT mT) (munf cuts n m) (mfrom pc (mT m).2.2.2) L S M
theorem munf_eq (cuts : List Nat) (n m pc : Nat) (L S : List mV) (M : mM) : munf fT mT cuts n m pc L S M = mjm fT mT m pc L S M := by
  induction n generalizing pc L S M with
  | zero => rfl
  | succ n ih =>
    unfold munf
    split
    · rfl
    · rw [mforce_eq, show munf fT mT cuts n m = mjm fT mT m from by funext pc L S M; exact ih pc L S M]
      exact (mat_eq fT mT m pc _ S M).symm
theorem mat_unf (cuts : List Nat) (n m pc : Nat) (L S : List mV) (M : mM) : mat fT mT m pc L S M = mstp fT (fun k => (mT k).2.1) (mT m).2.1 (mcl fT mT) (munf fT mT cuts n m) (mfrom pc (mT m).2.2.2) L S M := by
  rw [show munf fT mT cuts n m = mjm fT mT m from by funext pc L S M; exact munf_eq fT mT cuts n m pc L S M]
  exact mat_eq fT mT m pc L S M
end
