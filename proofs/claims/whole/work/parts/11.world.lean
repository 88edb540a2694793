/-! The world that a memory stands for: cells 'wids' at the addresses 'ad', of the kinds 'kd' (below 100: an object of that class; else an array). -/
/-- how many fields an object of a class has -/
def gN : Nat → Nat := fun c => ((vwCl[c]?).map (fun q => q.2.2)).getD 0
def aTy : Nat → FieldType := fun k => match k with
  | 0 => .int | 1 => .long | 2 => .byte | _ => .boolean
section WD
variable (ad : Nat → Nat) (kd : Nat → Nat) (wids : List Nat) (aC : Nat → ClassId)
def ms_fv (M : mM) (o k : Nat) : Value := match gF (kd o) k with
  | (0, _, _) => .int (Int32.ofInt (M o k))
  | (1, _, _) => .int (Int32.ofInt (M o k))
  | (2, _, _) => .long (Int64.ofInt (M o k))
  | (3, d, _) => .ref (ad (o + d))
  | _ => .ref (ad (M o k).toNat)
def ms_e (M : mM) (o : Nat) : va_E := match Nat.ble 100 (kd o) with
  | false => .inr (kd o, (List.range (gN (kd o))).map (ms_fv ad kd M o))
  | true => match (kd o - 100) % 4 with
    | 1 => .inl (aC 1, (kd o - 100) / 4, .inr (.inl (fun j => Int64.ofInt (M o j))))
    | t => .inl (aC t, (kd o - 100) / 4, .inl (fun j => Int32.ofInt (M o j)))
def ms_ws (M : mM) : va_W := wids.map (fun o => (ad o, ms_e ad kd aC M o))
/-- a value fits the place j of a cell o of the kind t -/
def ms_okc (t o j : Nat) (x : Int) : Prop := match Nat.ble 100 t with
  | true => match (t - 100) % 4 with
    | 1 => okJ x
    | _ => okI x
  | false => match gF t j with
    | (0, _, _) => okI x
    | (1, _, _) => okI x
    | (2, _, _) => okJ x
    | (3, d, t') => j < gN t → o + d ∈ wids ∧ kd (o + d) = t'
    | (_, _, t') => x.toNat ∈ wids ∧ kd x.toNat = t'
/-- what a memory holds fits its kind -/
def ms_M (M : mM) : Prop := ∀ o ∈ wids, ∀ j, ms_okc kd wids (kd o) o j (M o j)
theorem ms_at {M : mM} {o : Nat} (h : o ∈ wids) : ∃ q0 : Nat, wids[q0]? = some o ∧ (ms_ws ad kd wids aC M)[q0]? = some (ad o, ms_e ad kd aC M o) := by
  obtain ⟨q, hq⟩ := List.getElem?_of_mem h
  exact ⟨q, hq, by unfold ms_ws; rw [List.getElem?_map, hq]; rfl⟩
theorem ms_upd {f g : Nat → va_E} (hn : wids.Nodup) {o q0 : Nat} (hq : wids[q0]? = some o) (hf : ∀ o', o' ≠ o → g o' = f o') :
    (wids.map (fun o => (ad o, f o))).set q0 (ad o, g o) = wids.map (fun o => (ad o, g o)) := by
  apply List.ext_getElem?
  intro i
  rw [List.getElem?_set]
  have hl : q0 < wids.length := (List.getElem?_eq_some_iff.mp hq).1
  by_cases hi : q0 = i
  · subst hi
    have hv := (List.getElem?_eq_some_iff.mp hq).2
    simp [hl, hv]
  · rw [if_neg hi, List.getElem?_map, List.getElem?_map]
    cases h : wids[i]? with
    | none => rfl
    | some o' =>
      have hne : o' ≠ o := by
        intro e
        subst e
        exact hi ((List.getElem?_inj hl hn).mp (hq.trans h.symm))
      simp [hf o' hne]
theorem st_same (M : mM) (o k : Nat) (v : Int) : st M o k v o k = v := by simp [st]
theorem st_ne {M : mM} {o k : Nat} {v : Int} {o' k' : Nat} (h : o' ≠ o ∨ k' ≠ k) : st M o k v o' k' = M o' k' := by
  unfold st
  rw [if_neg]
  intro q
  rcases h with h | h
  · exact h q.1
  · exact h q.2
theorem ms_e_ne {M : mM} {o k : Nat} {v : Int} (o' : Nat) (h : o' ≠ o) : ms_e ad kd aC (st M o k v) o' = ms_e ad kd aC M o' := by
  have e : ∀ j, st M o k v o' j = M o' j := fun j => st_ne (Or.inl h)
  have e2 : ms_fv ad kd (st M o k v) o' = ms_fv ad kd M o' := by
    funext j
    unfold ms_fv
    rw [e j]
  unfold ms_e
  rw [e2]
  simp only [e]
theorem ms_M.st {M : mM} {o k : Nat} {x : Int} (h : ms_M kd wids M) (hx : ms_okc kd wids (kd o) o k x) : ms_M kd wids (st M o k x) := by
  intro o' ho' j
  by_cases q : o' = o ∧ j = k
  · obtain ⟨rfl, rfl⟩ := q
    rw [st_same]
    exact hx
  · have q2 : o' ≠ o ∨ j ≠ k := by
      by_cases z : o' = o
      · exact Or.inr (fun w => q ⟨z, w⟩)
      · exact Or.inl z
    rw [st_ne q2]
    exact h o' ho' j
/-- a store into an object's field -/
theorem ms_e_fld {M : mM} {o k : Nat} {x : Int} {v : Value} (hk : Nat.ble 100 (kd o) = false) (hk1 : k < gN (kd o)) (hv : ms_fv ad kd (st M o k x) o k = v) (q0 : Nat) (hn : wids.Nodup) (hq : wids[q0]? = some o) :
    (ms_ws ad kd wids aC M).set q0 (ad o, .inr (kd o, ((List.range (gN (kd o))).map (ms_fv ad kd M o)).set k v)) = ms_ws ad kd wids aC (st M o k x) := by
  have e : ms_e ad kd aC (st M o k x) o = .inr (kd o, ((List.range (gN (kd o))).map (ms_fv ad kd M o)).set k v) := by
    unfold ms_e
    rw [hk]
    dsimp only
    congr 2
    apply List.ext_getElem?
    intro i
    rw [List.getElem?_set, List.getElem?_map, List.getElem?_map]
    by_cases hi : k = i
    · subst hi
      simp [hk1, hv]
    · rw [if_neg hi]
      by_cases hl : i < gN (kd o)
      · rw [List.getElem?_range hl]
        simp only [Option.map_some]
        congr 1
        unfold ms_fv
        rw [st_ne (Or.inr (fun q => hi q.symm))]
      · rw [List.getElem?_eq_none (by simpa using hl)]
        rfl
  rw [← e]
  exact ms_upd ad wids hn hq (fun o' h => ms_e_ne ad kd aC o' h)
theorem ms_e_arI {M : mM} {o k t : Nat} {x : Int} {y : Int32} (hk : Nat.ble 100 (kd o) = true) (ht : (kd o - 100) % 4 = t) (ht1 : t ≠ 1) (hy : Int32.ofInt x = y) (q0 : Nat) (hn : wids.Nodup) (hq : wids[q0]? = some o) :
    (ms_ws ad kd wids aC M).set q0 (ad o, .inl (aC t, (kd o - 100) / 4, .inl (upd (fun j => Int32.ofInt (M o j)) k y))) = ms_ws ad kd wids aC (st M o k x) := by
  have e : ms_e ad kd aC (st M o k x) o = .inl (aC t, (kd o - 100) / 4, .inl (upd (fun j => Int32.ofInt (M o j)) k y)) := by
    unfold ms_e
    rw [hk, ht]
    dsimp only
    have h2 : (fun j => Int32.ofInt (st M o k x o j)) = upd (fun j => Int32.ofInt (M o j)) k y := by
      funext j
      unfold upd
      by_cases hj : j = k
      · subst hj
        simp [st_same, hy]
      · simp [hj, st_ne (M := M) (o := o) (k := k) (v := x) (o' := o) (k' := j) (Or.inr hj)]
    split
    · exact absurd rfl ht1
    · rw [h2]
  rw [← e]
  exact ms_upd ad wids hn hq (fun o' h => ms_e_ne ad kd aC o' h)
theorem ms_e_arJ {M : mM} {o k : Nat} {x : Int} (hk : Nat.ble 100 (kd o) = true) (ht : (kd o - 100) % 4 = 1) (q0 : Nat) (hn : wids.Nodup) (hq : wids[q0]? = some o) :
    (ms_ws ad kd wids aC M).set q0 (ad o, .inl (aC 1, (kd o - 100) / 4, .inr (.inl (vp_updL (fun j => Int64.ofInt (M o j)) k (Int64.ofInt x))))) = ms_ws ad kd wids aC (st M o k x) := by
  have e : ms_e ad kd aC (st M o k x) o = .inl (aC 1, (kd o - 100) / 4, .inr (.inl (vp_updL (fun j => Int64.ofInt (M o j)) k (Int64.ofInt x)))) := by
    unfold ms_e
    rw [hk, ht]
    dsimp only
    have h2 : (fun j => Int64.ofInt (st M o k x o j)) = vp_updL (fun j => Int64.ofInt (M o j)) k (Int64.ofInt x) := by
      funext j
      unfold vp_updL
      by_cases hj : j = k
      · subst hj
        simp [st_same]
      · simp [hj, st_ne (M := M) (o := o) (k := k) (v := x) (o' := o) (k' := j) (Or.inr hj)]
    rw [h2]
    rfl
  rw [← e]
  exact ms_upd ad wids hn hq (fun o' h => ms_e_ne ad kd aC o' h)
theorem ms_D {A : Nat → Prop} {M M' : mM} (h : va_D A (ms_ws ad kd wids aC M)) : va_D A (ms_ws ad kd wids aC M') := by
  have key : ∀ (k : Nat) (q : Nat × va_E), (ms_ws ad kd wids aC M')[k]? = some q → ∃ q', (ms_ws ad kd wids aC M)[k]? = some q' ∧ q'.1 = q.1 := by
    intro k q hq
    unfold ms_ws at hq ⊢
    rw [List.getElem?_map] at hq ⊢
    cases hw : wids[k]? with
    | none => rw [hw] at hq; cases hq
    | some o => rw [hw] at hq; cases hq; exact ⟨_, rfl, rfl⟩
  refine ⟨fun i j p q hp hq e => ?_, fun k q hq => ?_⟩
  · obtain ⟨p', hp1, hp2⟩ := key i p hp
    obtain ⟨q', hq1, hq2⟩ := key j q hq
    exact h.1 i j p' q' hp1 hq1 (by rw [hp2, hq2, e])
  · obtain ⟨q', hq1, hq2⟩ := key k q hq
    rw [← hq2]
    exact h.2 k q' hq1
end WD
