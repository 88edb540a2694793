/-! That my machine is sound: numbers, locals, the world that a memory stands for. -/
def okI (x : Int) : Prop := -2147483648 ≤ x ∧ x < 2147483648
def okJ (x : Int) : Prop := -9223372036854775808 ≤ x ∧ x < 9223372036854775808
theorem w32_ok (x : Int) : okI (w32 x) := by unfold okI w32; omega
theorem w64_ok (x : Int) : okJ (w64 x) := by unfold okJ w64; omega
theorem w8_ok (x : Int) : okI (w8 x) := by unfold okI w8; omega
theorem w32_id {x : Int} (h : okI x) : w32 x = x := by unfold okI at h; unfold w32; omega
theorem w64_id {x : Int} (h : okJ x) : w64 x = x := by unfold okJ at h; unfold w64; omega
theorem okI_toInt (x : Int32) : okI x.toInt := ⟨Int32.le_toInt x, Int32.toInt_lt x⟩
theorem okJ_toInt (x : Int64) : okJ x.toInt := ⟨Int64.le_toInt x, Int64.toInt_lt x⟩
theorem w32_bmod (x : Int) : w32 x = x.bmod (2 ^ 32) := by
  unfold w32
  rw [Int.bmod_def]
  split <;> omega
theorem w64_bmod (x : Int) : w64 x = x.bmod (2 ^ 64) := by
  unfold w64
  rw [Int.bmod_def]
  split <;> omega
theorem toInt_ofInt32 {x : Int} (h : okI x) : (Int32.ofInt x).toInt = x := by
  rw [Int32.toInt_ofInt, ← w32_bmod, w32_id h]
theorem toInt_ofInt64 {x : Int} (h : okJ x) : (Int64.ofInt x).toInt = x := by
  rw [Int64.toInt_ofInt, ← w64_bmod, w64_id h]
theorem ofInt_w32 (x : Int) : Int32.ofInt (w32 x) = Int32.ofInt x := by
  apply Int32.toInt_inj.mp
  rw [Int32.toInt_ofInt, Int32.toInt_ofInt, w32_bmod, Int.bmod_bmod]
theorem ofInt_w64 (x : Int) : Int64.ofInt (w64 x) = Int64.ofInt x := by
  apply Int64.toInt_inj.mp
  rw [Int64.toInt_ofInt, Int64.toInt_ofInt, w64_bmod, Int.bmod_bmod]
theorem ofI_inj {x y : Int} (hx : okI x) (hy : okI y) : Int32.ofInt x = Int32.ofInt y ↔ x = y := by
  constructor
  · intro h
    rw [← toInt_ofInt32 hx, ← toInt_ofInt32 hy, h]
  · intro h; rw [h]
theorem ofI_lt {x y : Int} (hx : okI x) (hy : okI y) : Int32.ofInt x < Int32.ofInt y ↔ x < y := by
  rw [Int32.lt_iff_toInt_lt, toInt_ofInt32 hx, toInt_ofInt32 hy]
theorem ofI_le {x y : Int} (hx : okI x) (hy : okI y) : Int32.ofInt x ≤ Int32.ofInt y ↔ x ≤ y := by
  rw [Int32.le_iff_toInt_le, toInt_ofInt32 hx, toInt_ofInt32 hy]
theorem ofJ_inj {x y : Int} (hx : okJ x) (hy : okJ y) : Int64.ofInt x = Int64.ofInt y ↔ x = y := by
  constructor
  · intro h
    rw [← toInt_ofInt64 hx, ← toInt_ofInt64 hy, h]
  · intro h; rw [h]
theorem ofJ_lt {x y : Int} (hx : okJ x) (hy : okJ y) : Int64.ofInt x < Int64.ofInt y ↔ x < y := by
  rw [Int64.lt_iff_toInt_lt, toInt_ofInt64 hx, toInt_ofInt64 hy]
theorem ofI_nat {x : Int} (h0 : 0 ≤ x) (h1 : x < 2147483648) : (Int32.ofInt x).toNatClampNeg = x.toNat := by
  rw [Int32.toNatClampNeg, toInt_ofInt32 ⟨by omega, h1⟩]
theorem ofI_in {x : Int} {n : Nat} (h : okI x) (h0 : 0 ≤ x) (hn : x < (n : Int)) : vp_in (Int32.ofInt x) n := by
  unfold vp_in
  rw [ofI_nat h0 h.2]
  intro q
  rcases q with q | q
  · have := (ofI_lt h (y := 0) ⟨by omega, by omega⟩).mp q
    omega
  · omega
theorem mget_mput : ∀ (L : List mV) (i : Nat) (v : mV) (j : Nat), mget (mput L i v) j = if j = i ∧ i < L.length then v else mget L j
  | [], i, v, j => by simp [mput, mget]
  | x :: l, 0, v, 0 => by simp [mput, mget]
  | x :: l, 0, v, j + 1 => by simp [mput, mget]
  | x :: l, i + 1, v, 0 => by simp [mput, mget]
  | x :: l, i + 1, v, j + 1 => by
    simp only [mput, mget]
    rw [mget_mput l i v j]
    simp
theorem mput_len : ∀ (L : List mV) (i : Nat) (v : mV), (mput L i v).length = L.length
  | [], _, _ => rfl
  | _ :: _, 0, _ => rfl
  | _ :: l, i + 1, v => by simp [mput, mput_len l i v]
theorem mcut_len (L : List mV) (i : Nat) : (mcut L i).length = L.length := by
  cases i with
  | zero => rfl
  | succ i =>
    have e : mcut L (i + 1) = (match mget L i with | some (.inr (.inl _)) => mput L i none | _ => L) := rfl
    rw [e]
    split
    · exact mput_len _ _ _
    · rfl
theorem mget_mem : ∀ (L : List mV) (i : Nat) (v : mV), mget L i = v → v ≠ none → v ∈ L
  | [], _, v, h, h0 => absurd (by rw [← h]; rfl) h0
  | x :: l, 0, v, h, _ => by simp [mget] at h; simp [h]
  | x :: l, i + 1, v, h, h0 => List.mem_cons_of_mem _ (mget_mem l i v h h0)
theorem mget_lt : ∀ (L : List mV) (i : Nat) (v : mV), mget L i = v → v ≠ none → i < L.length
  | [], _, v, h, h0 => absurd (by rw [← h]; rfl) h0
  | x :: l, 0, v, h, _ => by simp
  | x :: l, i + 1, v, h, h0 => by have := mget_lt l i v h h0; simp; exact this
theorem mem_mget : ∀ (L : List mV) (v : mV), v ∈ L → ∃ i, mget L i = v
  | x :: l, v, h => by
    rcases List.mem_cons.mp h with h | h
    · exact ⟨0, h.symm⟩
    · obtain ⟨i, hi⟩ := mem_mget l v h
      exact ⟨i + 1, hi⟩
theorem mget_norm : ∀ (k : Nat) (L : List mV) (i : Nat) (v : mV), mget (mnorm k L) i = v → v ≠ none → mget L i = v
  | _, [], _, v, h, _ => h
  | k, x :: l, 0, v, h, h0 => by
    simp only [mnorm, mget] at h ⊢
    split at h
    · exact absurd h.symm h0
    · exact h
  | k, x :: l, i + 1, v, h, h0 => mget_norm (k / 2) l i v h h0
theorem mnorm_len : ∀ (k : Nat) (L : List mV), (mnorm k L).length = L.length
  | _, [] => rfl
  | k, x :: l => by simp [mnorm, mnorm_len (k / 2) l]
theorem mget_cut {L : List mV} {i j : Nat} {v : mV} (h : mget (mcut L i) j = v) (h0 : v ≠ none) : mget L j = v ∧ ¬ (j + 1 = i ∧ ∃ x, v = jv x) := by
  cases i with
  | zero => exact ⟨h, by omega⟩
  | succ i =>
    have e : mcut L (i + 1) = (match mget L i with | some (.inr (.inl _)) => mput L i none | _ => L) := rfl
    rw [e] at h
    split at h
    · rename_i x hx
      rw [mget_mput] at h
      split at h
      · exact absurd h.symm h0
      · rename_i hji
        refine ⟨h, fun q => hji ⟨by omega, ?_⟩⟩
        exact mget_lt L i _ hx (by simp)
    · rename_i hx
      refine ⟨h, fun q => ?_⟩
      obtain ⟨q1, x, q2⟩ := q
      have : j = i := by omega
      subst this
      exact hx x (by rw [h, q2])
section MS
variable (ad : Nat → Nat) (kd : Nat → Nat) (wids : List Nat) (aC : Nat → ClassId)
def ms_v : mV → Value
  | none => .null
  | some (.inl x) => .int (Int32.ofInt x)
  | some (.inr (.inl x)) => .long (Int64.ofInt x)
  | some (.inr (.inr (_, o))) => .ref (ad o)
def ms_ok : mV → Prop
  | none => True
  | some (.inl x) => okI x
  | some (.inr (.inl x)) => okJ x
  | some (.inr (.inr (t, o))) => o ∈ wids ∧ kd o = t
def ms_ll (L : List mV) : List (Nat × Value) := (List.range L.length).filterMap (fun i => match mget L i with
  | none => none
  | some x => some (i, ms_v ad (some x)))
theorem ms_mem {L : List mV} {i : Nat} {u : Value} : (i, u) ∈ ms_ll ad L ↔ ∃ v, v ≠ none ∧ mget L i = v ∧ u = ms_v ad v := by
  unfold ms_ll
  rw [List.mem_filterMap]
  constructor
  · rintro ⟨j, -, h⟩
    split at h
    · cases h
    · rename_i x hx
      cases h
      exact ⟨some x, by simp, hx, rfl⟩
  · rintro ⟨v, h0, h1, rfl⟩
    refine ⟨i, List.mem_range.mpr (mget_lt L i v h1 h0), ?_⟩
    rw [h1]
    cases v with
    | none => exact absurd rfl h0
    | some x => rfl
theorem lv_less {ls : Array Slot} {nL : Nat} {l l' : List (Nat × Value)} (h : lv_has ls nL l) (hl : ∀ q ∈ l', q ∈ l) : lv_has ls nL l' := ⟨h.1, h.2.1, fun q hq => h.2.2 q (hl q hq)⟩
def ms_L (ls : Array Slot) (nL : Nat) (L : List mV) : Prop := lv_has ls nL (ms_ll ad L) ∧ L.length = nL ∧ ∀ v ∈ L, ms_ok kd wids v
def ms_S (S : List mV) : Prop := ∀ v ∈ S, v ≠ none ∧ ms_ok kd wids v
theorem ms_L.get {ls : Array Slot} {nL : Nat} {L : List mV} (h : ms_L ad kd wids ls nL L) {i : Nat} {v : mV} (hi : mget L i = v) (h0 : v ≠ none) : ls[i]? = some (.val (ms_v ad v)) ∧ ms_ok kd wids v :=
  ⟨h.1.2.2 (i, ms_v ad v) ((ms_mem ad).mpr ⟨v, h0, hi, rfl⟩), h.2.2 v (mget_mem L i v hi h0)⟩
theorem ms_L.less {ls : Array Slot} {nL : Nat} {L L' : List mV} (h : ms_L ad kd wids ls nL L) (hn : L'.length = nL) (hl : ∀ i v, mget L' i = v → v ≠ none → mget L i = v) : ms_L ad kd wids ls nL L' := by
  refine ⟨lv_less h.1 (fun q hq => ?_), hn, fun v hv => ?_⟩
  · obtain ⟨i, u⟩ := q
    obtain ⟨v, h0, h1, h2⟩ := (ms_mem ad).mp hq
    exact (ms_mem ad).mpr ⟨v, h0, hl i v h1 h0, h2⟩
  · obtain ⟨i, hi⟩ := mem_mget L' v hv
    cases v with
    | none => trivial
    | some x => exact h.2.2 _ (mget_mem L i _ (hl i _ hi (by simp)) (by simp))
theorem ms_L.norm {ls : Array Slot} {nL : Nat} {L : List mV} (k : Nat) (h : ms_L ad kd wids ls nL L) : ms_L ad kd wids ls nL (mnorm k L) :=
  ms_L.less ad kd wids h (by rw [mnorm_len]; exact h.2.1) (fun i v => mget_norm k L i v)
theorem ms_cat {v : mV} (h : ¬ ∃ x, v = jv x) : (ms_v ad v).category ≠ 2 := by
  cases v with
  | none => simp [ms_v, Value.category]
  | some x =>
    rcases x with x | x | x
    · simp [ms_v, Value.category]
    · exact absurd ⟨x, rfl⟩ h
    · simp [ms_v, Value.category]
theorem ms_L.set1 {ls : Array Slot} {nL : Nat} {L : List mV} {i : Nat} {v : mV} {ls' : Array Slot} (h : ms_L ad kd wids ls nL L) (hi : i < nL) (h0 : v ≠ none) (hv : ms_ok kd wids v)
    (h' : lv_has ls' nL ((i, ms_v ad v) :: (ms_ll ad L).filter (fun q => !(q.1 == i) && !(q.1 + 1 == i && q.2.category == 2)))) : ms_L ad kd wids ls' nL (mset1 L i v) := by
  have hlen : (mcut L i).length = nL := by rw [mcut_len]; exact h.2.1
  refine ⟨lv_less h' (fun q hq => ?_), by unfold mset1; rw [mput_len, hlen], fun w hw => ?_⟩
  · obtain ⟨j, u⟩ := q
    obtain ⟨w, w0, w1, rfl⟩ := (ms_mem ad).mp hq
    unfold mset1 at w1
    rw [mget_mput, hlen] at w1
    split at w1
    · rename_i hj
      rw [hj.1, ← w1]
      exact List.mem_cons_self
    · rename_i hj
      obtain ⟨g1, g2⟩ := mget_cut w1 w0
      refine List.mem_cons_of_mem _ (List.mem_filter.mpr ⟨(ms_mem ad).mpr ⟨w, w0, g1, rfl⟩, ?_⟩)
      have hji : j ≠ i := fun q => hj ⟨q, hi⟩
      by_cases hc : j + 1 = i
      · have := ms_cat ad (v := w) (fun q => g2 ⟨hc, q⟩)
        simp [hji, hc, this]
      · simp [hji, hc]
  · obtain ⟨j, hj⟩ := mem_mget _ w hw
    cases w with
    | none => trivial
    | some x =>
      unfold mset1 at hj
      rw [mget_mput] at hj
      split at hj
      · rw [← hj]; exact hv
      · exact h.2.2 _ (mget_mem L j _ (mget_cut hj (by simp)).1 (by simp))
theorem ms_L.set2 {ls : Array Slot} {nL : Nat} {L : List mV} {i : Nat} {v : mV} {ls' : Array Slot} (h : ms_L ad kd wids ls nL L) (hi : i + 1 < nL) (h0 : v ≠ none) (hv : ms_ok kd wids v)
    (h' : lv_has ls' nL ((i, ms_v ad v) :: (ms_ll ad L).filter (fun q => !(q.1 == i) && (!(q.1 == i + 1) && !(q.1 + 1 == i && q.2.category == 2))))) : ms_L ad kd wids ls' nL (mset2 L i v) := by
  have hlen : (mcut L i).length = nL := by rw [mcut_len]; exact h.2.1
  refine ⟨lv_less h' (fun q hq => ?_), by unfold mset2; rw [mput_len, mput_len, hlen], fun w hw => ?_⟩
  · obtain ⟨j, u⟩ := q
    obtain ⟨w, w0, w1, rfl⟩ := (ms_mem ad).mp hq
    unfold mset2 at w1
    rw [mget_mput, mput_len, mget_mput, hlen] at w1
    split at w1
    · exact absurd w1.symm w0
    · rename_i hj1
      split at w1
      · rename_i hj
        rw [hj.1, ← w1]
        exact List.mem_cons_self
      · rename_i hj
        obtain ⟨g1, g2⟩ := mget_cut w1 w0
        refine List.mem_cons_of_mem _ (List.mem_filter.mpr ⟨(ms_mem ad).mpr ⟨w, w0, g1, rfl⟩, ?_⟩)
        have hji : j ≠ i := fun q => hj ⟨q, by omega⟩
        have hji1 : j ≠ i + 1 := fun q => hj1 ⟨q, hi⟩
        by_cases hc : j + 1 = i
        · have := ms_cat ad (v := w) (fun q => g2 ⟨hc, q⟩)
          simp [hji, hji1, hc, this]
        · simp [hji, hji1, hc]
  · obtain ⟨j, hj⟩ := mem_mget _ w hw
    cases w with
    | none => trivial
    | some x =>
      unfold mset2 at hj
      rw [mget_mput] at hj
      split at hj
      · cases hj
      · rw [mget_mput] at hj
        split at hj
        · rw [← hj]; exact hv
        · exact h.2.2 _ (mget_mem L j _ (mget_cut hj (by simp)).1 (by simp))
end MS
