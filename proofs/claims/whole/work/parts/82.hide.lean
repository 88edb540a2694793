/-! hide -/
theorem lcmp_eq {x y : Int} : lcmp x y = 0 ↔ x = y := by
  have h1 := @lcmp_ge x y
  have h2 := @lcmp_le x y
  generalize lcmp x y = c at *
  constructor
  · intro q
    have a := h1.mp (by omega)
    have b := h2.mp (by omega)
    omega
  · intro q
    have a := h1.mpr (by omega)
    have b := h2.mpr (by omega)
    omega
def hbv (a b : Int) : Int := if a < 0 then -((Nat.gcd a.natAbs b.natAbs : Nat) : Int) else ((Nat.gcd a.natAbs b.natAbs : Nat) : Int)
def hst (s : Option (Int × Int)) (a b : Int) : Option (Int × Int) :=
  match s with
  | none => none
  | some p => if a = 0 ∧ b = 0 then some p else if a = 0 ∨ b = 0 then none else if p.1 ≠ 0 ∧ ¬ (a.tdiv (hbv a b) = p.1 ∧ b.tdiv (hbv a b) = p.2) then none else some (a.tdiv (hbv a b), b.tdiv (hbv a b))
def hF (W : mM) (r o : Nat) (L : List Nat) : Option (Int × Int) := L.foldl (fun s t => hst s (wt W t r) (wt W t o)) (some (0, 0))
theorem hF_snoc (W : mM) (r o : Nat) (L : List Nat) (c : Nat) : hF W r o (L ++ [c]) = hst (hF W r o L) (wt W c r) (wt W c o) := by
  unfold hF
  rw [List.foldl_append]
  rfl
theorem hF_from (W : mM) (r o : Nat) : ∀ B : List Nat, B.foldl (fun s t => hst s (wt W t r) (wt W t o)) none = none
  | [] => rfl
  | _ :: T => hF_from W r o T
theorem hF_none {W : mM} {r o : Nat} {A : List Nat} (B : List Nat) (h : hF W r o A = none) : hF W r o (A ++ B) = none := by
  unfold hF at h ⊢
  rw [List.foldl_append, h]
  exact hF_from W r o B
noncomputable def hidV (W : mM) (r o : Nat) : Int := match hF W r o (TN W) with
  | none => 0
  | some p => if p.1 = 0 then 0 else 1
theorem hst_00 (p : Int × Int) : hst (some p) 0 0 = some p := by
  unfold hst
  dsimp only
  rw [if_pos ⟨rfl, rfl⟩]
theorem hst_z {p : Int × Int} {a b : Int} (h : ¬ (a = 0 ∧ b = 0)) (h2 : a = 0 ∨ b = 0) : hst (some p) a b = none := by
  unfold hst
  dsimp only
  rw [if_neg h, if_pos h2]
theorem hst_no {p : Int × Int} {a b : Int} (h2 : ¬ (a = 0 ∨ b = 0)) (h3 : p.1 ≠ 0) (h4 : ¬ (a.tdiv (hbv a b) = p.1 ∧ b.tdiv (hbv a b) = p.2)) : hst (some p) a b = none := by
  unfold hst
  dsimp only
  rw [if_neg (fun q => h2 (Or.inl q.1)), if_neg h2, if_pos ⟨h3, h4⟩]
theorem hst_yes {p : Int × Int} {a b : Int} (h2 : ¬ (a = 0 ∨ b = 0)) (h4 : p.1 = 0 ∨ (a.tdiv (hbv a b) = p.1 ∧ b.tdiv (hbv a b) = p.2)) : hst (some p) a b = some (a.tdiv (hbv a b), b.tdiv (hbv a b)) := by
  unfold hst
  dsimp only
  rw [if_neg (fun q => h2 (Or.inl q.1)), if_neg h2, if_neg (fun q => by
    rcases h4 with h4 | h4
    · exact q.1 h4
    · exact q.2 h4)]
theorem hbv_0 {a b : Int} : hbv a b = 0 ↔ a = 0 ∧ b = 0 := by
  unfold hbv
  have h : Nat.gcd a.natAbs b.natAbs = 0 ↔ a.natAbs = 0 ∧ b.natAbs = 0 := Nat.gcd_eq_zero_iff
  generalize Nat.gcd a.natAbs b.natAbs = g at h
  constructor
  · intro q
    have : g = 0 := by
      split at q <;> omega
    have := h.mp this
    omega
  · intro q
    have : g = 0 := h.mpr (by omega)
    split <;> omega
theorem gcd_le_l {a b B : Nat} (h : a ≠ 0) (hB : a ≤ B) : Nat.gcd a b ≤ B := Nat.le_trans (Nat.le_of_dvd (by omega) (Nat.gcd_dvd_left a b)) hB
theorem tdiv_small {a b : Int} {B : Nat} (h : a.natAbs ≤ B) : (a.tdiv b).natAbs ≤ B := by
  rw [Int.natAbs_tdiv]
  exact Nat.le_trans (Nat.div_le_self _ _) h
/-- where the class goes on -/
noncomputable def hGo (r o n : Nat) (M : mM) (i : Nat) (s : Option (Int × Int)) : Option mR := match s with
  | none => some (iv 0, M)
  | some q => gA 10 15 [none, none, rv 7 13, iv (r : Int), iv (o : Int), iv (n : Int), jv q.1, none, jv q.2, none, iv (i : Int), none, none, none, none, none, none, none] [] M
section CH8
variable {w : Nat} {W M : mM}
theorem c_hideTail {r o n i : Nat} {p : Int × Int} {a b : Int} (hi : i < 2147483647) (ha : a.natAbs ≤ 24056562600) (hb : b.natAbs ≤ 24056562600) {B : Int} (hB : B = hbv a b) : (if (lcmp B 0) = 0 then
gA 10 199 [none, none, rv 7 13, iv (r : Int), iv (o : Int), iv (n : Int), jv p.1, none, jv p.2, none, iv (i : Int), none, none, none, none, none, none, none] [] M
else
if ¬ (lcmp p.1 0) = 0 then
gA 10 159 [none, none, rv 7 13, iv (r : Int), iv (o : Int), iv (n : Int), jv p.1, none, none, none, iv (i : Int), jv a, none, jv b, none, jv B, none, none] [jv p.2] M
else
if B = 0 then none else
if B = 0 then none else
gA 10 159 [none, none, rv 7 13, iv (r : Int), iv (o : Int), iv (n : Int), jv (w64 ((a).tdiv B)), none, none, none, iv (i : Int), jv a, none, jv b, none, jv B, none, none] [jv (w64 ((b).tdiv B))] M) = hGo r o n M (i + 1) (hst (some p) a b) := by
  by_cases z : a = 0 ∧ b = 0
  · rw [if_pos (lcmp_0.mpr (by rw [hB]; exact hbv_0.mpr z)), s_Blame_isHiding_199, pu_inc hi, z.1, z.2, hst_00]
    rfl
  · have hB0 : B ≠ 0 := fun q => z (hbv_0.mp (by rw [← hB]; exact q))
    have h1 := tdiv_small (b := B) ha
    have h2 := tdiv_small (b := B) hb
    rw [if_neg (fun q => hB0 (lcmp_0.mp q)), if_neg hB0, if_neg hB0, pu_w64 (x := a.tdiv B) (by omega) (by omega), pu_w64 (x := b.tdiv B) (by omega) (by omega)]
    by_cases y : a = 0 ∨ b = 0
    · have g : ∀ x s0 : Int, gA 10 159 [none, none, rv 7 13, iv (r : Int), iv (o : Int), iv (n : Int), jv x, none, none, none, iv (i : Int), jv a, none, jv b, none, jv B, none, none] [jv s0] M = some (iv 0, M) := by
        intro x s0
        rw [s_Blame_isHiding_159]
        by_cases v : a = 0
        · rw [if_pos (lcmp_0.mpr v), s_Blame_isHiding_197]
        · rw [if_neg (fun q => v (lcmp_0.mp q)), if_pos (lcmp_0.mpr (by omega)), s_Blame_isHiding_197]
      rw [g, g, ite_self, hst_z z y]
      rfl
    · have a0 : ¬ lcmp a 0 = 0 := fun q => y (Or.inl (lcmp_0.mp q))
      have b0 : ¬ lcmp b 0 = 0 := fun q => y (Or.inr (lcmp_0.mp q))
      by_cases x : p.1 = 0
      · rw [if_neg (fun q => q (lcmp_0.mpr x)), s_Blame_isHiding_159, if_neg a0, if_neg b0, if_neg hB0, pu_w64 (x := a.tdiv B) (by omega) (by omega), pu_w64 (x := b.tdiv B) (by omega) (by omega), if_neg (fun q => q (lcmp_eq.mpr rfl)), if_neg hB0, if_pos (lcmp_eq.mpr rfl), s_Blame_isHiding_199, pu_inc hi, hst_yes y (Or.inl x), ← hB]
        rfl
      · rw [if_pos (fun q => x (lcmp_0.mp q)), s_Blame_isHiding_159, if_neg a0, if_neg b0, if_neg hB0, pu_w64 (x := a.tdiv B) (by omega) (by omega), pu_w64 (x := b.tdiv B) (by omega) (by omega)]
        by_cases v : a.tdiv B = p.1 ∧ b.tdiv B = p.2
        · rw [if_neg (fun q => q (lcmp_eq.mpr v.1)), if_neg hB0, if_pos (lcmp_eq.mpr v.2), s_Blame_isHiding_199, pu_inc hi, hst_yes y (Or.inr (by rw [← hB]; exact v)), ← hB, v.1, v.2]
          rfl
        · rw [hst_no y x (by rw [← hB]; exact v)]
          by_cases u : a.tdiv B = p.1
          · rw [if_neg (fun q => q (lcmp_eq.mpr u)), if_neg hB0, if_neg (fun q => v ⟨u, lcmp_eq.mp q⟩), s_Blame_isHiding_197]
            rfl
          · rw [if_pos (fun q => u (lcmp_eq.mp q)), s_Blame_isHiding_197]
            rfl
theorem c_hideStep (h : WF W) (hT : TR W M) (hZ : TZ W M) {r o i : Nat} (hr : r < 14) (ho : o < 14) (hne : r ≠ o) (hi : i < (TL W).length) (p : Int × Int) : hGo r o (net W) M i (some p) = hGo r o (net W) M (i + 1) (if decide (bdiff (gd (TL W) i) (net W) = 0) = true then hst (some p) (wt W (gd (TL W) i) r) (wt W (gd (TL W) i) o) else some p) := by
  have hL := TL_len W
  have hn := net_lt h
  have ha := wt_abs h (gd (TL W) i) r
  have hb := wt_abs h (gd (TL W) i) o
  show gA 10 15 _ _ _ = _
  rw [s_Blame_isHiding_15, hT.1, if_neg (by omega), if_neg (by omega), c_isIn hT hi (by omega), bI_some, ite01_0]
  by_cases z : decide (bdiff (gd (TL W) i) (net W) = 0) = true
  · have hz : M 15 i ≠ 0 := hZ i hi (by rw [decide_eq_true_iff] at z; exact z)
    rw [if_pos z, if_pos z, c_weightOf hT hi hz hr, bJ_some, c_isIn hT hi (by omega), bI_some, ite01_0, if_pos z, c_weightOf hT hi hz ho, bJ_some]
    generalize wt W (gd (TL W) i) r = a at ha ⊢
    generalize wt W (gd (TL W) i) o = b at hb ⊢
    rw [c_divisor (by omega) (by omega), bJ_some, bJ_some]
    by_cases y : 0 ≤ a
    · rw [if_pos (lcmp_ge.mpr y)]
      exact c_hideTail (by omega) ha hb (by unfold hbv; rw [if_neg (by omega)])
    · have hg := gcd_le_l (a := a.natAbs) (b := b.natAbs) (by omega) ha
      rw [if_neg (fun q => y (lcmp_ge.mp q)), pu_w64 (x := -((Nat.gcd a.natAbs b.natAbs : Nat) : Int)) (by omega) (by omega)]
      exact c_hideTail (by omega) ha hb (by unfold hbv; rw [if_pos (by omega)])
  · rw [if_neg z, if_neg z, c_isIn hT hi (by omega), bI_some, ite01_0, if_neg z, c_divisor (by decide) (by decide), bJ_some, if_pos (by decide), show ((Nat.gcd (Int.natAbs 0) (Int.natAbs 0) : Nat) : Int) = 0 from rfl, if_pos (by decide), s_Blame_isHiding_199, pu_inc (by omega)]
    rfl
theorem c_isHiding (hc : CW w W M) (h : WF W) (hT : TR W M) (hZ : TZ W M) {r o : Nat} (hr : r < 14) (ho : o < 14) : gC 10 [rv 0 29, rv 9 w, rv 7 13, iv (r : Int), iv (o : Int)] M = some (iv (if r = o then 0 else hidV W r o), M) := by
  have hL := TL_len W
  rw [e_Blame_isHiding, c_netNow hc h, bI_some]
  by_cases hne : r = o
  · rw [if_pos hne, s_Blame_isHiding_15, hne, if_pos rfl, if_pos (lcmp_0.mpr rfl), ite_self]
  · rw [if_neg hne]
    have pre : ∀ i, TN W = ((TL W).take i).filter (fun s => decide (bdiff s (net W) = 0)) ++ ((TL W).drop i).filter (fun s => decide (bdiff s (net W) = 0)) := fun i => by
      rw [← List.filter_append, List.take_append_drop]
      rfl
    have main := pu_exit (S := Int × Int) (G := fun i p => hGo r o (net W) M i (some p)) (I := fun i p => hF W r o (((TL W).take i).filter (fun s => decide (bdiff s (net W) = 0))) = some p) (Q := fun x => x = some (iv (hidV W r o), M)) (TL W).length (fun i p hi hI => by
      try dsimp only at hI ⊢
      have hs : ((TL W).take (i + 1)).filter (fun s => decide (bdiff s (net W) = 0)) = ((TL W).take i).filter (fun s => decide (bdiff s (net W) = 0)) ++ (if decide (bdiff (gd (TL W) i) (net W) = 0) = true then [gd (TL W) i] else []) := by
        rw [take_gd hi, List.filter_append, List.filter_cons]
        split <;> rfl
      rw [c_hideStep h hT hZ hr ho hne hi p]
      by_cases z : decide (bdiff (gd (TL W) i) (net W) = 0) = true
      · rw [if_pos z]
        rw [if_pos z] at hs
        have e := hF_snoc W r o (((TL W).take i).filter (fun s => decide (bdiff s (net W) = 0))) (gd (TL W) i)
        rw [← hs, hI] at e
        cases q : hst (some p) (wt W (gd (TL W) i) r) (wt W (gd (TL W) i) o) with
        | none =>
          rw [q] at e
          refine Or.inl ?_
          have := hF_none (((TL W).drop (i + 1)).filter (fun s => decide (bdiff s (net W) = 0))) e
          rw [← pre] at this
          unfold hidV
          rw [this]
          rfl
        | some v =>
          rw [q] at e
          exact Or.inr ⟨v, e, rfl⟩
      · rw [if_neg z]
        rw [if_neg z, List.append_nil] at hs
        rw [hs]
        exact Or.inr ⟨p, hI, rfl⟩) (fun p hI => by
      try dsimp only at hI ⊢
      rw [List.take_length] at hI
      have hI : hF W r o (TN W) = some p := hI
      show gA 10 15 _ _ _ = _
      rw [s_Blame_isHiding_15, hT.1, if_pos (by omega)]
      unfold hidV
      rw [hI]
      dsimp only
      by_cases z : p.1 = 0
      · rw [if_pos (lcmp_0.mpr z), if_pos z]
      · rw [if_neg (fun q => z (lcmp_0.mp q)), if_neg z]) 0 (0, 0) (Nat.zero_le _) rfl
    exact main
end CH8
noncomputable def hidA (W : mM) (f o : Int) : Int := if inR f (wF W) = true then (if inR o (wF W) = true then (if f = o then -1 else if wFr W f.toNat = wFr W o.toNat then 0 else hidV W (wFr W f.toNat) (wFr W o.toNat)) else -1) else -1
/-- where the reference goes on -/
noncomputable def hGoR (f o : Nat) (M : mM) (i : Nat) (s : Option (Int × Int)) : Option mR := match s with
  | none => some (iv 0, M)
  | some q => gA 274 50 [rv 11 100, iv (f : Int), iv (o : Int), jv q.1, none, jv q.2, none, iv (i : Int), none, none, none, none, none, none] [] M
section RH8
variable {lv : Nat} {W M : mM}
theorem r_hideTail {f o i : Nat} {p : Int × Int} {a b : Int} (y : ¬ (a = 0 ∨ b = 0)) (ha : a.natAbs ≤ 24056562600) (hb : b.natAbs ≤ 24056562600) {B : Int} (hB : B = hbv a b) : (if (lcmp p.1 0) = 0 then
if B = 0 then none else
if B = 0 then none else
gA 274 50 [rv 11 100, iv (f : Int), iv (o : Int), jv (w64 ((a).tdiv B)), none, jv (w64 ((b).tdiv B)), none, iv ((i : Nat) : Int), none, none, none, none, none, none] [] M
else
if B = 0 then none else
if ¬ (lcmp (w64 ((a).tdiv B)) p.1) = 0 then
some (iv 0, M)
else
if B = 0 then none else
if (lcmp (w64 ((b).tdiv B)) p.2) = 0 then
if B = 0 then none else
if B = 0 then none else
gA 274 50 [rv 11 100, iv (f : Int), iv (o : Int), jv (w64 ((a).tdiv B)), none, jv (w64 ((b).tdiv B)), none, iv ((i : Nat) : Int), none, none, none, none, none, none] [] M
else
some (iv 0, M)) = hGoR f o M i (hst (some p) a b) := by
  have hB0 : B ≠ 0 := fun q => y (Or.inl (hbv_0.mp (by rw [← hB]; exact q)).1)
  have h1 := tdiv_small (b := B) ha
  have h2 := tdiv_small (b := B) hb
  simp only [if_neg hB0]
  rw [pu_w64 (x := a.tdiv B) (by omega) (by omega), pu_w64 (x := b.tdiv B) (by omega) (by omega)]
  by_cases x : p.1 = 0
  · rw [if_pos (lcmp_0.mpr x), hst_yes y (Or.inl x), ← hB]
    rfl
  · rw [if_neg (fun q => x (lcmp_0.mp q))]
    by_cases v : a.tdiv B = p.1 ∧ b.tdiv B = p.2
    · rw [if_neg (fun q => q (lcmp_eq.mpr v.1)), if_pos (lcmp_eq.mpr v.2), hst_yes y (Or.inr (by rw [← hB]; exact v)), ← hB]
      rfl
    · rw [hst_no y x (by rw [← hB]; exact v)]
      by_cases u : a.tdiv B = p.1
      · rw [if_neg (fun q => q (lcmp_eq.mpr u)), if_neg (fun q => v ⟨u, lcmp_eq.mp q⟩)]
        rfl
      · rw [if_pos (fun q => u (lcmp_eq.mp q))]
        rfl
theorem r_hideStep (hr : RW lv W M) (hS : SR W M) (h : WF W) {f o i : Nat} (hf : f < wF W) (ho : o < wF W) (hi : i < (TN W).length) (p : Int × Int) : hGoR f o M i (some p) = hGoR f o M (i + 1) (hst (some p) (wt W (gd (TN W) i) (wFr W f)) (wt W (gd (TN W) i) (wFr W o))) := by
  have hL := TN_len W
  have ha := wt_abs h (gd (TN W) i) (wFr W f)
  have hb := wt_abs h (gd (TN W) i) (wFr W o)
  obtain ⟨s1, s2, s3⟩ := hS.2 i hi
  have hs := TN_lt hi
  show gA 274 50 _ _ _ = _
  rw [s_GaugeNetModel_hide_50, hS.1, if_neg (by omega), if_pos (by omega), pu_nn, s2, ite01_n, pu_inc (by omega)]
  by_cases z : cr W (gd (TN W) i) = true
  · rw [if_pos z, r_weightIn hr hS h hi hf, bJ_some, r_weightIn hr hS h hi ho, bJ_some]
    generalize wt W (gd (TN W) i) (wFr W f) = a at ha ⊢
    generalize wt W (gd (TN W) i) (wFr W o) = b at hb ⊢
    by_cases a0 : a = 0
    · rw [if_neg (fun q => q (lcmp_0.mpr a0))]
      by_cases b0 : b = 0
      · rw [if_neg (fun q => q (lcmp_0.mpr b0)), a0, b0, hst_00]
        rfl
      · rw [if_pos (fun q => b0 (lcmp_0.mp q)), if_pos (lcmp_0.mpr a0), hst_z (fun q => b0 q.2) (Or.inl a0)]
        rfl
    · rw [if_pos (fun q => a0 (lcmp_0.mp q)), if_neg (fun q => a0 (lcmp_0.mp q))]
      by_cases b0 : b = 0
      · rw [if_neg (fun q => q (lcmp_0.mpr b0)), hst_z (fun q => a0 q.1) (Or.inr b0)]
        rfl
      · have y : ¬ (a = 0 ∨ b = 0) := by omega
        rw [if_pos (fun q => b0 (lcmp_0.mp q)), r_common (by omega) (by omega), bJ_some]
        by_cases v : 0 ≤ a
        · rw [if_pos (lcmp_ge.mpr v)]
          exact r_hideTail y ha hb (by unfold hbv; rw [if_neg (by omega)])
        · have hg := gcd_le_l (a := a.natAbs) (b := b.natAbs) (by omega) ha
          rw [if_neg (fun q => v (lcmp_ge.mp q)), pu_w64 (x := -((Nat.gcd a.natAbs b.natAbs : Nat) : Int)) (by omega) (by omega)]
          exact r_hideTail y ha hb (by unfold hbv; rw [if_pos (by omega)])
  · rw [if_neg z]
    rw [Bool.not_eq_true] at z
    rw [wt_no hs z, wt_no hs z, hst_00]
    rfl
theorem r_hideAll (hr : RW lv W M) (hS : SR W M) (h : WF W) {f o : Nat} (hf : f < wF W) (ho : o < wF W) : gA 274 50 [rv 11 100, iv (f : Int), iv (o : Int), jv 0, none, jv 0, none, iv 0, none, none, none, none, none, none] [] M = some (iv (hidV W (wFr W f) (wFr W o)), M) := by
  have main := pu_exit (S := Int × Int) (G := fun i p => hGoR f o M i (some p)) (I := fun i p => hF W (wFr W f) (wFr W o) ((TN W).take i) = some p) (Q := fun x => x = some (iv (hidV W (wFr W f) (wFr W o)), M)) (TN W).length (fun i p hi hI => by
    try dsimp only at hI ⊢
    rw [r_hideStep hr hS h hf ho hi p]
    have e := hF_snoc W (wFr W f) (wFr W o) ((TN W).take i) (gd (TN W) i)
    rw [← take_gd hi, hI] at e
    cases q : hst (some p) (wt W (gd (TN W) i) (wFr W f)) (wt W (gd (TN W) i) (wFr W o)) with
    | none =>
      rw [q] at e
      refine Or.inl ?_
      have := hF_none ((TN W).drop (i + 1)) e
      rw [List.take_append_drop] at this
      unfold hidV
      rw [this]
      rfl
    | some v =>
      rw [q] at e
      exact Or.inr ⟨v, e, rfl⟩) (fun p hI => by
    try dsimp only at hI ⊢
    rw [List.take_length] at hI
    show gA 274 50 _ _ _ = _
    rw [s_GaugeNetModel_hide_50, hS.1, if_pos (by omega)]
    unfold hidV
    rw [hI]
    dsimp only
    by_cases z : p.1 = 0
    · rw [if_neg (fun q => q (lcmp_0.mpr z)), if_pos z]
    · rw [if_pos (fun q => z (lcmp_0.mp q)), if_neg z]) 0 (0, 0) (Nat.zero_le _) rfl
  exact main
end RH8
theorem hidV_01 (W : mM) (r o : Nat) : hidV W r o = 0 ∨ hidV W r o = 1 := by
  unfold hidV
  split
  · exact Or.inl rfl
  · split
    · exact Or.inl rfl
    · exact Or.inr rfl
theorem p_hide (f o : Int) : PureI Rel 170 274 [iv f, iv o] := by
  refine pure_qI (fun W => hidA W f o) (fun W tl tp pl M h _ hc => ?_) (fun W tl tp pl M h hr => ?_)
  · obtain ⟨w0, w20, hb0, _⟩ := id hc
    rw [e_GaugeNet_hide, hb0.2.1, pu_nn, c_isFault hb0.2.2.2.1 h, bI_some, ite01_0]
    unfold hidA
    by_cases z : inR f (wF W) = true
    · rw [if_pos z, if_pos z, hb0.2.1, pu_nn, c_isFault hb0.2.2.2.1 h, bI_some, ite01_0]
      by_cases y : inR o (wF W) = true
      · rw [if_pos y, if_pos y]
        by_cases x : f = o
        · rw [if_neg (fun q => q x), if_pos x]
          exact ⟨M, rfl, hc⟩
        · obtain ⟨M', a1, a2⟩ := c_makeWeighed hc h
          obtain ⟨w, w2, hb, h5, hP, hT, hZ⟩ := id a2
          have hcw := hb.2.2.2.1
          have z2 := inR_iff.mp z
          have y2 := inR_iff.mp y
          have hfr := (wf_frt h f.toNat (by omega)).1
          have hor := (wf_frt h o.toNat (by omega)).1
          rw [if_pos x, if_neg x, a1, bV_none, hb.2.1, pu_nn, c_rowOf hcw h, bI_some, if_pos z, hb.2.1, pu_nn, c_rowOf hcw h, bI_some, if_pos y, c_isHiding hcw h hT hZ hfr hor, bI_some]
          refine ⟨M', ?_, CZ_CI a2⟩
          by_cases v : wFr W f.toNat = wFr W o.toNat
          · rw [if_pos v, if_pos rfl]
          · rw [if_neg v]
            rcases hidV_01 W (wFr W f.toNat) (wFr W o.toNat) with q | q
            · rw [q, if_pos rfl]
            · rw [q, if_neg (by omega)]
      · rw [if_neg y, if_neg y]
        exact ⟨M, rfl, hc⟩
    · rw [if_neg z, if_neg z]
      exact ⟨M, rfl, hc⟩
  · obtain ⟨lv, hb, _⟩ := id hr
    rw [e_GaugeNetModel_hide, r_isFault hb.1 h, bI_some, ite01_0]
    unfold hidA
    by_cases z : inR f (wF W) = true
    · rw [if_pos z, if_pos z, r_isFault hb.1 h, bI_some, ite01_0]
      by_cases y : inR o (wF W) = true
      · have z2 := inR_iff.mp z
        have y2 := inR_iff.mp y
        obtain ⟨φ, rfl⟩ : ∃ φ : Nat, f = (φ : Int) := ⟨f.toNat, by omega⟩
        obtain ⟨ω, rfl⟩ : ∃ ω : Nat, o = (ω : Int) := ⟨o.toNat, by omega⟩
        rw [if_pos y, if_pos y]
        by_cases x : (φ : Int) = (ω : Int)
        · rw [if_neg (fun q => q x), if_pos x]
          exact ⟨M, rfl, hr⟩
        · rw [if_pos x, if_neg x, r_faultRow hb.1 h (by omega), bI_some, r_faultRow hb.1 h (by omega), bI_some, pu_nn, pu_nn]
          by_cases v : wFr W φ = wFr W ω
          · rw [if_neg (fun q => q (by rw [v])), if_pos v]
            exact ⟨M, rfl, hr⟩
          · obtain ⟨M', a1, a2⟩ := r_seeks hr h
            obtain ⟨lv', b1, b2, b3⟩ := id a2
            rw [if_pos (by omega), if_neg v, a1, bV_none, r_hideAll b1.1 b3 h (by omega) (by omega)]
            exact ⟨M', rfl, RY_RI a2⟩
      · rw [if_neg y, if_neg y]
        exact ⟨M, rfl, hr⟩
    · rw [if_neg z, if_neg z]
      exact ⟨M, rfl, hr⟩
