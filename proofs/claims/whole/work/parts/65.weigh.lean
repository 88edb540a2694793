/-! The class weighs a TEST. -/
section EF
variable {m k : Nat} {a : Nat → Nat → Int} {c σ : Nat → Nat} {F : Nat → Nat → Int} {p : Int}
/-- the sum that is 0 by a column that is no pivot -/
def nul (m : Nat) (a : Nat → Nat → Int) (k : Nat) (c : Nat → Nat) (F : Nat → Nat → Int) (p : Int) (f l : Nat) : Int := (if l = f then p else 0) - zs (fun i => if c i = l then phi m F (a f) i else 0) k
theorem nul_null (h : EI m a k c σ F p) {f : Nat} (hf : f ≤ m) (hc : ∀ i, i < k → c i ≤ m) (hz : ∀ l, k ≤ l → l < m → phi m F (a f) l = 0) : ∀ u, u < m → zs (fun l => nul m a k c F p f l * a l u) (m + 1) = 0 := by
  intro u hu
  have hx := EI_x h (a f) hu
  rw [zs_ext h.1 (fun i h1 h2 => by rw [hz i h1 h2, Int.zero_mul])] at hx
  have e1 : zs (fun l => nul m a k c F p f l * a l u) (m + 1) = zs (fun l => (if l = f then p else 0) * a l u) (m + 1) - zs (fun l => a l u * zs (fun i => if c i = l then phi m F (a f) i else 0) k) (m + 1) := by
    rw [← zs_sub]
    refine zs_congr (m + 1) (fun l _ => ?_)
    unfold nul
    rw [Int.sub_mul, Int.mul_comm (zs _ k)]
  have e2 : zs (fun l => a l u * zs (fun i => if c i = l then phi m F (a f) i else 0) k) (m + 1) = zs (fun i => phi m F (a f) i * bv a c σ k i u) k := by
    have : zs (fun l => a l u * zs (fun i => if c i = l then phi m F (a f) i else 0) k) (m + 1) = zs (fun l => zs (fun i => a l u * (if c i = l then phi m F (a f) i else 0)) k) (m + 1) := zs_congr _ (fun l _ => (zs_mul _ _ _).symm)
    rw [this, zs_comm]
    refine zs_congr k (fun i hi => ?_)
    have hci := hc i hi
    rw [zs_one (k := c i) (by omega) (fun l _ hl => by rw [if_neg (fun z => hl z.symm), Int.mul_zero]), if_pos rfl, Int.mul_comm]
    unfold bv
    rw [if_pos hi]
  rw [e1, e2, zs_one (k := f) (by omega) (fun l _ hl => by rw [if_neg hl, Int.zero_mul]), if_pos rfl, hx, Int.sub_self]
theorem nul_f {f : Nat} (hc : ∀ i, i < k → c i ≠ f) : nul m a k c F p f f = p := by
  unfold nul
  rw [if_pos rfl, zs_zero k (fun i hi => by rw [if_neg (hc i hi)]), Int.sub_zero]
theorem nul_o {f g : Nat} (hfg : g ≠ f) (hc : ∀ i, i < k → c i ≠ g) : nul m a k c F p f g = 0 := by
  unfold nul
  rw [if_neg hfg, zs_zero k (fun i hi => by rw [if_neg (hc i hi)]), Int.sub_zero]
theorem EI_fail (h : EI m a k c σ F p) (hm : m ≤ 8) {f g : Nat} (hf : f ≤ m) (hg : g ≤ m) (hfg : g ≠ f) (hc : ∀ i, i < k → c i ≤ m ∧ c i ≠ f ∧ c i ≠ g) (zf : ∀ l, k ≤ l → l < m → phi m F (a f) l = 0) (zg : ∀ l, k ≤ l → l < m → phi m F (a g) l = 0) : ∀ l, l ≤ m → om (skp a l) m (2 ^ m - 1) = 0 := by
  intro l hl
  apply Classical.byContradiction
  intro hR
  have hp := h.2.2.2.1
  have n1 := nul_null h hf (fun i hi => (hc i hi).1) zf
  have n2 := nul_null h hg (fun i hi => (hc i hi).1) zg
  have f1 : nul m a k c F p f f = p := nul_f (fun i hi => (hc i hi).2.1)
  have f2 : nul m a k c F p f g = 0 := nul_o hfg (fun i hi => (hc i hi).2.2)
  have g1 : nul m a k c F p g g = p := nul_f (fun i hi => (hc i hi).2.2)
  have g2 : nul m a k c F p g f = 0 := nul_o (fun z => hfg z.symm) (fun i hi => (hc i hi).2.1)
  have hz := indep (a := a) (x := fun i => nul m a k c F p g l * nul m a k c F p f i - nul m a k c F p f l * nul m a k c F p g i) hm hl hR (fun u hu => by
    have e : zs (fun i => (nul m a k c F p g l * nul m a k c F p f i - nul m a k c F p f l * nul m a k c F p g i) * a i u) (m + 1) = nul m a k c F p g l * zs (fun i => nul m a k c F p f i * a i u) (m + 1) - nul m a k c F p f l * zs (fun i => nul m a k c F p g i * a i u) (m + 1) := by
      rw [← zs_mul, ← zs_mul, ← zs_sub]
      refine zs_congr _ (fun i _ => ?_)
      rw [Int.sub_mul, Int.mul_assoc, Int.mul_assoc]
    rw [e, n1 u hu, n2 u hu, Int.mul_zero, Int.mul_zero]
    rfl) (by
    show nul m a k c F p g l * nul m a k c F p f l - nul m a k c F p f l * nul m a k c F p g l = 0
    rw [Int.mul_comm, Int.sub_self])
  have q1 := hz f hf
  have q2 := hz g hg
  simp only [f1, f2, g1, g2, Int.mul_zero, Int.sub_zero, Int.zero_sub] at q1 q2
  have y1 : nul m a k c F p f l = 0 := by
    rcases Int.mul_eq_zero.mp (show nul m a k c F p f l * p = 0 by omega) with z | z
    · exact z
    · exact absurd z hp
  have q3 := indep (a := a) (x := nul m a k c F p f) hm hl hR n1 y1 f hf
  rw [f1] at q3
  exact hp q3
theorem Lm_all (h : EI m a m c σ F p) (hm : m ≤ 8) : Lm σ m = 2 ^ m - 1 := by
  refine pop_eq_sbs (k := 8) (fun i hi => ?_) (lt256 (mask_lt m) hm) ?_
  · rw [Nat.testBit_two_pow_sub_one, decide_eq_true_iff]
    exact tb_in (Lm_lt h (Nat.le_refl m)) hi
  · rw [pop_Lm h hm m (Nat.le_refl m)]
    have : ∀ m, m < 9 → pop 8 (2 ^ m - 1) ≤ m := by decide +kernel
    exact this m (by omega)
end EF
theorem sl_lt (s k n : Nat) : sl s k (n + 1) < n + 1 := by
  induction n with
  | zero =>
    rw [sl]
    split
    · exact Nat.one_pos
    · exact Nat.one_pos
  | succ n ih =>
    rw [sl]
    split
    · omega
    · omega
theorem vec_abs {W : mM} (h : WF W) (s q j : Nat) : (vec W s q j).natAbs ≤ 9 := by
  unfold vec
  have := wf_num h (sl s q 14) (sl (nbW W s) j 7) (sl_lt s q 13) (sl_lt _ j 6)
  omega
theorem c_lineWith {m n k cc : Nat} (M : mM) (hm : m ≤ 7) (hkm : k ≤ m) (hcc : cc < n) (hn : n ≤ 8) (h3 : M 17 3 = (m : Int)) (h5 : M 17 5 = (k : Int)) : (∃ l, k ≤ l ∧ l < m ∧ M 18 (l * 8 + cc) ≠ 0 ∧ gC 20 [rv 1 17, iv (cc : Int)] M = some (iv (l : Int), M)) ∨ ((∀ l, k ≤ l → l < m → M 18 (l * 8 + cc) = 0) ∧ gC 20 [rv 1 17, iv (cc : Int)] M = some (iv (-1), M)) := by
  rw [e_Elimination_lineWith, h5]
  refine pu_exit (S := Unit) (G := fun l _ => gA 20 5 [rv 1 17, iv (cc : Int), iv (l : Int)] [] M) (I := fun l _ => k ≤ l ∧ ∀ l', k ≤ l' → l' < l → M 18 (l' * 8 + cc) = 0) (Q := fun o => (∃ l, k ≤ l ∧ l < m ∧ M 18 (l * 8 + cc) ≠ 0 ∧ o = some (iv (l : Int), M)) ∨ ((∀ l, k ≤ l → l < m → M 18 (l * 8 + cc) = 0) ∧ o = some (iv (-1), M))) m (fun l _ hl hI => ?_) (fun _ hI => ?_) k () hkm ⟨Nat.le_refl k, fun l' h1 h2 => by omega⟩
  · try dsimp only
    rw [s_Elimination_lineWith_5, h3, if_neg (by omega), c_get (by omega) (by omega), bJ_some, pu_inc (by omega)]
    by_cases q : M 18 (l * 8 + cc) = 0
    · rw [if_pos (lcmp_0.mpr q)]
      refine Or.inr ⟨(), ⟨by omega, fun l' h1 h2 => ?_⟩, rfl⟩
      by_cases e : l' = l
      · rw [e]; exact q
      · exact hI.2 l' h1 (by omega)
    · rw [if_neg (fun z => q (lcmp_0.mp z))]
      exact Or.inl (Or.inl ⟨l, hI.1, hl, q, rfl⟩)
  · try dsimp only
    rw [s_Elimination_lineWith_5, h3, if_pos (by omega)]
    exact Or.inr ⟨hI.2, rfl⟩
theorem gcdTo_le {f : Nat → Int} {B : Nat} : ∀ n, (∀ i, i < n → (f i).natAbs ≤ B) → gcdTo f n ≤ B := by
  intro n
  induction n with
  | zero => intro _; exact Nat.zero_le _
  | succ n ih =>
    intro h
    have h1 := ih (fun i hi => h i (by omega))
    have h2 := h n (by omega)
    rw [gcdTo]
    by_cases e : gcdTo f n = 0
    · rw [e, Nat.gcd_zero_left]; exact h2
    · exact Nat.le_trans (Nat.gcd_le_left _ (by omega)) h1
theorem fs_mem {f : Nat → Int} {B : Nat} : ∀ n, (∀ i, i < n → (f i).natAbs ≤ B) → (fs f n).natAbs ≤ B := by
  intro n
  induction n with
  | zero => intro _; exact Nat.zero_le _
  | succ n ih =>
    intro h
    rw [fs]
    split
    · exact h n (by omega)
    · exact ih (fun i hi => h i (by omega))
theorem c_makeLeast {n : Nat} {fnd : Nat → Int} (M : mM) (hn : n ≤ 8) (h4 : M 17 4 = (n : Int)) (hf : ∀ i, i < n → M 20 i = fnd i) (h0 : ∀ i, n ≤ i → i < 8 → M 20 i = 0) (hb : ∀ i, i < n → (fnd i).natAbs ≤ 24056562600) (hne : gcdTo fnd n ≠ 0) : ∃ M', gC 26 [rv 1 17] M = some (none, M') ∧ (∀ o, o ≠ 20 → M' o = M o) ∧ ∀ i, i < 8 → M' 20 i = if i < n then nrm fnd n i else 0 := by
  rw [e_Elimination_makeLeast]
  have wa : ∀ i, i < n → gC 27 [rv 1 17, iv (i : Int)] M = some (jv (fnd i), M) := by
    intro i hi
    rw [e_Elimination_weightAt, if_neg (by omega), if_neg (by omega), if_pos (by omega), pu_nn, hf i hi]
  have key := pu_up (fun i : Nat => gA 26 7 [rv 1 17, jv ((gcdTo fnd i : Nat) : Int), none, jv (fs fnd i), none, iv (i : Int), none, none] [] M) n (fun i hi => by
    have hg := gcdTo_le (f := fnd) (B := 24056562600) i (fun j hj => hb j (by omega))
    have hbi := hb i hi
    try dsimp only
    rw [s_Elimination_makeLeast_7, h4, if_neg (by omega), wa i hi, bJ_some, c_divisor (by omega) (by omega), bJ_some, pu_inc (by omega), gcdTo, fs, Int.natAbs_natCast]
    by_cases q : fs fnd i = 0
    · rw [if_neg (fun z => z (lcmp_0.mpr q)), if_pos q, wa i hi, bJ_some]
    · rw [if_pos (fun z => q (lcmp_0.mp z)), if_neg q])
  try dsimp only at key
  rw [show ((gcdTo fnd 0 : Nat) : Int) = 0 from rfl, show fs fnd 0 = 0 from rfl, show ((0 : Nat) : Int) = 0 from rfl] at key
  have hg := gcdTo_le (f := fnd) (B := 24056562600) n hb
  -- the divisor with its sign
  have e1 : gA 26 7 [rv 1 17, jv ((gcdTo fnd n : Nat) : Int), none, jv (fs fnd n), none, iv (n : Int), none, none] [] M = gA 26 67 [rv 1 17, none, none, none, none, jv (if fs fnd n < 0 then -(gcdTo fnd n : Int) else (gcdTo fnd n : Int)), none, iv 0] [] M := by
    rw [s_Elimination_makeLeast_7, h4, if_pos (by omega)]
    by_cases q : fs fnd n < 0
    · rw [if_neg (fun z => by have := lcmp_ge.mp z; omega), if_pos q, pu_w64 (by omega) (by omega)]
    · rw [if_pos (lcmp_ge.mpr (by omega)), if_neg q]
  have hd : (if fs fnd n < 0 then -(gcdTo fnd n : Int) else (gcdTo fnd n : Int)) ≠ 0 := by
    split <;> omega
  have hnrm : ∀ i, nrm fnd n i = (fnd i).tdiv (if fs fnd n < 0 then -(gcdTo fnd n : Int) else (gcdTo fnd n : Int)) := fun i => rfl
  rw [key, e1]
  generalize (if fs fnd n < 0 then -(gcdTo fnd n : Int) else (gcdTo fnd n : Int)) = d at hd hnrm
  have key := pu_rel (S := mM) (G := fun i M' => gA 26 67 [rv 1 17, none, none, none, none, jv d, none, iv (i : Int)] [] M') (I := fun i M' => (∀ o, o ≠ 20 → M' o = M o) ∧ ∀ j, j < 8 → M' 20 j = if j < i then (if j < n then nrm fnd n j else 0) else M 20 j) 8 (fun i M' hi hI => by
    obtain ⟨i1, i2⟩ := hI
    try dsimp only
    have hM : M' 20 i = M 20 i := by rw [i2 i hi, if_neg (Nat.lt_irrefl i)]
    have hval : w64 ((M 20 i).tdiv d) = if i < n then nrm fnd n i else 0 := by
      by_cases z : i < n
      · have hbi := hb i z
        have hab : ((fnd i).tdiv d).natAbs ≤ 24056562600 := by
          rw [Int.natAbs_tdiv]
          exact Nat.le_trans (Nat.div_le_self _ _) hbi
        rw [if_pos z, hf i z, hnrm, pu_w64 (by omega) (by omega)]
      · rw [if_neg z, h0 i (by omega) hi, Int.zero_tdiv]
        rfl
    rw [s_Elimination_makeLeast_67, if_neg (by omega), if_neg (fun z => hd (lcmp_0.mp z)), if_pos (by omega), if_neg hd, if_pos (by omega), pu_nn, hM, hval, pu_inc (by omega)]
    refine ⟨_, ⟨fun o ho => by rw [st_ob ho]; exact i1 o ho, fun j hj => ?_⟩, rfl⟩
    rw [st_if]
    by_cases e : j = i
    · subst e
      rw [if_pos rfl, if_pos (Nat.lt_succ_self j)]
    · rw [if_neg e, i2 j hj]
      by_cases z : j < i
      · rw [if_pos z, if_pos (show j < i + 1 by omega)]
      · rw [if_neg z, if_neg (show ¬ j < i + 1 by omega)]) 0 M (Nat.zero_le _) ⟨fun _ _ => rfl, fun j _ => by rw [if_neg (Nat.not_lt_zero j)]⟩
  obtain ⟨M', ⟨k1, k2⟩, k3⟩ := key
  try dsimp only at k3
  rw [show ((0 : Nat) : Int) = 0 from rfl] at k3
  rw [k3, s_Elimination_makeLeast_67, if_pos (by omega)]
  exact ⟨M', rfl, k1, fun i hi => by rw [k2 i hi, if_pos hi]⟩
theorem c_collect {m n f : Nat} {a : Nat → Nat → Int} {c σ : Nat → Nat} {F : Nat → Nat → Int} {p : Int} (M : mM) (h : EI m a m c σ F p) (hm : m ≤ 7) (hn : n = m + 1) (ha : ∀ q j, (a q j).natAbs ≤ 9) (hg : EGr m n a m F p M) (hf : f < n) (h6 : M 17 6 = (f : Int)) (hc : ∀ i, i < m → M 19 i = (c i : Int)) (hcc : ∀ i, i < m → c i = if i < f then i else i + 1) (h0 : ∀ i, i < 8 → M 20 i = 0) :
    ∃ M', gC 25 [rv 1 17] M = some (none, M') ∧ (∀ o, o ≠ 20 → M' o = M o) ∧ (∀ i, i < n → M' 20 i = nul m a m c F p f i) ∧ ∀ i, n ≤ i → i < 8 → M' 20 i = 0 := by
  obtain ⟨g1, g2, g3, g4, g5⟩ := hg
  have cinj : ∀ i j, i < m → j < m → c i = c j → i = j := by
    intro i j hi hj e
    rw [hcc i hi, hcc j hj] at e
    split at e <;> split at e <;> omega
  have cne : ∀ i, i < m → c i ≠ f := by
    intro i hi e
    rw [hcc i hi] at e
    split at e <;> omega
  have hnul : ∀ i, i < m → nul m a m c F p f (c i) = - phi m F (a f) i := by
    intro i hi
    unfold nul
    rw [if_neg (cne i hi), zs_one hi (fun j hj hji => by rw [if_neg (fun z => hji (cinj j i hj hi z))]), if_pos rfl, Int.zero_sub]
  rw [e_Elimination_collect, h6, if_neg (by omega), if_neg (by omega), if_pos (by omega), pu_nn, g4]
  have key := pu_rel (S := mM) (G := fun i M' => gA 25 34 [rv 1 17, iv (i : Int), none] [] M') (I := fun i M' => (∀ o, o ≠ 20 → M' o = M o) ∧ M' 20 f = p ∧ (∀ j, j < i → M' 20 (c j) = nul m a m c F p f (c j)) ∧ ∀ j, j < 8 → j ≠ f → (∀ i', i' < i → j ≠ c i') → M' 20 j = 0) m (fun i M' hi hI => by
    obtain ⟨i1, i2, i3, i4⟩ := hI
    try dsimp only
    have hci : c i < 8 := by
      rw [hcc i hi]
      split <;> omega
    have hb := EI_phi2 h (by omega) ha hi f
    have hB := Bd_le m (by omega)
    rw [s_Elimination_collect_34, i1 17 (by omega), g3, if_neg (by omega), if_neg (by omega), if_pos (by omega), pu_nn, i1 19 (by omega), hc i hi, if_neg (by omega), if_neg (by omega), h6, c_get (by omega) (by omega), bJ_some, i1 18 (by omega), g5 i hi f (by omega), if_pos (by omega), pu_nn, pu_w64 (by omega) (by omega), ← hnul i hi, pu_inc (by omega)]
    refine ⟨_, ⟨fun o ho => by rw [st_ob ho]; exact i1 o ho, ?_, fun j hj => ?_, fun j hj hjf hno => ?_⟩, rfl⟩
    · rw [st_nk (fun z => cne i hi z.symm)]; exact i2
    · rw [st_if]
      by_cases e : j = i
      · rw [e, if_pos rfl]
      · rw [if_neg (fun z => e (cinj j i (by omega) hi z))]
        exact i3 j (by omega)
    · rw [st_nk (hno i (by omega))]
      exact i4 j hj hjf (fun i' hi' => hno i' (by omega))) 0 (st M 20 f p) (Nat.zero_le _) ⟨fun o ho => st_ob ho, st_same _ _ _ _, fun j hj => absurd hj (Nat.not_lt_zero j), fun j hj hjf _ => by rw [st_nk hjf]; exact h0 j hj⟩
  obtain ⟨M', ⟨k1, k2, k3, k4⟩, k5⟩ := key
  try dsimp only at k5
  rw [show ((0 : Nat) : Int) = 0 from rfl] at k5
  rw [k5, s_Elimination_collect_34, k1 17 (by omega), g3, if_pos (by omega)]
  refine ⟨M', rfl, k1, fun i hi => ?_, fun i h1 h2 => k4 i h2 (by omega) (fun j hj z => ?_)⟩
  · by_cases e : i = f
    · rw [e, k2, nul_f (fun j hj => cne j hj)]
    · rcases Nat.lt_or_gt_of_ne e with z | z
      · have : c i = i := by rw [hcc i (by omega), if_pos z]
        have := k3 i (by omega)
        rw [‹c i = i›] at this
        exact this
      · have hci : c (i - 1) = i := by rw [hcc (i - 1) (by omega), if_neg (by omega)]; omega
        have := k3 (i - 1) (by omega)
        rw [hci] at this
        exact this
  · rw [hcc j hj] at z
    split at z <;> omega
section CV
variable {w : Nat} {W M : mM}
theorem c_solve (hc : CW w W M) (h : WF W) {s : Nat} (hs : s < 16384) (hT : isTB W s = true) : ∃ M', gC 16 [rv 1 17, rv 9 w, iv (s : Int)] M = some (iv (if cr W s = true then 1 else 0), M') ∧ Sf M M' ∧ ∀ i, i < 8 → M' 20 i = if i < pop 14 s then wtk W s i else 0 := by
  have hpop := isT_pop hs hT
  have hm7 : mny W s ≤ 7 := pop_le 7 _
  have hn : pop 14 s = mny W s + 1 := hpop.1
  have ha := vec_abs h s
  obtain ⟨M1, a1, a2, a3, a4, a5, a6⟩ := c_fillGrid hc h hs hpop.2.2
  rw [e_Elimination_solve, a1, bV_none]
  generalize hM2 : st (st (st M1 17 5 0) 17 6 (-1)) 17 7 1 = M2
  have b3 : M2 17 3 = ((mny W s : Nat) : Int) := by rw [← hM2, st_nk (by omega), st_nk (by omega), st_nk (by omega), a3]
  have b4 : M2 17 4 = ((pop 14 s : Nat) : Int) := by rw [← hM2, st_nk (by omega), st_nk (by omega), st_nk (by omega), a4]
  have b5 : M2 17 5 = ((0 : Nat) : Int) := by rw [← hM2, st_nk (by omega), st_nk (by omega), st_same]; rfl
  have b6 : M2 17 6 = -1 := by rw [← hM2, st_nk (by omega), st_same]
  have b7 : M2 17 7 = 1 := by rw [← hM2, st_same]
  have bo : ∀ o, o ≠ 17 → M2 o = M1 o := fun o ho => by rw [← hM2, st_ob ho, st_ob ho, st_ob ho]
  have f2 : Sf M M2 := fun o ho => by rw [bo o (by omega)]; exact a2 o ho
  refine pu_exit (S := mM) (G := fun q M' => gA 16 23 [rv 1 17, none, none, iv (q : Int), none] [] M') (I := fun q M' => ∃ k c σ F p, EI (mny W s) (vec W s) k c σ F p ∧ EGr (mny W s) (pop 14 s) (vec W s) k F p M' ∧ Sf M M' ∧ (∀ i, i < k → M' 19 i = (c i : Int)) ∧ (∀ i, i < 8 → M' 20 i = 0) ∧ ((M' 17 6 = -1 ∧ k = q ∧ ∀ i, i < k → c i = i) ∨ ∃ f, f < q ∧ M' 17 6 = (f : Int) ∧ k + 1 = q ∧ (∀ i, i < k → c i = if i < f then i else i + 1) ∧ ∀ l, k ≤ l → l < mny W s → phi (mny W s) F (vec W s f) l = 0)) (Q := fun o => ∃ M', o = some (iv (if cr W s = true then 1 else 0), M') ∧ Sf M M' ∧ ∀ i, i < 8 → M' 20 i = if i < pop 14 s then wtk W s i else 0) (pop 14 s) (fun q M' hq hI => ?_) (fun M' hI => ?_) 0 M2 (Nat.zero_le _) ?_
  · obtain ⟨k, c, σ, F, p, h1, h2, h3, h4, h5, h6⟩ := hI
    try dsimp only
    obtain ⟨g1, g2, g3, g4, g5⟩ := id h2
    have hkm := h1.1
    rw [s_Elimination_solve_23, g2, if_neg (by omega)]
    rcases c_lineWith (m := mny W s) (n := pop 14 s) (k := k) (cc := q) M' hm7 hkm hq hpop.2.2 g1 g3 with ⟨l, l1, l2, l3, l4⟩ | ⟨l1, l2⟩
    · -- a pivot
      rw [l4, bI_some, if_neg (by omega)]
      obtain ⟨M3, σ', F', p', d1, d2, d3, d4, d5, d6, d7, d8⟩ := c_solveLine (n := pop 14 s) M' h1 hm7 hpop.2.2 ha h2 (show k < mny W s by omega) l1 l2 hq l3
      rw [d1, bV_none, pu_inc (by omega)]
      refine Or.inr ⟨M3, ⟨k + 1, _, σ', F', p', d2, d3, fun o ho => by rw [d4 o (by omega) (by omega) (by omega)]; exact h3 o ho, fun i hi => ?_, fun i hi => by rw [d4 20 (by omega) (by omega) (by omega)]; exact h5 i hi, ?_⟩, rfl⟩
      · by_cases e : i = k
        · rw [e, d6, if_pos rfl]
        · rw [d7 i e, if_neg e]
          exact h4 i (by omega)
      · rcases h6 with ⟨q1, q2, q3⟩ | ⟨f, q1, q2, q3, q4, q5⟩
        · refine Or.inl ⟨by rw [d5]; exact q1, by omega, fun i hi => ?_⟩
          by_cases e : i = k
          · rw [if_pos e]; omega
          · rw [if_neg e]; exact q3 i (by omega)
        · refine Or.inr ⟨f, by omega, by rw [d5]; exact q2, by omega, fun i hi => ?_, d8 _ q5⟩
          by_cases e : i = k
          · rw [if_pos e, if_neg (by omega)]; omega
          · rw [if_neg e]; exact q4 i (by omega)
    · rw [l2, bI_some, if_pos rfl]
      have zq : ∀ l, k ≤ l → l < mny W s → phi (mny W s) F (vec W s q) l = 0 := fun l h7 h8 => by rw [← g5 l h8 q hq]; exact l1 l h7 h8
      rcases h6 with ⟨q1, q2, q3⟩ | ⟨f, q1, q2, q3, q4, q5⟩
      · rw [if_neg (fun z => z q1), pu_inc (by omega)]
        refine Or.inr ⟨_, ⟨k, c, σ, F, p, h1, ⟨?_, ?_, ?_, ?_, fun i hi q' hq' => ?_⟩, fun o ho => by rw [st_ob (by omega)]; exact h3 o ho, fun i hi => by rw [st_ob (by omega)]; exact h4 i hi, fun i hi => by rw [st_ob (by omega)]; exact h5 i hi, Or.inr ⟨q, by omega, st_same _ _ _ _, by omega, fun i hi => by rw [q3 i hi, if_pos (by omega)], zq⟩⟩, rfl⟩
        · rw [st_nk (by omega)]; exact g1
        · rw [st_nk (by omega)]; exact g2
        · rw [st_nk (by omega)]; exact g3
        · rw [st_nk (by omega)]; exact g4
        · rw [st_ob (by omega)]; exact g5 i hi q' hq'
      · -- two columns are free
        rw [if_pos (by rw [q2]; omega)]
        have hall := EI_fail h1 (show mny W s ≤ 8 by omega) (f := f) (g := q) (by omega) (by omega) (by omega) (fun i hi => by
          rw [q4 i hi]
          split <;> omega) q5 zq
        have hraw : ∀ i, i < pop 14 s → raw W s i = 0 := by
          intro i hi
          show sg i * om (skp (vec W s) i) (mny W s) (2 ^ mny W s - 1) = 0
          rw [hall i (by omega), Int.mul_zero]
        have hcr : cr W s = false := by
          unfold cr
          rw [decide_eq_false_iff_not]
          exact fun z => z (gcdTo_zero.mpr hraw)
        refine Or.inl ⟨M', ?_, h3, fun i hi => ?_⟩
        · rw [hcr]; rfl
        · rw [h5 i hi]
          split
          · rename_i z
            unfold wtk
            rw [nrm_zero (hraw i z)]
          · rfl
  · obtain ⟨k, c, σ, F, p, h1, h2, h3, h4, h5, h6⟩ := hI
    try dsimp only
    obtain ⟨g1, g2, g3, g4, g5⟩ := id h2
    have hkm := h1.1
    rcases h6 with ⟨q1, q2, q3⟩ | ⟨f, q1, q2, q3, q4, q5⟩
    · omega
    · have hk : k = mny W s := by omega
      subst hk
      obtain ⟨M3, d1, d2, d3, d4⟩ := c_collect (n := pop 14 s) M' h1 hm7 hn ha h2 q1 q2 h4 q4 h5
      have hcne : ∀ i, i < mny W s → c i ≠ f := by
        intro i hi e
        rw [q4 i hi] at e
        split at e <;> omega
      -- the minors are these numbers, but for one sign
      obtain ⟨e, e1, e2⟩ := h1.2.2.2.2.2
      have hom : om (fun i => vec W s (c i)) (mny W s) (Lm σ (mny W s)) = om (skp (vec W s) f) (mny W s) (2 ^ mny W s - 1) := by
        rw [Lm_all h1 (by omega)]
        refine om_congr (fun i hi j _ => ?_) _
        unfold skp
        rw [q4 i hi]
      rw [hom] at e2
      have hR : om (skp (vec W s) f) (mny W s) (2 ^ mny W s - 1) ≠ 0 := by
        intro z
        rw [z, Int.mul_zero] at e2
        exact h1.2.2.2.1 e2
      have hnull := nul_null h1 (show f ≤ mny W s by omega) (fun i hi => by rw [q4 i hi]; split <;> omega) q5
      have hnf : nul (mny W s) (vec W s) (mny W s) c F p f f = p := nul_f hcne
      have hpm : sg f * e = 1 ∨ sg f * e = -1 := pm_mul (sg_1 f) e1
      have hx := indep (a := vec W s) (x := fun l => raw W s l - sg f * e * nul (mny W s) (vec W s) (mny W s) c F p f l) (m := mny W s) (f := f) (by omega) (by omega) hR (fun u hu => by
        have h7 := cramer (a := vec W s) (m := mny W s) (u := u) (by omega) hu
        have h8 := hnull u hu
        have e3 : zs (fun l => (raw W s l - sg f * e * nul (mny W s) (vec W s) (mny W s) c F p f l) * vec W s l u) (mny W s + 1) = zs (fun l => sg l * om (skp (vec W s) l) (mny W s) (2 ^ mny W s - 1) * vec W s l u) (mny W s + 1) - sg f * e * zs (fun l => nul (mny W s) (vec W s) (mny W s) c F p f l * vec W s l u) (mny W s + 1) := by
          rw [← zs_mul, ← zs_sub]
          refine zs_congr _ (fun l _ => ?_)
          rw [Int.sub_mul, Int.mul_assoc (sg f * e)]
          rfl
        rw [e3, h7, h8, Int.mul_zero]
        rfl) (by
        show sg f * om (skp (vec W s) f) (mny W s) (2 ^ mny W s - 1) - sg f * e * nul (mny W s) (vec W s) (mny W s) c F p f f = 0
        rw [hnf, e2, Int.mul_assoc, ← Int.mul_assoc e, pm_sq e1, Int.one_mul, Int.sub_self])
      have hfr : ∀ i, i < pop 14 s → nul (mny W s) (vec W s) (mny W s) c F p f i = sg f * e * raw W s i := by
        intro i hi
        have h9 : raw W s i - sg f * e * nul (mny W s) (vec W s) (mny W s) c F p f i = 0 := hx i (by omega)
        have h10 : raw W s i = sg f * e * nul (mny W s) (vec W s) (mny W s) c F p f i := by omega
        rw [h10, ← Int.mul_assoc, pm_sq hpm, Int.one_mul]
      have hgne : gcdTo (fun i => nul (mny W s) (vec W s) (mny W s) c F p f i) (pop 14 s) ≠ 0 := fun z => by
        have := gcdTo_zero.mp z f q1
        rw [hnf] at this
        exact h1.2.2.2.1 this
      have hbd : ∀ i, i < pop 14 s → (nul (mny W s) (vec W s) (mny W s) c F p f i).natAbs ≤ 24056562600 := by
        intro i hi
        have hB := Bd_le (mny W s) (by omega)
        by_cases z : i = f
        · rw [z, hnf]
          exact Nat.le_trans (EI_p h1 (by omega) ha) hB
        · have hex : ∃ j, j < mny W s ∧ c j = i := by
            rcases Nat.lt_or_gt_of_ne z with y | y
            · exact ⟨i, by omega, by rw [q4 i (by omega), if_pos y]⟩
            · exact ⟨i - 1, by omega, by rw [q4 (i - 1) (by omega), if_neg (by omega)]; omega⟩
          obtain ⟨j, j1, j2⟩ := hex
          have : nul (mny W s) (vec W s) (mny W s) c F p f i = - phi (mny W s) F (vec W s f) j := by
            rw [← j2]
            unfold nul
            rw [if_neg (hcne j j1), zs_one j1 (fun l hl hlj => by
              rw [if_neg]
              intro y
              apply hlj
              rw [q4 l hl, q4 j j1] at y
              split at y <;> split at y <;> omega), if_pos rfl, Int.zero_sub]
          rw [this, Int.natAbs_neg]
          exact Nat.le_trans (EI_phi2 h1 (by omega) ha j1 f) hB
      obtain ⟨M4, t1, t2, t3⟩ := c_makeLeast (n := pop 14 s) (fnd := fun i => nul (mny W s) (vec W s) (mny W s) c F p f i) M3 hpop.2.2 (by rw [d2 17 (by omega)]; exact g2) d3 d4 hbd hgne
      have hcr : cr W s = true := by
        unfold cr
        rw [decide_eq_true_iff]
        intro z
        have := gcdTo_zero.mp z f q1
        have h11 := hfr f q1
        rw [this, Int.mul_zero, hnf] at h11
        exact h1.2.2.2.1 h11
      rw [s_Elimination_solve_23, g2, if_pos (by omega), if_pos (by rw [q2]; omega), d1, bV_none, t1, bV_none]
      refine ⟨M4, by rw [hcr]; rfl, fun o ho => by rw [t2 o (by omega), d2 o (by omega)]; exact h3 o ho, fun i hi => ?_⟩
      rw [t3 i hi]
      by_cases z : i < pop 14 s
      · rw [if_pos z, if_pos z]
        unfold wtk
        exact nrm_pm hpm hfr z
      · rw [if_neg z, if_neg z]
  · refine ⟨0, _, _, _, _, EI_start (mny W s) (vec W s), ⟨b3, b4, b5, b7, fun i hi q hq => ?_⟩, f2, fun i hi => absurd hi (Nat.not_lt_zero i), fun i hi => by rw [bo 20 (by omega)]; exact a6 i hi, Or.inl ⟨b6, rfl, fun i hi => absurd hi (Nat.not_lt_zero i)⟩⟩
    rw [bo 18 (by omega), a5 q hq i hi]
    unfold phi
    rw [zs_one hi (fun j _ hj => by
      show (if i = j then (1 : Int) else 0) * vec W s q j = 0
      rw [if_neg (fun z => hj z.symm), Int.zero_mul])]
    show _ = (if i = i then (1 : Int) else 0) * vec W s q i
    rw [if_pos rfl, Int.one_mul]
end CV
