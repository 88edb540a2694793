/-! Words, signs and numbers of a text: what both programs make of them. -/
def ewd (b : Nat) : List Nat → Nat
  | [] => 0
  | d :: l => b * ewd b l + d
def dgs (w : List Nat) : Prop := ∀ d, d ∈ w → 1 ≤ d ∧ d ≤ 26
theorem dgs_tl {d : Nat} {l : List Nat} (h : dgs (d :: l)) : (1 ≤ d ∧ d ≤ 26) ∧ dgs l := ⟨h d List.mem_cons_self, fun c hc => h c (List.mem_cons_of_mem _ hc)⟩
theorem ewd_inj {b : Nat} (hb : 26 < b) : ∀ (w v : List Nat), dgs w → dgs v → ewd b w = ewd b v → w = v
  | [], [], _, _, _ => rfl
  | [], d :: l, _, h, e => by
    have := (dgs_tl h).1
    rw [ewd, ewd] at e
    generalize b * ewd b l = x at e
    omega
  | d :: l, [], h, _, e => by
    have := (dgs_tl h).1
    rw [ewd, ewd] at e
    generalize b * ewd b l = x at e
    omega
  | d :: l, c :: k, h1, h2, e => by
    obtain ⟨hd, hl⟩ := dgs_tl h1
    obtain ⟨hc, hk⟩ := dgs_tl h2
    rw [ewd, ewd] at e
    have e1 : d = c := by
      have e2 : (b * ewd b l + d) % b = (b * ewd b k + c) % b := by rw [e]
      rw [Nat.mul_add_mod, Nat.mul_add_mod, Nat.mod_eq_of_lt (by omega), Nat.mod_eq_of_lt (by omega)] at e2
      exact e2
    subst e1
    have e3 : b * ewd b l = b * ewd b k := Nat.add_right_cancel e
    rw [ewd_inj hb l k hl hk (Nat.eq_of_mul_eq_mul_left (by omega) e3)]
theorem ewd_lt {b : Nat} (hb : 26 < b) : ∀ w : List Nat, dgs w → ewd b w < b ^ w.length
  | [], _ => by
    show 0 < b ^ 0
    rw [Nat.pow_zero]
    omega
  | d :: l, h => by
    obtain ⟨hd, hl⟩ := dgs_tl h
    have ih := ewd_lt hb l hl
    have h1 : b * (ewd b l + 1) ≤ b * b ^ l.length := Nat.mul_le_mul_left b ih
    rw [Nat.mul_add, Nat.mul_one] at h1
    show b * ewd b l + d < b ^ (l.length + 1)
    rw [Nat.pow_succ, Nat.mul_comm (b ^ l.length) b]
    omega
theorem ewd_le8 {b : Nat} (hb : 26 < b) {w : List Nat} (h : dgs w) (h8 : w.length ≤ 8) : ewd b w < b ^ 8 := Nat.lt_of_lt_of_le (ewd_lt hb w h) (Nat.pow_le_pow_right (by omega) h8)
theorem e32_lt {w : List Nat} (h : dgs w) (h8 : w.length ≤ 8) : ewd 32 w < 1099511627776 := ewd_le8 (by omega) h h8
theorem e27_lt {w : List Nat} (h : dgs w) (h8 : w.length ≤ 8) : ewd 27 w < 282429536481 := ewd_le8 (by omega) h h8
/-- the words of the language, from their ends -/
def kwl : Nat → List Nat
  | 0 => [14, 23, 15, 14, 11, 14, 21]
  | 1 => [17, 5]
  | 2 => [14, 9]
  | 3 => [5, 7, 21, 1, 7]
  | 4 => [5, 2, 25, 1, 13]
  | 5 => [6, 15]
  | 6 => [5, 19, 9, 15, 14]
  | 7 => [20, 19, 15, 3]
  | _ => [20, 12, 21, 1, 6]
theorem kwl_dg : ∀ k, k < 9 → dgs (kwl k) := by
  unfold dgs
  decide +kernel
theorem kwl_7 : ∀ k, k < 9 → (kwl k).length ≤ 7 := by decide +kernel
/-- the class's kind of a word -/
def kcl (w : List Nat) : Nat := if w = kwl 0 then 4 else if w = kwl 1 then 5 else if w = kwl 2 then 6 else if w = kwl 3 then 7 else if w = kwl 4 then 8 else if w = kwl 5 then 9 else if w = kwl 6 then 10 else if w = kwl 7 then 11 else if w = kwl 8 then 12 else 2
/-- the reference's kinds for the class's -/
def rkd (k : Nat) : Nat := if k = 0 then 0 else if k = 1 then 3 else if k = 2 then 1 else if k = 3 then 2 else if k ≤ 12 then k + 16 else if k = 13 then 4 else if k = 14 then 5 else if k = 15 then 16 else if k = 16 then 8 else 9
theorem rkd_inj : ∀ a, a < 18 → ∀ b, b < 18 → rkd a = rkd b → a = b := by decide +kernel
/-- the reference's kind of a word, over the first words -/
def klR (w : List Nat) : Nat → Nat
  | 0 => 1
  | k + 1 => if w = kwl k then 20 + k else klR w k
theorem kcl_le (w : List Nat) : kcl w ≤ 12 ∧ kcl w ≠ 0 := by
  unfold kcl
  repeat' split
  all_goals omega
theorem kcl_klR (w : List Nat) : rkd (kcl w) = klR w 9 := by
  by_cases h0 : w = kwl 0
  · rw [h0]; decide +kernel
  · by_cases h1 : w = kwl 1
    · rw [h1]; decide +kernel
    · by_cases h2 : w = kwl 2
      · rw [h2]; decide +kernel
      · by_cases h3 : w = kwl 3
        · rw [h3]; decide +kernel
        · by_cases h4 : w = kwl 4
          · rw [h4]; decide +kernel
          · by_cases h5 : w = kwl 5
            · rw [h5]; decide +kernel
            · by_cases h6 : w = kwl 6
              · rw [h6]; decide +kernel
              · by_cases h7 : w = kwl 7
                · rw [h7]; decide +kernel
                · by_cases h8 : w = kwl 8
                  · rw [h8]; decide +kernel
                  · unfold kcl
                    rw [if_neg h0, if_neg h1, if_neg h2, if_neg h3, if_neg h4, if_neg h5, if_neg h6, if_neg h7, if_neg h8]
                    show rkd 2 = klR w 9
                    rw [klR, if_neg h8, klR, if_neg h7, klR, if_neg h6, klR, if_neg h5, klR, if_neg h4, klR, if_neg h3, klR, if_neg h2, klR, if_neg h1, klR, if_neg h0]
                    rfl
theorem kcl_8 {w : List Nat} (h : w.length = 8) : kcl w = 2 := by
  have ne : ∀ k, k < 9 → w ≠ kwl k := fun k hk q => by
    have := kwl_7 k hk
    rw [← q] at this
    omega
  unfold kcl
  rw [if_neg (ne 0 (by omega)), if_neg (ne 1 (by omega)), if_neg (ne 2 (by omega)), if_neg (ne 3 (by omega)), if_neg (ne 4 (by omega)), if_neg (ne 5 (by omega)), if_neg (ne 6 (by omega)), if_neg (ne 7 (by omega)), if_neg (ne 8 (by omega))]
theorem keyC {w : List Nat} (h : dgs w) {k : Nat} (hk : k < 9) {c : Int} (hc : c = ((ewd 32 (kwl k) : Nat) : Int)) : lcmp ((ewd 32 w : Nat) : Int) c = 0 ↔ w = kwl k := by
  rw [lcmp_eq, hc]
  constructor
  · intro q
    exact ewd_inj (b := 32) (by omega) _ _ h (kwl_dg k hk) (by omega)
  · intro q
    rw [q]
theorem keyR {w : List Nat} (h : dgs w) {k : Nat} (hk : k < 9) : lcmp (keysM k) ((ewd 27 w : Nat) : Int) = 0 ↔ w = kwl k := by
  have hc : ∀ k, k < 9 → keysM k = ((ewd 27 (kwl k) : Nat) : Int) := by decide +kernel
  rw [lcmp_eq, hc k hk]
  constructor
  · intro q
    exact ewd_inj (b := 27) (by omega) _ _ h (kwl_dg k hk) (by omega)
  · intro q
    rw [q]
theorem c_kindOfLetters {w : List Nat} (h : dgs w) (M : mM) : gC 95 [jv ((ewd 32 w : Nat) : Int)] M = some (iv ((kcl w : Nat) : Int), M) := by
  rw [e_Tokens_kindOfLetters]
  unfold kcl
  by_cases h0 : w = kwl 0
  · rw [if_neg (fun q => q ((keyC h (k := 0) (by omega) (by decide +kernel)).mpr h0)), if_pos h0]
    rfl
  · rw [if_pos (fun q => h0 ((keyC h (k := 0) (by omega) (by decide +kernel)).mp q)), if_neg h0]
    by_cases h1 : w = kwl 1
    · rw [if_neg (fun q => q ((keyC h (k := 1) (by omega) (by decide +kernel)).mpr h1)), if_pos h1]
      rfl
    · rw [if_pos (fun q => h1 ((keyC h (k := 1) (by omega) (by decide +kernel)).mp q)), if_neg h1]
      by_cases h2 : w = kwl 2
      · rw [if_neg (fun q => q ((keyC h (k := 2) (by omega) (by decide +kernel)).mpr h2)), if_pos h2]
        rfl
      · rw [if_pos (fun q => h2 ((keyC h (k := 2) (by omega) (by decide +kernel)).mp q)), if_neg h2]
        by_cases h3 : w = kwl 3
        · rw [if_neg (fun q => q ((keyC h (k := 3) (by omega) (by decide +kernel)).mpr h3)), if_pos h3]
          rfl
        · rw [if_pos (fun q => h3 ((keyC h (k := 3) (by omega) (by decide +kernel)).mp q)), if_neg h3]
          by_cases h4 : w = kwl 4
          · rw [if_neg (fun q => q ((keyC h (k := 4) (by omega) (by decide +kernel)).mpr h4)), if_pos h4]
            rfl
          · rw [if_pos (fun q => h4 ((keyC h (k := 4) (by omega) (by decide +kernel)).mp q)), if_neg h4]
            by_cases h5 : w = kwl 5
            · rw [if_neg (fun q => q ((keyC h (k := 5) (by omega) (by decide +kernel)).mpr h5)), if_pos h5]
              rfl
            · rw [if_pos (fun q => h5 ((keyC h (k := 5) (by omega) (by decide +kernel)).mp q)), if_neg h5]
              by_cases h6 : w = kwl 6
              · rw [if_neg (fun q => q ((keyC h (k := 6) (by omega) (by decide +kernel)).mpr h6)), if_pos h6]
                rfl
              · rw [if_pos (fun q => h6 ((keyC h (k := 6) (by omega) (by decide +kernel)).mp q)), if_neg h6]
                by_cases h7 : w = kwl 7
                · rw [if_neg (fun q => q ((keyC h (k := 7) (by omega) (by decide +kernel)).mpr h7)), if_pos h7]
                  rfl
                · rw [if_pos (fun q => h7 ((keyC h (k := 7) (by omega) (by decide +kernel)).mp q)), if_neg h7]
                  by_cases h8 : w = kwl 8
                  · rw [if_neg (fun q => q ((keyC h (k := 8) (by omega) (by decide +kernel)).mpr h8)), if_pos h8]
                    rfl
                  · rw [if_pos (fun q => h8 ((keyC h (k := 8) (by omega) (by decide +kernel)).mp q)), if_neg h8]
                    rfl
/-! Bytes. -/
def isL (c : Nat) : Bool := decide (97 ≤ c) && decide (c ≤ 122)
def isDg (c : Nat) : Bool := decide (48 ≤ c) && decide (c ≤ 57)
def isBl (c : Nat) : Bool := decide (c = 9) || decide (c = 10) || decide (c = 13) || decide (c = 32)
/-- the class's kind of a sign -/
def sgn (c : Nat) : Nat := if c = 43 then 16 else if c = 44 then 15 else if c = 45 then 17 else if c = 58 then 14 else if c = 59 then 13 else 1
theorem isL_iff {c : Nat} : isL c = true ↔ 97 ≤ c ∧ c ≤ 122 := by
  unfold isL
  rw [Bool.and_eq_true, decide_eq_true_iff, decide_eq_true_iff]
theorem isDg_iff {c : Nat} : isDg c = true ↔ 48 ≤ c ∧ c ≤ 57 := by
  unfold isDg
  rw [Bool.and_eq_true, decide_eq_true_iff, decide_eq_true_iff]
theorem c_isLetter (c : Nat) (M : mM) : gC 92 [iv (c : Int)] M = some (iv (if isL c = true then 1 else 0), M) := by
  rw [e_Tokens_isLetter]
  by_cases z : isL c = true
  · have := isL_iff.mp z
    rw [if_pos z, if_neg (by omega), if_neg (by omega)]
  · rw [if_neg z]
    by_cases y : (c : Int) < 97
    · rw [if_pos y]
    · rw [if_neg y, if_pos (by
        have : ¬ (97 ≤ c ∧ c ≤ 122) := fun q => z (isL_iff.mpr q)
        omega)]
theorem r_isLetter (c : Nat) (M : mM) : gC 184 [iv (c : Int)] M = some (iv (if isL c = true then 1 else 0), M) := by
  rw [e_GaugeNetModel_isLetter]
  by_cases z : isL c = true
  · have := isL_iff.mp z
    rw [if_pos z, if_neg (by omega), if_neg (by omega)]
  · rw [if_neg z]
    by_cases y : (c : Int) < 97
    · rw [if_pos y]
    · rw [if_neg y, if_pos (by
        have : ¬ (97 ≤ c ∧ c ≤ 122) := fun q => z (isL_iff.mpr q)
        omega)]
theorem c_isDigit (c : Nat) (M : mM) : gC 97 [iv (c : Int)] M = some (iv (if isDg c = true then 1 else 0), M) := by
  rw [e_Tokens_isDigit]
  by_cases z : isDg c = true
  · have := isDg_iff.mp z
    rw [if_pos z, if_neg (by omega), if_neg (by omega)]
  · rw [if_neg z]
    by_cases y : (c : Int) < 48
    · rw [if_pos y]
    · rw [if_neg y, if_pos (by
        have : ¬ (48 ≤ c ∧ c ≤ 57) := fun q => z (isDg_iff.mpr q)
        omega)]
theorem r_isDigit (c : Nat) (M : mM) : gC 185 [iv (c : Int)] M = some (iv (if isDg c = true then 1 else 0), M) := by
  rw [e_GaugeNetModel_isDigit]
  by_cases z : isDg c = true
  · have := isDg_iff.mp z
    rw [if_pos z, if_neg (by omega), if_neg (by omega)]
  · rw [if_neg z]
    by_cases y : (c : Int) < 48
    · rw [if_pos y]
    · rw [if_neg y, if_pos (by
        have : ¬ (48 ≤ c ∧ c ≤ 57) := fun q => z (isDg_iff.mpr q)
        omega)]
theorem isBl_iff {c : Nat} : isBl c = true ↔ (c = 9 ∨ c = 10 ∨ c = 13 ∨ c = 32) := by
  unfold isBl
  rw [Bool.or_eq_true, Bool.or_eq_true, Bool.or_eq_true, decide_eq_true_iff, decide_eq_true_iff, decide_eq_true_iff, decide_eq_true_iff]
  omega
theorem c_isBlank (c : Nat) (M : mM) : gC 90 [iv (c : Int)] M = some (iv (if isBl c = true then 1 else 0), M) := by
  rw [e_Tokens_isBlank]
  have h := @isBl_iff c
  by_cases z9 : c = 9
  · rw [if_pos (by omega), if_pos (h.mpr (by omega))]
  · by_cases z10 : c = 10
    · rw [if_neg (by omega), if_pos (by omega), if_pos (h.mpr (by omega))]
    · by_cases z13 : c = 13
      · rw [if_neg (by omega), if_neg (by omega), if_pos (by omega), if_pos (h.mpr (by omega))]
      · by_cases z32 : c = 32
        · rw [if_neg (by omega), if_neg (by omega), if_neg (by omega), if_neg (fun q => q (by omega)), if_pos (h.mpr (by omega))]
        · rw [if_neg (by omega), if_neg (by omega), if_neg (by omega), if_pos (by omega), if_neg (fun q => by have := h.mp q; omega)]
theorem c_kindOfSign (c : Nat) (M : mM) : gC 99 [iv (c : Int)] M = some (iv ((sgn c : Nat) : Int), M) := by
  rw [e_Tokens_kindOfSign]
  unfold sgn
  by_cases z1 : c = 43
  · rw [if_pos (by omega), if_pos z1]; rfl
  · rw [if_neg (by omega), if_neg z1]
    by_cases z2 : c = 44
    · rw [if_pos (by omega), if_pos z2]; rfl
    · rw [if_neg (by omega), if_neg z2]
      by_cases z3 : c = 45
      · rw [if_pos (by omega), if_pos z3]; rfl
      · rw [if_neg (by omega), if_neg z3]
        by_cases z4 : c = 58
        · rw [if_pos (by omega), if_pos z4]; rfl
        · rw [if_neg (by omega), if_neg z4]
          by_cases z5 : c = 59
          · rw [if_pos (by omega), if_pos z5]; rfl
          · rw [if_neg (by omega), if_neg z5]; rfl
theorem r_sign (c : Nat) (M : mM) : gC 186 [iv (c : Int)] M = some (iv ((rkd (sgn c) : Nat) : Int), M) := by
  rw [e_GaugeNetModel_sign]
  unfold sgn
  by_cases z5 : c = 59
  · rw [if_neg (fun q => q (by omega)), z5]; rfl
  · by_cases z4 : c = 58
    · rw [if_pos (by omega), if_neg (fun q => q (by omega)), z4]; rfl
    · by_cases z2 : c = 44
      · rw [if_pos (by omega), if_pos (by omega), if_neg (fun q => q (by omega)), z2]; rfl
      · by_cases z1 : c = 43
        · rw [if_pos (by omega), if_pos (by omega), if_pos (by omega), if_neg (fun q => q (by omega)), z1]; rfl
        · by_cases z3 : c = 45
          · rw [if_pos (by omega), if_pos (by omega), if_pos (by omega), if_pos (by omega), if_neg (fun q => q (by omega)), z3]; rfl
          · rw [if_pos (by omega), if_pos (by omega), if_pos (by omega), if_pos (by omega), if_pos (by omega), if_neg z1, if_neg z2, if_neg z3, if_neg z4, if_neg z5]; rfl
theorem sgn_le (c : Nat) : sgn c ≤ 17 ∧ sgn c ≠ 0 ∧ sgn c ≠ 2 ∧ sgn c ≠ 3 := by
  unfold sgn
  repeat' split
  all_goals omega
