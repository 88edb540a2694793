/-! Runs of letters and digits of a text. -/
def wrd (B : Nat → Nat) (a : Nat) : Nat → List Nat
  | 0 => []
  | n + 1 => if n < 8 then (B (a + n) - 96) :: wrd B a n else wrd B a n
def dvl (B : Nat → Nat) (a : Nat) : Nat → Nat
  | 0 => 0
  | n + 1 => if n < 4 then 10 * dvl B a n + (B (a + n) - 48) else dvl B a n
theorem wrd_len (B : Nat → Nat) (a : Nat) : ∀ n, (wrd B a n).length = min n 8
  | 0 => by rw [Nat.zero_min]; rfl
  | n + 1 => by
    have ih := wrd_len B a n
    rw [wrd]
    by_cases h : n < 8
    · rw [if_pos h, List.length_cons, ih]
      omega
    · rw [if_neg h, ih]
      omega
theorem wrd_dg {B : Nat → Nat} {a : Nat} : ∀ n, (∀ j, j < n → isL (B (a + j)) = true) → dgs (wrd B a n)
  | 0, _ => fun d hd => by cases hd
  | n + 1, h => by
    have ih := wrd_dg n (fun j hj => h j (by omega))
    have hl := isL_iff.mp (h n (by omega))
    rw [wrd]
    by_cases q : n < 8
    · rw [if_pos q]
      intro d hd
      rw [List.mem_cons] at hd
      rcases hd with hd | hd
      · omega
      · exact ih d hd
    · rw [if_neg q]
      exact ih
theorem dvl_lt {B : Nat → Nat} {a : Nat} : ∀ n, (∀ j, j < n → isDg (B (a + j)) = true) → dvl B a n < 10 ^ (min n 4)
  | 0, _ => by
    rw [Nat.zero_min, dvl, Nat.pow_zero]
    omega
  | n + 1, h => by
    have ih := dvl_lt n (fun j hj => h j (by omega))
    have hl := isDg_iff.mp (h n (by omega))
    rw [dvl]
    by_cases q : n < 4
    · rw [if_pos q, Nat.min_eq_left (by omega), Nat.pow_succ]
      rw [Nat.min_eq_left (by omega)] at ih
      omega
    · rw [if_neg q, Nat.min_eq_right (by omega)]
      rw [Nat.min_eq_right (by omega)] at ih
      exact ih
theorem dvl_le {B : Nat → Nat} {a n : Nat} (h : ∀ j, j < n → isDg (B (a + j)) = true) : dvl B a n ≤ 9999 := by
  have h1 := dvl_lt n h
  have h2 : 10 ^ (min n 4) ≤ 10 ^ 4 := Nat.pow_le_pow_right (by omega) (Nat.min_le_right n 4)
  omega
/-- the text's bytes -/
def TXc (tl : Nat) (B : Nat → Nat) (M : mM) : Prop := ∀ i, i < tl → and32 (M 1 i) 255 = (B i : Int)
def TXr (tl : Nat) (B : Nat → Nat) (M : mM) : Prop := M 100 4 = (tl : Int) ∧ ∀ i, i < tl → and32 (M 102 i) 255 = (B i : Int)
def TXok (tl : Nat) (B : Nat → Nat) : Prop := tl ≤ 2000 ∧ (∀ i, B i < 256) ∧ ∀ i, tl ≤ i → B i = 0
theorem TXc_s {tl : Nat} {B : Nat → Nat} {M M' : mM} (h : TXc tl B M) (k : M' 1 = M 1) : TXc tl B M' := by
  unfold TXc
  rw [k]
  exact h
theorem TXr_s {tl : Nat} {B : Nat → Nat} {M M' : mM} (h : TXr tl B M) (k : M' 102 = M 102) (k2 : M' 100 4 = M 100 4) : TXr tl B M' := by
  unfold TXr
  rw [k, k2]
  exact h
section TX
variable {tl : Nat} {B : Nat → Nat} {M : mM}
theorem lt_tl (ho : TXok tl B) {p : Nat → Bool} (h0 : p 0 = false) {i : Nat} (h : p (B i) = true) : i < tl := by
  rcases Nat.lt_or_ge i tl with q | q
  · exact q
  · rw [ho.2.2 i q, h0] at h
    cases h
theorem run_end (ho : TXok tl B) {p : Nat → Bool} (h0 : p 0 = false) {a : Nat} (ha : a ≤ tl) : ∃ n, (∀ j, j < n → p (B (a + j)) = true) ∧ p (B (a + n)) = false ∧ a + n ≤ tl := by
  rcases pu_first (fun j => !p (B (a + j))) (tl - a + 1) with h | ⟨n, h1, h2, h3⟩
  · have := h (tl - a) (by omega)
    rw [ho.2.2 (a + (tl - a)) (by omega), h0] at this
    cases this
  · refine ⟨n, fun j hj => ?_, ?_, by omega⟩
    · have := h3 j hj
      cases q : p (B (a + j)) with
      | true => rfl
      | false => rw [q] at this; cases this
    · cases q : p (B (a + n)) with
      | true => rw [q] at h2; cases h2
      | false => rfl
theorem blank_end (B : Nat → Nat) (tl : Nat) {i : Nat} (hi : i ≤ tl) : ∃ a, i ≤ a ∧ a ≤ tl ∧ (∀ j, i ≤ j → j < a → isBl (B j) = true) ∧ (a < tl → isBl (B a) = false) := by
  rcases pu_first (fun j => !isBl (B (i + j))) (tl - i) with h | ⟨n, h1, h2, h3⟩
  · refine ⟨tl, hi, Nat.le_refl _, fun j h1 h2 => ?_, fun q => absurd q (Nat.lt_irrefl _)⟩
    have := h (j - i) (by omega)
    rw [show i + (j - i) = j by omega] at this
    cases q : isBl (B j) with
    | true => rfl
    | false => rw [q] at this; cases this
  · refine ⟨i + n, by omega, by omega, fun j j1 j2 => ?_, fun _ => ?_⟩
    · have := h3 (j - i) (by omega)
      rw [show i + (j - i) = j by omega] at this
      cases q : isBl (B j) with
      | true => rfl
      | false => rw [q] at this; cases this
    · cases q : isBl (B (i + n)) with
      | true => rw [q] at h2; cases h2
      | false => rfl
theorem c_signAt (hx : TXc tl B M) (ho : TXok tl B) (i : Nat) : gC 89 [rv 8102 1, iv (tl : Int), iv (i : Int)] M = some (iv (B i : Int), M) := by
  have h1 := ho.1
  rw [e_Tokens_signAt, if_neg (by omega)]
  by_cases z : tl ≤ i
  · rw [if_pos (by omega), ho.2.2 i z]
    rfl
  · rw [if_neg (by omega), if_neg (by omega), if_pos (by omega), pu_nn, hx i (by omega)]
theorem r_byteAt (hx : TXr tl B M) (ho : TXok tl B) (i : Nat) : gC 182 [rv 11 100, iv (i : Int)] M = some (iv (B i : Int), M) := by
  have h1 := ho.1
  rw [e_GaugeNetModel_byteAt, hx.1]
  by_cases z : tl ≤ i
  · rw [if_pos (by omega), ho.2.2 i z]
    rfl
  · rw [if_neg (by omega), if_pos (by omega), pu_nn, hx.2 i (by omega)]
theorem c_behind (hx : TXc tl B M) (ho : TXok tl B) {i a : Nat} (hi : i ≤ a) (ha : a ≤ tl) (hb : ∀ j, i ≤ j → j < a → isBl (B j) = true) (he : a < tl → isBl (B a) = false) : gC 88 [rv 8102 1, iv (tl : Int), iv (i : Int)] M = some (iv (a : Int), M) := by
  have h1 := ho.1
  rw [e_Tokens_behindBlanks]
  have key := pu_from (fun j : Nat => gA 88 2 [rv 8102 1, iv (tl : Int), none, iv (j : Int)] [] M) i a hi (fun j j1 j2 => by
    try dsimp only
    rw [s_Tokens_behindBlanks_2, if_neg (by omega), c_signAt hx ho, bI_some, c_isBlank, bI_some, ite01_n, if_pos (hb j j1 j2), pu_inc (by omega)])
  try dsimp only at key
  rw [key, s_Tokens_behindBlanks_2]
  by_cases z : a = tl
  · rw [if_pos (by omega), z]
  · rw [if_neg (by omega), c_signAt hx ho, bI_some, c_isBlank, bI_some, ite01_n, he (by omega), if_neg Bool.false_ne_true]
theorem w32_sub {a k : Nat} (h : a + k < 2147483648) : w32 (((a + k : Nat) : Int) - (a : Int)) = (k : Int) := by
  rw [pu_w32 (by omega) (by omega)]
  omega
theorem w32_addn {a k : Nat} (h : a + k < 2147483648) : w32 ((a : Int) + (k : Int)) = ((a + k : Nat) : Int) := by
  rw [pu_w32 (by omega) (by omega)]
  omega
theorem w32_let {c : Nat} (h1 : 97 ≤ c) (h2 : c ≤ 122) : w32 (w32 ((c : Int) - 97) + 1) = ((c - 96 : Nat) : Int) := by
  rw [pu_w32 (x := (c : Int) - 97) (by omega) (by omega), pu_w32 (by omega) (by omega)]
  omega
theorem c_takeLetters (hx : TXc tl B M) (ho : TXok tl B) {a n : Nat} (h1 : ∀ j, j < n → isL (B (a + j)) = true) (h2 : isL (B (a + n)) = false) (hn : a + n ≤ tl) : gC 93 [rv 8 6, rv 8102 1, iv (tl : Int), iv (a : Int)] M = bV (gC 96 [rv 8 6, iv (((if n ≤ 8 then kcl (wrd B a n) else 1) : Nat) : Int), iv (a : Int), jv ((ewd 32 (wrd B a n) : Nat) : Int)] M) fun M2 => some (iv ((a + n : Nat) : Int), M2) := by
  have h0 := ho.1
  rw [e_Tokens_takeLetters]
  have key := pu_up (fun k : Nat => gA 93 6 [rv 8 6, rv 8102 1, iv (tl : Int), iv (a : Int), jv ((ewd 32 (wrd B a k) : Nat) : Int), none, iv ((a + k : Nat) : Int)] [] M) n (fun k hk => by
    have hl := isL_iff.mp (h1 k hk)
    have hlt := lt_tl ho (p := isL) rfl (h1 k hk)
    have hE := e32_lt (wrd_dg (B := B) (a := a) k (fun j hj => h1 j (by omega))) (by rw [wrd_len]; omega)
    try dsimp only
    rw [s_Tokens_takeLetters_6, if_neg (by omega), c_signAt hx ho, bI_some, c_isLetter, bI_some, ite01_0, if_pos (h1 k hk), w32_sub (by omega), pu_inc (i := a + k) (by omega), wrd]
    by_cases z : k < 8
    · rw [if_neg (by omega), c_signAt hx ho, bI_some, e_Tokens_withLetter, bJ_some, w32_let hl.1 hl.2, if_pos z, ewd]
      generalize ewd 32 (wrd B a k) = E at hE ⊢
      rw [pu_w64 (x := (E : Int) * 32) (by omega) (by omega), pu_w64 (by omega) (by omega), show (E : Int) * 32 + ((B (a + k) - 96 : Nat) : Int) = ((32 * E + (B (a + k) - 96) : Nat) : Int) by omega]
      rfl
    · rw [if_pos (by omega), if_neg z]
      rfl)
  try dsimp only at key
  rw [show ewd 32 (wrd B a 0) = 0 from rfl, Nat.add_zero, show ((0 : Nat) : Int) = 0 from rfl] at key
  rw [key, s_Tokens_takeLetters_6, w32_sub (by omega)]
  have fin : (if (n : Int) ≤ 8 then
bI (gC 95 [jv ((ewd 32 (wrd B a n) : Nat) : Int)] M) fun c1 M1 =>
bV (gC 96 [rv 8 6, iv c1, iv (a : Int), jv ((ewd 32 (wrd B a n) : Nat) : Int)] M1) fun M2 =>
some (iv ((a + n : Nat) : Int), M2)
else
bV (gC 96 [rv 8 6, iv 1, iv (a : Int), jv ((ewd 32 (wrd B a n) : Nat) : Int)] M) fun M3 =>
some (iv ((a + n : Nat) : Int), M3)) = bV (gC 96 [rv 8 6, iv (((if n ≤ 8 then kcl (wrd B a n) else 1) : Nat) : Int), iv (a : Int), jv ((ewd 32 (wrd B a n) : Nat) : Int)] M) fun M2 => some (iv ((a + n : Nat) : Int), M2) := by
    by_cases z : n ≤ 8
    · rw [if_pos (by omega), if_pos z, c_kindOfLetters (wrd_dg n h1), bI_some]
    · rw [if_neg (by omega), if_neg z]
      rfl
  by_cases z : tl ≤ a + n
  · rw [if_pos (by omega)]
    exact fin
  · rw [if_neg (by omega), c_signAt hx ho, bI_some, c_isLetter, bI_some, ite01_0, h2, if_neg Bool.false_ne_true]
    exact fin
theorem r_kindLoop {w : List Nat} (hd : dgs w) (hk : M 107 = keysM) (x1 x3 : Int) : gA 181 146 [rv 11 100, iv x1, none, iv x3, jv ((ewd 27 w : Nat) : Int), none, iv 1, iv 0] [] M = bV (gC 183 [rv 11 100, iv ((rkd (kcl w) : Nat) : Int), iv x1, iv 0, jv ((ewd 27 w : Nat) : Int)] M) fun M1 => gA 181 7 [rv 11 100, iv (w32 (x1 + x3)), none, none, none, none, none, none] [] M1 := by
  have key := pu_up (fun k : Nat => gA 181 146 [rv 11 100, iv x1, none, iv x3, jv ((ewd 27 w : Nat) : Int), none, iv ((klR w k : Nat) : Int), iv (k : Int)] [] M) 9 (fun k hk9 => by
    try dsimp only
    rw [s_GaugeNetModel_cut_146, if_neg (by omega), if_pos (by omega), pu_nn, hk, pu_inc (by omega), klR, show w32 (20 + (k : Int)) = ((20 + k : Nat) : Int) from w32_addn (a := 20) (by omega)]
    by_cases z : w = kwl k
    · rw [if_neg (fun q => q ((keyR hd hk9).mpr z)), if_pos z]
    · rw [if_pos (fun q => z ((keyR hd hk9).mp q)), if_neg z])
  try dsimp only at key
  rw [show klR w 0 = 1 from rfl, show ((0 : Nat) : Int) = 0 from rfl, show ((1 : Nat) : Int) = 1 from rfl] at key
  rw [key, s_GaugeNetModel_cut_146, if_pos (by omega), kcl_klR]
theorem r_takeLetters (hx : TXr tl B M) (ho : TXok tl B) (hk : M 107 = keysM) {a n : Nat} (h1 : ∀ j, j < n → isL (B (a + j)) = true) (h2 : isL (B (a + n)) = false) (hn : a + n ≤ tl) : gA 181 85 [rv 11 100, iv (a : Int), none, iv 0, jv 0, none, none, none] [] M = bV (gC 183 [rv 11 100, iv ((rkd (if n ≤ 8 then kcl (wrd B a n) else 1) : Nat) : Int), iv (a : Int), iv 0, jv ((ewd 27 (wrd B a n) : Nat) : Int)] M) fun M1 => gA 181 7 [rv 11 100, iv ((a + n : Nat) : Int), none, none, none, none, none, none] [] M1 := by
  have h0 := ho.1
  have key := pu_up (fun k : Nat => gA 181 85 [rv 11 100, iv (a : Int), none, iv (k : Int), jv ((ewd 27 (wrd B a k) : Nat) : Int), none, none, none] [] M) n (fun k hk => by
    have hl := isL_iff.mp (h1 k hk)
    have hlt := lt_tl ho (p := isL) rfl (h1 k hk)
    have hE := e27_lt (wrd_dg (B := B) (a := a) k (fun j hj => h1 j (by omega))) (by rw [wrd_len]; omega)
    try dsimp only
    rw [s_GaugeNetModel_cut_85, w32_addn (by omega), r_byteAt hx ho, bI_some, r_isLetter, bI_some, ite01_0, if_pos (h1 k hk), pu_inc (i := k) (by omega), wrd]
    by_cases z : k < 8
    · rw [if_neg (by omega), r_byteAt hx ho, bI_some, e_GaugeNetModel_appends, if_pos (by omega), bJ_some, w32_let hl.1 hl.2, if_pos z, ewd]
      generalize ewd 27 (wrd B a k) = E at hE ⊢
      rw [pu_w64 (x := 27 * (E : Int)) (by omega) (by omega), pu_w64 (by omega) (by omega), show 27 * (E : Int) + ((B (a + k) - 96 : Nat) : Int) = ((27 * E + (B (a + k) - 96) : Nat) : Int) by omega]
    · rw [if_pos (by omega), if_neg z])
  try dsimp only at key
  rw [show ewd 27 (wrd B a 0) = 0 from rfl, show ((0 : Nat) : Int) = 0 from rfl] at key
  rw [key, s_GaugeNetModel_cut_85, w32_addn (by omega), r_byteAt hx ho, bI_some, r_isLetter, bI_some, ite01_0, h2, if_neg Bool.false_ne_true]
  by_cases z : n ≤ 8
  · rw [if_pos (by omega), if_pos z]
    by_cases y : 7 < n
    · rw [if_pos (by omega), kcl_8 (by rw [wrd_len]; omega)]
      rfl
    · rw [if_neg (by omega), r_kindLoop (wrd_dg n h1) hk, w32_addn (by omega)]
  · rw [if_neg (by omega), if_pos (by omega), if_neg z]
    rfl
theorem c_takeDigits (hx : TXc tl B M) (ho : TXok tl B) {a n : Nat} (h1 : ∀ j, j < n → isDg (B (a + j)) = true) (h2 : isDg (B (a + n)) = false) (hn : a + n ≤ tl) : gC 98 [rv 8 6, rv 8102 1, iv (tl : Int), iv (a : Int)] M = bV (gC 96 [rv 8 6, iv (((if n ≤ 4 then 3 else 1) : Nat) : Int), iv (a : Int), jv ((dvl B a n : Nat) : Int)] M) fun M2 => some (iv ((a + n : Nat) : Int), M2) := by
  have h0 := ho.1
  rw [e_Tokens_takeDigits]
  have key := pu_up (fun k : Nat => gA 98 6 [rv 8 6, rv 8102 1, iv (tl : Int), iv (a : Int), jv ((dvl B a k : Nat) : Int), none, iv ((a + k : Nat) : Int)] [] M) n (fun k hk => by
    have hl := isDg_iff.mp (h1 k hk)
    have hlt := lt_tl ho (p := isDg) rfl (h1 k hk)
    have hE := dvl_le (B := B) (a := a) (n := k) (fun j hj => h1 j (by omega))
    try dsimp only
    rw [s_Tokens_takeDigits_6, if_neg (by omega), c_signAt hx ho, bI_some, c_isDigit, bI_some, ite01_0, if_pos (h1 k hk), w32_sub (by omega), pu_inc (i := a + k) (by omega), dvl]
    by_cases z : k < 4
    · rw [if_neg (by omega), c_signAt hx ho, bI_some, if_pos z]
      generalize dvl B a k = E at hE ⊢
      rw [pu_w64 (x := (E : Int) * 10) (by omega) (by omega), pu_w64 (x := (E : Int) * 10 + (B (a + k) : Int)) (by omega) (by omega), pu_w64 (by omega) (by omega), show (E : Int) * 10 + (B (a + k) : Int) - 48 = ((10 * E + (B (a + k) - 48) : Nat) : Int) by omega]
      rfl
    · rw [if_pos (by omega), if_neg z]
      rfl)
  try dsimp only at key
  rw [show dvl B a 0 = 0 from rfl, Nat.add_zero, show ((0 : Nat) : Int) = 0 from rfl] at key
  rw [key, s_Tokens_takeDigits_6, w32_sub (by omega)]
  have fin : (if (n : Int) ≤ 4 then
bV (gC 96 [rv 8 6, iv 3, iv (a : Int), jv ((dvl B a n : Nat) : Int)] M) fun M1 =>
some (iv ((a + n : Nat) : Int), M1)
else
bV (gC 96 [rv 8 6, iv 1, iv (a : Int), jv ((dvl B a n : Nat) : Int)] M) fun M2 =>
some (iv ((a + n : Nat) : Int), M2)) = bV (gC 96 [rv 8 6, iv (((if n ≤ 4 then 3 else 1) : Nat) : Int), iv (a : Int), jv ((dvl B a n : Nat) : Int)] M) fun M2 => some (iv ((a + n : Nat) : Int), M2) := by
    by_cases z : n ≤ 4
    · rw [if_pos (by omega), if_pos z]
      rfl
    · rw [if_neg (by omega), if_neg z]
      rfl
  by_cases z : tl ≤ a + n
  · rw [if_pos (by omega)]
    exact fin
  · rw [if_neg (by omega), c_signAt hx ho, bI_some, c_isDigit, bI_some, ite01_0, h2, if_neg Bool.false_ne_true]
    exact fin
theorem r_takeDigits (hx : TXr tl B M) (ho : TXok tl B) {a n : Nat} (h1 : ∀ j, j < n → isDg (B (a + j)) = true) (h2 : isDg (B (a + n)) = false) (hn : a + n ≤ tl) : gA 181 208 [rv 11 100, iv (a : Int), none, iv 0, iv 0, none, none, none] [] M = bV (gC 183 [rv 11 100, iv ((rkd (if n ≤ 4 then 3 else 1) : Nat) : Int), iv (a : Int), iv ((dvl B a n : Nat) : Int), jv 0] M) fun M1 => gA 181 7 [rv 11 100, iv ((a + n : Nat) : Int), none, none, none, none, none, none] [] M1 := by
  have h0 := ho.1
  have key := pu_up (fun k : Nat => gA 181 208 [rv 11 100, iv (a : Int), none, iv (k : Int), iv ((dvl B a k : Nat) : Int), none, none, none] [] M) n (fun k hk => by
    have hl := isDg_iff.mp (h1 k hk)
    have hlt := lt_tl ho (p := isDg) rfl (h1 k hk)
    have hE := dvl_le (B := B) (a := a) (n := k) (fun j hj => h1 j (by omega))
    try dsimp only
    rw [s_GaugeNetModel_cut_208, w32_addn (by omega), r_byteAt hx ho, bI_some, r_isDigit, bI_some, ite01_0, if_pos (h1 k hk), pu_inc (i := k) (by omega), dvl]
    by_cases z : k < 4
    · rw [if_neg (by omega), r_byteAt hx ho, bI_some, if_pos z]
      generalize dvl B a k = E at hE ⊢
      rw [pu_w32 (x := 10 * (E : Int)) (by omega) (by omega), pu_w32 (x := 10 * (E : Int) + (B (a + k) : Int)) (by omega) (by omega), pu_w32 (by omega) (by omega), show 10 * (E : Int) + (B (a + k) : Int) - 48 = ((10 * E + (B (a + k) - 48) : Nat) : Int) by omega]
    · rw [if_pos (by omega), if_neg z])
  try dsimp only at key
  rw [show dvl B a 0 = 0 from rfl, show ((0 : Nat) : Int) = 0 from rfl] at key
  rw [key, s_GaugeNetModel_cut_208, w32_addn (by omega), r_byteAt hx ho, bI_some, r_isDigit, bI_some, ite01_0, h2, if_neg Bool.false_ne_true]
  by_cases z : n ≤ 4
  · rw [if_pos (by omega), if_pos z]
    rfl
  · rw [if_neg (by omega), if_neg z]
    rfl
end TX
