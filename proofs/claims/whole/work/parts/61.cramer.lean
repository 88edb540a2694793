/-! Cramer's rule, independence, and bounds. -/
theorem wg_sum (v : Nat → Int) (g : Nat → Nat → Int) (S : Nat) : ∀ n, wg v (fun T => zs (fun l => g l T) n) S = zs (fun l => wg v (g l) S) n := by
  intro n
  rw [wg_8]
  have e : zs (fun j => cf (fun T => zs (fun l => g l T) n) S j * v j) 8 = zs (fun j => zs (fun l => cf (g l) S j * v j) n) 8 := zs_congr 8 (fun j _ => by rw [cf_zs, zs_mulr])
  rw [e, zs_comm]
  exact zs_congr n (fun l _ => (wg_8 v (g l) S).symm)
theorem con_om {v : Nat → Nat → Int} {u : Nat} (hu : u < 8) : ∀ k S, con u (om v k) S = zs (fun l => sg (k + 1 + l) * v l u * om (skp v l) (k - 1) S) k := by
  intro k
  induction k with
  | zero =>
    intro S
    show con u (om v 0) S = 0
    unfold con
    split
    · rfl
    · have : om v 0 (S ||| 2 ^ u) = 0 := by
        show (if S ||| 2 ^ u = 0 then (1 : Int) else 0) = 0
        rw [if_neg]
        intro z
        have h1 : (S ||| 2 ^ u).testBit u = true := by rw [Nat.testBit_or, tb_pow]; simp
        rw [z, Nat.zero_testBit] at h1
        cases h1
      rw [this, Int.mul_zero]
  | succ k ih =>
    intro S
    rw [show om v (k + 1) = wg (v k) (om v k) from rfl, con_wg _ _ hu]
    rw [show con u (om v k) = fun T => zs (fun l => sg (k + 1 + l) * v l u * om (skp v l) (k - 1) T) k from funext (ih), wg_sum (v k) (fun l T => sg (k + 1 + l) * v l u * om (skp v l) (k - 1) T) S k, zs]
    have e1 : sg (k + 1 + 1 + k) * v k u * om (skp v k) (k + 1 - 1) S = v k u * om v k S := by
      have h1 : sg (k + 1 + 1 + k) = 1 := by
        unfold sg
        rw [if_pos (by omega)]
      have h2 : om (skp v k) (k + 1 - 1) S = om v k S := om_congr (fun i hi j _ => by
        unfold skp
        rw [if_pos (by omega)]) S
      rw [h1, h2, Int.one_mul]
    have e2 : zs (fun l => sg (k + 1 + 1 + l) * v l u * om (skp v l) (k + 1 - 1) S) k = - zs (fun l => wg (v k) (fun T => sg (k + 1 + l) * v l u * om (skp v l) (k - 1) T) S) k := by
      rw [← zs_neg]
      refine zs_congr k (fun l hl => ?_)
      rw [wg_scale]
      obtain ⟨j, rfl⟩ : ∃ j, k = j + 1 := ⟨k - 1, by omega⟩
      have h3 : om (skp v l) (j + 1 + 1 - 1) S = wg (v (j + 1)) (om (skp v l) (j + 1 - 1)) S := by
        show wg (skp v l j) (om (skp v l) j) S = wg (v (j + 1)) (om (skp v l) j) S
        have : skp v l j = v (j + 1) := by
          unfold skp
          rw [if_neg (by omega)]
        rw [this]
      rw [h3, show j + 1 + 1 + 1 + l = (j + 1 + 1 + l) + 1 by omega, sg_succ, Int.neg_mul, Int.neg_mul]
    rw [e1, e2]
    omega
/-- Cramer: the sum of all vectors by their minors is 0 -/
theorem cramer {a : Nat → Nat → Int} {m u : Nat} (hm : m ≤ 8) (hu : u < m) : zs (fun l => sg l * om (skp a l) m (2 ^ m - 1) * a l u) (m + 1) = 0 := by
  have h := con_om (v := a) (u := u) (by omega) (m + 1) (2 ^ m - 1)
  have h0 : con u (om a (m + 1)) (2 ^ m - 1) = 0 := by
    unfold con
    rw [if_pos]
    rw [Nat.testBit_two_pow_sub_one, decide_eq_true hu]
  rw [h0] at h
  have e : zs (fun l => sg l * om (skp a l) m (2 ^ m - 1) * a l u) (m + 1) = sg m * zs (fun l => sg (m + 1 + 1 + l) * a l u * om (skp a l) (m + 1 - 1) (2 ^ m - 1)) (m + 1) := by
    rw [← zs_mul]
    refine zs_congr (m + 1) (fun l _ => ?_)
    rw [show m + 1 + 1 + l = m + (l + 2) by omega, sg_add m, sg_add l 2, show sg 2 = 1 from rfl, Int.mul_one, ← Int.mul_assoc, ← Int.mul_assoc, ← Int.mul_assoc, sg_sq, Int.one_mul, Nat.add_sub_cancel, Int.mul_right_comm]
  rw [e, ← h, Int.mul_zero]
/-- a linear form over a sum -/
theorem zs_lin {K : Nat → Int} {x : Nat → Int} {b : Nat → Nat → Int} (n m : Nat) : zs (fun i => x i * zs (fun j => K j * b i j) m) n = zs (fun j => K j * zs (fun i => x i * b i j) n) m := by
  have e1 : zs (fun i => x i * zs (fun j => K j * b i j) m) n = zs (fun i => zs (fun j => x i * (K j * b i j)) m) n := zs_congr n (fun i _ => (zs_mul _ _ _).symm)
  have e2 : zs (fun j => K j * zs (fun i => x i * b i j) n) m = zs (fun j => zs (fun i => K j * (x i * b i j)) n) m := zs_congr m (fun j _ => (zs_mul _ _ _).symm)
  rw [e1, e2, zs_comm]
  exact zs_congr m (fun j _ => zs_congr n (fun i _ => Int.mul_left_comm _ _ _))
theorem mask_lt (m : Nat) : 2 ^ m - 1 < 2 ^ m := by
  have := Nat.two_pow_pos m
  omega
theorem indep0 {b : Nat → Nat → Int} {m : Nat} (hm : m ≤ 8) {y : Nat → Int} (hb : om b m (2 ^ m - 1) ≠ 0) (h : ∀ u, u < m → zs (fun i => y i * b i u) m = 0) : ∀ i, i < m → y i = 0 := by
  intro i hi
  obtain ⟨k, rfl⟩ : ∃ k, m = k + 1 := ⟨m - 1, by omega⟩
  obtain ⟨e, e1, e2⟩ := om_skip (v := b) (i := i) (k := k) (by omega)
  have key : zs (fun l => y l * wg (b l) (om (skp b i) k) (2 ^ (k + 1) - 1)) (k + 1) = 0 := by
    have : zs (fun l => y l * wg (b l) (om (skp b i) k) (2 ^ (k + 1) - 1)) (k + 1) = zs (fun l => y l * zs (fun j => cf (om (skp b i) k) (2 ^ (k + 1) - 1) j * b l j) (k + 1)) (k + 1) := zs_congr (k + 1) (fun l _ => by rw [wg_zs _ _ (mask_lt (k + 1)) hm])
    rw [this, zs_lin]
    exact zs_zero (k + 1) (fun j hj => by rw [h j hj, Int.mul_zero])
  rw [zs_one hi (fun l hl hli => by rw [om_skdup (by omega) hli _ (by omega), Int.mul_zero]), e2] at key
  rcases Int.mul_eq_zero.mp key with q | q
  · exact q
  · rcases Int.mul_eq_zero.mp q with z | z
    · rcases e1 with y | y <;> rw [y] at z <;> cases z
    · exact absurd z hb
theorem zs_skip (f : Nat → Int) {l n : Nat} (hl : l ≤ n) : zs f (n + 1) = f l + zs (fun i => f (if i < l then i else i + 1)) n := by
  induction n with
  | zero =>
    have : l = 0 := by omega
    subst this
    show (0 : Int) + f 0 = f 0 + 0
    omega
  | succ n ih =>
    by_cases e : l = n + 1
    · subst e
      rw [zs, zs_congr (f := fun i => f (if i < n + 1 then i else i + 1)) (g := f) (n + 1) (fun i hi => by
        show f (if i < n + 1 then i else i + 1) = f i
        rw [if_pos hi])]
      omega
    · rw [zs, ih (by omega), zs, if_neg (show ¬ n < l by omega)]
      omega
theorem indep {a : Nat → Nat → Int} {m f : Nat} (hm : m ≤ 8) (hf : f ≤ m) {x : Nat → Int} (hR : om (skp a f) m (2 ^ m - 1) ≠ 0) (h : ∀ u, u < m → zs (fun l => x l * a l u) (m + 1) = 0) (hx : x f = 0) : ∀ l, l ≤ m → x l = 0 := by
  have h0 := indep0 (b := skp a f) (y := fun i => x (if i < f then i else i + 1)) hm hR (fun u hu => by
    have := h u hu
    rw [zs_skip _ hf, hx, Int.zero_mul, Int.zero_add] at this
    exact this)
  intro l hl
  rcases Nat.lt_trichotomy l f with z | z | z
  · have := h0 l (by omega)
    rw [if_pos z] at this
    exact this
  · rw [z]; exact hx
  · have := h0 (l - 1) (by omega)
    rw [if_neg (by omega), show l - 1 + 1 = l by omega] at this
    exact this
/-! bounds -/
def Bd : Nat → Nat
  | 0 => 1
  | 1 => 9
  | 2 => 162
  | 3 => 4365
  | n + 4 => (n + 4) * 9 * Bd (n + 3)
theorem zs_abs {f : Nat → Int} {S B : Nat} : ∀ n, (∀ j, j < n → S.testBit j = true → (f j).natAbs ≤ B) → (∀ j, j < n → S.testBit j = false → f j = 0) → (zs f n).natAbs ≤ pop n S * B := by
  intro n
  induction n with
  | zero => intro _ _; exact Nat.zero_le _
  | succ n ih =>
    intro h1 h2
    have := ih (fun j hj => h1 j (by omega)) (fun j hj => h2 j (by omega))
    rw [zs, pop]
    have h3 := Int.natAbs_add_le (zs f n) (f n)
    by_cases q : S.testBit n = true
    · have := h1 n (by omega) q
      rw [if_pos q, Nat.add_mul, Nat.one_mul]
      omega
    · rw [h2 n (by omega) (tb_not.mp q)] at h3 ⊢
      rw [if_neg q, Nat.add_zero]
      have : (0 : Int).natAbs = 0 := rfl
      omega
theorem natAbs_sg (n : Nat) (x : Int) : (sg n * x).natAbs = x.natAbs := by
  rcases sg_1 n with q | q <;> rw [q]
  · rw [Int.one_mul]
  · rw [Int.neg_one_mul, Int.natAbs_neg]
theorem wg_abs {v ω : Nat → Int} {S B : Nat} (hv : ∀ j, (v j).natAbs ≤ 9) (hB : ∀ j, j < 8 → S.testBit j = true → (ω (bdiff S (2 ^ j))).natAbs ≤ B) : (wg v ω S).natAbs ≤ pop 8 S * (9 * B) := by
  rw [wg_8]
  refine zs_abs (S := S) 8 (fun j hj q => ?_) (fun j _ q => ?_)
  · unfold cf
    rw [if_pos q, Int.natAbs_mul, natAbs_sg, Nat.mul_comm]
    exact Nat.mul_le_mul (hv j) (hB j hj q)
  · unfold cf
    rw [if_neg (by rw [q]; decide), Int.zero_mul]
theorem om1 (v : Nat → Nat → Int) {t : Nat} (ht : t < 8) : om v 1 (2 ^ t) = v 0 t := by
  show wg (v 0) (om v 0) (2 ^ t) = _
  rw [wg_8, zs_one ht (fun j _ hj => ?_)]
  · unfold cf
    have e0 : ∀ t, t < 8 → pop 8 (2 ^ t) = 1 ∧ pop t (2 ^ t) = 0 := by decide +kernel
    rw [if_pos (by rw [tb_pow]; simp), (e0 t ht).1, (e0 t ht).2, show bdiff (2 ^ t) (2 ^ t) = 0 from bdiff_self _]
    show sg 2 * 1 * v 0 t = v 0 t
    rw [show sg 2 = 1 from rfl, Int.one_mul, Int.one_mul]
  · unfold cf
    rw [if_neg (by rw [tb_pow, decide_eq_false (fun z => hj z.symm)]; decide), Int.zero_mul]
theorem om2 (v : Nat → Nat → Int) {s t : Nat} (hst : s < t) (ht : t < 8) : om v 2 (2 ^ s ||| 2 ^ t) = v 1 t * v 0 s - v 1 s * v 0 t := by
  show wg (v 1) (om v 1) (2 ^ s ||| 2 ^ t) = _
  have e0 : ∀ t, t < 8 → ∀ s, s < t → pop 8 (2 ^ s ||| 2 ^ t) = 2 ∧ pop s (2 ^ s ||| 2 ^ t) = 0 ∧ pop t (2 ^ s ||| 2 ^ t) = 1 ∧ bdiff (2 ^ s ||| 2 ^ t) (2 ^ s) = 2 ^ t ∧ bdiff (2 ^ s ||| 2 ^ t) (2 ^ t) = 2 ^ s := by decide +kernel
  obtain ⟨a1, a2, a3, a4, a5⟩ := e0 t ht s hst
  rw [wg_8, zs_two (k := s) (l := t) (by omega) ht (by omega) (fun j _ hj hj2 => ?_)]
  · unfold cf
    rw [if_pos (by rw [Nat.testBit_or, tb_pow, tb_pow]; simp), if_pos (by rw [Nat.testBit_or, tb_pow, tb_pow]; simp), a1, a2, a3, a4, a5, om1 v ht, om1 v (show s < 8 by omega), show sg (2 + 1 + 0) = -1 from rfl, show sg (2 + 1 + 1) = 1 from rfl, Int.neg_one_mul, Int.one_mul, Int.neg_mul, Int.mul_comm (v 0 t), Int.mul_comm (v 0 s)]
    omega
  · unfold cf
    rw [if_neg (by rw [Nat.testBit_or, tb_pow, tb_pow, decide_eq_false (fun z => hj z.symm), decide_eq_false (fun z => hj2 z.symm)]; decide), Int.zero_mul]
theorem abs81 {x y : Int} (hx : x.natAbs ≤ 9) (hy : y.natAbs ≤ 9) : (x * y).natAbs ≤ 81 := by
  rw [Int.natAbs_mul]
  exact Nat.le_trans (Nat.mul_le_mul hx hy) (Nat.le_refl 81)
theorem three {b c : Nat → Int} (hb : ∀ j, (b j).natAbs ≤ 9) (hc : ∀ j, (c j).natAbs ≤ 9) (i j l : Nat) : (c j * b i - c i * b j).natAbs + (c l * b i - c i * b l).natAbs + (c l * b j - c j * b l).natAbs ≤ 485 := by
  have p1 := abs81 (hc j) (hb i)
  have q1 := abs81 (hc i) (hb j)
  have p2 := abs81 (hc l) (hb i)
  have q2 := abs81 (hc i) (hb l)
  have p3 := abs81 (hc l) (hb j)
  have q3 := abs81 (hc j) (hb l)
  have hx : (c j * b i) * (c l * b j) * (c i * b l) = (c i * b j) * (c j * b l) * (c l * b i) := by ac_rfl
  generalize c j * b i = P1 at *
  generalize c i * b j = Q1 at *
  generalize c l * b i = P2 at *
  generalize c i * b l = Q2 at *
  generalize c l * b j = P3 at *
  generalize c j * b l = Q3 at *
  rcases Nat.lt_or_ge 485 ((P1 - Q1).natAbs + (P2 - Q2).natAbs + (P3 - Q3).natAbs) with z | z
  · exfalso
    have a1 : (P1 = 81 ∧ Q1 = -81) ∨ (P1 = -81 ∧ Q1 = 81) := by omega
    have a2 : (P2 = 81 ∧ Q2 = -81) ∨ (P2 = -81 ∧ Q2 = 81) := by omega
    have a3 : (P3 = 81 ∧ Q3 = -81) ∨ (P3 = -81 ∧ Q3 = 81) := by omega
    rcases a1 with ⟨r1, s1⟩ | ⟨r1, s1⟩ <;> rcases a2 with ⟨r2, s2⟩ | ⟨r2, s2⟩ <;> rcases a3 with ⟨r3, s3⟩ | ⟨r3, s3⟩ <;> (rw [r1, r2, r3, s1, s2, s3] at hx; revert hx; decide)
  · exact z
theorem sel3a : ∀ S, S < 256 → pop 8 S = 3 → sl S 0 8 < sl S 1 8 ∧ sl S 1 8 < sl S 2 8 ∧ sl S 2 8 < 8 := by decide +kernel
theorem sel3b : ∀ S, S < 256 → pop 8 S = 3 → bdiff S (2 ^ sl S 0 8) = 2 ^ sl S 1 8 ||| 2 ^ sl S 2 8 ∧ bdiff S (2 ^ sl S 1 8) = 2 ^ sl S 0 8 ||| 2 ^ sl S 2 8 ∧ bdiff S (2 ^ sl S 2 8) = 2 ^ sl S 0 8 ||| 2 ^ sl S 1 8 := by decide +kernel
theorem sel3c : ∀ S, S < 256 → pop 8 S = 3 → S = 2 ^ sl S 0 8 ||| (2 ^ sl S 1 8 ||| 2 ^ sl S 2 8) := by decide +kernel
theorem sel3 (S : Nat) (hS : S < 256) (hp : pop 8 S = 3) : sl S 0 8 < sl S 1 8 ∧ sl S 1 8 < sl S 2 8 ∧ sl S 2 8 < 8 ∧ (∀ j, j < 8 → S.testBit j = true → j = sl S 0 8 ∨ j = sl S 1 8 ∨ j = sl S 2 8) ∧ S.testBit (sl S 0 8) = true ∧ S.testBit (sl S 1 8) = true ∧ S.testBit (sl S 2 8) = true ∧ bdiff S (2 ^ sl S 0 8) = 2 ^ sl S 1 8 ||| 2 ^ sl S 2 8 ∧ bdiff S (2 ^ sl S 1 8) = 2 ^ sl S 0 8 ||| 2 ^ sl S 2 8 ∧ bdiff S (2 ^ sl S 2 8) = 2 ^ sl S 0 8 ||| 2 ^ sl S 1 8 := by
  obtain ⟨a1, a2, a3⟩ := sel3a S hS hp
  obtain ⟨b1, b2, b3⟩ := sel3b S hS hp
  have tb : ∀ j, S.testBit j = (decide (sl S 0 8 = j) || (decide (sl S 1 8 = j) || decide (sl S 2 8 = j))) := by
    intro j
    have := congrArg (fun x => Nat.testBit x j) (sel3c S hS hp)
    try dsimp only at this
    rw [Nat.testBit_or, Nat.testBit_or, tb_pow, tb_pow, tb_pow] at this
    exact this
  refine ⟨a1, a2, a3, fun j _ q => ?_, ?_, ?_, ?_, b1, b2, b3⟩
  · rw [tb j, Bool.or_eq_true, Bool.or_eq_true, decide_eq_true_iff, decide_eq_true_iff, decide_eq_true_iff] at q
    rcases q with q | q | q
    · exact Or.inl q.symm
    · exact Or.inr (Or.inl q.symm)
    · exact Or.inr (Or.inr q.symm)
  · rw [tb]; simp
  · rw [tb]; simp
  · rw [tb]; simp
theorem zs_three {f : Nat → Int} {n i j k : Nat} (hi : i < n) (hj : j < n) (hk : k < n) (hij : i ≠ j) (hik : i ≠ k) (hjk : j ≠ k) (h : ∀ l, l < n → l ≠ i → l ≠ j → l ≠ k → f l = 0) : zs f n = f i + (f j + f k) := by
  have e : zs f n = zs (fun l => (if l = i then f i else 0) + (if l = i then 0 else f l)) n := zs_congr n (fun l _ => by
    by_cases q : l = i
    · rw [if_pos q, if_pos q, q]; omega
    · rw [if_neg q, if_neg q]; omega)
  rw [e, zs_add, zs_one (k := i) hi (fun l _ hl => by rw [if_neg hl]), zs_two (k := j) (l := k) hj hk hjk (fun l hl h1 h2 => by
    by_cases q : l = i
    · rw [if_pos q]
    · rw [if_neg q]; exact h l hl q h1 h2), if_pos rfl, if_neg (fun z => hij z.symm), if_neg (fun z => hik z.symm)]
theorem om_abs {v : Nat → Nat → Int} (hv : ∀ i j, (v i j).natAbs ≤ 9) : ∀ k S, S < 256 → pop 8 S = k → (om v k S).natAbs ≤ Bd k := by
  intro k
  induction k with
  | zero =>
    intro S hS _
    show (if S = 0 then (1 : Int) else 0).natAbs ≤ 1
    split <;> decide
  | succ k ih =>
    intro S hS hp
    have hstep : (om v (k + 1) S).natAbs ≤ (k + 1) * (9 * Bd k) := by
      have := wg_abs (ω := om v k) (S := S) (B := Bd k) (hv k) (fun j hj q => ih _ (Nat.lt_of_le_of_lt (bdiff_le _ _) hS) (by
        have := pop_del q hj
        omega))
      rw [hp] at this
      exact this
    match k, hstep, hp with
    | 0, hstep, _ => exact hstep
    | 1, hstep, _ => exact hstep
    | 2, _, hp =>
      obtain ⟨s1, s2, s3, s4, s5, s6, s7, s8, s9, s10⟩ := sel3 S hS hp
      show (wg (v 2) (om v 2) S).natAbs ≤ 4365
      rw [wg_8, zs_three (i := sl S 0 8) (j := sl S 1 8) (k := sl S 2 8) (by omega) (by omega) s3 (by omega) (by omega) (by omega) (fun l hl h1 h2 h3 => by
        unfold cf
        rw [if_neg, Int.zero_mul]
        intro q
        rcases s4 l hl q with z | z | z
        · exact h1 z
        · exact h2 z
        · exact h3 z)]
      have t := three (hv 0) (hv 1) (sl S 0 8) (sl S 1 8) (sl S 2 8)
      have b : ∀ (n : Nat) (x y : Int), y.natAbs ≤ 9 → (sg n * x * y).natAbs ≤ 9 * x.natAbs := by
        intro n x y hy
        rw [Int.natAbs_mul, natAbs_sg, Nat.mul_comm]
        exact Nat.mul_le_mul_right _ hy
      have b1 := b (pop 8 S + 1 + pop (sl S 0 8) S) (v 1 (sl S 2 8) * v 0 (sl S 1 8) - v 1 (sl S 1 8) * v 0 (sl S 2 8)) _ (hv 2 (sl S 0 8))
      have b2 := b (pop 8 S + 1 + pop (sl S 1 8) S) (v 1 (sl S 2 8) * v 0 (sl S 0 8) - v 1 (sl S 0 8) * v 0 (sl S 2 8)) _ (hv 2 (sl S 1 8))
      have b3 := b (pop 8 S + 1 + pop (sl S 2 8) S) (v 1 (sl S 1 8) * v 0 (sl S 0 8) - v 1 (sl S 0 8) * v 0 (sl S 1 8)) _ (hv 2 (sl S 2 8))
      unfold cf
      rw [if_pos s5, if_pos s6, if_pos s7, s8, s9, s10, om2 v s2 s3, om2 v (Nat.lt_trans s1 s2) s3, om2 v s1 (by omega)]
      have c1 := Int.natAbs_add_le (sg (pop 8 S + 1 + pop (sl S 0 8) S) * (v 1 (sl S 2 8) * v 0 (sl S 1 8) - v 1 (sl S 1 8) * v 0 (sl S 2 8)) * v 2 (sl S 0 8)) (sg (pop 8 S + 1 + pop (sl S 1 8) S) * (v 1 (sl S 2 8) * v 0 (sl S 0 8) - v 1 (sl S 0 8) * v 0 (sl S 2 8)) * v 2 (sl S 1 8) + sg (pop 8 S + 1 + pop (sl S 2 8) S) * (v 1 (sl S 1 8) * v 0 (sl S 0 8) - v 1 (sl S 0 8) * v 0 (sl S 1 8)) * v 2 (sl S 2 8))
      have c2 := Int.natAbs_add_le (sg (pop 8 S + 1 + pop (sl S 1 8) S) * (v 1 (sl S 2 8) * v 0 (sl S 0 8) - v 1 (sl S 0 8) * v 0 (sl S 2 8)) * v 2 (sl S 1 8)) (sg (pop 8 S + 1 + pop (sl S 2 8) S) * (v 1 (sl S 1 8) * v 0 (sl S 0 8) - v 1 (sl S 0 8) * v 0 (sl S 1 8)) * v 2 (sl S 2 8))
      omega
    | n + 3, hstep, _ =>
      show _ ≤ (n + 4) * 9 * Bd (n + 3)
      rw [Nat.mul_assoc]
      exact hstep
