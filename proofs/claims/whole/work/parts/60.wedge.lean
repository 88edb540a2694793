/-! Finite sums and wedges. -/
def zs (f : Nat → Int) : Nat → Int
  | 0 => 0
  | n + 1 => zs f n + f n
theorem zs_congr {f g : Nat → Int} : ∀ n, (∀ i, i < n → f i = g i) → zs f n = zs g n := by
  intro n
  induction n with
  | zero => intro _; rfl
  | succ n ih =>
    intro h
    rw [zs, zs, ih (fun i hi => h i (by omega)), h n (by omega)]
theorem zs_zero {f : Nat → Int} (n : Nat) (h : ∀ i, i < n → f i = 0) : zs f n = 0 := by
  induction n with
  | zero => rfl
  | succ n ih => rw [zs, ih (fun i hi => h i (by omega)), h n (by omega)]; rfl
theorem zs_add (f g : Nat → Int) (n : Nat) : zs (fun i => f i + g i) n = zs f n + zs g n := by
  induction n with
  | zero => rfl
  | succ n ih => rw [zs, zs, zs, ih]; omega
theorem zs_sub (f g : Nat → Int) (n : Nat) : zs (fun i => f i - g i) n = zs f n - zs g n := by
  induction n with
  | zero => rfl
  | succ n ih => rw [zs, zs, zs, ih]; omega
theorem zs_neg (f : Nat → Int) (n : Nat) : zs (fun i => - f i) n = - zs f n := by
  induction n with
  | zero => rfl
  | succ n ih => rw [zs, zs, ih]; omega
theorem zs_mul (a : Int) (f : Nat → Int) (n : Nat) : zs (fun i => a * f i) n = a * zs f n := by
  induction n with
  | zero => rw [zs, zs, Int.mul_zero]
  | succ n ih => rw [zs, zs, ih, Int.mul_add]
theorem zs_mulr (a : Int) (f : Nat → Int) (n : Nat) : zs (fun i => f i * a) n = zs f n * a := by
  rw [Int.mul_comm, ← zs_mul]
  exact zs_congr n (fun i _ => Int.mul_comm _ _)
theorem zs_comm (f : Nat → Nat → Int) (n m : Nat) : zs (fun i => zs (fun j => f i j) m) n = zs (fun j => zs (fun i => f i j) n) m := by
  induction n with
  | zero =>
    rw [zs]
    symm
    exact zs_zero m (fun j _ => rfl)
  | succ n ih =>
    rw [zs, ih, ← zs_add]
    exact zs_congr m (fun j _ => rfl)
theorem zs_one {f : Nat → Int} {n k : Nat} (hk : k < n) (h : ∀ i, i < n → i ≠ k → f i = 0) : zs f n = f k := by
  induction n with
  | zero => omega
  | succ n ih =>
    rw [zs]
    by_cases e : k = n
    · rw [← e, zs_zero k (fun i hi => h i (by omega) (by omega))]
      omega
    · rw [ih (by omega) (fun i hi hik => h i (by omega) hik), h n (by omega) (fun z => e z.symm)]
      omega
theorem zs_two {f : Nat → Int} {n k l : Nat} (hk : k < n) (hl : l < n) (hkl : k ≠ l) (h : ∀ i, i < n → i ≠ k → i ≠ l → f i = 0) : zs f n = f k + f l := by
  have e : zs f n = zs (fun i => (if i = k then f k else 0) + (if i = k then 0 else f i)) n := zs_congr n (fun i _ => by
    by_cases q : i = k
    · rw [if_pos q, if_pos q, q]; omega
    · rw [if_neg q, if_neg q]; omega)
  rw [e, zs_add, zs_one (k := k) hk (fun i _ hik => by rw [if_neg hik]), zs_one (k := l) hl (fun i hi hil => by
    by_cases q : i = k
    · rw [if_pos q]
    · rw [if_neg q]; exact h i hi q hil), if_pos rfl, if_neg (fun z => hkl z.symm)]
theorem zs_ext {f : Nat → Int} {n m : Nat} (hnm : n ≤ m) (h : ∀ i, n ≤ i → i < m → f i = 0) : zs f m = zs f n := by
  induction m with
  | zero => rw [show n = 0 by omega]
  | succ m ih =>
    by_cases e : n = m + 1
    · rw [e]
    · rw [zs, h m (by omega) (by omega), ih (by omega) (fun i h1 h2 => h i h1 (by omega))]
      omega
theorem sg_1 (n : Nat) : sg n = 1 ∨ sg n = -1 := by
  unfold sg
  split
  · exact Or.inl rfl
  · exact Or.inr rfl
theorem sg_succ (n : Nat) : sg (n + 1) = - sg n := by
  unfold sg
  rcases Nat.mod_two_eq_zero_or_one n with q | q
  · rw [if_neg (by omega), if_pos q]
  · rw [if_pos (by omega), if_neg (by omega)]; rfl
theorem sg_add (a b : Nat) : sg (a + b) = sg a * sg b := by
  induction b with
  | zero => rw [Nat.add_zero, show sg 0 = 1 from rfl, Int.mul_one]
  | succ b ih => rw [← Nat.add_assoc, sg_succ, sg_succ, ih, Int.mul_neg]
theorem sg_sq (a : Nat) : sg a * sg a = 1 := by
  rcases sg_1 a with q | q <;> rw [q] <;> rfl
/-- the coefficient of the j-th coordinate -/
def cf (ω : Nat → Int) (S j : Nat) : Int := if S.testBit j = true then sg (pop 8 S + 1 + pop j S) * ω (bdiff S (2 ^ j)) else 0
theorem wgs_zs (v ω : Nat → Int) (S : Nat) : ∀ m, wgs v ω S m = zs (fun j => cf ω S j * v j) m := by
  intro m
  induction m with
  | zero => rfl
  | succ m ih =>
    rw [wgs, zs, ih]
    congr 1
    unfold cf
    split
    · rw [Int.mul_comm (v m), Int.mul_assoc]
    · rw [Int.zero_mul]
theorem wg_zs (v ω : Nat → Int) {S m : Nat} (hS : S < 2 ^ m) (hm : m ≤ 8) : wg v ω S = zs (fun j => cf ω S j * v j) m := by
  unfold wg
  rw [wgs_zs]
  refine zs_ext hm (fun i h1 h2 => ?_)
  unfold cf
  rw [tb_lt hS h1, if_neg Bool.false_ne_true, Int.zero_mul]
theorem wg_8 (v ω : Nat → Int) (S : Nat) : wg v ω S = zs (fun j => cf ω S j * v j) 8 := wgs_zs v ω S 8
theorem wg_congr {v v' ω ω' : Nat → Int} {S : Nat} (h1 : ∀ j, j < 8 → S.testBit j = true → v j = v' j) (h2 : ∀ j, j < 8 → S.testBit j = true → ω (bdiff S (2 ^ j)) = ω' (bdiff S (2 ^ j))) : wg v ω S = wg v' ω' S := by
  rw [wg_8, wg_8]
  refine zs_congr 8 (fun j hj => ?_)
  unfold cf
  by_cases q : S.testBit j = true
  · rw [if_pos q, if_pos q, h1 j hj q, h2 j hj q]
  · rw [if_neg q, if_neg q, Int.zero_mul, Int.zero_mul]
theorem wg_scale (v ω : Nat → Int) (a : Int) (S : Nat) : wg v (fun T => a * ω T) S = a * wg v ω S := by
  rw [wg_8, wg_8, ← zs_mul]
  refine zs_congr 8 (fun j _ => ?_)
  unfold cf
  split
  · rw [Int.mul_left_comm, Int.mul_assoc]
  · rw [Int.zero_mul, Int.mul_zero]
theorem wg_nil (v : Nat → Int) {ω : Nat → Int} (h : ∀ T, ω T = 0) (S : Nat) : wg v ω S = 0 := by
  rw [wg_8]
  refine zs_zero 8 (fun j _ => ?_)
  unfold cf
  split
  · rw [h, Int.mul_zero, Int.zero_mul]
  · rw [Int.zero_mul]
theorem pop_del_lt {S i j : Nat} (hj : S.testBit j = true) (hij : i ≤ j) : pop i (bdiff S (2 ^ j)) = pop i S := by
  have : ∀ n, n ≤ j → pop n (bdiff S (2 ^ j)) = pop n S := by
    intro n
    induction n with
    | zero => intro _; rfl
    | succ n ih =>
      intro hn
      rw [pop, pop, ih (by omega), tb_del, decide_eq_false (by omega)]
      simp
  exact this i hij
theorem del_comm (S i j : Nat) : bdiff (bdiff S (2 ^ i)) (2 ^ j) = bdiff (bdiff S (2 ^ j)) (2 ^ i) := by
  apply Nat.eq_of_testBit_eq
  intro k
  rw [tb_del, tb_del, tb_del, tb_del, Bool.and_assoc, Bool.and_assoc, Bool.and_comm (!decide (i = k))]
theorem cf_add (ω η : Nat → Int) (S i : Nat) : cf (fun T => ω T + η T) S i = cf ω S i + cf η S i := by
  unfold cf
  split
  · rw [Int.mul_add]
  · rfl
theorem cf_mulr (ω : Nat → Int) (a : Int) (S i : Nat) : cf (fun T => ω T * a) S i = cf ω S i * a := by
  unfold cf
  split
  · rw [Int.mul_assoc]
  · rw [Int.zero_mul]
theorem cf_zs (g : Nat → Nat → Int) (S i : Nat) : ∀ n, cf (fun T => zs (fun j => g j T) n) S i = zs (fun j => cf (g j) S i) n := by
  intro n
  induction n with
  | zero =>
    unfold cf
    split
    · show sg (pop 8 S + 1 + pop i S) * (0 : Int) = 0
      rw [Int.mul_zero]
    · rfl
  | succ n ih =>
    show cf (fun T => zs (fun j => g j T) n + g n T) S i = zs (fun j => cf (g j) S i) n + cf (g n) S i
    rw [cf_add (fun T => zs (fun j => g j T) n) (g n), ih]
theorem cf_anti (ω : Nat → Int) (S : Nat) {i j : Nat} (hi : i < 8) (hj : j < 8) : cf (fun T => cf ω T j) S i = - cf (fun T => cf ω T i) S j := by
  have key : ∀ i j, i < 8 → j < 8 → i < j → cf (fun T => cf ω T j) S i = - cf (fun T => cf ω T i) S j := by
    intro i j hi hj hij
    unfold cf
    dsimp only
    by_cases q : S.testBit i = true
    · by_cases q2 : S.testBit j = true
      · have e1 : (bdiff S (2 ^ i)).testBit j = true := by rw [tb_del, q2, decide_eq_false (by omega)]; rfl
        have e2 : (bdiff S (2 ^ j)).testBit i = true := by rw [tb_del, q, decide_eq_false (by omega)]; rfl
        have h1 := pop_del q (show i < 8 from hi)
        have h2 := pop_del q hij
        have h3 := pop_del q2 (show j < 8 from hj)
        have h4 := pop_del_lt q2 (Nat.le_of_lt hij)
        rw [if_pos q, if_pos e1, if_pos q2, if_pos e2, del_comm S j i, ← Int.mul_assoc, ← Int.mul_assoc, ← sg_add, ← sg_add, ← Int.neg_mul, ← sg_succ]
        congr 1
        unfold sg
        rw [h4]
        congr 1
        rw [show pop 8 S + 1 + pop i S + (pop 8 (bdiff S (2 ^ i)) + 1 + pop j (bdiff S (2 ^ i))) = pop i S + pop j S + 2 * pop 8 S by omega, show pop 8 S + 1 + pop j S + (pop 8 (bdiff S (2 ^ j)) + 1 + pop i S) + 1 = pop i S + pop j S + 2 * (pop 8 S + 1) by omega, Nat.add_mul_mod_self_left, Nat.add_mul_mod_self_left]
      · have e1 : (bdiff S (2 ^ i)).testBit j = false := by rw [tb_del, tb_not.mp q2]; rfl
        rw [if_pos q, if_neg (by rw [e1]; decide), if_neg q2, Int.mul_zero]
        rfl
    · by_cases q2 : S.testBit j = true
      · have e2 : (bdiff S (2 ^ j)).testBit i = false := by rw [tb_del, tb_not.mp q]; rfl
        rw [if_neg q, if_pos q2, if_neg (by rw [e2]; decide), Int.mul_zero]
        rfl
      · rw [if_neg q, if_neg q2]
        rfl
  rcases Nat.lt_trichotomy i j with z | z | z
  · exact key i j hi hj z
  · subst z
    have : cf (fun T => cf ω T i) S i = 0 := by
      unfold cf
      dsimp only
      split
      · rw [if_neg (by rw [tb_del, decide_eq_true rfl]; simp), Int.mul_zero]
      · rfl
    rw [this]
    rfl
  · rw [key j i hj hi z, Int.neg_neg]
theorem wg_wg (u v ω : Nat → Int) (S : Nat) : wg u (wg v ω) S = zs (fun i => zs (fun j => cf (fun T => cf ω T j) S i * v j * u i) 8) 8 := by
  rw [wg_8]
  refine zs_congr 8 (fun i _ => ?_)
  rw [show wg v ω = fun T => zs (fun j => cf ω T j * v j) 8 from funext (fun T => wg_8 v ω T), cf_zs, ← zs_mulr]
  refine zs_congr 8 (fun j _ => ?_)
  rw [cf_mulr]
theorem wg_anti (u v ω : Nat → Int) (S : Nat) : wg u (wg v ω) S = - wg v (wg u ω) S := by
  rw [wg_wg, wg_wg, zs_comm, ← zs_neg]
  refine zs_congr 8 (fun i hi => ?_)
  rw [← zs_neg]
  refine zs_congr 8 (fun j hj => ?_)
  rw [cf_anti ω S hj hi, Int.neg_mul, Int.neg_mul, Int.mul_right_comm]
theorem wg_self (v ω : Nat → Int) (S : Nat) : wg v (wg v ω) S = 0 := by
  have := wg_anti v v ω S
  omega
/-- a vector that is there already -/
theorem om_dup {v : Nat → Nat → Int} {i : Nat} : ∀ {k : Nat}, i < k → ∀ S, wg (v i) (om v k) S = 0 := by
  intro k
  induction k with
  | zero => intro hi; omega
  | succ k ih =>
    intro hi S
    rw [show om v (k + 1) = wg (v k) (om v k) from rfl]
    by_cases e : i = k
    · rw [e]
      exact wg_self _ _ _
    · rw [wg_anti, wg_nil (v k) (ih (by omega))]
      rfl
theorem om_congr {v v' : Nat → Nat → Int} : ∀ {k : Nat}, (∀ i, i < k → ∀ j, j < 8 → v i j = v' i j) → ∀ S, om v k S = om v' k S := by
  intro k
  induction k with
  | zero => intro _ S; rfl
  | succ k ih =>
    intro h S
    exact wg_congr (fun j hj _ => h k (by omega) j hj) (fun j _ _ => ih (fun i hi => h i (by omega)) _)
def skp (v : Nat → Nat → Int) (i : Nat) : Nat → Nat → Int := fun l => v (if l < i then l else l + 1)
theorem om_skip {v : Nat → Nat → Int} {i : Nat} : ∀ {k : Nat}, i ≤ k → ∃ e : Int, (e = 1 ∨ e = -1) ∧ ∀ S, wg (v i) (om (skp v i) k) S = e * om v (k + 1) S := by
  intro k
  induction k with
  | zero =>
    intro hi
    have : i = 0 := by omega
    subst this
    exact ⟨1, Or.inl rfl, fun S => by rw [Int.one_mul]; rfl⟩
  | succ k ih =>
    intro hi
    by_cases e : i = k + 1
    · subst e
      refine ⟨1, Or.inl rfl, fun S => ?_⟩
      rw [Int.one_mul, show om v (k + 1 + 1) = wg (v (k + 1)) (om v (k + 1)) from rfl]
      refine wg_congr (fun _ _ _ => rfl) (fun j _ _ => om_congr (fun l hl j _ => ?_) _)
      unfold skp
      rw [if_pos hl]
    · obtain ⟨s, s1, s2⟩ := ih (by omega)
      refine ⟨-s, ?_, fun S => ?_⟩
      · rcases s1 with q | q <;> rw [q]
        · exact Or.inr rfl
        · exact Or.inl rfl
      · have h1 : om (skp v i) (k + 1) = wg (v (k + 1)) (om (skp v i) k) := by
          show wg (skp v i k) (om (skp v i) k) = _
          unfold skp
          rw [if_neg (by omega)]
        rw [h1, wg_anti, show wg (v i) (om (skp v i) k) = fun S => s * om v (k + 1) S from funext s2, wg_scale, Int.neg_mul]
        rfl
theorem om_skdup {v : Nat → Nat → Int} {i j k : Nat} (hj : j ≤ k) (hij : j ≠ i) (S : Nat) (hi : i ≤ k) : wg (v j) (om (skp v i) k) S = 0 := by
  rcases Nat.lt_or_gt_of_ne hij with q | q
  · have h := om_dup (v := skp v i) (i := j) (k := k) (by omega) S
    have e : skp v i j = v j := by
      unfold skp
      rw [if_pos q]
    rw [e] at h
    exact h
  · have h := om_dup (v := skp v i) (i := j - 1) (k := k) (by omega) S
    have e : skp v i (j - 1) = v j := by
      unfold skp
      rw [if_neg (by omega), show j - 1 + 1 = j by omega]
    rw [e] at h
    exact h
/-- contraction with a coordinate -/
def con (u : Nat) (ω : Nat → Int) (S : Nat) : Int := if S.testBit u = true then 0 else sg (pop 8 S + pop u S) * ω (S ||| 2 ^ u)
theorem pop_or_lt {S u n : Nat} (hn : n ≤ u) : pop n (S ||| 2 ^ u) = pop n S := by
  induction n with
  | zero => rfl
  | succ n ih =>
    rw [pop, pop, ih (by omega), Nat.testBit_or, tb_pow, decide_eq_false (by omega), Bool.or_false]
theorem or_del {S u j : Nat} (h : u ≠ j) : bdiff (S ||| 2 ^ u) (2 ^ j) = bdiff S (2 ^ j) ||| 2 ^ u := by
  apply Nat.eq_of_testBit_eq
  intro i
  rw [tb_del, Nat.testBit_or, Nat.testBit_or, tb_del, tb_pow]
  by_cases e : u = i
  · subst e
    rw [decide_eq_true rfl, decide_eq_false (fun z => h z.symm)]
    simp
  · rw [decide_eq_false e, Bool.or_false, Bool.or_false]
theorem or_del_self {S u : Nat} (h : S.testBit u = false) : bdiff (S ||| 2 ^ u) (2 ^ u) = S := by
  apply Nat.eq_of_testBit_eq
  intro i
  rw [tb_del, Nat.testBit_or, tb_pow]
  by_cases e : u = i
  · subst e
    rw [h, decide_eq_true rfl]; rfl
  · rw [decide_eq_false e]; simp
theorem con_wg (v ω : Nat → Int) {u : Nat} (hu : u < 8) (S : Nat) : con u (wg v ω) S = v u * ω S - wg v (con u ω) S := by
  by_cases q : S.testBit u = true
  · -- u is there: all falls out
    have h0 : con u (wg v ω) S = 0 := by unfold con; rw [if_pos q]
    have h1 : wg v (con u ω) S = v u * ω S := by
      rw [wg_8, zs_one hu (fun j _ hj => ?_)]
      · unfold cf con
        have h2 := pop_del q hu
        have h3 := pop_del_lt q (Nat.le_refl u)
        have e1 : (bdiff S (2 ^ u)).testBit u = false := by rw [tb_del, decide_eq_true rfl]; simp
        have e2 : bdiff S (2 ^ u) ||| 2 ^ u = S := by
          apply Nat.eq_of_testBit_eq
          intro i
          rw [Nat.testBit_or, tb_del, tb_pow]
          by_cases e : u = i
          · subst e; rw [q]; simp
          · rw [decide_eq_false e]; simp
        rw [if_pos q, if_neg (by rw [e1]; decide), e2, h3, ← Int.mul_assoc, show pop 8 S + 1 + pop u S = (pop 8 (bdiff S (2 ^ u)) + pop u S) + 2 by omega, sg_add, show sg 2 = 1 from rfl, Int.mul_one, sg_sq, Int.one_mul, Int.mul_comm]
      · unfold cf
        split
        · unfold con
          rw [if_pos (by rw [tb_del, q, decide_eq_false (fun z => hj z)]; rfl), Int.mul_zero, Int.zero_mul]
        · rw [Int.zero_mul]
    rw [h0, h1]
    omega
  · have qf := tb_not.mp q
    have hp := pop_ins qf hu
    have e1 : con u (wg v ω) S = sg (pop 8 S + pop u S) * wg v ω (S ||| 2 ^ u) := by unfold con; rw [if_neg q]
    rw [e1, wg_8, wg_8, ← zs_mul]
    have e2 : zs (fun j => sg (pop 8 S + pop u S) * (cf ω (S ||| 2 ^ u) j * v j)) 8 = zs (fun j => (if j = u then v u * ω S else 0) - cf (con u ω) S j * v j) 8 := by
      refine zs_congr 8 (fun j hj => ?_)
      by_cases ej : j = u
      · subst ej
        rw [if_pos rfl]
        have c0 : cf (con j ω) S j = 0 := by unfold cf; rw [if_neg q]
        rw [c0]
        unfold cf
        rw [if_pos (by rw [Nat.testBit_or, tb_pow]; simp), or_del_self qf, hp, pop_or_lt (Nat.le_refl j), ← Int.mul_assoc, ← Int.mul_assoc, show pop 8 S + 1 + 1 + pop j S = (pop 8 S + pop j S) + 2 by omega, sg_add (pop 8 S + pop j S) 2, show sg 2 = 1 from rfl, Int.mul_one, sg_sq, Int.one_mul, Int.zero_mul, Int.mul_comm]
        omega
      · rw [if_neg ej]
        unfold cf
        have e3 : (S ||| 2 ^ u).testBit j = S.testBit j := by
          rw [Nat.testBit_or, tb_pow, decide_eq_false (fun z => ej z.symm), Bool.or_false]
        rw [e3]
        by_cases qj : S.testBit j = true
        · rw [if_pos qj, if_pos qj]
          unfold con
          have e4 : (bdiff S (2 ^ j)).testBit u = false := by rw [tb_del, qf]; rfl
          have h8 := pop_del qj hj
          rw [if_neg (by rw [e4]; decide), or_del (fun z => ej z.symm), hp, ← Int.mul_assoc, ← Int.mul_assoc, ← Int.mul_assoc, ← sg_add, ← sg_add, Int.zero_sub, ← Int.neg_mul, ← Int.neg_mul, ← sg_succ]
          congr 2
          unfold sg
          congr 1
          rcases Nat.lt_or_gt_of_ne ej with z | z
          · have h9 := pop_del qj z
            rw [pop_or_lt (Nat.le_of_lt z)]
            rw [show pop 8 S + pop u S + (pop 8 S + 1 + 1 + pop j S) = (pop u S + pop j S) + 2 * (pop 8 S + 1) by omega, show pop 8 S + 1 + pop j S + (pop 8 (bdiff S (2 ^ j)) + pop u (bdiff S (2 ^ j))) + 1 = (pop u S + pop j S) + 2 * pop 8 S by omega, Nat.add_mul_mod_self_left, Nat.add_mul_mod_self_left]
          · have h9 := pop_ins (a := S) (r := u) (k := j) qf z
            have h10 := pop_del_lt qj (Nat.le_of_lt z)
            rw [h9, h10]
            rw [show pop 8 S + pop u S + (pop 8 S + 1 + 1 + (pop j S + 1)) = (pop u S + pop j S + 1) + 2 * (pop 8 S + 1) by omega, show pop 8 S + 1 + pop j S + (pop 8 (bdiff S (2 ^ j)) + pop u S) + 1 = (pop u S + pop j S + 1) + 2 * pop 8 S by omega, Nat.add_mul_mod_self_left, Nat.add_mul_mod_self_left]
        · rw [if_neg qj, if_neg qj, Int.zero_mul, Int.mul_zero]
          rfl
    rw [e2, zs_sub, zs_one hu (fun j _ hj => by rw [if_neg hj]), if_pos rfl]
