/-! What holds of an elimination whose numbers stay whole. -/
/-- the vector of a line: a pivot's column, or a unit vector -/
def bv (a : Nat → Nat → Int) (c σ : Nat → Nat) (k i u : Nat) : Int := if i < k then a (c i) u else if σ i = u then 1 else 0
def Lm (σ : Nat → Nat) : Nat → Nat
  | 0 => 0
  | k + 1 => Lm σ k ||| 2 ^ σ k
theorem Lm_tb (σ : Nat → Nat) (u : Nat) : ∀ k, (Lm σ k).testBit u = true ↔ ∃ i, i < k ∧ σ i = u := by
  intro k
  induction k with
  | zero =>
    rw [Lm, Nat.zero_testBit]
    exact ⟨fun h => (by cases h), fun ⟨i, hi, _⟩ => (by omega)⟩
  | succ k ih =>
    rw [Lm, Nat.testBit_or, Bool.or_eq_true, ih, tb_pow, decide_eq_true_iff]
    constructor
    · rintro (⟨i, h1, h2⟩ | h)
      · exact ⟨i, by omega, h2⟩
      · exact ⟨k, by omega, h⟩
    · rintro ⟨i, h1, h2⟩
      by_cases e : i = k
      · rw [e] at h2; exact Or.inr h2
      · exact Or.inl ⟨i, by omega, h2⟩
def phi (m : Nat) (F : Nat → Nat → Int) (x : Nat → Int) (i : Nat) : Int := zs (fun j => F i j * x j) m
def EI (m : Nat) (a : Nat → Nat → Int) (k : Nat) (c σ : Nat → Nat) (F : Nat → Nat → Int) (p : Int) : Prop :=
  k ≤ m ∧ (∀ i, i < m → σ i < m) ∧ (∀ i j, i < m → j < m → σ i = σ j → i = j) ∧ p ≠ 0 ∧
  (∀ j u, j < m → u < m → (if j = u then p else 0) = zs (fun i => F i j * bv a c σ k i u) m) ∧
  ∃ e : Int, (e = 1 ∨ e = -1) ∧ p = e * om (fun i => a (c i)) k (Lm σ k)
theorem pm_mul {a b : Int} (ha : a = 1 ∨ a = -1) (hb : b = 1 ∨ b = -1) : a * b = 1 ∨ a * b = -1 := by
  rcases ha with h | h <;> rcases hb with z | z <;> rw [h, z]
  · exact Or.inl rfl
  · exact Or.inr rfl
  · exact Or.inr rfl
  · exact Or.inl rfl
theorem pm_neg {a : Int} (ha : a = 1 ∨ a = -1) : -a = 1 ∨ -a = -1 := by
  rcases ha with h | h <;> rw [h]
  · exact Or.inr rfl
  · exact Or.inl rfl
theorem pm_sq {a : Int} (ha : a = 1 ∨ a = -1) : a * a = 1 := by
  rcases ha with h | h <;> rw [h] <;> rfl
section EL
variable {m k p0 : Nat} {a : Nat → Nat → Int} {c σ : Nat → Nat} {F : Nat → Nat → Int} {p : Int}
/-- a linear form, by the lines -/
theorem EI_ap (h : EI m a k c σ F p) (K x : Nat → Int) : p * zs (fun u => K u * x u) m = zs (fun i => phi m F x i * zs (fun u => K u * bv a c σ k i u) m) m := by
  obtain ⟨_, _, _, _, h5, _⟩ := h
  rw [zs_lin, ← zs_mul]
  refine zs_congr m (fun u hu => ?_)
  have e1 : zs (fun i => phi m F x i * bv a c σ k i u) m = p * x u := by
    have : zs (fun i => phi m F x i * bv a c σ k i u) m = zs (fun i => bv a c σ k i u * zs (fun j => F i j * x j) m) m := zs_congr m (fun i _ => Int.mul_comm _ _)
    rw [this]
    have e2 : zs (fun i => bv a c σ k i u * zs (fun j => F i j * x j) m) m = zs (fun i => zs (fun j => x j * (F i j * bv a c σ k i u)) m) m := by
      refine zs_congr m (fun i _ => ?_)
      rw [← zs_mul]
      refine zs_congr m (fun j _ => ?_)
      rw [Int.mul_comm (x j), Int.mul_comm (bv a c σ k i u), Int.mul_right_comm]
    rw [e2, zs_comm]
    have e3 : zs (fun j => zs (fun i => x j * (F i j * bv a c σ k i u)) m) m = zs (fun j => x j * (if j = u then p else 0)) m := by
      refine zs_congr m (fun j hj => ?_)
      rw [zs_mul, ← h5 j u hj hu]
    rw [e3, zs_one hu (fun j _ hj => by rw [if_neg hj, Int.mul_zero]), if_pos rfl, Int.mul_comm]
  rw [e1, Int.mul_left_comm]
theorem EI_x (h : EI m a k c σ F p) (x : Nat → Int) {u : Nat} (hu : u < m) : p * x u = zs (fun i => phi m F x i * bv a c σ k i u) m := by
  have := EI_ap h (fun v => if v = u then 1 else 0) x
  rw [zs_one hu (fun v _ hv => by rw [if_neg hv, Int.zero_mul]), if_pos rfl, Int.one_mul] at this
  rw [this]
  refine zs_congr m (fun i _ => ?_)
  rw [zs_one hu (fun v _ hv => by rw [if_neg hv, Int.zero_mul]), if_pos rfl, Int.one_mul]
theorem Lm_lt (h : EI m a k c σ F p) {n : Nat} (hn : n ≤ m) : Lm σ n < 2 ^ m := by
  apply Nat.lt_pow_two_of_testBit
  intro u hu
  rw [← Bool.not_eq_true, Lm_tb]
  rintro ⟨i, h1, h2⟩
  have := h.2.1 i (by omega)
  omega
theorem Lm_not (h : EI m a k c σ F p) {l : Nat} (hl : k ≤ l) (hlm : l < m) : (Lm σ k).testBit (σ l) = false := by
  rw [← tb_not, Lm_tb]
  rintro ⟨i, h1, h2⟩
  have := h.2.2.1 i l (by omega) hlm h2
  omega
/-- a coefficient at a bit that is there, up to its sign -/
theorem cf_pm {Θ : Nat → Int} {T u : Nat} (hu : T.testBit u = true) : ∃ e : Int, (e = 1 ∨ e = -1) ∧ cf Θ T u = e * Θ (bdiff T (2 ^ u)) := by
  unfold cf
  rw [if_pos hu]
  exact ⟨_, sg_1 _, rfl⟩
theorem cf_no {Θ : Nat → Int} {T u : Nat} (hu : T.testBit u = false) : cf Θ T u = 0 := by
  unfold cf
  rw [if_neg (by rw [hu]; decide)]
/-- κ of the lines' vectors -/
theorem kap (h : EI m a k c σ F p) {Θ : Nat → Int} {T i : Nat} (hT : T < 2 ^ m) (hm : m ≤ 8) (hi : i < m) : zs (fun u => cf Θ T u * bv a c σ k i u) m = if i < k then wg (a (c i)) Θ T else cf Θ T (σ i) := by
  unfold bv
  by_cases q : i < k
  · rw [if_pos q, wg_zs _ _ hT hm]
    refine zs_congr m (fun u _ => ?_)
    rw [if_pos q]
  · rw [if_neg q, zs_one (h.2.1 i hi) (fun u _ hu => by rw [if_neg q, if_neg (fun z => hu z.symm), Int.mul_zero]), if_neg q, if_pos rfl, Int.mul_one]
theorem or_add_tb {S u v : Nat} : (S ||| 2 ^ u).testBit v = (S.testBit v || decide (u = v)) := by rw [Nat.testBit_or, tb_pow]
theorem or_lt_m {S u m : Nat} (hS : S < 2 ^ m) (hu : u < m) : S ||| 2 ^ u < 2 ^ m := Nat.or_lt_two_pow hS (Nat.pow_lt_pow_right (by omega) hu)
/-- a line below the pivots -/
theorem EI_th (h : EI m a k c σ F p) (hm : m ≤ 8) {l : Nat} (hl : k ≤ l) (hlm : l < m) : ∃ e : Int, (e = 1 ∨ e = -1) ∧ ∀ x, wg x (om (fun i => a (c i)) k) (Lm σ k ||| 2 ^ σ l) = e * phi m F x l := by
  have hL := Lm_lt h h.1
  have hT := or_lt_m hL (h.2.1 l hlm)
  obtain ⟨e, e1, e2⟩ := h.2.2.2.2.2
  have hbit : (Lm σ k ||| 2 ^ σ l).testBit (σ l) = true := by rw [or_add_tb]; simp
  obtain ⟨s, s1, s2⟩ := cf_pm (Θ := om (fun i => a (c i)) k) hbit
  rw [or_del_self (Lm_not h hl hlm)] at s2
  refine ⟨s * e, pm_mul s1 e1, fun x => ?_⟩
  have key := EI_ap h (fun u => cf (om (fun i => a (c i)) k) (Lm σ k ||| 2 ^ σ l) u) x
  rw [← wg_zs _ _ hT hm] at key
  have e3 : zs (fun i => phi m F x i * zs (fun u => cf (om (fun i => a (c i)) k) (Lm σ k ||| 2 ^ σ l) u * bv a c σ k i u) m) m = phi m F x l * cf (om (fun i => a (c i)) k) (Lm σ k ||| 2 ^ σ l) (σ l) := by
    rw [zs_one hlm (fun i hi hil => ?_)]
    · rw [kap h hT hm hlm, if_neg (by omega)]
    · rw [kap h hT hm hi]
      by_cases q : i < k
      · rw [if_pos q, om_dup (v := fun i => a (c i)) q, Int.mul_zero]
      · rw [if_neg q, cf_no, Int.mul_zero]
        rw [or_add_tb, Lm_not h (by omega) hi, decide_eq_false (fun z => hil (h.2.2.1 i l hi hlm z.symm))]
        rfl
  rw [e3, s2] at key
  have hp := h.2.2.2.1
  have ew : om (fun i => a (c i)) k (Lm σ k) = e * p := by rw [e2, ← Int.mul_assoc, pm_sq e1, Int.one_mul]
  rw [ew] at key
  refine Int.eq_of_mul_eq_mul_left hp ?_
  rw [key]
  ac_rfl
/-- a pivot's line -/
theorem EI_et (h : EI m a k c σ F p) (hm : m ≤ 8) {i : Nat} (hi : i < k) : ∃ e : Int, (e = 1 ∨ e = -1) ∧ ∀ x, wg x (om (skp (fun i => a (c i)) i) (k - 1)) (Lm σ k) = e * phi m F x i := by
  have hL := Lm_lt h h.1
  have hkm := h.1
  obtain ⟨e, e1, e2⟩ := h.2.2.2.2.2
  obtain ⟨k', rfl⟩ : ∃ k', k = k' + 1 := ⟨k - 1, by omega⟩
  rw [Nat.add_sub_cancel]
  obtain ⟨s, s1, s2⟩ := om_skip (v := fun i => a (c i)) (i := i) (k := k') (by omega)
  refine ⟨s * e, pm_mul s1 e1, fun x => ?_⟩
  have key := EI_ap h (fun u => cf (om (skp (fun i => a (c i)) i) k') (Lm σ (k' + 1)) u) x
  rw [← wg_zs _ _ hL hm] at key
  have e3 : zs (fun l => phi m F x l * zs (fun u => cf (om (skp (fun i => a (c i)) i) k') (Lm σ (k' + 1)) u * bv a c σ (k' + 1) l u) m) m = phi m F x i * wg (a (c i)) (om (skp (fun i => a (c i)) i) k') (Lm σ (k' + 1)) := by
    rw [zs_one (show i < m by omega) (fun l hl hli => ?_)]
    · rw [kap h hL hm (by omega), if_pos hi]
    · rw [kap h hL hm hl]
      by_cases q : l < k' + 1
      · rw [if_pos q, om_skdup (v := fun i => a (c i)) (by omega) hli _ (by omega), Int.mul_zero]
      · rw [if_neg q, cf_no (Lm_not h (by omega) hl), Int.mul_zero]
  have hp := h.2.2.2.1
  have ew : om (fun i => a (c i)) (k' + 1) (Lm σ (k' + 1)) = e * p := by rw [e2, ← Int.mul_assoc, pm_sq e1, Int.one_mul]
  rw [e3, s2, ew] at key
  refine Int.eq_of_mul_eq_mul_left hp ?_
  rw [key]
  ac_rfl
theorem same_sign {s1 s2 u v : Int} (h1 : s1 = 1 ∨ s1 = -1) (h2 : s2 = 1 ∨ s2 = -1) (hu : u ≠ 0) (h : v * (s1 * u) + u * (s2 * v) = 0) (x y : Int) : y * (s1 * u) + x * (s2 * v) = s1 * (u * y - v * x) := by
  by_cases hv : v = 0
  · subst hv
    rw [Int.mul_zero, Int.mul_zero, Int.zero_mul, Int.add_zero, Int.sub_zero]
    ac_rfl
  · have : s2 = -s1 := by
      have e : (s1 + s2) * (u * v) = 0 := by
        rw [Int.add_mul, ← h]
        congr 1 <;> ac_rfl
      rcases Int.mul_eq_zero.mp e with z | z
      · omega
      · rcases Int.mul_eq_zero.mp z with y | y
        · exact absurd y hu
        · exact absurd y hv
    rw [this, Int.mul_sub, Int.neg_mul, Int.mul_neg, Int.sub_eq_add_neg]
    congr 1
    · ac_rfl
    · congr 1
      ac_rfl
/-- the next numbers are whole -/
theorem EI_div (h : EI m a k c σ F p) (hm : m ≤ 8) (hk : k < m) {y : Nat → Int} (hy : phi m F y k ≠ 0) {i : Nat} (hi : i < m) (hik : i ≠ k) : ∃ K : Nat → Int, ∀ x, p * zs (fun j => K j * x j) m = phi m F y k * phi m F x i - phi m F y i * phi m F x k := by
  have hL := Lm_lt h h.1
  obtain ⟨tk, tk1, tk2⟩ := EI_th h hm (Nat.le_refl k) hk
  have hTk := or_lt_m hL (h.2.1 k hk)
  -- out of a form that is known at y
  have fin : ∀ (Θ : Nat → Int) (T : Nat) (s1 s2 : Int), T < 2 ^ m → (s1 = 1 ∨ s1 = -1) → (s2 = 1 ∨ s2 = -1) → (∀ x, p * wg x Θ T = phi m F x i * (s1 * phi m F y k) + phi m F x k * (s2 * phi m F y i)) → wg y Θ T = 0 → ∃ K : Nat → Int, ∀ x, p * zs (fun j => K j * x j) m = phi m F y k * phi m F x i - phi m F y i * phi m F x k := by
    intro Θ T s1 s2 hT h1 h2 hf h0
    have hz := hf y
    rw [h0, Int.mul_zero] at hz
    refine ⟨fun j => s1 * cf Θ T j, fun x => ?_⟩
    have e1 : zs (fun j => s1 * cf Θ T j * x j) m = s1 * wg x Θ T := by
      rw [wg_zs _ _ hT hm, ← zs_mul]
      exact zs_congr m (fun j _ => Int.mul_assoc _ _ _)
    rw [e1, Int.mul_left_comm, hf x, same_sign h1 h2 hy hz.symm, ← Int.mul_assoc, pm_sq h1, Int.one_mul]
  by_cases hlt : i < k
  · -- a pivot's line
    obtain ⟨te, te1, te2⟩ := EI_et h hm hlt
    obtain ⟨k', rfl⟩ : ∃ k', k = k' + 1 := ⟨k - 1, by omega⟩
    rw [Nat.add_sub_cancel] at te2
    obtain ⟨s, s1, s2⟩ := om_skip (v := fun i => a (c i)) (i := i) (k := k') (by omega)
    have hbit : (Lm σ (k' + 1) ||| 2 ^ σ (k' + 1)).testBit (σ (k' + 1)) = true := by rw [or_add_tb]; simp
    obtain ⟨r, r1, r2⟩ := cf_pm (Θ := wg y (om (skp (fun i => a (c i)) i) k')) hbit
    rw [or_del_self (Lm_not h (Nat.le_refl _) hk), te2] at r2
    refine fin (wg y (om (skp (fun i => a (c i)) i) k')) (Lm σ (k' + 1) ||| 2 ^ σ (k' + 1)) (-(s * tk)) (r * te) hTk (pm_neg (pm_mul s1 tk1)) (pm_mul r1 te1) (fun x => ?_) (wg_self _ _ _)
    have key := EI_ap h (fun u => cf (wg y (om (skp (fun i => a (c i)) i) k')) (Lm σ (k' + 1) ||| 2 ^ σ (k' + 1)) u) x
    rw [← wg_zs _ _ hTk hm] at key
    rw [key, zs_two (k := i) (l := k' + 1) hi hk hik (fun l hl h1 h2 => ?_)]
    · rw [kap h hTk hm hi, if_pos hlt, kap h hTk hm hk, if_neg (by omega), r2, wg_anti, show wg (a (c i)) (om (skp (fun i => a (c i)) i) k') = fun S => s * om (fun i => a (c i)) (k' + 1) S from funext s2, wg_scale, tk2, Int.neg_mul, ← Int.mul_assoc s, ← Int.mul_assoc r]
    · rw [kap h hTk hm hl]
      by_cases q : l < k' + 1
      · rw [if_pos q, wg_anti, wg_nil _ (om_skdup (v := fun i => a (c i)) (by omega) h1 · (by omega))]
        show _ * (-(0 : Int)) = 0
        rw [Int.neg_zero, Int.mul_zero]
      · rw [if_neg q, cf_no, Int.mul_zero]
        rw [or_add_tb, Lm_not h (by omega) hl, decide_eq_false (fun z => h2 (h.2.2.1 l (k' + 1) hl hk z.symm))]
        rfl
  · -- a line below
    have hki : k ≤ i := by omega
    obtain ⟨ti, ti1, ti2⟩ := EI_th h hm hki hi
    have hne : σ k ≠ σ i := fun z => hik (h.2.2.1 i k hi hk z.symm)
    have hT2 : Lm σ k ||| 2 ^ σ k ||| 2 ^ σ i < 2 ^ m := or_lt_m hTk (h.2.1 i hi)
    have hb1 : (Lm σ k ||| 2 ^ σ k ||| 2 ^ σ i).testBit (σ i) = true := by rw [or_add_tb]; simp
    have hb2 : (Lm σ k ||| 2 ^ σ k ||| 2 ^ σ i).testBit (σ k) = true := by rw [or_add_tb, or_add_tb]; simp
    obtain ⟨r, r1, r2⟩ := cf_pm (Θ := wg y (om (fun i => a (c i)) k)) hb1
    obtain ⟨q, q1, q2⟩ := cf_pm (Θ := wg y (om (fun i => a (c i)) k)) hb2
    have d1 : bdiff (Lm σ k ||| 2 ^ σ k ||| 2 ^ σ i) (2 ^ σ i) = Lm σ k ||| 2 ^ σ k := or_del_self (by rw [or_add_tb, Lm_not h hki hi, decide_eq_false hne]; rfl)
    have d2 : bdiff (Lm σ k ||| 2 ^ σ k ||| 2 ^ σ i) (2 ^ σ k) = Lm σ k ||| 2 ^ σ i := by
      rw [or_swap, or_del_self]
      rw [or_add_tb, Lm_not h (Nat.le_refl _) hk, decide_eq_false (fun z => hne z.symm)]
      rfl
    rw [d1, tk2] at r2
    rw [d2, ti2] at q2
    refine fin (wg y (om (fun i => a (c i)) k)) (Lm σ k ||| 2 ^ σ k ||| 2 ^ σ i) (r * tk) (q * ti) hT2 (pm_mul r1 tk1) (pm_mul q1 ti1) (fun x => ?_) (wg_self _ _ _)
    have key := EI_ap h (fun u => cf (wg y (om (fun i => a (c i)) k)) (Lm σ k ||| 2 ^ σ k ||| 2 ^ σ i) u) x
    rw [← wg_zs _ _ hT2 hm] at key
    rw [key, zs_two (k := i) (l := k) hi hk hik (fun l hl h1 h2 => ?_)]
    · rw [kap h hT2 hm hi, if_neg hlt, kap h hT2 hm hk, if_neg (by omega), r2, q2, ← Int.mul_assoc r, ← Int.mul_assoc q]
    · rw [kap h hT2 hm hl]
      by_cases z : l < k
      · rw [if_pos z, wg_anti, wg_nil _ (om_dup (v := fun i => a (c i)) z)]
        show _ * (-(0 : Int)) = 0
        rw [Int.neg_zero, Int.mul_zero]
      · rw [if_neg z, cf_no, Int.mul_zero]
        rw [or_add_tb, or_add_tb, Lm_not h (by omega) hl, decide_eq_false (fun y => h2 (h.2.2.1 l k hl hk y.symm)), decide_eq_false (fun y => h1 (h.2.2.1 l i hl hi y.symm))]
        rfl
/-- the step -/
theorem EI_step (h : EI m a k c σ F p) (hm : m ≤ 8) (hk : k < m) {cc : Nat} (hy : phi m F (a cc) k ≠ 0) : ∃ F' : Nat → Nat → Int, EI m a (k + 1) (fun i => if i = k then cc else c i) σ F' (phi m F (a cc) k) ∧ (∀ x, phi m F' x k = phi m F x k) ∧ ∀ i, i < m → i ≠ k → ∀ x, p * phi m F' x i = phi m F (a cc) k * phi m F x i - phi m F (a cc) i * phi m F x k := by
  obtain ⟨K, hK⟩ := Classical.axiomOfChoice (r := fun (i : Nat) (K : Nat → Int) => i < m → i ≠ k → ∀ x, p * zs (fun j => K j * x j) m = phi m F (a cc) k * phi m F x i - phi m F (a cc) i * phi m F x k) (fun i => by
    by_cases q : i < m ∧ i ≠ k
    · obtain ⟨K, hK⟩ := EI_div h hm hk hy q.1 q.2
      exact ⟨K, fun _ _ => hK⟩
    · exact ⟨fun _ => 0, fun a b => absurd ⟨a, b⟩ q⟩)
  have f1 : ∀ x, phi m (fun i => if i = k then F k else K i) x k = phi m F x k := by
    intro x
    unfold phi
    exact zs_congr m (fun j _ => by
      show (if k = k then F k else K k) j * x j = F k j * x j
      rw [if_pos rfl])
  have f2 : ∀ i, i < m → i ≠ k → ∀ x, p * phi m (fun i => if i = k then F k else K i) x i = phi m F (a cc) k * phi m F x i - phi m F (a cc) i * phi m F x k := by
    intro i hi hik x
    rw [← hK i hi hik x]
    congr 1
    unfold phi
    exact zs_congr m (fun j _ => by
      show (if i = k then F k else K i) j * x j = K i j * x j
      rw [if_neg hik])
  refine ⟨fun i => if i = k then F k else K i, ⟨by omega, h.2.1, h.2.2.1, hy, fun j u hj hu => ?_, ?_⟩, f1, f2⟩
  · have hp := h.2.2.2.1
    refine Int.eq_of_mul_eq_mul_left hp ?_
    -- unit vector
    have hphi : ∀ i, phi m F (fun v => if v = j then 1 else 0) i = F i j := by
      intro i
      unfold phi
      rw [zs_one hj (fun v _ hv => by
        show F i v * (if v = j then 1 else 0) = 0
        rw [if_neg hv, Int.mul_zero])]
      show F i j * (if j = j then 1 else 0) = F i j
      rw [if_pos rfl, Int.mul_one]
    have hEx := EI_x h (a cc) hu
    have hEj := h.2.2.2.2.1 j u hj hu
    have e1 : p * zs (fun i => (if i = k then F k else K i) j * bv a (fun i => if i = k then cc else c i) σ (k + 1) i u) m = zs (fun i => phi m F (a cc) k * (F i j * bv a c σ k i u) - F k j * (phi m F (a cc) i * bv a c σ k i u) + (if i = k then F k j * (p * a cc u) else 0)) m := by
      rw [← zs_mul]
      refine zs_congr m (fun i hi => ?_)
      by_cases q : i = k
      · subst q
        have b1 : bv a (fun l => if l = i then cc else c l) σ (i + 1) i u = a cc u := by
          unfold bv
          rw [if_pos (by omega)]
          show a (if i = i then cc else c i) u = a cc u
          rw [if_pos rfl]
        rw [if_pos rfl, if_pos rfl, b1, Int.mul_left_comm (phi m F (a cc) i), Int.sub_self, Int.zero_add, Int.mul_left_comm]
      · have b1 : bv a (fun l => if l = k then cc else c l) σ (k + 1) i u = bv a c σ k i u := by
          unfold bv
          by_cases z : i < k
          · rw [if_pos (by omega), if_pos z]
            show a (if i = k then cc else c i) u = a (c i) u
            rw [if_neg q]
          · rw [if_neg (by omega), if_neg z]
        have h2 := hK i hi q (fun v => if v = j then 1 else 0)
        rw [zs_one hj (fun v _ hv => by rw [if_neg hv, Int.mul_zero]), if_pos rfl, Int.mul_one, hphi, hphi] at h2
        rw [if_neg q, if_neg q, b1, Int.add_zero, ← Int.mul_assoc, h2, Int.sub_mul, Int.mul_assoc]
        congr 1
        ac_rfl
    rw [e1, zs_add, zs_sub, zs_mul, zs_mul, ← hEj, ← hEx, zs_one hk (fun i _ hi => by rw [if_neg hi]), if_pos rfl]
    by_cases q : j = u
    · rw [if_pos q, if_pos q, Int.mul_comm p]
      omega
    · rw [if_neg q, if_neg q, Int.mul_zero, Int.mul_zero]
      omega
  · obtain ⟨tk, tk1, tk2⟩ := EI_th h hm (Nat.le_refl k) hk
    refine ⟨tk, tk1, ?_⟩
    have e1 : om (fun i => a (if i = k then cc else c i)) (k + 1) (Lm σ (k + 1)) = wg (a cc) (om (fun i => a (c i)) k) (Lm σ k ||| 2 ^ σ k) := by
      show wg (a (if k = k then cc else c k)) (om (fun i => a (if i = k then cc else c i)) k) (Lm σ k ||| 2 ^ σ k) = _
      rw [if_pos rfl]
      refine wg_congr (fun _ _ _ => rfl) (fun j _ _ => om_congr (fun i hi j _ => ?_) _)
      try dsimp only
      rw [if_neg (by omega)]
    rw [e1, tk2, ← Int.mul_assoc, pm_sq tk1, Int.one_mul]
theorem EI_start (m : Nat) (a : Nat → Nat → Int) : EI m a 0 (fun _ => 0) (fun i => i) (fun i j => if i = j then 1 else 0) 1 := by
  refine ⟨Nat.zero_le _, fun i hi => hi, fun i j _ _ h => h, by decide, fun j u hj hu => ?_, 1, Or.inl rfl, rfl⟩
  rw [zs_one hj (fun i _ hi => by
    show (if i = j then (1 : Int) else 0) * _ = 0
    rw [if_neg hi, Int.zero_mul])]
  show (if j = u then (1 : Int) else 0) = (if j = j then (1 : Int) else 0) * bv a (fun _ => 0) (fun i => i) 0 j u
  rw [if_pos rfl, Int.one_mul]
  unfold bv
  rw [if_neg (Nat.not_lt_zero j)]
/-- two lines below the pivots change places -/
def sw (k l i : Nat) : Nat := if i = k then l else if i = l then k else i
theorem zs_sw {f : Nat → Int} {n k l : Nat} (hk : k < n) (hl : l < n) : zs (fun i => f (sw k l i)) n = zs f n := by
  by_cases e : k = l
  · refine zs_congr n (fun i _ => ?_)
    unfold sw
    by_cases q : i = k
    · rw [if_pos q, q, e]
    · rw [if_neg q, if_neg (by omega)]
  · have split : ∀ g : Nat → Int, zs g n = zs (fun i => if i = k ∨ i = l then 0 else g i) n + (g k + g l) := by
      intro g
      have e2 : zs (fun i => if i = k ∨ i = l then g i else 0) n = g k + g l := by
        rw [zs_two (f := fun i => if i = k ∨ i = l then g i else 0) hk hl e (fun i _ h1 h2 => by
          show (if i = k ∨ i = l then g i else 0) = 0
          rw [if_neg (fun z => z.elim h1 h2)])]
        show (if k = k ∨ k = l then g k else 0) + (if l = k ∨ l = l then g l else 0) = _
        rw [if_pos (Or.inl rfl), if_pos (Or.inr rfl)]
      rw [← e2, ← zs_add]
      refine zs_congr n (fun i _ => ?_)
      by_cases q : i = k ∨ i = l
      · rw [if_pos q, if_pos q]; omega
      · rw [if_neg q, if_neg q]; omega
    rw [split (fun i => f (sw k l i)), split f]
    have e1 : sw k l k = l := by unfold sw; rw [if_pos rfl]
    have e2 : sw k l l = k := by unfold sw; rw [if_neg (fun z => e z.symm), if_pos rfl]
    rw [e1, e2]
    have e3 : zs (fun i => if i = k ∨ i = l then 0 else f (sw k l i)) n = zs (fun i => if i = k ∨ i = l then 0 else f i) n := zs_congr n (fun i _ => by
      by_cases q : i = k ∨ i = l
      · rw [if_pos q, if_pos q]
      · rw [if_neg q, if_neg q]
        unfold sw
        rw [if_neg (fun z => q (Or.inl z)), if_neg (fun z => q (Or.inr z))])
    rw [e3]
    omega
theorem sw_lt {k l i n : Nat} (hk : k < n) (hl : l < n) (hi : i < n) : sw k l i < n := by
  unfold sw
  split
  · exact hl
  · split
    · exact hk
    · exact hi
theorem sw_sw (k l i : Nat) : sw k l (sw k l i) = i := by
  unfold sw
  by_cases h1 : i = k
  · rw [if_pos h1]
    by_cases h2 : l = k
    · rw [if_pos h2]; omega
    · rw [if_neg h2, if_pos rfl]; omega
  · rw [if_neg h1]
    by_cases h2 : i = l
    · rw [if_pos h2, if_pos rfl]; omega
    · rw [if_neg h2, if_neg h1, if_neg h2]
theorem EI_swap (h : EI m a k c σ F p) (hk : k < m) {l : Nat} (hl : k ≤ l) (hlm : l < m) : EI m a k c (fun i => σ (sw k l i)) (fun i => F (sw k l i)) p := by
  obtain ⟨h1, h2, h3, h4, h5, h6⟩ := h
  have lowk : ∀ i, i < k → sw k l i = i := by
    intro i hi
    unfold sw
    rw [if_neg (by omega), if_neg (by omega)]
  refine ⟨h1, fun i hi => h2 _ (sw_lt hk hlm hi), fun i j hi hj e => ?_, h4, fun j u hj hu => ?_, ?_⟩
  · have := h3 _ _ (sw_lt hk hlm hi) (sw_lt hk hlm hj) e
    rw [← sw_sw k l i, this, sw_sw]
  · rw [h5 j u hj hu, ← zs_sw (f := fun i => F i j * bv a c σ k i u) hk hlm]
    refine zs_congr m (fun i hi => ?_)
    congr 1
    unfold bv
    by_cases q : i < k
    · rw [lowk i q, if_pos q, if_pos q]
    · have : ¬ sw k l i < k := by
        unfold sw
        split
        · omega
        · split
          · omega
          · exact q
      rw [if_neg this, if_neg q]
  · obtain ⟨e, e1, e2⟩ := h6
    refine ⟨e, e1, ?_⟩
    have : ∀ n, n ≤ k → Lm (fun i => σ (sw k l i)) n = Lm σ n := by
      intro n
      induction n with
      | zero => intro _; rfl
      | succ n ih =>
        intro hn
        rw [Lm, Lm, ih (by omega), lowk n (by omega)]
    rw [this k (Nat.le_refl k)]
    exact e2
end EL
