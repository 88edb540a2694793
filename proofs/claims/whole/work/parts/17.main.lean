/-! All instructions together, and the methods: by induction on the steps. -/
/-- what is known of a class's links -/
def gOwn (ow : Nat) (own : String) : Prop :=
  (∀ i ci k, lkF ow i ci k = true → ∃ C T N ty0, gFact ci k C T N ty0 ∧ (Cond.fieldLink own i C (T k).2.1 (T k).2.2.1 ∈ gALL ∨ ∃ host, Cond.fieldLinkNest own i C (T k).2.1 (T k).2.2.1 host ∈ lw_tbl)) ∧
  (∀ i ci k, lkP ow i ci k = true → ∀ C T N, vwCl[ci]? = some (C, T, N) → Cond.fieldLink own i C (T k).2.1 (T k).2.2.1 ∈ gALL) ∧
  (∀ i m, lkM ow i m = true → m < gNM → gMFact m ∧ (Cond.methodLink own i (gY m) ∈ gALL ∨ ((gD m).2.2.2.2.1 = true ∧ ∃ host, Cond.methodLinkNest own i (gY m) host ∈ lw_tbl))) ∧
  (∀ i k, lkX ow i k = true → Cond.methodLink own i (gXname k) ∈ gALL) ∧
  (∀ i v, lkI ow i v = true → Cond.constant own i (Int32.ofInt v) ∈ gALL) ∧
  (∀ i v, lkJ ow i v = true → Cond.constantLong own i (Int64.ofInt v) ∈ gALL)
/-- the kind of an answer and the type that the method's row tells -/
def gRet (rk : Nat) (ret : Option FieldType) : Prop := match rk with
  | 0 => ret = none
  | 1 => ret = some .int
  | 2 => ret = some .long
  | 3 => ret = some .boolean
  | _ => ∃ n, ret = some (.object n)
/-- a String constant and the 'nameOf' of it, as one instruction: proved apart -/
def gNameOf (l : Launch) : Prop := ∀ {p : Program} {e : Env} {R : Room} {s : State} {mid : MethodId} {args : Array Value} {below : List Frame} {meth : Method} {c : Code} {cc : ByteArray} {nL : Nat} {Ts : List Jvm.Cond} {own : String} {Q : State → Prop} {D : va_G} {A : Nat → Prop} {ad kd : Nat → Nat} {wids : List Nat} {aC : Nat → ClassId}
  (h : mBun p l e R s mid args below meth c cc nL Ts own Q D A ad kd wids aC) (ow i j pc : Nat) (v : Int) (L S : List mV) (M : mM), own = gcls ow → (gNO ow).any (fun q => Nat.beq q.1 i && decide (q.2.2 = v) && decide (decode cc (pc + 2) = .ok (.invokestatic q.2.1, 3))) = true → decode cc pc = .ok (.ldc i, 2) → 5 ≤ R.frames → 8 + (nameOfL + 11) + nameOfR ≤ R.locals → S.length ≤ 4 → ms_W h (pc + 5) L (jv v :: S) M → ms_W h pc L S M
section MX
variable {p : Program} {l : Launch} {e : Env} {R : Room} {s : State} {mid : MethodId} {args : Array Value} {below : List Frame} {meth : Method} {c : Code} {cc : ByteArray} {nL : Nat} {Ts : List Jvm.Cond} {own : String} {D : va_G} {A : Nat → Prop} {ad kd : Nat → Nat} {wids : List Nat} {aC : Nat → ClassId}
variable {pc len a nx rf rl rk ow : Nat} {b : Int} {sw : List (Int × Nat)} {L S : List mV} {M : mM} {r : mV} {Mf : mM}
theorem sx_iret (h : mBun p l e R s mid args below meth c cc nL Ts own (MQ below (ms_Q D ad kd wids aC r Mf A) args s 0 0 A) D A ad kd wids aC) (hr : gRet rk meth.sig.returnType) (hlocks : meth.locks = false)
    (hc : mchkI ow nL cc rf rl (pc, .ireturn, len, a, b, sw) nx = true) (hE : ms_Eff h r Mf (mone gF gK rk (pc, .ireturn, len, a, b, sw) L S M) nx) : ms_W h pc L S M := by
  simp only [mchkI, mspec, Bool.and_eq_true, decide_eq_true_eq, and_assoc] at hc
  obtain ⟨-, hd, rfl, rfl⟩ := hc
  delta mone at hE
  dsimp only at hE
  split at hE
  · rename_i x
    split at hE
    · obtain ⟨rfl, rfl⟩ := hE
      intro ls H locs hL hS hM hP hA
      exact W.iret h.1.1 h.1.2.1 hr (fun t ht _ => ⟨⟨rfl, hS.hd, hM, by rw [ht]; exact hP⟩, hA.F ht⟩) hA.2.2 hd hlocks
    · obtain ⟨hx, rfl, rfl⟩ := hE
      intro ls H locs hL hS hM hP hA
      exact W.zret h.1.1 h.1.2.1 hr (narrow_bool hx).1 (fun t ht _ => ⟨⟨rfl, hS.hd, hM, by rw [ht]; exact hP⟩, hA.F ht⟩) hA.2.2 hd hlocks
    · exact hE.elim
  · exact hE.elim
theorem sx_lret (h : mBun p l e R s mid args below meth c cc nL Ts own (MQ below (ms_Q D ad kd wids aC r Mf A) args s 0 0 A) D A ad kd wids aC) (hr : gRet rk meth.sig.returnType) (hlocks : meth.locks = false)
    (hc : mchkI ow nL cc rf rl (pc, .lreturn, len, a, b, sw) nx = true) (hE : ms_Eff h r Mf (mone gF gK rk (pc, .lreturn, len, a, b, sw) L S M) nx) : ms_W h pc L S M := by
  simp only [mchkI, mspec, Bool.and_eq_true, decide_eq_true_eq, and_assoc] at hc
  obtain ⟨-, hd, rfl, rfl⟩ := hc
  delta mone at hE
  dsimp only at hE
  split at hE
  · rename_i x
    split at hE
    · obtain ⟨rfl, rfl⟩ := hE
      intro ls H locs hL hS hM hP hA
      exact W.lret h.1.1 h.1.2.1 hr (fun t ht _ => ⟨⟨rfl, hS.hd, hM, by rw [ht]; exact hP⟩, hA.F ht⟩) hA.2.2 hd hlocks
    · exact hE.elim
  · exact hE.elim
theorem sx_aret (h : mBun p l e R s mid args below meth c cc nL Ts own (MQ below (ms_Q D ad kd wids aC r Mf A) args s 0 0 A) D A ad kd wids aC) (hr : gRet rk meth.sig.returnType) (hlocks : meth.locks = false)
    (hc : mchkI ow nL cc rf rl (pc, .areturn, len, a, b, sw) nx = true) (hE : ms_Eff h r Mf (mone gF gK rk (pc, .areturn, len, a, b, sw) L S M) nx) : ms_W h pc L S M := by
  simp only [mchkI, mspec, Bool.and_eq_true, decide_eq_true_eq, and_assoc] at hc
  obtain ⟨-, hd, rfl, rfl⟩ := hc
  delta mone at hE
  dsimp only at hE
  split at hE
  · rename_i t o
    cases hb : Nat.beq rk (t + 10) with
    | false => rw [hb] at hE; exact hE.elim
    | true =>
      rw [hb] at hE
      have hrk : rk = t + 10 := Nat.eq_of_beq_eq_true hb
      subst hrk
      obtain ⟨n, hr⟩ : ∃ n, meth.sig.returnType = some (.object n) := hr
      obtain ⟨rfl, rfl⟩ := hE
      intro ls H locs hL hS hM hP hA
      exact W.aret h.1.1 h.1.2.1 hr (Or.inl ⟨n, rfl⟩) (Or.inr ⟨_, rfl⟩) (fun t ht _ => ⟨⟨rfl, hS.hd, hM, by rw [ht]; exact hP⟩, hA.F ht⟩) hA.2.2 hd hlocks
  · exact hE.elim
theorem sx_vret (h : mBun p l e R s mid args below meth c cc nL Ts own (MQ below (ms_Q D ad kd wids aC r Mf A) args s 0 0 A) D A ad kd wids aC) (hr : gRet rk meth.sig.returnType) (hlocks : meth.locks = false)
    (hc : mchkI ow nL cc rf rl (pc, .return_, len, a, b, sw) nx = true) (hE : ms_Eff h r Mf (mone gF gK rk (pc, .return_, len, a, b, sw) L S M) nx) : ms_W h pc L S M := by
  simp only [mchkI, mspec, Bool.and_eq_true, decide_eq_true_eq, and_assoc] at hc
  obtain ⟨-, hd, rfl, rfl⟩ := hc
  delta mone at hE
  dsimp only at hE
  split at hE
  · split at hE
    · obtain ⟨rfl, rfl⟩ := hE
      intro ls H locs hL hS hM hP hA
      exact W.vret h.1.1 h.1.2.1 hr (fun t ht _ => ⟨⟨rfl, trivial, hM, by rw [ht]; exact hP⟩, hA.F ht⟩) hA.2.2 hd hlocks
    · exact hE.elim
  · exact hE.elim
theorem sx_ldc (hNO : gNameOf l) (h : mBun p l e R s mid args below meth c cc nL Ts own (MQ below (ms_Q D ad kd wids aC r Mf A) args s 0 0 A) D A ad kd wids aC) {i : Nat} (hown : own = gcls ow) (hR : R.frames = rf ∧ R.locals = rl) (hcI : ∀ i v, lkI ow i v = true → Cond.constant own i (Int32.ofInt v) ∈ Ts)
    (hc : mchkI ow nL cc rf rl (pc, .ldc i, len, a, b, sw) nx = true) (hE : ms_Eff h r Mf (mone gF gK rk (pc, .ldc i, len, a, b, sw) L S M) nx) : ms_W h pc L S M := by
  simp only [mchkI, mspec, Bool.and_eq_true, decide_eq_true_eq, and_assoc] at hc
  obtain ⟨-, hd, hc⟩ := hc
  delta mone at hE
  dsimp only at hE
  cases a with
  | zero =>
    simp only [Bool.and_eq_true, decide_eq_true_eq, and_assoc] at hc
    obtain ⟨rfl, rfl, hk, hl⟩ := hc
    exact mi_ldc h hd (hcI i b hl) (okIb_ok hk) hE
  | succ a =>
    have hc : (decide (len = 2) && decide (nx = pc + 5) && (gNO ow).any (fun q => Nat.beq q.1 i && decide (q.2.2 = b) && decide (decode cc (pc + 2) = .ok (.invokestatic q.2.1, 3))) && decide (5 ≤ rf) && decide (8 + (nameOfL + 11) + nameOfR ≤ rl)) = true := hc
    have hE : ms_Eff h r Mf (match Nat.ble S.length 4 with | true => eN L (jv b :: S) M | false => eF M) nx := hE
    rw [Bool.and_eq_true, Bool.and_eq_true, Bool.and_eq_true, Bool.and_eq_true, decide_eq_true_eq, decide_eq_true_eq, decide_eq_true_eq, decide_eq_true_eq] at hc
    obtain ⟨⟨⟨⟨rfl, rfl⟩, h1⟩, h2⟩, h3⟩ := hc
    cases hb : Nat.ble S.length 4 with
    | false => rw [hb] at hE; exact hE.elim
    | true =>
      rw [hb] at hE
      exact hNO h ow i 0 pc b L S M hown h1 hd (by rw [hR.1]; exact h2) (by rw [hR.2]; exact h3) (Nat.ble_eq.mp hb) hE
theorem ms_step (hNO : gNameOf l) (h : mBun p l e R s mid args below meth c cc nL Ts own (MQ below (ms_Q D ad kd wids aC r Mf A) args s 0 0 A) D A ad kd wids aC) (hG : gMath) (hown : own = gcls ow) (hO : gOwn ow own) (hR : R.frames = rf ∧ R.locals = rl) (hkl : ∀ o t, o ∈ wids ∧ kd o = t → (t - 100) / 4 < 2147483648) (hr : gRet rk meth.sig.returnType) (hlocks : meth.locks = false)
    {E0 : mE} (hc : mchkI ow nL cc rf rl E0 nx = true) (hE : ms_Eff h r Mf (mone gF gK rk E0 L S M) nx) : ms_W h (mjpc E0) L S M := by
  obtain ⟨pc, ins, len, a, b, sw⟩ := E0
  obtain ⟨hF, hFP, hM, hX, hI, hJ⟩ := hO
  have hI' : ∀ i v, lkI ow i v = true → Cond.constant own i (Int32.ofInt v) ∈ Ts := fun i v q => h.2.2.2.2.1 _ (hI i v q)
  have hJ' : ∀ i v, lkJ ow i v = true → Cond.constantLong own i (Int64.ofInt v) ∈ Ts := fun i v q => h.2.2.2.2.1 _ (hJ i v q)
  cases ins
  case iconst n => exact sx_iconst h hc hE
  case bipush n => exact sx_bipush h hc hE
  case sipush n => exact sx_sipush h hc hE
  case lconst n => exact sx_lconst h hc hE
  case ldc i => exact sx_ldc hNO h hown hR hI' hc hE
  case ldc_w i => exact sx_ldc_w h hI' hc hE
  case ldc2_w i => exact sx_ldc2 h hJ' hc hE
  case iload i => exact sx_iload h hc hE
  case iload_n i => exact sx_iload_n h hc hE
  case lload i => exact sx_lload h hc hE
  case lload_n i => exact sx_lload_n h hc hE
  case aload i => exact sx_aload h hc hE
  case aload_n i => exact sx_aload_n h hc hE
  case istore i => exact sx_istore h hc hE
  case istore_n i => exact sx_istore_n h hc hE
  case lstore i => exact sx_lstore h hc hE
  case lstore_n i => exact sx_lstore_n h hc hE
  case astore i => exact sx_astore h hc hE
  case astore_n i => exact sx_astore_n h hc hE
  case iinc i n => exact sx_iinc h hc hE
  case iadd => exact sx_iadd h hc hE
  case isub => exact sx_isub h hc hE
  case imul => exact sx_imul h hc hE
  case ladd => exact sx_ladd h hc hE
  case lsub => exact sx_lsub h hc hE
  case lmul => exact sx_lmul h hc hE
  case iand => exact sx_iand h hc hE
  case ior => exact sx_ior h hc hE
  case ixor => exact sx_ixor h hc hE
  case ishl => exact sx_ishl h hc hE
  case ishr => exact sx_ishr h hc hE
  case iushr => exact sx_iushr h hc hE
  case land => exact sx_land h hc hE
  case lor => exact sx_lor h hc hE
  case lshl => exact sx_lshl h hc hE
  case ineg => exact sx_ineg h hc hE
  case lneg => exact sx_lneg h hc hE
  case lcmp => exact sx_lcmp h hc hE
  case i2l => exact sx_i2l h hc hE
  case l2i => exact sx_l2i h hc hE
  case i2b => exact sx_i2b h hc hE
  case pop => exact sx_pop h hc hE
  case irem => exact sx_irem h hc hE
  case ldiv => exact sx_ldiv h hc hE
  case lrem => exact sx_lrem h hc hE
  case dup => exact sx_dup h hc hE
  case dup2 => exact sx_dup2 h hc hE
  case ifCond cd off => exact sx_if h hc hE
  case if_icmp cd off => exact sx_icmp h hc hE
  case goto off => exact sx_goto h hc hE
  case nop => exact hE
  case tableswitch => exact sx_tsw h hc hE
  case lookupswitch => exact sx_lsw h hc hE
  case iaload => exact sx_iaload h hc hE
  case laload => exact sx_laload h hc hE
  case baload => exact sx_baload h hc hE
  case iastore => exact sx_iastore h hc hE
  case lastore => exact sx_lastore h hc hE
  case bastore => exact sx_bastore h hc hE
  case arraylength => exact sx_alen h hkl hc hE
  case getfield i => exact sx_get h hF hc hE
  case putfield i => exact sx_put h hF hFP hc hE
  case invokevirtual i => exact sx_invv h hR hM hc hE
  case invokestatic i =>
    cases sw with
    | nil => exact sx_invs0 h hR hM hc hE
    | cons q sw => exact sx_math h hR hG hX hc hE
  case ireturn => exact sx_iret h hr hlocks hc hE
  case lreturn => exact sx_lret h hr hlocks hc hE
  case areturn => exact sx_aret h hr hlocks hc hE
  case return_ => exact sx_vret h hr hlocks hc hE
  all_goals exact hE.elim
theorem mchk_tl {own nL : Nat} {cc : ByteArray} {rf rl : Nat} {E0 : mE} {es : List mE} (h : mchk own nL cc rf rl (E0 :: es) = true) : mchk own nL cc rf rl es = true := by
  cases es with
  | nil => rfl
  | cons e' es =>
    simp only [mchk, Bool.and_eq_true] at h
    exact h.2
theorem mchk_from {own nL : Nat} {cc : ByteArray} {rf rl : Nat} (n : Nat) : ∀ {es : List mE}, mchk own nL cc rf rl es = true → mchk own nL cc rf rl (mfrom n es) = true
  | [], h => h
  | E0 :: es, h => by
    unfold mfrom
    split
    · split
      · rfl
      · exact h
    · exact mchk_from n (mchk_tl h)
theorem mfrom_hd (n : Nat) : ∀ {es : List mE} {E0 : mE} {es' : List mE}, mfrom n es = E0 :: es' → mjpc E0 = n
  | [], E0, es', h => by cases h
  | E1 :: es, E0, es', h => by
    unfold mfrom at h
    cases hb : Nat.beq E1.1 n with
    | true =>
      rw [hb] at h
      dsimp only at h
      split at h
      · cases h
      · rename_i hq
        cases h
        obtain ⟨pc, ins, len, a, b, sw⟩ := E1
        have h1 : pc = n := Nat.eq_of_beq_eq_true hb
        subst h1
        unfold mjpc
        dsimp only
        split
        · exact (hq rfl).elim
        · rfl
    | false => rw [hb] at h; exact mfrom_hd n h
theorem ms_eff_of (h : mBun p l e R s mid args below meth c cc nL Ts own (MQ below (ms_Q D ad kd wids aC r Mf A) args s 0 0 A) D A ad kd wids aC)
    {cl : Nat → List mV → mM → Option mR} {jmp : Nat → List mV → List mV → mM → Option mR} (hcl : ∀ m as M r1 M1, cl m as M = some (r1, M1) → ms_Met l D ad kd wids aC m as M r1 M1) (hj : ∀ n L S M, jmp n L S M = some (r, Mf) → ms_W h n L S M)
    {E0 : mE} {es : List mE} (hnx : ∀ L S M, mstp gF gK rk cl jmp es L S M = some (r, Mf) → ms_W h nx L S M) (hs : mstp gF gK rk cl jmp (E0 :: es) L S M = some (r, Mf)) : ms_Eff h r Mf (mone gF gK rk E0 L S M) nx := by
  unfold mstp at hs
  generalize mone gF gK rk E0 L S M = E at hs ⊢
  obtain ⟨k, cd, x, y, n, sw, v, as, L', S', M'⟩ := E
  dsimp only at hs
  split at hs
  · simp only [mforce_eq] at hs
    exact hnx _ _ _ hs
  · exact hj _ _ _ _ hs
  · by_cases hcd : mcond cd x y
    · simp only [if_pos hcd] at hs
      exact ⟨fun _ => hj _ _ _ _ hs, fun q => absurd hcd q⟩
    · simp only [if_neg hcd] at hs
      exact ⟨fun q => absurd q hcd, fun _ => hnx _ _ _ hs⟩
  · split at hs
    · rename_i hcd
      exact ⟨hcd, hnx _ _ _ hs⟩
    · cases hs
  · split at hs
    · cases hs
    · rename_i hcd
      exact ⟨hcd, hnx _ _ _ hs⟩
  · cases hb : Nat.ble S'.length 4 with
    | false => rw [hb] at hs; cases hs
    | true =>
      rw [hb] at hs
      dsimp only at hs
      split at hs
      · rename_i q
        cases hcl1 : cl n as M' with
        | none =>
          rw [hcl1] at hs
          exact absurd hs (by unfold mres; split <;> simp [bV, bI, bJ, bR])
        | some w =>
          obtain ⟨r1, M1⟩ := w
          rw [hcl1] at hs
          refine ⟨r1, M1, hcl _ _ _ _ _ hcl1, Nat.ble_eq.mp hb, ?_⟩
          unfold mres at hs
          split at hs
          · unfold bV at hs
            split at hs
            · rename_i q2; cases q2; exact hnx _ _ _ hs
            · cases hs
          · unfold bI at hs
            split at hs
            · rename_i q2; cases q2; exact hnx _ _ _ hs
            · cases hs
          · unfold bJ at hs
            split at hs
            · rename_i q2; cases q2; exact hnx _ _ _ hs
            · cases hs
          · unfold bI at hs
            split at hs
            · rename_i q2; cases q2; exact hnx _ _ _ hs
            · cases hs
          · unfold bR at hs
            split at hs
            · rename_i t' a' M2 q2
              cases q2
              cases hb2 : Nat.beq t' (q.2 - 10) with
              | false => rw [hb2] at hs; cases hs
              | true =>
                rw [hb2] at hs
                have := Nat.eq_of_beq_eq_true hb2
                subst this
                exact hnx _ _ _ hs
            · cases hs
      · cases hs
  · cases hs; exact ⟨rfl, rfl⟩
  · split at hs
    · rename_i hcd
      cases hs
      exact ⟨hcd, rfl, rfl⟩
    · cases hs
  · rw [mswt_sel] at hs
    exact hj _ _ _ _ hs
  · cases hs
/-- a list of rows from the place on where the kit's machine stands -/
theorem ms_list (hNO : gNameOf l) (h : mBun p l e R s mid args below meth c cc nL Ts own (MQ below (ms_Q D ad kd wids aC r Mf A) args s 0 0 A) D A ad kd wids aC) (hG : gMath) (hown : own = gcls ow) (hO : gOwn ow own) (hR : R.frames = rf ∧ R.locals = rl) (hkl : ∀ o t, o ∈ wids ∧ kd o = t → (t - 100) / 4 < 2147483648) (hr : gRet rk meth.sig.returnType) (hlocks : meth.locks = false)
    {cl : Nat → List mV → mM → Option mR} {jmp : Nat → List mV → List mV → mM → Option mR} (hcl : ∀ m as M r1 M1, cl m as M = some (r1, M1) → ms_Met l D ad kd wids aC m as M r1 M1) (hj : ∀ n L S M, jmp n L S M = some (r, Mf) → ms_W h n L S M) :
    ∀ (es : List mE) (E0 : mE) (L S : List mV) (M : mM), mchk ow nL cc rf rl (E0 :: es) = true → mstp gF gK rk cl jmp (E0 :: es) L S M = some (r, Mf) → ms_W h (mjpc E0) L S M := by
  intro es
  induction es with
  | nil =>
    intro E0 L S M hc hs
    refine ms_step hNO h hG hown hO hR hkl hr hlocks (nx := E0.1 + 1) hc (ms_eff_of h hcl hj (fun L S M q => by cases q) hs)
  | cons E1 es ih =>
    intro E0 L S M hc hs
    have hc2 := hc
    simp only [mchk, Bool.and_eq_true] at hc2
    exact ms_step hNO h hG hown hO hR hkl hr hlocks (nx := mjpc E1) hc2.1 (ms_eff_of h hcl hj (fun L S M q => ih E1 L S M hc2.2 q) hs)
end MX
/-- a method's table stands for its bytes -/
def gCode (m : Nat) : Prop := mchk (gD m).2.2.2.2.2.2 (gT m).1 (gD m).2.1 (gD m).2.2.2.1.1 (gD m).2.2.2.1.2 (gT m).2.2.2 = true ∧ gRet (gT m).2.1 (gD m).2.2.1 ∧ (gY m).cls = gcls (gD m).2.2.2.2.2.2 ∧ plainName (gY m).cls = true
theorem ms_args (kd : Nat → Nat) (wids : List Nat) : ∀ (as : List mV) (n : Nat), (∀ v ∈ as, v ≠ none ∧ ms_ok kd wids v) → ∀ v ∈ mpad n (mlay as), ms_ok kd wids v := by
  have hl : ∀ as : List mV, (∀ v ∈ as, v ≠ none ∧ ms_ok kd wids v) → ∀ v ∈ mlay as, ms_ok kd wids v := by
    intro as
    induction as with
    | nil => intro _ v hv; cases hv
    | cons w as ih =>
      intro h v hv
      have hw := h w List.mem_cons_self
      have ih := ih (fun v hv => h v (List.mem_cons_of_mem _ hv))
      match w, hw with
      | none, hw => exact absurd rfl hw.1
      | some (.inl x), hw =>
        rcases List.mem_cons.mp hv with q | q
        · rw [q]; exact hw.2
        · exact ih v q
      | some (.inr (.inl x)), hw =>
        rcases List.mem_cons.mp hv with q | q
        · rw [q]; exact hw.2
        · rcases List.mem_cons.mp q with q | q
          · rw [q]; trivial
          · exact ih v q
      | some (.inr (.inr x)), hw =>
        rcases List.mem_cons.mp hv with q | q
        · rw [q]; exact hw.2
        · exact ih v q
  have hp : ∀ (n : Nat) (l : List mV), (∀ v ∈ l, ms_ok kd wids v) → ∀ v ∈ mpad n l, ms_ok kd wids v := by
    intro n
    induction n with
    | zero => intro l h; exact h
    | succ n ih =>
      intro l h v hv
      cases l with
      | nil =>
        rcases List.mem_cons.mp hv with q | q
        · rw [q]; trivial
        · exact ih [] (fun v hv => by cases hv) v q
      | cons w l =>
        rcases List.mem_cons.mp hv with q | q
        · rw [q]; exact h w List.mem_cons_self
        · exact ih l (fun v hv => h v (List.mem_cons_of_mem _ hv)) v q
  exact fun as n h => hp n _ (hl as h)
theorem mpad_len : ∀ (n : Nat) (l : List mV), l.length ≤ n → (mpad n l).length = n
  | 0, l, h => by
    have : l = [] := List.eq_nil_of_length_eq_zero (by omega)
    subst this
    rfl
  | n + 1, [], h => by simp [mpad, mpad_len n [] (by simp)]
  | n + 1, v :: l, h => by simp [mpad, mpad_len n l (by simpa using h)]
theorem mget_pad : ∀ (n : Nat) (l : List mV) (i : Nat) (v : mV), mget (mpad n l) i = v → v ≠ none → mget l i = v
  | 0, l, i, v, h, _ => h
  | n + 1, [], 0, v, h, h0 => absurd h.symm h0
  | n + 1, [], i + 1, v, h, h0 => by
    have := mget_pad n [] i v h h0
    exact absurd (by rw [← this]; rfl) h0
  | n + 1, w :: l, 0, v, h, _ => h
  | n + 1, w :: l, i + 1, v, h, h0 => mget_pad n l i v h h0
theorem ms_lay (ad : Nat → Nat) : ∀ (as : List mV) (k : Nat), (∀ v ∈ as, v ≠ none) → ∀ (i : Nat) (v : mV), mget (mlay as) i = v → v ≠ none → (i + k, ms_v ad v) ∈ lv_args k (as.map (ms_v ad))
  | [], k, _, i, v, h, h0 => absurd (by rw [← h]; rfl) h0
  | w :: as, k, hn, i, v, h, h0 => by
    have ih := fun k => ms_lay ad as k (fun v hv => hn v (List.mem_cons_of_mem _ hv))
    have hw := hn w List.mem_cons_self
    match w, hw with
    | none, hw => exact absurd rfl hw
    | some (.inl x), hw =>
      cases i with
      | zero => simp only [mlay, mget] at h; subst h; simp [lv_args, ms_v]
      | succ i =>
        have := ih (k + 1) i v h h0
        rw [show i + 1 + k = i + (k + 1) from by omega]
        exact List.mem_cons_of_mem _ this
    | some (.inr (.inl x)), hw =>
      match i with
      | 0 => simp only [mlay, mget] at h; subst h; simp [lv_args, ms_v]
      | 1 => exact absurd h.symm h0
      | i + 2 =>
        have := ih (k + 2) i v h h0
        rw [show i + 2 + k = i + (k + 2) from by omega]
        exact List.mem_cons_of_mem _ this
    | some (.inr (.inr x)), hw =>
      cases i with
      | zero => simp only [mlay, mget] at h; subst h; simp [lv_args, ms_v]
      | succ i =>
        have := ih (k + 1) i v h h0
        rw [show i + 1 + k = i + (k + 1) from by omega]
        exact List.mem_cons_of_mem _ this
theorem mlay_len (ad : Nat → Nat) : ∀ as : List mV, (∀ v ∈ as, v ≠ none) → (mlay as).length = (lg_sl (as.map (ms_v ad))).length
  | [], _ => rfl
  | w :: as, hn => by
    have ih := mlay_len ad as (fun v hv => hn v (List.mem_cons_of_mem _ hv))
    have hw := hn w List.mem_cons_self
    match w, hw with
    | none, hw => exact absurd rfl hw
    | some (.inl x), hw => simp [mlay, lg_sl, ms_v, Value.category] at ih ⊢; exact ih
    | some (.inr (.inl x)), hw => simp [mlay, lg_sl, ms_v, Value.category] at ih ⊢; omega
    | some (.inr (.inr x)), hw => simp [mlay, lg_sl, ms_v, Value.category] at ih ⊢; exact ih
theorem ms_entry {ad kd : Nat → Nat} {wids : List Nat} {as : List mV} {n : Nat} (has : ∀ v ∈ as, v ≠ none ∧ ms_ok kd wids v) (hn : (mlay as).length ≤ n) :
    ms_L ad kd wids ((lg_sl (as.map (ms_v ad)) ++ List.replicate (n - (lg_sl (as.map (ms_v ad))).length) Slot.unset).toArray) n (mpad n (mlay as)) := by
  have h0 : ∀ v ∈ as, v ≠ none := fun v hv => (has v hv).1
  have hl := lv_entry (as.map (ms_v ad)) (n := n) (by rw [← mlay_len ad as h0]; exact hn)
  refine ⟨lv_less hl (fun q hq => ?_), mpad_len n _ hn, ms_args kd wids as n has⟩
  obtain ⟨i, u⟩ := q
  obtain ⟨v, v0, v1, rfl⟩ := (ms_mem ad).mp hq
  exact ms_lay ad as 0 h0 i v (mget_pad n _ i v v1 v0) v0
