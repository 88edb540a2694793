/-! One step: what an entry of a table does is what the kit's machine does. -/
def gK : Nat → Nat := fun k => (gT k).2.1
def okIb (x : Int) : Bool := decide (-2147483648 ≤ x) && decide (x < 2147483648)
def okJb (x : Int) : Bool := decide (-9223372036854775808 ≤ x) && decide (x < 9223372036854775808)
theorem okIb_ok {x : Int} (h : okIb x = true) : okI x := by
  simp only [okIb, Bool.and_eq_true, decide_eq_true_eq] at h
  exact h
theorem okJb_ok {x : Int} (h : okJb x = true) : okJ x := by
  simp only [okJb, Bool.and_eq_true, decide_eq_true_eq] at h
  exact h
def lkF (own idx ci k : Nat) : Bool := (gFL own).any (fun q => Nat.beq q.1 idx && Nat.beq q.2.1 ci && Nat.beq q.2.2.1 k)
def lkP (own idx ci k : Nat) : Bool := (gFL own).any (fun q => Nat.beq q.1 idx && Nat.beq q.2.1 ci && Nat.beq q.2.2.1 k && Nat.beq q.2.2.2.2 0)
def lkM (own idx m : Nat) : Bool := (gML own).any (fun q => Nat.beq q.1 idx && Nat.beq q.2.1 m)
def lkX (own idx k : Nat) : Bool := (gXL own).any (fun q => Nat.beq q.1 idx && Nat.beq q.2.1 k)
def lkI (own idx : Nat) (v : Int) : Bool := (gKI own).any (fun q => Nat.beq q.1 idx && decide (q.2.1 = v))
def lkJ (own idx : Nat) (v : Int) : Bool := (gKJ own).any (fun q => Nat.beq q.1 idx && decide (q.2.1 = v))
/-- the 'nameOf' of a String constant: (index of the constant, index of the call, the answer) -/
def gNO (own : Nat) : List (Nat × Nat × Int) := match own with
  | 8 => gStr
  | _ => []
def mspec (own nL : Nat) (cc : ByteArray) (rf rl : Nat) (pc : Nat) (ins : Instr) (len a : Nat) (b : Int) (sw : List (Int × Nat)) (nx : Nat) : Bool := match ins with
  | .iconst n => decide (len = 1) && decide (nx = pc + 1) && okIb n
  | .bipush n => decide (len = 2) && decide (nx = pc + 2) && decide (-128 ≤ n) && decide (n < 128)
  | .sipush n => decide (len = 3) && decide (nx = pc + 3) && decide (-32768 ≤ n) && decide (n < 32768)
  | .ldc i => match a with
    | 0 => decide (len = 2) && decide (nx = pc + 2) && okIb b && lkI own i b
    | _ => decide (len = 2) && decide (nx = pc + 5) && (gNO own).any (fun q => Nat.beq q.1 i && decide (q.2.2 = b) && decide (decode cc (pc + 2) = .ok (.invokestatic q.2.1, 3))) && decide (5 ≤ rf) && decide (8 + (nameOfL + 11) + nameOfR ≤ rl)
  | .ldc_w i => decide (len = 3) && decide (nx = pc + 3) && okIb b && lkI own i b
  | .ldc2_w i => decide (len = 3) && decide (nx = pc + 3) && okJb b && lkJ own i b
  | .iload _ => decide (len = 2) && decide (nx = pc + 2)
  | .lload _ => decide (len = 2) && decide (nx = pc + 2)
  | .aload _ => decide (len = 2) && decide (nx = pc + 2)
  | .istore i => decide (len = 2) && decide (nx = pc + 2) && decide (i < nL)
  | .istore_n i => decide (len = 1) && decide (nx = pc + 1) && decide (i.val < nL)
  | .astore i => decide (len = 2) && decide (nx = pc + 2) && decide (i < nL)
  | .astore_n i => decide (len = 1) && decide (nx = pc + 1) && decide (i.val < nL)
  | .lstore i => decide (len = 2) && decide (nx = pc + 2) && decide (i + 1 < nL)
  | .lstore_n i => decide (len = 1) && decide (nx = pc + 1) && decide (i.val + 1 < nL)
  | .iinc i _ => decide (len = 3) && decide (nx = pc + 3) && decide (i < nL)
  | .ifCond _ off => decide (len = 3) && decide (nx = pc + 3) && decide ((pc : Int) + off = (a : Int)) && decide (a < 10000)
  | .if_icmp _ off => decide (len = 3) && decide (nx = pc + 3) && decide ((pc : Int) + off = (a : Int)) && decide (a < 10000)
  | .goto off => decide (len = 3) && decide ((pc : Int) + off = (a : Int)) && decide (a < 10000)
  | .tableswitch dflt lo hi offs => decide ((pc : Int) + dflt = (a : Int)) && decide (hi = lo + offs.toList.length - 1) && offs.toList.all (fun o => decide (0 ≤ (pc : Int) + o)) && decide (sw = mtsw pc lo offs.toList)
  | .lookupswitch dflt ps => decide ((pc : Int) + dflt = (a : Int)) && (ps.toList.zip (ps.toList.drop 1)).all (fun (a, next) => a.1 < next.1) && ps.toList.all (fun o => decide (0 ≤ (pc : Int) + o.2)) && decide (sw = mlsw pc ps.toList)
  | .getfield i => decide (len = 3) && decide (nx = pc + 3) && lkF own i a b.toNat
  | .putfield i => decide (len = 3) && decide (nx = pc + 3) && lkF own i a b.toNat && lkP own i a b.toNat
  | .invokevirtual i => decide (len = 3) && decide (nx = pc + 3) && lkM own i a && decide ((gD a).2.2.2.2.1 = false) && decide ((parseMethodDescriptor (gD a).1.desc).map (fun d => d.parameters.length + 1) = some b.toNat) && decide ((gD a).2.2.2.1.1 + 1 ≤ rf) && decide (8 + ((gT a).1 + 11) + (gD a).2.2.2.1.2 ≤ rl) && decide (sw.map (fun q => q.2) = [(gD a).2.2.2.2.2.2]) && decide (a < gNM)
  | .invokestatic i => decide (len = 3) && decide (nx = pc + 3) && (match sw with
    | q :: _ => lkX own i q.2 && decide (1 ≤ rf) && decide (21 ≤ rl)
    | [] => lkM own i a && decide ((gD a).2.2.2.2.1 = true) && decide ((parseMethodDescriptor (gD a).1.desc).map (fun d => d.parameters.length) = some b.toNat) && decide ((gD a).2.2.2.1.1 + 1 ≤ rf) && decide (8 + ((gT a).1 + 11) + (gD a).2.2.2.1.2 ≤ rl) && decide (a < gNM))
  | _ => decide (len = 1) && decide (nx = pc + 1)
def mchkI (own nL : Nat) (cc : ByteArray) (rf rl : Nat) (e : mE) (nx : Nat) : Bool := match e with
  | (pc, ins, len, a, b, sw) => match ins with
    | .nop => decide (10000 ≤ pc)
    | ins => decide (pc < 10000) && decide (decode cc pc = .ok (ins, len)) && mspec own nL cc rf rl pc ins len a b sw nx
def mjpc (e : mE) : Nat := match e with
  | (pc, ins, _, a, _, _) => match ins with
    | .nop => a
    | _ => pc
def mchk (own nL : Nat) (cc : ByteArray) (rf rl : Nat) : List mE → Bool
  | [] => true
  | [e] => mchkI own nL cc rf rl e (e.1 + 1)
  | e :: e' :: es => mchkI own nL cc rf rl e (mjpc e') && mchk own nL cc rf rl (e' :: es)
def mpush (v : mV) (S : List mV) : List mV := match v with
  | none => S
  | some x => some x :: S
def ms_r (ad : Nat → Nat) (r : mV) : Option Value := match r with
  | none => none
  | some x => some (ms_v ad (some x))
/-- what a method's end says: the answer, the memory, and what else may have changed -/
def ms_Q (D : va_G) (ad kd : Nat → Nat) (wids : List Nat) (aC : Nat → ClassId) (r : mV) (M1 : mM) (A : Nat → Prop) : Array Value → State → Outcome → State → Prop := fun _ st oc t => (oc = .returned (ms_r ad r) ∧ ms_ok kd wids r ∧ ms_M kd wids M1 ∧ va_P D vwCl (ms_ws ad kd wids aC M1) t.heap) ∧ va_F A st t
/-- what a method begins with -/
def ms_P (D : va_G) (ad kd : Nat → Nat) (wids : List Nat) (aC : Nat → ClassId) (as : List mV) (M : mM) (sz : Nat) : Array Value → State → Prop := va_Pc (as.map (ms_v ad)) (fun U => U.heap.size = sz ∧ va_P D vwCl (ms_ws ad kd wids aC M) U.heap ∧ va_K D vwCl (ms_tys aC) U ∧ gNest U ∧ (∀ A : Nat → Prop, (∀ o ∈ wids, A (ad o)) → va_D A (ms_ws ad kd wids aC M)) ∧ ms_M kd wids M ∧ (∀ v ∈ as, v ≠ none ∧ ms_ok kd wids v) ∧ gStrW (va_A (ms_ws ad kd wids aC M) sz) U U.heap)
def gY (m : Nat) : MethodName := (gD m).1
def gW (m : Nat) : List Jvm.Cond := .code (gY m) (gD m).2.1 (gT m).1 (gD m).2.2.1 :: gALL
def gR (m : Nat) : Room := { frames := (gD m).2.2.2.1.1, cells := 0, slots := 0, locals := (gD m).2.2.2.1.2 }
def ms_Met (l : Launch) (D : va_G) (ad kd : Nat → Nat) (wids : List Nat) (aC : Nat → ClassId) (m : Nat) (as : List mV) (M : mM) (r : mV) (M1 : mM) : Prop :=
  ∀ sz : Nat, Met l (gY m) (gW m) (gR m) (ms_P D ad kd wids aC as M sz) (ms_Q D ad kd wids aC r M1 (va_A (ms_ws ad kd wids aC M) sz)) 0 0 (va_A (ms_ws ad kd wids aC M) sz)
section SX
variable {p : Program} {l : Launch} {e : Env} {R : Room} {s : State} {mid : MethodId} {args : Array Value} {below : List Frame} {meth : Method} {c : Code} {cc : ByteArray} {nL : Nat} {Ts : List Jvm.Cond} {own : String} {Q : State → Prop} {D : va_G} {A : Nat → Prop} {ad kd : Nat → Nat} {wids : List Nat} {aC : Nat → ClassId}
/-- an effect that leads to a good end: 'r' and 'Mf' are the answer and the memory behind it -/
def ms_Eff (h : mBun p l e R s mid args below meth c cc nL Ts own Q D A ad kd wids aC) (r : mV) (Mf : mM) (E : mEff) (nx : Nat) : Prop := match E with
  | (k, cd, x, y, n, sw, v, as, L, S, M) => match k with
    | 1 => ms_W h nx L S M
    | 2 => ms_W h n L S M
    | 3 => (mcond cd x y → ms_W h n L S M) ∧ (¬ mcond cd x y → ms_W h nx L S M)
    | 4 => (0 ≤ x ∧ x < (n : Int)) ∧ ms_W h nx L S M
    | 5 => ¬ x = 0 ∧ ms_W h nx L S M
    | 6 => ∃ r1 M1, ms_Met l D ad kd wids aC n as M r1 M1 ∧ S.length ≤ 4 ∧ ms_W h nx L (mpush r1 S) M1
    | 7 => v = r ∧ M = Mf
    | 8 => (0 ≤ x ∧ x < 2) ∧ iv x = r ∧ M = Mf
    | 9 => ms_W h (msel x n sw) L S M
    | _ => False
variable {pc len a nx rf rl rk ow : Nat} {b : Int} {sw : List (Int × Nat)} {L S : List mV} {M : mM} {r : mV} {Mf : mM}

set_option maxHeartbeats 20000000 in
theorem sx_iconst (h : mBun p l e R s mid args below meth c cc nL Ts own Q D A ad kd wids aC) {n : Int}  (hc : mchkI ow nL cc rf rl (pc, .iconst n, len, a, b, sw) nx = true) (hE : ms_Eff h r Mf (mone gF gK rk (pc, .iconst n, len, a, b, sw) L S M) nx) : ms_W h pc L S M := by
  simp only [mchkI, mspec, Bool.and_eq_true, decide_eq_true_eq, and_assoc] at hc
  delta mone at hE
  dsimp only at hE
  obtain ⟨-, hd, rfl, rfl, hk⟩ := hc
  exact mi_iconst h hd (okIb_ok hk) hE
theorem sx_bipush (h : mBun p l e R s mid args below meth c cc nL Ts own Q D A ad kd wids aC) {n : Int}  (hc : mchkI ow nL cc rf rl (pc, .bipush n, len, a, b, sw) nx = true) (hE : ms_Eff h r Mf (mone gF gK rk (pc, .bipush n, len, a, b, sw) L S M) nx) : ms_W h pc L S M := by
  simp only [mchkI, mspec, Bool.and_eq_true, decide_eq_true_eq, and_assoc] at hc
  delta mone at hE
  dsimp only at hE
  obtain ⟨-, hd, rfl, rfl, h1, h2⟩ := hc
  exact mi_bipush h hd ⟨h1, h2⟩ hE
theorem sx_sipush (h : mBun p l e R s mid args below meth c cc nL Ts own Q D A ad kd wids aC) {n : Int}  (hc : mchkI ow nL cc rf rl (pc, .sipush n, len, a, b, sw) nx = true) (hE : ms_Eff h r Mf (mone gF gK rk (pc, .sipush n, len, a, b, sw) L S M) nx) : ms_W h pc L S M := by
  simp only [mchkI, mspec, Bool.and_eq_true, decide_eq_true_eq, and_assoc] at hc
  delta mone at hE
  dsimp only at hE
  obtain ⟨-, hd, rfl, rfl, h1, h2⟩ := hc
  exact mi_sipush h hd ⟨h1, h2⟩ hE
theorem sx_lconst (h : mBun p l e R s mid args below meth c cc nL Ts own Q D A ad kd wids aC) {n : Fin 2}  (hc : mchkI ow nL cc rf rl (pc, .lconst n, len, a, b, sw) nx = true) (hE : ms_Eff h r Mf (mone gF gK rk (pc, .lconst n, len, a, b, sw) L S M) nx) : ms_W h pc L S M := by
  simp only [mchkI, mspec, Bool.and_eq_true, decide_eq_true_eq, and_assoc] at hc
  delta mone at hE
  dsimp only at hE
  obtain ⟨-, hd, rfl, rfl⟩ := hc
  exact mi_lconst h hd hE
theorem sx_ldc_w (h : mBun p l e R s mid args below meth c cc nL Ts own Q D A ad kd wids aC) {i : Nat} (hcI : ∀ i v, lkI ow i v = true → Cond.constant own i (Int32.ofInt v) ∈ Ts) (hc : mchkI ow nL cc rf rl (pc, .ldc_w i, len, a, b, sw) nx = true) (hE : ms_Eff h r Mf (mone gF gK rk (pc, .ldc_w i, len, a, b, sw) L S M) nx) : ms_W h pc L S M := by
  simp only [mchkI, mspec, Bool.and_eq_true, decide_eq_true_eq, and_assoc] at hc
  delta mone at hE
  dsimp only at hE
  obtain ⟨-, hd, rfl, rfl, hk, hl⟩ := hc
  exact mi_ldc_w h hd (hcI i b hl) (okIb_ok hk) hE
theorem sx_ldc2 (h : mBun p l e R s mid args below meth c cc nL Ts own Q D A ad kd wids aC) {i : Nat} (hcJ : ∀ i v, lkJ ow i v = true → Cond.constantLong own i (Int64.ofInt v) ∈ Ts) (hc : mchkI ow nL cc rf rl (pc, .ldc2_w i, len, a, b, sw) nx = true) (hE : ms_Eff h r Mf (mone gF gK rk (pc, .ldc2_w i, len, a, b, sw) L S M) nx) : ms_W h pc L S M := by
  simp only [mchkI, mspec, Bool.and_eq_true, decide_eq_true_eq, and_assoc] at hc
  delta mone at hE
  dsimp only at hE
  obtain ⟨-, hd, rfl, rfl, hk, hl⟩ := hc
  exact mi_ldc2 h hd (hcJ i b hl) (okJb_ok hk) hE
theorem sx_iload (h : mBun p l e R s mid args below meth c cc nL Ts own Q D A ad kd wids aC) {i : Nat}  (hc : mchkI ow nL cc rf rl (pc, .iload i, len, a, b, sw) nx = true) (hE : ms_Eff h r Mf (mone gF gK rk (pc, .iload i, len, a, b, sw) L S M) nx) : ms_W h pc L S M := by
  simp only [mchkI, mspec, Bool.and_eq_true, decide_eq_true_eq, and_assoc] at hc
  delta mone at hE
  dsimp only at hE
  obtain ⟨-, hd, rfl, rfl⟩ := hc
  split at hE
  · rename_i q
    exact mi_iload h hd q hE
  · exact hE.elim
theorem sx_lload (h : mBun p l e R s mid args below meth c cc nL Ts own Q D A ad kd wids aC) {i : Nat}  (hc : mchkI ow nL cc rf rl (pc, .lload i, len, a, b, sw) nx = true) (hE : ms_Eff h r Mf (mone gF gK rk (pc, .lload i, len, a, b, sw) L S M) nx) : ms_W h pc L S M := by
  simp only [mchkI, mspec, Bool.and_eq_true, decide_eq_true_eq, and_assoc] at hc
  delta mone at hE
  dsimp only at hE
  obtain ⟨-, hd, rfl, rfl⟩ := hc
  split at hE
  · rename_i q
    exact mi_lload h hd q hE
  · exact hE.elim
theorem sx_aload (h : mBun p l e R s mid args below meth c cc nL Ts own Q D A ad kd wids aC) {i : Nat}  (hc : mchkI ow nL cc rf rl (pc, .aload i, len, a, b, sw) nx = true) (hE : ms_Eff h r Mf (mone gF gK rk (pc, .aload i, len, a, b, sw) L S M) nx) : ms_W h pc L S M := by
  simp only [mchkI, mspec, Bool.and_eq_true, decide_eq_true_eq, and_assoc] at hc
  delta mone at hE
  dsimp only at hE
  obtain ⟨-, hd, rfl, rfl⟩ := hc
  split at hE
  · rename_i q
    exact mi_aload h hd q hE
  · exact hE.elim
theorem sx_iload_n (h : mBun p l e R s mid args below meth c cc nL Ts own Q D A ad kd wids aC) {i : Fin 4}  (hc : mchkI ow nL cc rf rl (pc, .iload_n i, len, a, b, sw) nx = true) (hE : ms_Eff h r Mf (mone gF gK rk (pc, .iload_n i, len, a, b, sw) L S M) nx) : ms_W h pc L S M := by
  simp only [mchkI, mspec, Bool.and_eq_true, decide_eq_true_eq, and_assoc] at hc
  delta mone at hE
  dsimp only at hE
  obtain ⟨-, hd, rfl, rfl⟩ := hc
  split at hE
  · rename_i q
    exact mi_iload_n h hd q hE
  · exact hE.elim
theorem sx_lload_n (h : mBun p l e R s mid args below meth c cc nL Ts own Q D A ad kd wids aC) {i : Fin 4}  (hc : mchkI ow nL cc rf rl (pc, .lload_n i, len, a, b, sw) nx = true) (hE : ms_Eff h r Mf (mone gF gK rk (pc, .lload_n i, len, a, b, sw) L S M) nx) : ms_W h pc L S M := by
  simp only [mchkI, mspec, Bool.and_eq_true, decide_eq_true_eq, and_assoc] at hc
  delta mone at hE
  dsimp only at hE
  obtain ⟨-, hd, rfl, rfl⟩ := hc
  split at hE
  · rename_i q
    exact mi_lload_n h hd q hE
  · exact hE.elim
theorem sx_aload_n (h : mBun p l e R s mid args below meth c cc nL Ts own Q D A ad kd wids aC) {i : Fin 4}  (hc : mchkI ow nL cc rf rl (pc, .aload_n i, len, a, b, sw) nx = true) (hE : ms_Eff h r Mf (mone gF gK rk (pc, .aload_n i, len, a, b, sw) L S M) nx) : ms_W h pc L S M := by
  simp only [mchkI, mspec, Bool.and_eq_true, decide_eq_true_eq, and_assoc] at hc
  delta mone at hE
  dsimp only at hE
  obtain ⟨-, hd, rfl, rfl⟩ := hc
  split at hE
  · rename_i q
    exact mi_aload_n h hd q hE
  · exact hE.elim
theorem sx_istore (h : mBun p l e R s mid args below meth c cc nL Ts own Q D A ad kd wids aC) {i : Nat}  (hc : mchkI ow nL cc rf rl (pc, .istore i, len, a, b, sw) nx = true) (hE : ms_Eff h r Mf (mone gF gK rk (pc, .istore i, len, a, b, sw) L S M) nx) : ms_W h pc L S M := by
  simp only [mchkI, mspec, Bool.and_eq_true, decide_eq_true_eq, and_assoc] at hc
  delta mone at hE
  dsimp only at hE
  obtain ⟨-, hd, rfl, rfl, hn⟩ := hc
  split at hE
  · exact mi_istore h hd hn hE
  · exact hE.elim
theorem sx_lstore (h : mBun p l e R s mid args below meth c cc nL Ts own Q D A ad kd wids aC) {i : Nat}  (hc : mchkI ow nL cc rf rl (pc, .lstore i, len, a, b, sw) nx = true) (hE : ms_Eff h r Mf (mone gF gK rk (pc, .lstore i, len, a, b, sw) L S M) nx) : ms_W h pc L S M := by
  simp only [mchkI, mspec, Bool.and_eq_true, decide_eq_true_eq, and_assoc] at hc
  delta mone at hE
  dsimp only at hE
  obtain ⟨-, hd, rfl, rfl, hn⟩ := hc
  split at hE
  · exact mi_lstore h hd hn hE
  · exact hE.elim
theorem sx_astore (h : mBun p l e R s mid args below meth c cc nL Ts own Q D A ad kd wids aC) {i : Nat}  (hc : mchkI ow nL cc rf rl (pc, .astore i, len, a, b, sw) nx = true) (hE : ms_Eff h r Mf (mone gF gK rk (pc, .astore i, len, a, b, sw) L S M) nx) : ms_W h pc L S M := by
  simp only [mchkI, mspec, Bool.and_eq_true, decide_eq_true_eq, and_assoc] at hc
  delta mone at hE
  dsimp only at hE
  obtain ⟨-, hd, rfl, rfl, hn⟩ := hc
  split at hE
  · exact mi_astore h hd hn hE
  · exact hE.elim
theorem sx_istore_n (h : mBun p l e R s mid args below meth c cc nL Ts own Q D A ad kd wids aC) {i : Fin 4}  (hc : mchkI ow nL cc rf rl (pc, .istore_n i, len, a, b, sw) nx = true) (hE : ms_Eff h r Mf (mone gF gK rk (pc, .istore_n i, len, a, b, sw) L S M) nx) : ms_W h pc L S M := by
  simp only [mchkI, mspec, Bool.and_eq_true, decide_eq_true_eq, and_assoc] at hc
  delta mone at hE
  dsimp only at hE
  obtain ⟨-, hd, rfl, rfl, hn⟩ := hc
  split at hE
  · exact mi_istore_n h hd hn hE
  · exact hE.elim
theorem sx_lstore_n (h : mBun p l e R s mid args below meth c cc nL Ts own Q D A ad kd wids aC) {i : Fin 4}  (hc : mchkI ow nL cc rf rl (pc, .lstore_n i, len, a, b, sw) nx = true) (hE : ms_Eff h r Mf (mone gF gK rk (pc, .lstore_n i, len, a, b, sw) L S M) nx) : ms_W h pc L S M := by
  simp only [mchkI, mspec, Bool.and_eq_true, decide_eq_true_eq, and_assoc] at hc
  delta mone at hE
  dsimp only at hE
  obtain ⟨-, hd, rfl, rfl, hn⟩ := hc
  split at hE
  · exact mi_lstore_n h hd hn hE
  · exact hE.elim
theorem sx_astore_n (h : mBun p l e R s mid args below meth c cc nL Ts own Q D A ad kd wids aC) {i : Fin 4}  (hc : mchkI ow nL cc rf rl (pc, .astore_n i, len, a, b, sw) nx = true) (hE : ms_Eff h r Mf (mone gF gK rk (pc, .astore_n i, len, a, b, sw) L S M) nx) : ms_W h pc L S M := by
  simp only [mchkI, mspec, Bool.and_eq_true, decide_eq_true_eq, and_assoc] at hc
  delta mone at hE
  dsimp only at hE
  obtain ⟨-, hd, rfl, rfl, hn⟩ := hc
  split at hE
  · exact mi_astore_n h hd hn hE
  · exact hE.elim
theorem sx_iinc (h : mBun p l e R s mid args below meth c cc nL Ts own Q D A ad kd wids aC) {i : Nat} {n : Int}  (hc : mchkI ow nL cc rf rl (pc, .iinc i n, len, a, b, sw) nx = true) (hE : ms_Eff h r Mf (mone gF gK rk (pc, .iinc i n, len, a, b, sw) L S M) nx) : ms_W h pc L S M := by
  simp only [mchkI, mspec, Bool.and_eq_true, decide_eq_true_eq, and_assoc] at hc
  delta mone at hE
  dsimp only at hE
  obtain ⟨-, hd, rfl, rfl, hn⟩ := hc
  split at hE
  · rename_i q
    exact mi_iinc h hd hn q hE
  · exact hE.elim
theorem sx_iadd (h : mBun p l e R s mid args below meth c cc nL Ts own Q D A ad kd wids aC)   (hc : mchkI ow nL cc rf rl (pc, .iadd, len, a, b, sw) nx = true) (hE : ms_Eff h r Mf (mone gF gK rk (pc, .iadd, len, a, b, sw) L S M) nx) : ms_W h pc L S M := by
  simp only [mchkI, mspec, Bool.and_eq_true, decide_eq_true_eq, and_assoc] at hc
  delta mone at hE
  dsimp only at hE
  obtain ⟨-, hd, rfl, rfl⟩ := hc
  split at hE
  · exact mi_iadd h hd hE
  · exact hE.elim
theorem sx_isub (h : mBun p l e R s mid args below meth c cc nL Ts own Q D A ad kd wids aC)   (hc : mchkI ow nL cc rf rl (pc, .isub, len, a, b, sw) nx = true) (hE : ms_Eff h r Mf (mone gF gK rk (pc, .isub, len, a, b, sw) L S M) nx) : ms_W h pc L S M := by
  simp only [mchkI, mspec, Bool.and_eq_true, decide_eq_true_eq, and_assoc] at hc
  delta mone at hE
  dsimp only at hE
  obtain ⟨-, hd, rfl, rfl⟩ := hc
  split at hE
  · exact mi_isub h hd hE
  · exact hE.elim
theorem sx_imul (h : mBun p l e R s mid args below meth c cc nL Ts own Q D A ad kd wids aC)   (hc : mchkI ow nL cc rf rl (pc, .imul, len, a, b, sw) nx = true) (hE : ms_Eff h r Mf (mone gF gK rk (pc, .imul, len, a, b, sw) L S M) nx) : ms_W h pc L S M := by
  simp only [mchkI, mspec, Bool.and_eq_true, decide_eq_true_eq, and_assoc] at hc
  delta mone at hE
  dsimp only at hE
  obtain ⟨-, hd, rfl, rfl⟩ := hc
  split at hE
  · exact mi_imul h hd hE
  · exact hE.elim
theorem sx_ladd (h : mBun p l e R s mid args below meth c cc nL Ts own Q D A ad kd wids aC)   (hc : mchkI ow nL cc rf rl (pc, .ladd, len, a, b, sw) nx = true) (hE : ms_Eff h r Mf (mone gF gK rk (pc, .ladd, len, a, b, sw) L S M) nx) : ms_W h pc L S M := by
  simp only [mchkI, mspec, Bool.and_eq_true, decide_eq_true_eq, and_assoc] at hc
  delta mone at hE
  dsimp only at hE
  obtain ⟨-, hd, rfl, rfl⟩ := hc
  split at hE
  · exact mi_ladd h hd hE
  · exact hE.elim
theorem sx_lsub (h : mBun p l e R s mid args below meth c cc nL Ts own Q D A ad kd wids aC)   (hc : mchkI ow nL cc rf rl (pc, .lsub, len, a, b, sw) nx = true) (hE : ms_Eff h r Mf (mone gF gK rk (pc, .lsub, len, a, b, sw) L S M) nx) : ms_W h pc L S M := by
  simp only [mchkI, mspec, Bool.and_eq_true, decide_eq_true_eq, and_assoc] at hc
  delta mone at hE
  dsimp only at hE
  obtain ⟨-, hd, rfl, rfl⟩ := hc
  split at hE
  · exact mi_lsub h hd hE
  · exact hE.elim
theorem sx_lmul (h : mBun p l e R s mid args below meth c cc nL Ts own Q D A ad kd wids aC)   (hc : mchkI ow nL cc rf rl (pc, .lmul, len, a, b, sw) nx = true) (hE : ms_Eff h r Mf (mone gF gK rk (pc, .lmul, len, a, b, sw) L S M) nx) : ms_W h pc L S M := by
  simp only [mchkI, mspec, Bool.and_eq_true, decide_eq_true_eq, and_assoc] at hc
  delta mone at hE
  dsimp only at hE
  obtain ⟨-, hd, rfl, rfl⟩ := hc
  split at hE
  · exact mi_lmul h hd hE
  · exact hE.elim
theorem sx_iand (h : mBun p l e R s mid args below meth c cc nL Ts own Q D A ad kd wids aC)   (hc : mchkI ow nL cc rf rl (pc, .iand, len, a, b, sw) nx = true) (hE : ms_Eff h r Mf (mone gF gK rk (pc, .iand, len, a, b, sw) L S M) nx) : ms_W h pc L S M := by
  simp only [mchkI, mspec, Bool.and_eq_true, decide_eq_true_eq, and_assoc] at hc
  delta mone at hE
  dsimp only at hE
  obtain ⟨-, hd, rfl, rfl⟩ := hc
  split at hE
  · exact mi_iand h hd hE
  · exact hE.elim
theorem sx_ior (h : mBun p l e R s mid args below meth c cc nL Ts own Q D A ad kd wids aC)   (hc : mchkI ow nL cc rf rl (pc, .ior, len, a, b, sw) nx = true) (hE : ms_Eff h r Mf (mone gF gK rk (pc, .ior, len, a, b, sw) L S M) nx) : ms_W h pc L S M := by
  simp only [mchkI, mspec, Bool.and_eq_true, decide_eq_true_eq, and_assoc] at hc
  delta mone at hE
  dsimp only at hE
  obtain ⟨-, hd, rfl, rfl⟩ := hc
  split at hE
  · exact mi_ior h hd hE
  · exact hE.elim
theorem sx_ixor (h : mBun p l e R s mid args below meth c cc nL Ts own Q D A ad kd wids aC)   (hc : mchkI ow nL cc rf rl (pc, .ixor, len, a, b, sw) nx = true) (hE : ms_Eff h r Mf (mone gF gK rk (pc, .ixor, len, a, b, sw) L S M) nx) : ms_W h pc L S M := by
  simp only [mchkI, mspec, Bool.and_eq_true, decide_eq_true_eq, and_assoc] at hc
  delta mone at hE
  dsimp only at hE
  obtain ⟨-, hd, rfl, rfl⟩ := hc
  split at hE
  · exact mi_ixor h hd hE
  · exact hE.elim
theorem sx_ishl (h : mBun p l e R s mid args below meth c cc nL Ts own Q D A ad kd wids aC)   (hc : mchkI ow nL cc rf rl (pc, .ishl, len, a, b, sw) nx = true) (hE : ms_Eff h r Mf (mone gF gK rk (pc, .ishl, len, a, b, sw) L S M) nx) : ms_W h pc L S M := by
  simp only [mchkI, mspec, Bool.and_eq_true, decide_eq_true_eq, and_assoc] at hc
  delta mone at hE
  dsimp only at hE
  obtain ⟨-, hd, rfl, rfl⟩ := hc
  split at hE
  · exact mi_ishl h hd hE
  · exact hE.elim
theorem sx_ishr (h : mBun p l e R s mid args below meth c cc nL Ts own Q D A ad kd wids aC)   (hc : mchkI ow nL cc rf rl (pc, .ishr, len, a, b, sw) nx = true) (hE : ms_Eff h r Mf (mone gF gK rk (pc, .ishr, len, a, b, sw) L S M) nx) : ms_W h pc L S M := by
  simp only [mchkI, mspec, Bool.and_eq_true, decide_eq_true_eq, and_assoc] at hc
  delta mone at hE
  dsimp only at hE
  obtain ⟨-, hd, rfl, rfl⟩ := hc
  split at hE
  · exact mi_ishr h hd hE
  · exact hE.elim
theorem sx_iushr (h : mBun p l e R s mid args below meth c cc nL Ts own Q D A ad kd wids aC)   (hc : mchkI ow nL cc rf rl (pc, .iushr, len, a, b, sw) nx = true) (hE : ms_Eff h r Mf (mone gF gK rk (pc, .iushr, len, a, b, sw) L S M) nx) : ms_W h pc L S M := by
  simp only [mchkI, mspec, Bool.and_eq_true, decide_eq_true_eq, and_assoc] at hc
  delta mone at hE
  dsimp only at hE
  obtain ⟨-, hd, rfl, rfl⟩ := hc
  split at hE
  · exact mi_iushr h hd hE
  · exact hE.elim
theorem sx_land (h : mBun p l e R s mid args below meth c cc nL Ts own Q D A ad kd wids aC)   (hc : mchkI ow nL cc rf rl (pc, .land, len, a, b, sw) nx = true) (hE : ms_Eff h r Mf (mone gF gK rk (pc, .land, len, a, b, sw) L S M) nx) : ms_W h pc L S M := by
  simp only [mchkI, mspec, Bool.and_eq_true, decide_eq_true_eq, and_assoc] at hc
  delta mone at hE
  dsimp only at hE
  obtain ⟨-, hd, rfl, rfl⟩ := hc
  split at hE
  · exact mi_land h hd hE
  · exact hE.elim
theorem sx_lor (h : mBun p l e R s mid args below meth c cc nL Ts own Q D A ad kd wids aC)   (hc : mchkI ow nL cc rf rl (pc, .lor, len, a, b, sw) nx = true) (hE : ms_Eff h r Mf (mone gF gK rk (pc, .lor, len, a, b, sw) L S M) nx) : ms_W h pc L S M := by
  simp only [mchkI, mspec, Bool.and_eq_true, decide_eq_true_eq, and_assoc] at hc
  delta mone at hE
  dsimp only at hE
  obtain ⟨-, hd, rfl, rfl⟩ := hc
  split at hE
  · exact mi_lor h hd hE
  · exact hE.elim
theorem sx_lshl (h : mBun p l e R s mid args below meth c cc nL Ts own Q D A ad kd wids aC)   (hc : mchkI ow nL cc rf rl (pc, .lshl, len, a, b, sw) nx = true) (hE : ms_Eff h r Mf (mone gF gK rk (pc, .lshl, len, a, b, sw) L S M) nx) : ms_W h pc L S M := by
  simp only [mchkI, mspec, Bool.and_eq_true, decide_eq_true_eq, and_assoc] at hc
  delta mone at hE
  dsimp only at hE
  obtain ⟨-, hd, rfl, rfl⟩ := hc
  split at hE
  · exact mi_lshl h hd hE
  · exact hE.elim
theorem sx_ineg (h : mBun p l e R s mid args below meth c cc nL Ts own Q D A ad kd wids aC)   (hc : mchkI ow nL cc rf rl (pc, .ineg, len, a, b, sw) nx = true) (hE : ms_Eff h r Mf (mone gF gK rk (pc, .ineg, len, a, b, sw) L S M) nx) : ms_W h pc L S M := by
  simp only [mchkI, mspec, Bool.and_eq_true, decide_eq_true_eq, and_assoc] at hc
  delta mone at hE
  dsimp only at hE
  obtain ⟨-, hd, rfl, rfl⟩ := hc
  split at hE
  · exact mi_ineg h hd hE
  · exact hE.elim
theorem sx_lneg (h : mBun p l e R s mid args below meth c cc nL Ts own Q D A ad kd wids aC)   (hc : mchkI ow nL cc rf rl (pc, .lneg, len, a, b, sw) nx = true) (hE : ms_Eff h r Mf (mone gF gK rk (pc, .lneg, len, a, b, sw) L S M) nx) : ms_W h pc L S M := by
  simp only [mchkI, mspec, Bool.and_eq_true, decide_eq_true_eq, and_assoc] at hc
  delta mone at hE
  dsimp only at hE
  obtain ⟨-, hd, rfl, rfl⟩ := hc
  split at hE
  · exact mi_lneg h hd hE
  · exact hE.elim
theorem sx_lcmp (h : mBun p l e R s mid args below meth c cc nL Ts own Q D A ad kd wids aC)   (hc : mchkI ow nL cc rf rl (pc, .lcmp, len, a, b, sw) nx = true) (hE : ms_Eff h r Mf (mone gF gK rk (pc, .lcmp, len, a, b, sw) L S M) nx) : ms_W h pc L S M := by
  simp only [mchkI, mspec, Bool.and_eq_true, decide_eq_true_eq, and_assoc] at hc
  delta mone at hE
  dsimp only at hE
  obtain ⟨-, hd, rfl, rfl⟩ := hc
  split at hE
  · exact mi_lcmp h hd hE
  · exact hE.elim
theorem sx_i2l (h : mBun p l e R s mid args below meth c cc nL Ts own Q D A ad kd wids aC)   (hc : mchkI ow nL cc rf rl (pc, .i2l, len, a, b, sw) nx = true) (hE : ms_Eff h r Mf (mone gF gK rk (pc, .i2l, len, a, b, sw) L S M) nx) : ms_W h pc L S M := by
  simp only [mchkI, mspec, Bool.and_eq_true, decide_eq_true_eq, and_assoc] at hc
  delta mone at hE
  dsimp only at hE
  obtain ⟨-, hd, rfl, rfl⟩ := hc
  split at hE
  · exact mi_i2l h hd hE
  · exact hE.elim
theorem sx_l2i (h : mBun p l e R s mid args below meth c cc nL Ts own Q D A ad kd wids aC)   (hc : mchkI ow nL cc rf rl (pc, .l2i, len, a, b, sw) nx = true) (hE : ms_Eff h r Mf (mone gF gK rk (pc, .l2i, len, a, b, sw) L S M) nx) : ms_W h pc L S M := by
  simp only [mchkI, mspec, Bool.and_eq_true, decide_eq_true_eq, and_assoc] at hc
  delta mone at hE
  dsimp only at hE
  obtain ⟨-, hd, rfl, rfl⟩ := hc
  split at hE
  · exact mi_l2i h hd hE
  · exact hE.elim
theorem sx_i2b (h : mBun p l e R s mid args below meth c cc nL Ts own Q D A ad kd wids aC)   (hc : mchkI ow nL cc rf rl (pc, .i2b, len, a, b, sw) nx = true) (hE : ms_Eff h r Mf (mone gF gK rk (pc, .i2b, len, a, b, sw) L S M) nx) : ms_W h pc L S M := by
  simp only [mchkI, mspec, Bool.and_eq_true, decide_eq_true_eq, and_assoc] at hc
  delta mone at hE
  dsimp only at hE
  obtain ⟨-, hd, rfl, rfl⟩ := hc
  split at hE
  · exact mi_i2b h hd hE
  · exact hE.elim
theorem sx_pop (h : mBun p l e R s mid args below meth c cc nL Ts own Q D A ad kd wids aC)   (hc : mchkI ow nL cc rf rl (pc, .pop, len, a, b, sw) nx = true) (hE : ms_Eff h r Mf (mone gF gK rk (pc, .pop, len, a, b, sw) L S M) nx) : ms_W h pc L S M := by
  simp only [mchkI, mspec, Bool.and_eq_true, decide_eq_true_eq, and_assoc] at hc
  delta mone at hE
  dsimp only at hE
  obtain ⟨-, hd, rfl, rfl⟩ := hc
  split at hE
  · exact mi_pop h hd hE
  · exact hE.elim
theorem sx_irem (h : mBun p l e R s mid args below meth c cc nL Ts own Q D A ad kd wids aC)   (hc : mchkI ow nL cc rf rl (pc, .irem, len, a, b, sw) nx = true) (hE : ms_Eff h r Mf (mone gF gK rk (pc, .irem, len, a, b, sw) L S M) nx) : ms_W h pc L S M := by
  simp only [mchkI, mspec, Bool.and_eq_true, decide_eq_true_eq, and_assoc] at hc
  delta mone at hE
  dsimp only at hE
  obtain ⟨-, hd, rfl, rfl⟩ := hc
  split at hE
  · exact mi_irem h hd hE.1 hE.2
  · exact hE.elim
theorem sx_ldiv (h : mBun p l e R s mid args below meth c cc nL Ts own Q D A ad kd wids aC)   (hc : mchkI ow nL cc rf rl (pc, .ldiv, len, a, b, sw) nx = true) (hE : ms_Eff h r Mf (mone gF gK rk (pc, .ldiv, len, a, b, sw) L S M) nx) : ms_W h pc L S M := by
  simp only [mchkI, mspec, Bool.and_eq_true, decide_eq_true_eq, and_assoc] at hc
  delta mone at hE
  dsimp only at hE
  obtain ⟨-, hd, rfl, rfl⟩ := hc
  split at hE
  · exact mi_ldiv h hd hE.1 hE.2
  · exact hE.elim
theorem sx_lrem (h : mBun p l e R s mid args below meth c cc nL Ts own Q D A ad kd wids aC)   (hc : mchkI ow nL cc rf rl (pc, .lrem, len, a, b, sw) nx = true) (hE : ms_Eff h r Mf (mone gF gK rk (pc, .lrem, len, a, b, sw) L S M) nx) : ms_W h pc L S M := by
  simp only [mchkI, mspec, Bool.and_eq_true, decide_eq_true_eq, and_assoc] at hc
  delta mone at hE
  dsimp only at hE
  obtain ⟨-, hd, rfl, rfl⟩ := hc
  split at hE
  · exact mi_lrem h hd hE.1 hE.2
  · exact hE.elim
theorem sx_dup (h : mBun p l e R s mid args below meth c cc nL Ts own Q D A ad kd wids aC)   (hc : mchkI ow nL cc rf rl (pc, .dup, len, a, b, sw) nx = true) (hE : ms_Eff h r Mf (mone gF gK rk (pc, .dup, len, a, b, sw) L S M) nx) : ms_W h pc L S M := by
  simp only [mchkI, mspec, Bool.and_eq_true, decide_eq_true_eq, and_assoc] at hc
  delta mone at hE
  dsimp only at hE
  obtain ⟨-, hd, rfl, rfl⟩ := hc
  split at hE
  · exact mi_dupI h hd hE
  · exact mi_dupR h hd hE
  · exact hE.elim
theorem sx_dup2 (h : mBun p l e R s mid args below meth c cc nL Ts own Q D A ad kd wids aC)   (hc : mchkI ow nL cc rf rl (pc, .dup2, len, a, b, sw) nx = true) (hE : ms_Eff h r Mf (mone gF gK rk (pc, .dup2, len, a, b, sw) L S M) nx) : ms_W h pc L S M := by
  simp only [mchkI, mspec, Bool.and_eq_true, decide_eq_true_eq, and_assoc] at hc
  delta mone at hE
  dsimp only at hE
  obtain ⟨-, hd, rfl, rfl⟩ := hc
  split at hE
  · exact mi_dup2 h hd hE
  · exact hE.elim
theorem sx_if (h : mBun p l e R s mid args below meth c cc nL Ts own Q D A ad kd wids aC) {cd : ClassFile.Cond} {off : Int}  (hc : mchkI ow nL cc rf rl (pc, .ifCond cd off, len, a, b, sw) nx = true) (hE : ms_Eff h r Mf (mone gF gK rk (pc, .ifCond cd off, len, a, b, sw) L S M) nx) : ms_W h pc L S M := by
  simp only [mchkI, mspec, Bool.and_eq_true, decide_eq_true_eq, and_assoc] at hc
  delta mone at hE
  dsimp only at hE
  obtain ⟨-, hd, rfl, rfl, ht, -⟩ := hc
  split at hE
  · exact mi_if h hd ht hE.1 hE.2
  · exact hE.elim
theorem sx_icmp (h : mBun p l e R s mid args below meth c cc nL Ts own Q D A ad kd wids aC) {cd : ClassFile.Cond} {off : Int}  (hc : mchkI ow nL cc rf rl (pc, .if_icmp cd off, len, a, b, sw) nx = true) (hE : ms_Eff h r Mf (mone gF gK rk (pc, .if_icmp cd off, len, a, b, sw) L S M) nx) : ms_W h pc L S M := by
  simp only [mchkI, mspec, Bool.and_eq_true, decide_eq_true_eq, and_assoc] at hc
  delta mone at hE
  dsimp only at hE
  obtain ⟨-, hd, rfl, rfl, ht, -⟩ := hc
  split at hE
  · exact mi_icmp h hd ht hE.1 hE.2
  · exact hE.elim
theorem sx_goto (h : mBun p l e R s mid args below meth c cc nL Ts own Q D A ad kd wids aC) {off : Int}  (hc : mchkI ow nL cc rf rl (pc, .goto off, len, a, b, sw) nx = true) (hE : ms_Eff h r Mf (mone gF gK rk (pc, .goto off, len, a, b, sw) L S M) nx) : ms_W h pc L S M := by
  simp only [mchkI, mspec, Bool.and_eq_true, decide_eq_true_eq, and_assoc] at hc
  delta mone at hE
  dsimp only at hE
  obtain ⟨-, hd, rfl, ht, -⟩ := hc
  exact mi_goto h hd ht hE
theorem sx_tsw (h : mBun p l e R s mid args below meth c cc nL Ts own Q D A ad kd wids aC) {dflt lo hi : Int} {offs : Array Int}  (hc : mchkI ow nL cc rf rl (pc, .tableswitch dflt lo hi offs, len, a, b, sw) nx = true) (hE : ms_Eff h r Mf (mone gF gK rk (pc, .tableswitch dflt lo hi offs, len, a, b, sw) L S M) nx) : ms_W h pc L S M := by
  simp only [mchkI, mspec, Bool.and_eq_true, decide_eq_true_eq, and_assoc] at hc
  delta mone at hE
  dsimp only at hE
  obtain ⟨-, hd, hn, hh, ho, rfl⟩ := hc
  split at hE
  · exact mi_tsw h hd hn hh (fun o q => of_decide_eq_true (List.all_eq_true.mp ho o q)) hE
  · exact hE.elim
theorem sx_lsw (h : mBun p l e R s mid args below meth c cc nL Ts own Q D A ad kd wids aC) {dflt : Int} {ps : Array (Int × Int)}  (hc : mchkI ow nL cc rf rl (pc, .lookupswitch dflt ps, len, a, b, sw) nx = true) (hE : ms_Eff h r Mf (mone gF gK rk (pc, .lookupswitch dflt ps, len, a, b, sw) L S M) nx) : ms_W h pc L S M := by
  simp only [mchkI, mspec, Bool.and_eq_true, decide_eq_true_eq, and_assoc] at hc
  delta mone at hE
  dsimp only at hE
  obtain ⟨-, hd, hn, hp, ho, rfl⟩ := hc
  split at hE
  · exact mi_lsw h hd hn hp (fun o q => of_decide_eq_true (List.all_eq_true.mp ho o q)) hE
  · exact hE.elim
theorem sx_iaload (h : mBun p l e R s mid args below meth c cc nL Ts own Q D A ad kd wids aC)   (hc : mchkI ow nL cc rf rl (pc, .iaload, len, a, b, sw) nx = true) (hE : ms_Eff h r Mf (mone gF gK rk (pc, .iaload, len, a, b, sw) L S M) nx) : ms_W h pc L S M := by
  simp only [mchkI, mspec, Bool.and_eq_true, decide_eq_true_eq, and_assoc] at hc
  delta mone at hE
  dsimp only at hE
  obtain ⟨-, hd, rfl, rfl⟩ := hc
  split at hE
  · split at hE
    · rename_i q
      exact mi_iald h hd q hE.1 hE.2
    · exact hE.elim
  · exact hE.elim
theorem sx_laload (h : mBun p l e R s mid args below meth c cc nL Ts own Q D A ad kd wids aC)   (hc : mchkI ow nL cc rf rl (pc, .laload, len, a, b, sw) nx = true) (hE : ms_Eff h r Mf (mone gF gK rk (pc, .laload, len, a, b, sw) L S M) nx) : ms_W h pc L S M := by
  simp only [mchkI, mspec, Bool.and_eq_true, decide_eq_true_eq, and_assoc] at hc
  delta mone at hE
  dsimp only at hE
  obtain ⟨-, hd, rfl, rfl⟩ := hc
  split at hE
  · split at hE
    · rename_i q
      exact mi_lald h hd q hE.1 hE.2
    · exact hE.elim
  · exact hE.elim
theorem sx_iastore (h : mBun p l e R s mid args below meth c cc nL Ts own Q D A ad kd wids aC)   (hc : mchkI ow nL cc rf rl (pc, .iastore, len, a, b, sw) nx = true) (hE : ms_Eff h r Mf (mone gF gK rk (pc, .iastore, len, a, b, sw) L S M) nx) : ms_W h pc L S M := by
  simp only [mchkI, mspec, Bool.and_eq_true, decide_eq_true_eq, and_assoc] at hc
  delta mone at hE
  dsimp only at hE
  obtain ⟨-, hd, rfl, rfl⟩ := hc
  split at hE
  · split at hE
    · rename_i q
      exact mi_iast h hd q hE.1 hE.2
    · exact hE.elim
  · exact hE.elim
theorem sx_lastore (h : mBun p l e R s mid args below meth c cc nL Ts own Q D A ad kd wids aC)   (hc : mchkI ow nL cc rf rl (pc, .lastore, len, a, b, sw) nx = true) (hE : ms_Eff h r Mf (mone gF gK rk (pc, .lastore, len, a, b, sw) L S M) nx) : ms_W h pc L S M := by
  simp only [mchkI, mspec, Bool.and_eq_true, decide_eq_true_eq, and_assoc] at hc
  delta mone at hE
  dsimp only at hE
  obtain ⟨-, hd, rfl, rfl⟩ := hc
  split at hE
  · split at hE
    · rename_i q
      exact mi_last h hd q hE.1 hE.2
    · exact hE.elim
  · exact hE.elim
theorem sx_baload (h : mBun p l e R s mid args below meth c cc nL Ts own Q D A ad kd wids aC)   (hc : mchkI ow nL cc rf rl (pc, .baload, len, a, b, sw) nx = true) (hE : ms_Eff h r Mf (mone gF gK rk (pc, .baload, len, a, b, sw) L S M) nx) : ms_W h pc L S M := by
  simp only [mchkI, mspec, Bool.and_eq_true, decide_eq_true_eq, and_assoc] at hc
  delta mone at hE
  dsimp only at hE
  obtain ⟨-, hd, rfl, rfl⟩ := hc
  split at hE
  · split at hE
    · rename_i q
      exact mi_bald h hd q hE.1 hE.2
    · rename_i q
      exact mi_zald h hd q hE.1 hE.2
    · exact hE.elim
  · exact hE.elim
theorem sx_bastore (h : mBun p l e R s mid args below meth c cc nL Ts own Q D A ad kd wids aC)   (hc : mchkI ow nL cc rf rl (pc, .bastore, len, a, b, sw) nx = true) (hE : ms_Eff h r Mf (mone gF gK rk (pc, .bastore, len, a, b, sw) L S M) nx) : ms_W h pc L S M := by
  simp only [mchkI, mspec, Bool.and_eq_true, decide_eq_true_eq, and_assoc] at hc
  delta mone at hE
  dsimp only at hE
  obtain ⟨-, hd, rfl, rfl⟩ := hc
  split at hE
  · split at hE
    · rename_i q
      exact mi_bast h hd q hE.1 hE.2
    · rename_i q
      exact mi_zast h hd q hE.1 hE.2
    · exact hE.elim
  · exact hE.elim
theorem sx_alen (h : mBun p l e R s mid args below meth c cc nL Ts own Q D A ad kd wids aC)  (hkl : ∀ o t, o ∈ wids ∧ kd o = t → (t - 100) / 4 < 2147483648) (hc : mchkI ow nL cc rf rl (pc, .arraylength, len, a, b, sw) nx = true) (hE : ms_Eff h r Mf (mone gF gK rk (pc, .arraylength, len, a, b, sw) L S M) nx) : ms_W h pc L S M := by
  simp only [mchkI, mspec, Bool.and_eq_true, decide_eq_true_eq, and_assoc] at hc
  delta mone at hE
  dsimp only at hE
  obtain ⟨-, hd, rfl, rfl⟩ := hc
  split at hE
  · rename_i t o S0
    cases hb : Nat.ble 100 t with
    | false => rw [hb] at hE; exact hE.elim
    | true =>
      rw [hb] at hE
      intro ls H locs hL hS hM hP hA
      exact mi_alen h hd hb (hkl o t hS.hd) hE ls H locs hL hS hM hP hA
  · exact hE.elim
end SX
