/-! A small machine of my own: ints as Int, one memory (cell, place) ↦ Int, locals and stack as lists. -/
abbrev mV : Type := Option (Int ⊕ (Int ⊕ (Nat × Nat)))
abbrev iv (x : Int) : mV := some (.inl x)
abbrev jv (x : Int) : mV := some (.inr (.inl x))
abbrev rv (t o : Nat) : mV := some (.inr (.inr (t, o)))
abbrev mM : Type := Nat → Nat → Int
abbrev mR : Type := mV × mM
def st (m : mM) (o k : Nat) (v : Int) : mM := fun o' k' => if o' = o ∧ k' = k then v else m o' k'
def w8 (x : Int) : Int := (x + 128) % 256 - 128
def w32 (x : Int) : Int := (x + 2147483648) % 4294967296 - 2147483648
def w64 (x : Int) : Int := (x + 9223372036854775808) % 18446744073709551616 - 9223372036854775808
def and32 (x y : Int) : Int := (Int32.ofInt x &&& Int32.ofInt y).toInt
def or32 (x y : Int) : Int := (Int32.ofInt x ||| Int32.ofInt y).toInt
def xor32 (x y : Int) : Int := (Int32.ofInt x ^^^ Int32.ofInt y).toInt
def shl32 (x y : Int) : Int := (Int32.ofInt x <<< (Int32.ofInt y &&& 31)).toInt
def shr32 (x y : Int) : Int := (Int32.ofInt x >>> (Int32.ofInt y &&& 31)).toInt
def ushr32 (x y : Int) : Int := ((Int32.ofInt x).toUInt32 >>> ((Int32.ofInt y).toUInt32 &&& Int32.toUInt32 31)).toInt32.toInt
def and64 (x y : Int) : Int := (Int64.ofInt x &&& Int64.ofInt y).toInt
def or64 (x y : Int) : Int := (Int64.ofInt x ||| Int64.ofInt y).toInt
def shl64 (x y : Int) : Int := (Int64.ofInt x <<< ((Int32.ofInt y).toInt64 &&& 63)).toInt
def lcmp (x y : Int) : Int := if x < y then -1 else if x = y then 0 else 1
def abs64 (x : Int) : Int := if 0 < x then x else w64 (-x)
def min32 (x y : Int) : Int := if y < x then y else x
def max32 (x y : Int) : Int := if x < y then y else x
/-- locals -/
def mget : List mV → Nat → mV
  | [], _ => none
  | v :: _, 0 => v
  | _ :: l, i + 1 => mget l i
def mput : List mV → Nat → mV → List mV
  | [], _, _ => []
  | _ :: l, 0, v => v :: l
  | x :: l, i + 1, v => x :: mput l i v
/-- what a store into place i takes away: a long that stands at i - 1 -/
def mcut (L : List mV) : Nat → List mV
  | 0 => L
  | i + 1 => match mget L i with
    | some (.inr (.inl _)) => mput L i none
    | _ => L
def mset1 (L : List mV) (i : Nat) (v : mV) : List mV := mput (mcut L i) i v
def mset2 (L : List mV) (i : Nat) (v : mV) : List mV := mput (mput (mcut L i) i v) (i + 1) none
def mnorm : Nat → List mV → List mV
  | _, [] => []
  | k, v :: l => (match k % 2 with | 0 => none | _ => v) :: mnorm (k / 2) l
/-- arguments laid into locals: a long takes two places -/
def mlay : List mV → List mV
  | [] => []
  | some (.inr (.inl x)) :: l => jv x :: none :: mlay l
  | v :: l => v :: mlay l
def mpad : Nat → List mV → List mV
  | 0, l => l
  | n + 1, [] => none :: mpad n []
  | n + 1, v :: l => v :: mpad n l
/-- the n uppermost of the stack, the lowest first, and what is below -/
def mpop : Nat → List mV → List mV → Option (List mV × List mV)
  | 0, acc, S => some (acc, S)
  | _ + 1, _, [] => none
  | n + 1, acc, v :: S => mpop n (v :: acc) S
/-- an instruction with its place, its length, two numbers and a table -/
abbrev mE : Type := Nat × Instr × Nat × Nat × Int × List (Int × Nat)
/-- a method: places for locals; 0 void, 1 int, 2 long, 3 boolean, 10 and more a reference with that tag; what is kept of the locals at the targets of jumps; the rows -/
abbrev mMeth : Type := Nat × Nat × List (Nat × Nat) × List mE
def mfrom (pc : Nat) : List mE → List mE
  | [] => []
  | e :: es => match Nat.beq e.1 pc with
    | true => match e.2.1 with
      | .nop => []
      | _ => e :: es
    | false => mfrom pc es
def mmask (pc : Nat) : List (Nat × Nat) → Nat
  | [] => 0
  | q :: qs => match Nat.beq q.1 pc with
    | true => q.2
    | false => mmask pc qs
/-- what an instruction does: (kind, comparison, x, y, n, table, v, arguments, locals, stack, memory) -/
abbrev mEff : Type := Nat × ClassFile.Cond × Int × Int × Nat × List (Int × Nat) × mV × List mV × List mV × List mV × mM
def mcond (c : ClassFile.Cond) (x y : Int) : Prop := match c with
  | .eq => x = y | .ne => ¬ x = y | .lt => x < y | .ge => y ≤ x | .gt => y < x | .le => x ≤ y
def mcondD (c : ClassFile.Cond) (x y : Int) : Decidable (mcond c x y) := match c with
  | .eq => inferInstanceAs (Decidable (x = y)) | .ne => inferInstanceAs (Decidable (¬ x = y)) | .lt => inferInstanceAs (Decidable (x < y)) | .ge => inferInstanceAs (Decidable (y ≤ x)) | .gt => inferInstanceAs (Decidable (y < x)) | .le => inferInstanceAs (Decidable (x ≤ y))
def eF (M : mM) : mEff := (0, .eq, 0, 0, 0, [], none, [], [], [], M)
def eN (L S : List mV) (M : mM) : mEff := (1, .eq, 0, 0, 0, [], none, [], L, S, M)
def eJ (n : Nat) (L S : List mV) (M : mM) : mEff := (2, .eq, 0, 0, n, [], none, [], L, S, M)
def eB (c : ClassFile.Cond) (x y : Int) (n : Nat) (L S : List mV) (M : mM) : mEff := (3, c, x, y, n, [], none, [], L, S, M)
def eG (i : Int) (n : Nat) (L S : List mV) (M : mM) : mEff := (4, .eq, i, 0, n, [], none, [], L, S, M)
def eZ (y : Int) (L S : List mV) (M : mM) : mEff := (5, .eq, y, 0, 0, [], none, [], L, S, M)
def eC (m k : Nat) (as L S : List mV) (M : mM) : mEff := (6, .eq, 0, 0, m, [(0, k)], none, as, L, S, M)
def eR (v : mV) (M : mM) : mEff := (7, .eq, 0, 0, 0, [], v, [], [], [], M)
def eRZ (x : Int) (M : mM) : mEff := (8, .eq, x, 0, 0, [], none, [], [], [], M)
def eS (x : Int) (n : Nat) (sw : List (Int × Nat)) (L S : List mV) (M : mM) : mEff := (9, .eq, x, 0, n, sw, none, [], L, S, M)
/-- a field of a class: (kind, number, tag); kind 0 int, 1 boolean, 2 long, 3 a cell at a fixed distance, 4 a reference that changes -/
abbrev mFld : Type := Nat → Nat → Nat × Nat × Nat
def mone (fT : mFld) (kT : Nat → Nat) (rk : Nat) (e : mE) (L S : List mV) (M : mM) : mEff :=
  match e with
  | (_, ins, _, a, b, sw) => match ins with
    | .iconst n => eN L (iv n :: S) M
    | .bipush n => eN L (iv n :: S) M
    | .sipush n => eN L (iv n :: S) M
    | .lconst n => eN L (jv ((n : Nat) : Int) :: S) M
    | .ldc _ => match a with
      | 0 => eN L (iv b :: S) M
      | _ => match Nat.ble S.length 4 with
        | true => eN L (jv b :: S) M
        | false => eF M
    | .ldc_w _ => eN L (iv b :: S) M
    | .ldc2_w _ => eN L (jv b :: S) M
    | .iload i => match mget L i with
      | some (.inl x) => eN L (iv x :: S) M
      | _ => eF M
    | .iload_n i => match mget L i.val with
      | some (.inl x) => eN L (iv x :: S) M
      | _ => eF M
    | .lload i => match mget L i with
      | some (.inr (.inl x)) => eN L (jv x :: S) M
      | _ => eF M
    | .lload_n i => match mget L i.val with
      | some (.inr (.inl x)) => eN L (jv x :: S) M
      | _ => eF M
    | .aload i => match mget L i with
      | some (.inr (.inr (t, o))) => eN L (rv t o :: S) M
      | _ => eF M
    | .aload_n i => match mget L i.val with
      | some (.inr (.inr (t, o))) => eN L (rv t o :: S) M
      | _ => eF M
    | .istore i => match S with
      | some (.inl x) :: S => eN (mset1 L i (iv x)) S M
      | _ => eF M
    | .istore_n i => match S with
      | some (.inl x) :: S => eN (mset1 L i.val (iv x)) S M
      | _ => eF M
    | .lstore i => match S with
      | some (.inr (.inl x)) :: S => eN (mset2 L i (jv x)) S M
      | _ => eF M
    | .lstore_n i => match S with
      | some (.inr (.inl x)) :: S => eN (mset2 L i.val (jv x)) S M
      | _ => eF M
    | .astore i => match S with
      | some (.inr (.inr (t, o))) :: S => eN (mset1 L i (rv t o)) S M
      | _ => eF M
    | .astore_n i => match S with
      | some (.inr (.inr (t, o))) :: S => eN (mset1 L i.val (rv t o)) S M
      | _ => eF M
    | .iinc i n => match mget L i with
      | some (.inl x) => eN (mset1 L i (iv (w32 (x + n)))) S M
      | _ => eF M
    | .iadd => match S with
      | some (.inl y) :: some (.inl x) :: S => eN L (iv (w32 (x + y)) :: S) M
      | _ => eF M
    | .isub => match S with
      | some (.inl y) :: some (.inl x) :: S => eN L (iv (w32 (x - y)) :: S) M
      | _ => eF M
    | .imul => match S with
      | some (.inl y) :: some (.inl x) :: S => eN L (iv (w32 (x * y)) :: S) M
      | _ => eF M
    | .ineg => match S with
      | some (.inl x) :: S => eN L (iv (w32 (-x)) :: S) M
      | _ => eF M
    | .irem => match S with
      | some (.inl y) :: some (.inl x) :: S => eZ y L (iv (x.tmod y) :: S) M
      | _ => eF M
    | .iand => match S with
      | some (.inl y) :: some (.inl x) :: S => eN L (iv (and32 x y) :: S) M
      | _ => eF M
    | .ior => match S with
      | some (.inl y) :: some (.inl x) :: S => eN L (iv (or32 x y) :: S) M
      | _ => eF M
    | .ixor => match S with
      | some (.inl y) :: some (.inl x) :: S => eN L (iv (xor32 x y) :: S) M
      | _ => eF M
    | .ishl => match S with
      | some (.inl y) :: some (.inl x) :: S => eN L (iv (shl32 x y) :: S) M
      | _ => eF M
    | .ishr => match S with
      | some (.inl y) :: some (.inl x) :: S => eN L (iv (shr32 x y) :: S) M
      | _ => eF M
    | .iushr => match S with
      | some (.inl y) :: some (.inl x) :: S => eN L (iv (ushr32 x y) :: S) M
      | _ => eF M
    | .ladd => match S with
      | some (.inr (.inl y)) :: some (.inr (.inl x)) :: S => eN L (jv (w64 (x + y)) :: S) M
      | _ => eF M
    | .lsub => match S with
      | some (.inr (.inl y)) :: some (.inr (.inl x)) :: S => eN L (jv (w64 (x - y)) :: S) M
      | _ => eF M
    | .lmul => match S with
      | some (.inr (.inl y)) :: some (.inr (.inl x)) :: S => eN L (jv (w64 (x * y)) :: S) M
      | _ => eF M
    | .lneg => match S with
      | some (.inr (.inl x)) :: S => eN L (jv (w64 (-x)) :: S) M
      | _ => eF M
    | .ldiv => match S with
      | some (.inr (.inl y)) :: some (.inr (.inl x)) :: S => eZ y L (jv (w64 (x.tdiv y)) :: S) M
      | _ => eF M
    | .lrem => match S with
      | some (.inr (.inl y)) :: some (.inr (.inl x)) :: S => eZ y L (jv (x.tmod y) :: S) M
      | _ => eF M
    | .land => match S with
      | some (.inr (.inl y)) :: some (.inr (.inl x)) :: S => eN L (jv (and64 x y) :: S) M
      | _ => eF M
    | .lor => match S with
      | some (.inr (.inl y)) :: some (.inr (.inl x)) :: S => eN L (jv (or64 x y) :: S) M
      | _ => eF M
    | .lshl => match S with
      | some (.inl y) :: some (.inr (.inl x)) :: S => eN L (jv (shl64 x y) :: S) M
      | _ => eF M
    | .lcmp => match S with
      | some (.inr (.inl y)) :: some (.inr (.inl x)) :: S => eN L (iv (lcmp x y) :: S) M
      | _ => eF M
    | .i2l => match S with
      | some (.inl x) :: S => eN L (jv x :: S) M
      | _ => eF M
    | .l2i => match S with
      | some (.inr (.inl x)) :: S => eN L (iv (w32 x) :: S) M
      | _ => eF M
    | .i2b => match S with
      | some (.inl x) :: S => eN L (iv (w8 x) :: S) M
      | _ => eF M
    | .dup => match S with
      | some (.inl x) :: S => eN L (iv x :: iv x :: S) M
      | some (.inr (.inr (t, o))) :: S => eN L (rv t o :: rv t o :: S) M
      | _ => eF M
    | .dup2 => match S with
      | some (.inl x) :: some (.inr (.inr (t, o))) :: S => eN L (iv x :: rv t o :: iv x :: rv t o :: S) M
      | _ => eF M
    | .pop => match S with
      | some (.inl _) :: S => eN L S M
      | _ => eF M
    | .ifCond c _ => match S with
      | some (.inl x) :: S => eB c x 0 a L S M
      | _ => eF M
    | .if_icmp c _ => match S with
      | some (.inl y) :: some (.inl x) :: S => eB c x y a L S M
      | _ => eF M
    | .goto _ => eJ a L S M
    | .nop => eJ a L S M
    | .tableswitch _ _ _ _ => match S with
      | some (.inl x) :: S => eS x a sw L S M
      | _ => eF M
    | .lookupswitch _ _ => match S with
      | some (.inl x) :: S => eS x a sw L S M
      | _ => eF M
    | .getfield _ => match S with
      | some (.inr (.inr (t, o))) :: S => match Nat.beq t a with
        | true => match fT a b.toNat with
          | (0, _, _) => eN L (iv (M o b.toNat) :: S) M
          | (1, _, _) => eN L (iv (M o b.toNat) :: S) M
          | (2, _, _) => eN L (jv (M o b.toNat) :: S) M
          | (3, d, t') => eN L (rv t' (o + d) :: S) M
          | (4, _, t') => eN L (rv t' (M o b.toNat).toNat :: S) M
          | _ => eF M
        | false => eF M
      | _ => eF M
    | .putfield _ => match S with
      | some (.inl x) :: some (.inr (.inr (t, o))) :: S => match Nat.beq t a with
        | true => match fT a b.toNat with
          | (0, _, _) => eN L S (st M o b.toNat x)
          | (1, _, _) => eG x 2 L S (st M o b.toNat x)
          | _ => eF M
        | false => eF M
      | some (.inr (.inl x)) :: some (.inr (.inr (t, o))) :: S => match Nat.beq t a with
        | true => match fT a b.toNat with
          | (2, _, _) => eN L S (st M o b.toNat x)
          | _ => eF M
        | false => eF M
      | some (.inr (.inr (t1, o1))) :: some (.inr (.inr (t, o))) :: S => match Nat.beq t a with
        | true => match fT a b.toNat with
          | (4, _, t') => match Nat.beq t1 t' with
            | true => eN L S (st M o b.toNat (o1 : Int))
            | false => eF M
          | _ => eF M
        | false => eF M
      | _ => eF M
    | .iaload => match S with
      | some (.inl i) :: some (.inr (.inr (t, o))) :: S => match (t - 100) % 4 with
        | 0 => eG i ((t - 100) / 4) L (iv (M o i.toNat) :: S) M
        | _ => eF M
      | _ => eF M
    | .laload => match S with
      | some (.inl i) :: some (.inr (.inr (t, o))) :: S => match (t - 100) % 4 with
        | 1 => eG i ((t - 100) / 4) L (jv (M o i.toNat) :: S) M
        | _ => eF M
      | _ => eF M
    | .baload => match S with
      | some (.inl i) :: some (.inr (.inr (t, o))) :: S => match (t - 100) % 4 with
        | 2 => eG i ((t - 100) / 4) L (iv (M o i.toNat) :: S) M
        | 3 => eG i ((t - 100) / 4) L (iv (M o i.toNat) :: S) M
        | _ => eF M
      | _ => eF M
    | .iastore => match S with
      | some (.inl x) :: some (.inl i) :: some (.inr (.inr (t, o))) :: S => match (t - 100) % 4 with
        | 0 => eG i ((t - 100) / 4) L S (st M o i.toNat x)
        | _ => eF M
      | _ => eF M
    | .lastore => match S with
      | some (.inr (.inl x)) :: some (.inl i) :: some (.inr (.inr (t, o))) :: S => match (t - 100) % 4 with
        | 1 => eG i ((t - 100) / 4) L S (st M o i.toNat x)
        | _ => eF M
      | _ => eF M
    | .bastore => match S with
      | some (.inl x) :: some (.inl i) :: some (.inr (.inr (t, o))) :: S => match (t - 100) % 4 with
        | 2 => eG i ((t - 100) / 4) L S (st M o i.toNat (w8 x))
        | 3 => eG i ((t - 100) / 4) L S (st M o i.toNat (x % 2))
        | _ => eF M
      | _ => eF M
    | .arraylength => match S with
      | some (.inr (.inr (t, _))) :: S => match Nat.ble 100 t with
        | true => eN L (iv (((t - 100) / 4 : Nat) : Int) :: S) M
        | false => eF M
      | _ => eF M
    | .invokevirtual _ => match mpop b.toNat [] S with
      | some (some (.inr (.inr (t, o))) :: as, S) => match sw with
        | [q] => match Nat.beq t q.2 with
          | true => eC a (kT a) (rv t o :: as) L S M
          | false => eF M
        | _ => eF M
      | _ => eF M
    | .invokestatic _ => match sw with
      | [] => match mpop b.toNat [] S with
        | some (as, S) => eC a (kT a) as L S M
        | none => eF M
      | q :: _ => match q.2 with
        | 0 => match S with
          | some (.inr (.inl x)) :: S => match Nat.ble S.length 4 with
            | true => eN L (jv (abs64 x) :: S) M
            | false => eF M
          | _ => eF M
        | 1 => match S with
          | some (.inl y) :: some (.inl x) :: S => match Nat.ble S.length 4 with
            | true => eN L (iv (min32 x y) :: S) M
            | false => eF M
          | _ => eF M
        | _ => match S with
          | some (.inl y) :: some (.inl x) :: S => match Nat.ble S.length 4 with
            | true => eN L (iv (max32 x y) :: S) M
            | false => eF M
          | _ => eF M
    | .ireturn => match S with
      | [some (.inl x)] => match rk with
        | 1 => eR (iv x) M
        | 3 => eRZ x M
        | _ => eF M
      | _ => eF M
    | .lreturn => match S with
      | [some (.inr (.inl x))] => match rk with
        | 2 => eR (jv x) M
        | _ => eF M
      | _ => eF M
    | .areturn => match S with
      | [some (.inr (.inr (t, o)))] => match Nat.beq rk (t + 10) with
        | true => eR (rv t o) M
        | false => eF M
      | _ => eF M
    | .return_ => match S with
      | [] => match rk with
        | 0 => eR none M
        | _ => eF M
      | _ => eF M
    | _ => eF M
def mswt (jmp : Nat → Option mR) (x : Int) : Nat → List (Int × Nat) → Option mR
  | n, [] => jmp n
  | n, q :: qs => if x = q.1 then jmp q.2 else mswt jmp x n qs
/-- what is done with an answer: of a void method, of an int, of a long, of a reference with a tag -/
def bV (o : Option mR) (k : mM → Option mR) : Option mR := match o with
  | some (none, M) => k M
  | _ => none
def bI (o : Option mR) (k : Int → mM → Option mR) : Option mR := match o with
  | some (some (.inl x), M) => k x M
  | _ => none
def bJ (o : Option mR) (k : Int → mM → Option mR) : Option mR := match o with
  | some (some (.inr (.inl x)), M) => k x M
  | _ => none
def bR (t : Nat) (o : Option mR) (k : Nat → mM → Option mR) : Option mR := match o with
  | some (some (.inr (.inr (t', a))), M) => match Nat.beq t' t with
    | true => k a M
    | false => none
  | _ => none
def mres (kind : Nat) (o : Option mR) (kV : mM → Option mR) (kI kJ : Int → mM → Option mR) (kR : Nat → mM → Option mR) : Option mR := match kind with
  | 0 => bV o kV
  | 1 => bI o kI
  | 2 => bJ o kJ
  | 3 => bI o kI
  | k => bR (k - 10) o kR
/-- a list brought into its plain form (for unfolding only: nothing changes) -/
def mforce {α : Type} : List mV → (List mV → α) → α
  | [], k => k []
  | none :: l, k => mforce l (fun l => k (none :: l))
  | some (.inl x) :: l, k => mforce l (fun l => k (iv x :: l))
  | some (.inr (.inl x)) :: l, k => mforce l (fun l => k (jv x :: l))
  | some (.inr (.inr (t, o))) :: l, k => mforce l (fun l => k (rv t o :: l))
theorem mforce_eq {α : Type} : ∀ (l : List mV) (k : List mV → α), mforce l k = k l
  | [], _ => rfl
  | none :: l, k => mforce_eq l _
  | some (.inl _) :: l, k => mforce_eq l _
  | some (.inr (.inl _)) :: l, k => mforce_eq l _
  | some (.inr (.inr (_, _))) :: l, k => mforce_eq l _
def mstp (fT : mFld) (kT : Nat → Nat) (rk : Nat) (cl : Nat → List mV → mM → Option mR) (jmp : Nat → List mV → List mV → mM → Option mR) : List mE → List mV → List mV → mM → Option mR
  | [], _, _, _ => none
  | e :: es, L, S, M => match mone fT kT rk e L S M with
    | (k, c, x, y, n, sw, v, as, L', S', M') => match k with
      | 1 => mforce L' fun L' => mforce S' fun S' => mstp fT kT rk cl jmp es L' S' M'
      | 2 => jmp n L' S' M'
      | 3 => @ite _ (mcond c x y) (mcondD c x y) (jmp n L' S' M') (mstp fT kT rk cl jmp es L' S' M')
      | 4 => if 0 ≤ x ∧ x < (n : Int) then mstp fT kT rk cl jmp es L' S' M' else none
      | 5 => if x = 0 then none else mstp fT kT rk cl jmp es L' S' M'
      | 6 => match Nat.ble S'.length 4 with
        | true => match sw with
          | [q] => mres q.2 (cl n as M') (fun M2 => mstp fT kT rk cl jmp es L' S' M2) (fun x M2 => mstp fT kT rk cl jmp es L' (iv x :: S') M2) (fun x M2 => mstp fT kT rk cl jmp es L' (jv x :: S') M2) (fun o M2 => mstp fT kT rk cl jmp es L' (rv (q.2 - 10) o :: S') M2)
          | _ => none
        | false => none
      | 7 => some (v, M')
      | 8 => if 0 ≤ x ∧ x < 2 then some (iv x, M') else none
      | 9 => mswt (fun n => jmp n L' S' M') x n sw
      | _ => none
/-- the whole machine: mT gives the methods -/
abbrev mTab : Type := Nat → mMeth
def mrun (fT : mFld) (mT : mTab) : Nat → Nat → Nat → List mV → List mV → mM → Option mR
  | 0, _, _, _, _, _ => none
  | f + 1, m, pc, L, S, M => mstp fT (fun k => (mT k).2.1) (mT m).2.1 (fun m' as M' => match Nat.ble (mlay as).length (mT m').1 with
    | true => mrun fT mT f m' 0 (mpad (mT m').1 (mlay as)) [] M'
    | false => none) (fun pc' L' S' M' => mrun fT mT f m pc' (mnorm (mmask pc' (mT m).2.2.1) L') S' M') (mfrom pc (mT m).2.2.2) L S M
