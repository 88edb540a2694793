/-! Constructors: one walk's rows over an explicit list of cells. -/
def zI (aC : Nat → ClassId) (k n : Nat) : va_E := .inl (aC k, n, .inl (fun _ => 0))
def zJ (aC : Nat → ClassId) (n : Nat) : va_E := .inl (aC 1, n, .inr (.inl (fun _ => 0)))
def cBun (p : Program) (s : State) (mid : MethodId) (meth : Method) (c : Code) (cc : ByteArray) (own : String) (Ts : List Jvm.Cond) (args : Array Value) (D : va_G) (aC : Nat → ClassId) (A : Nat → Prop) : Prop :=
  CallFix p mid c cc 1 s args Ts own ∧ va_K D vwCl (ms_tys aC) s ∧ (∀ w ∈ gALL, w ∈ Ts) ∧ gNest s ∧ (∀ q : Nat, s.heap.size ≤ q → A q) ∧ meth.name = "<init>" ∧ gStrW A s s.heap
/-- what a constructor begins with -/
def mcP (D : va_G) (aC : Nat → ClassId) (ci : Nat) (fs : List Value) (h0 sz : Nat) : Array Value → State → Prop := va_Pc [.ref h0] (fun U => U.heap.size = sz ∧ va_P D vwCl [(h0, .inr (ci, fs))] U.heap ∧ va_K D vwCl (ms_tys aC) U ∧ gNest U ∧ gStrW (va_A [(h0, .inr (ci, fs))] sz) U U.heap)
/-- and what it leaves: its cells, at addresses that the machine chose -/
def mcQ (D : va_G) (ci : Nat) (fs : List Value) (cells : Nat → (Nat → Nat) → va_W) (h0 sz : Nat) : Array Value → State → Outcome → State → Prop := fun _ st oc t => (oc = .returned none ∧ ∃ q : Nat → Nat, va_P D vwCl (cells h0 q) t.heap ∧ va_D (va_A [(h0, .inr (ci, fs))] sz) (cells h0 q)) ∧ va_F (va_A [(h0, .inr (ci, fs))] sz) st t
def mcMet (l : Launch) (y : MethodName) (cc : ByteArray) (rm : Room) (ci : Nat) (fs : List Value) (cells : (Nat → ClassId) → Nat → (Nat → Nat) → va_W) : Prop := ∀ (D : va_G) (aC : Nat → ClassId) (h0 sz : Nat), Met l y (kW y cc 1 none) rm (mcP D aC ci fs h0 sz) (mcQ D ci fs (cells aC) h0 sz) rm.cells rm.slots (va_A [(h0, .inr (ci, fs))] sz)
theorem mc_nd0 : ∀ l : List Nat, l.Nodup → va_nd l = true
  | [], _ => rfl
  | a :: l, h => by
    have h := List.nodup_cons.mp h
    simp [va_nd, h.1, mc_nd0 l h.2]
theorem mc_nd (n : Nat) : va_nd (List.range n) = true := mc_nd0 _ List.nodup_range
section MCT
variable {p : Program} {l : Launch} {e : Env} {R : Room} {s : State} {mid : MethodId} {args : Array Value} {below : List Frame} {meth : Method} {c : Code} {cc : ByteArray} {own : String} {Ts : List Jvm.Cond} {D : va_G} {aC : Nat → ClassId} {A : Nat → Prop} {Q : State → Prop} {CE SE h0 pc : Nat} {st0 : List Value} {ws : va_W}
def mc_W (_ : cBun p s mid meth c cc own Ts args D aC A) (l : Launch) (e : Env) (R : Room) (below : List Frame) (Q : State → Prop) (h0 CE SE pc : Nat) (st0 : List Value) (ws : va_W) : Prop :=
  ∀ (ls : Array Slot) (H : Heap) (locs : List Loc), lv_has ls 1 [(0, .ref h0)] → va_P D vwCl ws H → va_D A ws → va_S A s.heap H locs → W p l e R s mid args below meth c H locs CE SE Q (F0 mid pc ls st0)
theorem mc_aload (h : cBun p s mid meth c cc own Ts args D aC A) (hd : decode cc pc = .ok (.aload_n 0, 1)) (k : mc_W h l e R below Q h0 CE SE (pc + 1) (.ref h0 :: st0) ws) : mc_W h l e R below Q h0 CE SE pc st0 ws :=
  fun ls H locs hl a1 a2 a3 => lv_aload_n h.1.1 h.1.2.1 hd rfl (lv_at hl 0 rfl) (k ls H locs hl a1 a2 a3)
theorem mc_iconst (h : cBun p s mid meth c cc own Ts args D aC A) {n : Int} (hd : decode cc pc = .ok (.iconst n, 1)) (k : mc_W h l e R below Q h0 CE SE (pc + 1) (.int (Int32.ofInt n) :: st0) ws) : mc_W h l e R below Q h0 CE SE pc st0 ws :=
  fun ls H locs hl a1 a2 a3 => lv_iconst h.1.1 h.1.2.1 hd rfl (k ls H locs hl a1 a2 a3)
theorem mc_bipush (h : cBun p s mid meth c cc own Ts args D aC A) {n : Int} (hd : decode cc pc = .ok (.bipush n, 2)) (hn : -128 ≤ n ∧ n < 128) (k : mc_W h l e R below Q h0 CE SE (pc + 2) (.int (Int32.ofInt n) :: st0) ws) : mc_W h l e R below Q h0 CE SE pc st0 ws :=
  fun ls H locs hl a1 a2 a3 => lv_bipush h.1.1 h.1.2.1 hd (ofInt8_32 hn) (k ls H locs hl a1 a2 a3)
theorem mc_sipush (h : cBun p s mid meth c cc own Ts args D aC A) {n : Int} (hd : decode cc pc = .ok (.sipush n, 3)) (hn : -32768 ≤ n ∧ n < 32768) (k : mc_W h l e R below Q h0 CE SE (pc + 3) (.int (Int32.ofInt n) :: st0) ws) : mc_W h l e R below Q h0 CE SE pc st0 ws :=
  fun ls H locs hl a1 a2 a3 => lv_sipush h.1.1 h.1.2.1 hd (ofInt16_32 hn) (k ls H locs hl a1 a2 a3)
theorem mc_ldc (h : cBun p s mid meth c cc own Ts args D aC A) {i j : Nat} {n : Int} (hd : decode cc pc = .ok (.ldc i, 2)) (hw : tb j = some (.constant own i (Int32.ofInt n))) (k : mc_W h l e R below Q h0 CE SE (pc + 2) (.int (Int32.ofInt n) :: st0) ws) : mc_W h l e R below Q h0 CE SE pc st0 ws :=
  fun ls H locs hl a1 a2 a3 => lv_ldc h.1.1 h.1.2.1 h.1.2.2.2.1 (h.1.2.2.2.2 _ (h.2.2.1 _ (in_all hw rfl))) hd (k ls H locs hl a1 a2 a3)
theorem mc_lconst (h : cBun p s mid meth c cc own Ts args D aC A) {n : Fin 2} (hd : decode cc pc = .ok (.lconst n, 1)) (k : mc_W h l e R below Q h0 CE SE (pc + 1) (.long (Int64.ofNat (n : Nat)) :: st0) ws) : mc_W h l e R below Q h0 CE SE pc st0 ws :=
  fun ls H locs hl a1 a2 a3 => lv_lconst h.1.1 h.1.2.1 hd rfl (k ls H locs hl a1 a2 a3)
theorem mc_dup (h : cBun p s mid meth c cc own Ts args D aC A) {q : Nat} (hd : decode cc pc = .ok (.dup, 1)) (k : mc_W h l e R below Q h0 CE SE (pc + 1) (.ref q :: .ref q :: st0) ws) : mc_W h l e R below Q h0 CE SE pc (.ref q :: st0) ws :=
  fun ls H locs hl a1 a2 a3 => lv_dup h.1.1 h.1.2.1 hd rfl (k ls H locs hl a1 a2 a3)
theorem mc_objInit (h : cBun p s mid meth c cc own Ts args D aC A) {i j : Nat} (hd : decode cc pc = .ok (.invokespecial i, 3)) (hw : tb j = some (.methodLink own i Lib.objectInit)) (hf : 1 ≤ R.frames) (hlo : 12 ≤ R.locals) (k : mc_W h l e R below Q h0 CE SE (pc + 3) [] ws) : mc_W h l e R below Q h0 CE SE pc [.ref h0] ws :=
  fun ls H locs hl a1 a2 a3 => W.objInit h.1.1 h.1.2.1 h.1.2.2.2.1 (h.1.2.2.2.2 _ (h.2.2.1 _ (in_all hw rfl))) (h.1.2.2.2.2 _ (h.2.2.1 _ (in_all (i := 1026) (by decide +kernel) rfl))) (h.1.2.2.2.2 _ (h.2.2.1 _ (in_all (i := 1027) (by decide +kernel) rfl))) rfl (by rw [h.1.2.2.1]; exact hl.1) rfl hd hf hlo (k ls H locs hl a1 a2 a3)
theorem mc_putF (h : cBun p s mid meth c cc own Ts args D aC A) {C : String} {T : u_T} {N ci k idx j : Nat} {fs : List Value} {v : Value} {ty : FieldType} {r : va_W} (hd : decode cc pc = .ok (.putfield idx, 3)) (hc : vwCl[ci]? = some (C, T, N)) (hk : k < N) (hw : tb j = some (.fieldLink own idx C (T k).2.1 (T k).2.2.1)) (hC : C = own) (hty : gTY ci k = ty) (hn : narrow ty v = v) (hfit : fits ty v = true) (hl : fs.length = N)
    (kk : mc_W h l e R below Q h0 CE SE (pc + 3) st0 ((h0, .inr (ci, fs.set k v)) :: r)) : mc_W h l e R below Q h0 CE SE pc (v :: .ref h0 :: st0) ((h0, .inr (ci, fs)) :: r) := by
  intro ls H locs hl0 a1 a2 a3
  obtain ⟨c1, c2, c3, c4, c5, c6⟩ := gCls_all ci C T N hc
  have hlink := h.1.2.2.2.2 _ (h.2.2.1 _ (in_all hw rfl))
  have hty2 : parseFieldDescriptor (T k).2.2.1 = some ty := by rw [c2 k hk, hty]
  have hsame : ∀ x, s.fieldFound? (T k).1 (T k).2.1 (T k).2.2.1 = some x → s.fieldFound? C (T k).2.1 (T k).2.2.1 = some x := fun x hx => by rw [c4 k hk] at hx; exact hx
  cases hfin : (T k).2.2.2 with
  | true => exact va_putF h.1.1 h.1.2.1 h.1.2.2.2.2 (fun w hw => h.2.2.1 w (c1 w hw)) (gTY ci) c2 c3 h.1.2.2.2.1 h.2.1 a1 a2 a3 0 rfl hc k hk hlink hsame hfin h.2.2.2.2.2.1 (by rw [c4 k hk, hC]) hty2 hn hfit (by omega) hd (fun H1 locs1 b1 b2 b3 => kk ls H1 locs1 hl0 b1 b2 b3)
  | false => exact va_put h.1.1 h.1.2.1 h.1.2.2.2.2 (fun w hw => h.2.2.1 w (c1 w hw)) (gTY ci) c2 c3 h.1.2.2.2.1 h.2.1 a1 a2 a3 0 rfl hc k hk hlink hsame hfin hty2 hn hfit (by omega) hd (fun H1 locs1 b1 b2 b3 => kk ls H1 locs1 hl0 b1 b2 b3)
theorem mc_newI (h : cBun p s mid meth c cc own Ts args D aC A) {at0 : ArrayType} {k j N : Nat} (hk : k = 0 ∧ at0 = .int ∨ k = 2 ∧ at0 = .byte ∨ k = 3 ∧ at0 = .boolean) (hd : decode cc pc = .ok (.newarray at0, 2)) (hw : tb j = some (.arrayClass (newarray.typeOf at0))) (hN : N < 100000) (hcells : CE + 1 ≤ R.cells) (hslots : SE + N ≤ R.slots)
    (kk : ∀ q : Nat, mc_W h l e R below Q h0 (CE + 1) (SE + N) (pc + 2) (.ref q :: st0) (ws ++ [(q, zI aC k N)])) : mc_W h l e R below Q h0 CE SE pc (.int (Int32.ofInt (N : Int)) :: st0) ws := by
  intro ls H locs hl a1 a2 a3
  have hNn : (Int32.ofInt (N : Int)).toNatClampNeg = N := by
    rw [ofI_nat (by omega) (by omega)]; rfl
  have hneg : ¬ Int32.ofInt (N : Int) < 0 := fun q => by
    have := (ofI_lt (x := (N : Int)) (y := 0) ⟨by omega, by omega⟩ ⟨by omega, by omega⟩).mp q
    omega
  have hcA : ∀ (ty : FieldType) (cA : ClassId), (ms_tys aC)[k]? = some (aC k, ty) → newarray.typeOf at0 = ty → (va_RA s (aC k) ty → va_RA s cA ty → cA = aC k) → va_K D vwCl (ms_tys aC ++ [(cA, ty)]) s → cA = aC k := fun ty cA e1 _ e2 hK =>
    e2 (h.2.1.2 k _ e1).2 (hK.2 4 (cA, ty) rfl).2
  have harr := h.1.2.2.2.2 _ (h.2.2.1 _ (in_all hw rfl))
  rcases hk with ⟨rfl, rfl⟩ | ⟨rfl, rfl⟩ | ⟨rfl, rfl⟩
  · refine va_newa (atype := .int) (ty := .int) (a0 := (N, .inl (fun _ => 0))) (N' := N) h.1.1 h.1.2.1 harr rfl h.2.1 a1 a2 a3 h.2.2.2.2.1 (fun _ => rfl) hneg hNn (by simp [componentBytes]; omega) hcells hslots hd (fun q cA H1 hK b1 b2 b3 => ?_)
    have e := hcA .int cA rfl rfl (fun x y => Option.some.inj (y.symm.trans x)) hK
    subst e
    exact kk q ls H1 locs hl b1 b2 b3
  · refine va_newa (atype := .byte) (ty := .byte) (a0 := (N, .inl (fun _ => 0))) (N' := N) h.1.1 h.1.2.1 harr rfl h.2.1 a1 a2 a3 h.2.2.2.2.1 (fun _ => rfl) hneg hNn (by simp [componentBytes]; omega) hcells hslots hd (fun q cA H1 hK b1 b2 b3 => ?_)
    have e := hcA .byte cA rfl rfl (fun x y => Option.some.inj (y.symm.trans x)) hK
    subst e
    exact kk q ls H1 locs hl b1 b2 b3
  · refine va_newa (atype := .boolean) (ty := .boolean) (a0 := (N, .inl (fun _ => 0))) (N' := N) h.1.1 h.1.2.1 harr rfl h.2.1 a1 a2 a3 h.2.2.2.2.1 (fun _ => rfl) hneg hNn (by simp [componentBytes]; omega) hcells hslots hd (fun q cA H1 hK b1 b2 b3 => ?_)
    have e := hcA .boolean cA rfl rfl (fun x y => Option.some.inj (y.symm.trans x)) hK
    subst e
    exact kk q ls H1 locs hl b1 b2 b3
theorem mc_newJ (h : cBun p s mid meth c cc own Ts args D aC A) {j N : Nat} (hd : decode cc pc = .ok (.newarray .long, 2)) (hw : tb j = some (.arrayClass (newarray.typeOf .long))) (hN : N < 100000) (hcells : CE + 1 ≤ R.cells) (hslots : SE + N ≤ R.slots)
    (kk : ∀ q : Nat, mc_W h l e R below Q h0 (CE + 1) (SE + N) (pc + 2) (.ref q :: st0) (ws ++ [(q, zJ aC N)])) : mc_W h l e R below Q h0 CE SE pc (.int (Int32.ofInt (N : Int)) :: st0) ws := by
  intro ls H locs hl a1 a2 a3
  have hNn : (Int32.ofInt (N : Int)).toNatClampNeg = N := by
    rw [ofI_nat (by omega) (by omega)]; rfl
  have hneg : ¬ Int32.ofInt (N : Int) < 0 := fun q => by
    have := (ofI_lt (x := (N : Int)) (y := 0) ⟨by omega, by omega⟩ ⟨by omega, by omega⟩).mp q
    omega
  have harr := h.1.2.2.2.2 _ (h.2.2.1 _ (in_all hw rfl))
  refine va_newa (atype := .long) (ty := .long) (a0 := (N, .inr (.inl (fun _ => 0)))) (N' := N) h.1.1 h.1.2.1 harr rfl h.2.1 a1 a2 a3 h.2.2.2.2.1 (fun _ => rfl) hneg hNn (by simp [componentBytes]; omega) hcells hslots hd (fun q cA H1 hK b1 b2 b3 => ?_)
  have e : cA = aC 1 := Option.some.inj ((hK.2 4 (cA, .long) rfl).2.symm.trans (h.2.1.2 1 _ rfl).2)
  subst e
  exact kk q ls H1 locs hl b1 b2 b3
theorem mc_new (h : cBun p s mid meth c cc own Ts args D aC A) {C : String} {T : u_T} {N ci idx j1 j2 j3 : Nat} {fs : List Value} (hd : decode cc pc = .ok (.new idx, 3)) (hc : vwCl[ci]? = some (C, T, N)) (hw1 : tb j1 = some (.classLink own idx C)) (hw2 : tb j2 = some (.instantiable C N)) (hw3 : tb j3 = some (.initialized C)) (hfs : ∀ j, j < N → defaultValue (gTY ci j) = vp_V fs j) (hcells : CE + 1 ≤ R.cells) (hslots : SE + N ≤ R.slots)
    (kk : ∀ q : Nat, mc_W h l e R below Q h0 (CE + 1) (SE + N) (pc + 3) (.ref q :: st0) (ws ++ [(q, .inr (ci, fs))])) : mc_W h l e R below Q h0 CE SE pc st0 ws := by
  intro ls H locs hl a1 a2 a3
  obtain ⟨c1, c2, c3, c4, c5, c6⟩ := gCls_all ci C T N hc
  exact va_new h.1.1 h.1.2.1 h.1.2.2.2.2 (fun w hw => h.2.2.1 w (c1 w hw)) (gTY ci) c2 h.1.2.2.2.1 (h.1.2.2.2.2 _ (h.2.2.1 _ (in_all hw1 rfl))) (h.1.2.2.2.2 _ (h.2.2.1 _ (in_all hw2 rfl))) (h.1.2.2.2.2 _ (h.2.2.1 _ (in_all hw3 rfl))) h.2.1 a1 a2 a3 h.2.2.2.2.1 hc hfs hcells hslots hd (fun q H1 b1 b2 b3 => kk q ls H1 locs hl b1 b2 b3)
/-- a constructor called: what it made stands behind the rest -/
theorem mc_call (h : cBun p s mid meth c cc own Ts args D aC A) {y : MethodName} {c2 : ByteArray} {rm : Room} {ci idx j1 j2 j3 j4 q : Nat} {fs : List Value} {cells : (Nat → ClassId) → Nat → (Nat → Nat) → va_W} (hM : mcMet l y c2 rm ci fs cells) (hd : decode cc pc = .ok (.invokespecial idx, 3)) (hw1 : tb j1 = some (.methodLinkNest own idx y "GaugeNet")) (hw2 : tb j2 = some (.code y c2 1 none)) (hw3 : tb j3 = some (.instanceMethod y)) (hw4 : tb j4 = some (.initialized y.cls)) (hy : y.name = "<init>") (hyc : y.cls ≠ "java/lang/invoke/MethodHandle" ∧ y.cls ≠ "java/lang/invoke/VarHandle" ∧ (parseMethodDescriptor y.desc).map (fun d => d.parameters.length) = some 0)
    (hR : rm.frames + 1 ≤ R.frames ∧ 8 + (1 + 11) + rm.locals ≤ R.locals) (hcells : CE + rm.cells ≤ R.cells) (hslots : SE + rm.slots ≤ R.slots) (hst : (st0.map fun v => v.category).sum ≤ 8)
    (kk : ∀ qs : Nat → Nat, mc_W h l e R below Q h0 (CE + rm.cells) (SE + rm.slots) (pc + 3) st0 (ws ++ cells aC q qs)) : mc_W h l e R below Q h0 CE SE pc (.ref q :: st0) (ws ++ [(q, .inr (ci, fs))]) := by
  intro ls H locs hl a1 a2 a3
  have hw : ∀ w ∈ gALL, w.before args s = true := fun w hw => h.1.2.2.2.2 _ (h.2.2.1 w hw)
  have hG : GoodIn Ts (kW y c2 1 none) := good_all h.2.2.1 (fun w hw => by
    rcases List.mem_cons.mp hw with z | z
    · rw [z]; exact in_all hw2 rfl
    · exact z)
  have hlen : (ws ++ [(q, (.inr (ci, fs) : va_E))]).length = ws.length + 1 := by simp
  have hi : (ws ++ [(q, (.inr (ci, fs) : va_E))])[ws.length]? = some (q, .inr (ci, fs)) := by simp
  have hPc : va_P D vwCl [(q, .inr (ci, fs))] H := by
    intro k z hz
    cases k with
    | zero => cases hz; exact a1 _ _ hi
    | succ k => simp at hz
  have hFc : ∀ z, va_A [(q, .inr (ci, fs))] H.size z → A z := by
    intro z hz
    rcases hz with ⟨k, e0, hk⟩ | hz
    · cases k with
      | zero => simp at hk; rw [← hk.1]; exact a2.2 _ _ hi
      | succ k => simp at hk
    · exact h.2.2.2.2.1 z (Nat.le_trans a3.1 hz)
  have hPre : PreS s H (mcP D aC ci fs q H.size) [.ref q] := by
    refine ⟨?_, fun U hU hW => ⟨rfl, by rw [hU], by rw [hU]; exact hPc, va_K.moved hW.alike h.2.1, gNest.warm hW h.2.2.2.1, by rw [hU]; exact gStrW.warm hW a3 hFc h.2.2.2.2.2.2⟩⟩
    intro a U g mk z
    obtain ⟨rfl, z1, z2, z3, z4, z5⟩ := z
    exact ⟨rfl, z1, z2, va_K.moved (u := U) (U := U.calling g mk _) (Vm.Alike.refl U.vm) z3, gNest.same (u := U) (U := U.calling g mk _) rfl z4, gStrW.same (u := U) (U := U.calling g mk _) rfl (Vm.Alike.refl U.vm) z5⟩
  have hr := va_runIN (l := l) (R := R) (As := []) (rest := st0) (g := F0 mid pc ls (.ref q :: st0)) h.1 (hM D aC q H.size) ⟨va_cnB 0 h.1.2.2.2.2 hG rfl rfl rfl (h.2.2.2.1 _ (in_lw hw1) rfl) (hw _ (in_all hw4 rfl)) hyc hR, hy, hw _ (in_all hw3 rfl)⟩ hPre rfl rfl hl.1 rfl (lv_room hst) hd ⟨hcells, hslots⟩ (locs := locs) (below := below) (e := e) (meth := meth) (cells := CE) (slots := SE)
  intro T hT X
  obtain ⟨v, st₀, t, T', L', z0, X', hL', e1, e2, ⟨⟨hv, qs, hP1, hD1⟩, hF1, hF2⟩, hstp⟩ := hr T hT X
  cases hv
  rw [z0] at hF1 hF2
  have hjoin := va_join (D := D) (cl := vwCl) (A0 := A) (ws := ws ++ [(q, .inr (ci, fs))]) (wc := [(q, .inr (ci, fs))]) (wr := ws) (w1 := cells aC q qs) (H := H) (H1 := T'.heap) a1 a2 [ws.length] (List.range ws.length) (by simp) (by
    apply List.ext_getElem?
    intro k
    rw [List.getElem?_map, List.getElem?_map]
    by_cases hk : k < ws.length
    · rw [List.getElem?_range hk]
      simp [List.getElem?_append_left hk, hk]
    · rw [List.getElem?_eq_none (by simpa using hk), List.getElem?_eq_none (by omega)]
      rfl) (mc_nd ws.length) (by intro k hk; simp at hk ⊢; omega) (fun z h1 h2 => by rw [e1]; exact hF2 z h1 h2) hFc (by rw [e1]; exact hP1) hD1
  have hS2 : va_S A s.heap T'.heap (locs ++ L') := by
    refine ⟨Nat.le_trans a3.1 (by rw [e1]; exact hF1), fun z h1 h2 => ?_, fun z hz => ?_⟩
    · rw [e1, hF2 z (Nat.lt_of_lt_of_le h1 a3.1) (fun y => h2 (hFc z y))]
      exact a3.2.1 z h1 h2
    · rcases List.mem_append.mp hz with y | y
      · exact a3.2.2 z y
      · exact hFc _ (hL' z y)
  obtain ⟨t2, b1, b2⟩ := kk qs ls T'.heap (locs ++ L') hl hjoin.1 hjoin.2 hS2 T' rfl X'
  exact ⟨t2, hstp t2 b1, b2⟩
/-- a constructor's contract out of its walk -/
theorem mc_met {y : MethodName} {cc : ByteArray} {rm : Room} {ci : Nat} {fs : List Value} {cells : (Nat → ClassId) → Nat → (Nat → Nat) → va_W} (hpl : plainName y.cls = true) (hy : y.name = "<init>")
    (body : ∀ (p : Program) (e : Env) (s : State) (mid : MethodId) (below : List Frame) (meth : Method) (c : Code) (D : va_G) (aC : Nat → ClassId) (h0 : Nat) (h : cBun p s mid meth c cc y.cls (kW y cc 1 none) #[.ref h0] D aC (va_A [(h0, .inr (ci, fs))] s.heap.size)) (_ : meth.sig.returnType = none) (_ : meth.locks = false), mc_W h l e rm below (MQ below (mcQ D ci fs (cells aC) h0 s.heap.size) #[.ref h0] s rm.cells rm.slots (va_A [(h0, .inr (ci, fs))] s.heap.size)) h0 0 0 0 [] [(h0, .inr (ci, fs))]) : mcMet l y cc rm ci fs cells := by
  intro D aC h0 sz
  refine Met.ofW (cc := cc) (maxL := 1) (ret := none) hpl rfl ?_
  intro p e s mid args below meth c s₁ B hml hv
  obtain ⟨rfl, hsz, hP, hK, hN, hStr⟩ := hv
  subst hsz
  have hts := atoms_spec (ws := kW y cc 1 none) B.pre
  have h : cBun p s mid meth c cc y.cls (kW y cc 1 none) #[.ref h0] D aC (va_A [(h0, .inr (ci, fs))] s.heap.size) := ⟨⟨B.exec, B.bytes, hml, findClass_of_methodNamed B.named, hts⟩, hK, fun w hw => List.mem_cons_of_mem _ hw, hN, fun q hq => Or.inr hq, by rw [← hy]; exact (name_of_methodNamed B.named B.method).1, hStr⟩
  have k := body p e s mid below meth c D aC h0 h B.returns B.notSynchronized
  rw [lg_entry_eq]
  have hl := lv_entry ([.ref h0]) (n := 1) (Nat.le_of_ble_eq_true rfl)
  refine k _ s.heap [] hl hP ⟨fun i j p q hp hq _ => ?_, fun k q hq => va_A.in hq⟩ va_S.rf
  cases i with
  | zero => cases j with
    | zero => rfl
    | succ j => simp at hq
  | succ i => simp at hp
theorem mc_ret {ci : Nat} {fs : List Value} {cells : (Nat → ClassId) → Nat → (Nat → Nat) → va_W} {y : MethodName} (h : cBun p s mid meth c cc own Ts #[.ref h0] D aC (va_A [(h0, .inr (ci, fs))] s.heap.size)) (hr : meth.sig.returnType = none) (hlocks : meth.locks = false) (hd : decode cc pc = .ok (.return_, 1)) (q : Nat → Nat) (hws : cells aC h0 q = ws) : mc_W h l e R below (MQ below (mcQ D ci fs (cells aC) h0 s.heap.size) #[.ref h0] s CE SE (va_A [(h0, .inr (ci, fs))] s.heap.size)) h0 CE SE pc [] ws := by
  intro ls H locs hl a1 a2 a3
  subst hws
  exact W.vret h.1.1 h.1.2.1 hr (fun t ht _ => ⟨⟨rfl, q, by rw [ht]; exact a1, a2⟩, a3.F ht⟩) a3.2.2 hd hlocks
end MCT
