theorem lconst_ofInt (n : Fin 2) : Int64.ofNat (n : Nat) = Int64.ofInt ((n : Nat) : Int) := by
  rcases n with ⟨n, hn⟩
  have hq : n = 0 ∨ n = 1 := by omega
  rcases hq with rfl | rfl <;> rfl
theorem tmod_okI {x y : Int} (h : okI x) : okI (x.tmod y) := by
  unfold okI at h ⊢
  have h1 : (x.tmod y).natAbs ≤ x.natAbs := by
    rw [Int.natAbs_tmod]
    exact Nat.mod_le _ _
  rcases Int.lt_or_le x 0 with q | q
  · have h2 := Int.tmod_nonneg y (show 0 ≤ -x by omega)
    rw [Int.neg_tmod] at h2
    omega
  · have h2 : 0 ≤ x.tmod y := Int.tmod_nonneg y q
    omega
theorem tmod_okJ {x y : Int} (h : okJ x) : okJ (x.tmod y) := by
  unfold okJ at h ⊢
  have h1 : (x.tmod y).natAbs ≤ x.natAbs := by
    rw [Int.natAbs_tmod]
    exact Nat.mod_le _ _
  rcases Int.lt_or_le x 0 with q | q
  · have h2 := Int.tmod_nonneg y (show 0 ≤ -x by omega)
    rw [Int.neg_tmod] at h2
    omega
  · have h2 : 0 ≤ x.tmod y := Int.tmod_nonneg y q
    omega
theorem i2b_w8 {x : Int} (h : okI x) : (Int32.ofInt x).toInt8.toInt32 = Int32.ofInt (w8 x) := by
  apply Int32.toInt_inj.mp
  rw [Int8.toInt_toInt32, Int32.toInt_toInt8, toInt_ofInt32 h, toInt_ofInt32 (w8_ok _)]
  unfold w8
  rw [Int.bmod_def]
  split <;> omega
theorem ofInt8_32 {n : Int} (h : -128 ≤ n ∧ n < 128) : (Int8.ofInt n).toInt32 = Int32.ofInt n := by
  apply Int32.toInt_inj.mp
  rw [Int8.toInt_toInt32, Int8.toInt_ofInt, toInt_ofInt32 ⟨by omega, by omega⟩, show Int8.size = 256 from rfl, Int.bmod_def]
  split <;> omega
theorem ofInt16_32 {n : Int} (h : -32768 ≤ n ∧ n < 32768) : (Int16.ofInt n).toInt32 = Int32.ofInt n := by
  apply Int32.toInt_inj.mp
  rw [Int16.toInt_toInt32, Int16.toInt_ofInt, toInt_ofInt32 ⟨by omega, by omega⟩, show Int16.size = 65536 from rfl, Int.bmod_def]
  split <;> omega
/-! Each instruction of my machine, by the kit's row of it. -/
def gALL : List Jvm.Cond := lw_tbl.filter goodWord
def isNest : Jvm.Cond → Bool
  | .fieldLinkNest .. => true
  | .methodLinkNest .. => true
  | _ => false
/-- the nest mates' links, which a call does not carry by itself -/
def gNest (U : State) : Prop := ∀ w ∈ lw_tbl, isNest w = true → va_Nw w U
theorem gNest.warm {s U : State} (hW : s.WarmedH U.vm) (h : gNest s) : gNest U := by
  intro w hw hn
  have h1 := h w hw hn
  cases w <;> first | exact va_Nw.warmF hW h1 | exact va_Nw.warmM hW h1 | cases hn
theorem gNest.same {u U : State} (e : u.vm = U.vm) (h : gNest u) : gNest U := by
  intro w hw hn
  have h1 := h w hw hn
  cases w <;> first | exact va_Nw.same rfl e h1 | cases hn
/-- the String constants: their places, texts, lengths, bytes -/
def sIdx : List Nat := [84, 90, 92, 94, 96, 98, 100, 102, 104]
def sTx : List String := ["unknown", "eq", "in", "gauge", "maybe", "of", "noise", "cost", "fault"]
def sByt : List (List Int32) := [[117, 110, 107, 110, 111, 119, 110], [101, 113], [105, 110], [103, 97, 117, 103, 101], [109, 97, 121, 98, 101], [111, 102], [110, 111, 105, 115, 101], [99, 111, 115, 116], [102, 97, 117, 108, 116]]
def sLen : List Nat := [7, 2, 2, 5, 5, 2, 5, 4, 5]
/-- the String constants as they stand in the heap, and the two statics that their methods ask -/
def gStrE (adK adV : Nat → Nat) (A : Nat → Prop) (U : State) (H : Heap) : Prop := (∀ i, i < 9 → vk_R RX8 (sIdx.getD i 0) (sTx.getD i "") (adK i) U) ∧ vk_S 9 sLen sByt adK adV A U H ∧ va_Z "java/lang/String" "COMPACT_STRINGS" "Z" (.int 1) A U H ∧ va_Zq "jdk/internal/util/Preconditions" "SIOOBE_FORMATTER" "Ljava/util/function/BiFunction;" A U H
def gStrW (A : Nat → Prop) (U : State) (H : Heap) : Prop := ∃ adK adV : Nat → Nat, gStrE adK adV A U H
theorem gStrE.same {adK adV : Nat → Nat} {A : Nat → Prop} {u U : State} {H : Heap} (e : U.vm = u.vm) (ha : u.vm.Alike U.vm) (h : gStrE adK adV A u H) : gStrE adK adV A U H :=
  ⟨fun i hi => vk_R.same e (h.1 i hi), h.2.1.moved ha, h.2.2.1.moved ha, h.2.2.2.moved ha⟩
theorem gStrE.warm {adK adV : Nat → Nat} {A B : Nat → Prop} {s U : State} {H : Heap} {locs : List Loc} (hW : s.WarmedH U.vm) (hS : va_S A s.heap H locs) (hAB : ∀ q, B q → A q) (h : gStrE adK adV A s s.heap) : gStrE adK adV B U H :=
  ⟨fun i hi => vk_R.warm hW (h.1 i hi), ((h.2.1.kept hS.2.1).moved hW.alike).narrow hAB, ((h.2.2.1.kept hS.2.1).moved hW.alike).narrow hAB, ((h.2.2.2.kept hS.2.1).moved hW.alike).narrow hAB⟩
theorem gStrW.same {A : Nat → Prop} {u U : State} {H : Heap} (e : U.vm = u.vm) (ha : u.vm.Alike U.vm) (h : gStrW A u H) : gStrW A U H := by
  obtain ⟨adK, adV, h⟩ := h
  exact ⟨adK, adV, h.same e ha⟩
theorem gStrW.warm {A B : Nat → Prop} {s U : State} {H : Heap} {locs : List Loc} (hW : s.WarmedH U.vm) (hS : va_S A s.heap H locs) (hAB : ∀ q, B q → A q) (h : gStrW A s s.heap) : gStrW B U H := by
  obtain ⟨adK, adV, h⟩ := h
  exact ⟨adK, adV, h.warm hW hS hAB⟩
def ms_tys (aC : Nat → ClassId) : List (ClassId × FieldType) := [(aC 0, .int), (aC 1, .long), (aC 2, .byte), (aC 3, .boolean)]
def mBun (p : Program) (l : Launch) (e : Env) (R : Room) (s : State) (mid : MethodId) (args : Array Value) (below : List Frame) (meth : Method) (c : Code) (cc : ByteArray) (nL : Nat) (Ts : List Jvm.Cond) (own : String) (Q : State → Prop) (D : va_G) (A : Nat → Prop) (ad kd : Nat → Nat) (wids : List Nat) (aC : Nat → ClassId) : Prop :=
  CallFix p mid c cc nL s args Ts own ∧ va_K D vwCl (ms_tys aC) s ∧ va_D A (ms_ws ad kd wids aC (fun _ _ => 0)) ∧ wids.Nodup ∧ (∀ w ∈ gALL, w ∈ Ts) ∧ gNest s ∧ (∀ q : Nat, s.heap.size ≤ q → A q) ∧ gStrW A s s.heap
section MI
variable {p : Program} {l : Launch} {e : Env} {R : Room} {s : State} {mid : MethodId} {args : Array Value} {below : List Frame} {meth : Method} {c : Code} {cc : ByteArray} {nL : Nat} {Ts : List Jvm.Cond} {own : String} {Q : State → Prop} {D : va_G} {A : Nat → Prop} {ad kd : Nat → Nat} {wids : List Nat} {aC : Nat → ClassId}
def ms_W (_ : mBun p l e R s mid args below meth c cc nL Ts own Q D A ad kd wids aC) (pc : Nat) (L S : List mV) (M : mM) : Prop :=
  ∀ (ls : Array Slot) (H : Heap) (locs : List Loc), ms_L ad kd wids ls nL L → ms_S kd wids S → ms_M kd wids M → va_P D vwCl (ms_ws ad kd wids aC M) H → va_S A s.heap H locs → W p l e R s mid args below meth c H locs 0 0 Q (F0 mid pc ls (S.map (ms_v ad)))
theorem ms_S.push {v : mV} {S : List mV} (h : ms_S kd wids S) (h0 : v ≠ none) (h1 : ms_ok kd wids v) : ms_S kd wids (v :: S) := fun w hw => by
  rcases List.mem_cons.mp hw with q | q
  · rw [q]; exact ⟨h0, h1⟩
  · exact h w q
theorem ms_S.tl {v : mV} {S : List mV} (h : ms_S kd wids (v :: S)) : ms_S kd wids S := fun w hw => h w (List.mem_cons_of_mem _ hw)
theorem ms_S.hd {v : mV} {S : List mV} (h : ms_S kd wids (v :: S)) : ms_ok kd wids v := (h v List.mem_cons_self).2
theorem ms_S.pushI {x : Int} {S : List mV} (h : ms_S kd wids S) (h1 : okI x) : ms_S kd wids (iv x :: S) := h.push (by simp) h1
theorem ms_S.pushJ {x : Int} {S : List mV} (h : ms_S kd wids S) (h1 : okJ x) : ms_S kd wids (jv x :: S) := h.push (by simp) h1
theorem ms_W.forget (h : mBun p l e R s mid args below meth c cc nL Ts own Q D A ad kd wids aC) {pc : Nat} {L S : List mV} {M : mM} (k : Nat) (w : ms_W h pc (mnorm k L) S M) : ms_W h pc L S M :=
  fun ls H locs hL hS hM hP hA => w ls H locs (ms_L.norm ad kd wids k hL) hS hM hP hA
variable {pc : Nat} {L S : List mV} {M : mM}

theorem mi_iconst (h : mBun p l e R s mid args below meth c cc nL Ts own Q D A ad kd wids aC) {n : Int} (hd : decode cc pc = .ok (.iconst n, 1)) (hn : okI n) (k : ms_W h (pc + 1) L (iv n :: S) M) : ms_W h pc L S M := by
  intro ls H locs hL hS hM hP hA
  exact lv_iconst h.1.1 h.1.2.1 hd rfl (k ls H locs hL (hS.pushI hn) hM hP hA)
theorem mi_bipush (h : mBun p l e R s mid args below meth c cc nL Ts own Q D A ad kd wids aC) {n : Int} (hd : decode cc pc = .ok (.bipush n, 2)) (hn : -128 ≤ n ∧ n < 128) (k : ms_W h (pc + 2) L (iv n :: S) M) : ms_W h pc L S M := by
  intro ls H locs hL hS hM hP hA
  exact lv_bipush h.1.1 h.1.2.1 hd (ofInt8_32 hn) (k ls H locs hL (hS.pushI ⟨by omega, by omega⟩) hM hP hA)
theorem mi_sipush (h : mBun p l e R s mid args below meth c cc nL Ts own Q D A ad kd wids aC) {n : Int} (hd : decode cc pc = .ok (.sipush n, 3)) (hn : -32768 ≤ n ∧ n < 32768) (k : ms_W h (pc + 3) L (iv n :: S) M) : ms_W h pc L S M := by
  intro ls H locs hL hS hM hP hA
  exact lv_sipush h.1.1 h.1.2.1 hd (ofInt16_32 hn) (k ls H locs hL (hS.pushI ⟨by omega, by omega⟩) hM hP hA)
theorem mi_lconst (h : mBun p l e R s mid args below meth c cc nL Ts own Q D A ad kd wids aC) {n : Fin 2} (hd : decode cc pc = .ok (.lconst n, 1)) (k : ms_W h (pc + 1) L (jv ((n : Nat) : Int) :: S) M) : ms_W h pc L S M := by
  intro ls H locs hL hS hM hP hA
  exact lv_lconst h.1.1 h.1.2.1 hd (lconst_ofInt n) (k ls H locs hL (hS.pushJ (by unfold okJ; have := n.2; omega)) hM hP hA)
theorem mi_ldc (h : mBun p l e R s mid args below meth c cc nL Ts own Q D A ad kd wids aC) {i : Nat} {n : Int} (hd : decode cc pc = .ok (.ldc i, 2)) (hw : Cond.constant own i (Int32.ofInt n) ∈ Ts) (hn : okI n) (k : ms_W h (pc + 2) L (iv n :: S) M) : ms_W h pc L S M := by
  intro ls H locs hL hS hM hP hA
  exact lv_ldc h.1.1 h.1.2.1 h.1.2.2.2.1 (h.1.2.2.2.2 _ hw) hd (k ls H locs hL (hS.pushI hn) hM hP hA)
theorem mi_ldc_w (h : mBun p l e R s mid args below meth c cc nL Ts own Q D A ad kd wids aC) {i : Nat} {n : Int} (hd : decode cc pc = .ok (.ldc_w i, 3)) (hw : Cond.constant own i (Int32.ofInt n) ∈ Ts) (hn : okI n) (k : ms_W h (pc + 3) L (iv n :: S) M) : ms_W h pc L S M := by
  intro ls H locs hL hS hM hP hA
  exact lv_ldcw h.1.1 h.1.2.1 h.1.2.2.2.1 (h.1.2.2.2.2 _ hw) hd (k ls H locs hL (hS.pushI hn) hM hP hA)
theorem mi_ldc2 (h : mBun p l e R s mid args below meth c cc nL Ts own Q D A ad kd wids aC) {i : Nat} {n : Int} (hd : decode cc pc = .ok (.ldc2_w i, 3)) (hw : Cond.constantLong own i (Int64.ofInt n) ∈ Ts) (hn : okJ n) (k : ms_W h (pc + 3) L (jv n :: S) M) : ms_W h pc L S M := by
  intro ls H locs hL hS hM hP hA
  exact lv_ldc2 h.1.1 h.1.2.1 h.1.2.2.2.1 (h.1.2.2.2.2 _ hw) hd (k ls H locs hL (hS.pushJ hn) hM hP hA)
theorem mi_iload (h : mBun p l e R s mid args below meth c cc nL Ts own Q D A ad kd wids aC) {i : Nat} {x : Int} (hd : decode cc pc = .ok (.iload i, 2)) (hi : mget L i = iv x) (k : ms_W h (pc + 2) L (iv x :: S) M) : ms_W h pc L S M := by
  intro ls H locs hL hS hM hP hA
  have g := hL.get _ _ _ hi (by simp)
  exact lv_iload h.1.1 h.1.2.1 hd g.1 (k ls H locs hL (hS.push (by simp) g.2) hM hP hA)
theorem mi_iload_n (h : mBun p l e R s mid args below meth c cc nL Ts own Q D A ad kd wids aC) {i : Fin 4} {x : Int} (hd : decode cc pc = .ok (.iload_n i, 1)) (hi : mget L i.val = iv x) (k : ms_W h (pc + 1) L (iv x :: S) M) : ms_W h pc L S M := by
  intro ls H locs hL hS hM hP hA
  have g := hL.get _ _ _ hi (by simp)
  exact lv_iload_n h.1.1 h.1.2.1 hd rfl g.1 (k ls H locs hL (hS.push (by simp) g.2) hM hP hA)
theorem mi_lload (h : mBun p l e R s mid args below meth c cc nL Ts own Q D A ad kd wids aC) {i : Nat} {x : Int} (hd : decode cc pc = .ok (.lload i, 2)) (hi : mget L i = jv x) (k : ms_W h (pc + 2) L (jv x :: S) M) : ms_W h pc L S M := by
  intro ls H locs hL hS hM hP hA
  have g := hL.get _ _ _ hi (by simp)
  exact lv_lload h.1.1 h.1.2.1 hd g.1 (k ls H locs hL (hS.push (by simp) g.2) hM hP hA)
theorem mi_lload_n (h : mBun p l e R s mid args below meth c cc nL Ts own Q D A ad kd wids aC) {i : Fin 4} {x : Int} (hd : decode cc pc = .ok (.lload_n i, 1)) (hi : mget L i.val = jv x) (k : ms_W h (pc + 1) L (jv x :: S) M) : ms_W h pc L S M := by
  intro ls H locs hL hS hM hP hA
  have g := hL.get _ _ _ hi (by simp)
  exact lv_lload_n h.1.1 h.1.2.1 hd rfl g.1 (k ls H locs hL (hS.push (by simp) g.2) hM hP hA)
theorem mi_aload (h : mBun p l e R s mid args below meth c cc nL Ts own Q D A ad kd wids aC) {i : Nat} {t o : Nat} (hd : decode cc pc = .ok (.aload i, 2)) (hi : mget L i = rv t o) (k : ms_W h (pc + 2) L (rv t o :: S) M) : ms_W h pc L S M := by
  intro ls H locs hL hS hM hP hA
  have g := hL.get _ _ _ hi (by simp)
  exact lv_aload h.1.1 h.1.2.1 hd g.1 (k ls H locs hL (hS.push (by simp) g.2) hM hP hA)
theorem mi_aload_n (h : mBun p l e R s mid args below meth c cc nL Ts own Q D A ad kd wids aC) {i : Fin 4} {t o : Nat} (hd : decode cc pc = .ok (.aload_n i, 1)) (hi : mget L i.val = rv t o) (k : ms_W h (pc + 1) L (rv t o :: S) M) : ms_W h pc L S M := by
  intro ls H locs hL hS hM hP hA
  have g := hL.get _ _ _ hi (by simp)
  exact lv_aload_n h.1.1 h.1.2.1 hd rfl g.1 (k ls H locs hL (hS.push (by simp) g.2) hM hP hA)
theorem mi_istore (h : mBun p l e R s mid args below meth c cc nL Ts own Q D A ad kd wids aC) {i : Nat} {x : Int} (hd : decode cc pc = .ok (.istore i, 2)) (hn : i < nL) (k : ms_W h (pc + 2) (mset1 L i (iv x)) S M) : ms_W h pc L (iv x :: S) M := by
  intro ls H locs hL hS hM hP hA
  refine lv_istore (nL := nL) h.1.1 h.1.2.1 hd  hL.1 hn rfl (fun ls2 hl2 => ?_)
  exact k ls2 H locs (ms_L.set1 ad kd wids hL hn (v := iv x) (by simp) hS.hd hl2) hS.tl hM hP hA
theorem mi_istore_n (h : mBun p l e R s mid args below meth c cc nL Ts own Q D A ad kd wids aC) {i : Fin 4} {x : Int} (hd : decode cc pc = .ok (.istore_n i, 1)) (hn : i.val < nL) (k : ms_W h (pc + 1) (mset1 L i.val (iv x)) S M) : ms_W h pc L (iv x :: S) M := by
  intro ls H locs hL hS hM hP hA
  refine lv_istore_n (nL := nL) h.1.1 h.1.2.1 hd rfl hL.1 hn rfl (fun ls2 hl2 => ?_)
  exact k ls2 H locs (ms_L.set1 ad kd wids hL hn (v := iv x) (by simp) hS.hd hl2) hS.tl hM hP hA
theorem mi_astore (h : mBun p l e R s mid args below meth c cc nL Ts own Q D A ad kd wids aC) {i : Nat} {t o : Nat} (hd : decode cc pc = .ok (.astore i, 2)) (hn : i < nL) (k : ms_W h (pc + 2) (mset1 L i (rv t o)) S M) : ms_W h pc L (rv t o :: S) M := by
  intro ls H locs hL hS hM hP hA
  refine lv_astore (nL := nL) h.1.1 h.1.2.1 hd  hL.1 hn rfl (fun ls2 hl2 => ?_)
  exact k ls2 H locs (ms_L.set1 ad kd wids hL hn (v := rv t o) (by simp) hS.hd hl2) hS.tl hM hP hA
theorem mi_astore_n (h : mBun p l e R s mid args below meth c cc nL Ts own Q D A ad kd wids aC) {i : Fin 4} {t o : Nat} (hd : decode cc pc = .ok (.astore_n i, 1)) (hn : i.val < nL) (k : ms_W h (pc + 1) (mset1 L i.val (rv t o)) S M) : ms_W h pc L (rv t o :: S) M := by
  intro ls H locs hL hS hM hP hA
  refine lv_astore_n (nL := nL) h.1.1 h.1.2.1 hd rfl hL.1 hn rfl (fun ls2 hl2 => ?_)
  exact k ls2 H locs (ms_L.set1 ad kd wids hL hn (v := rv t o) (by simp) hS.hd hl2) hS.tl hM hP hA
theorem mi_lstore (h : mBun p l e R s mid args below meth c cc nL Ts own Q D A ad kd wids aC) {i : Nat} {x : Int} (hd : decode cc pc = .ok (.lstore i, 2)) (hn : i + 1 < nL) (k : ms_W h (pc + 2) (mset2 L i (jv x)) S M) : ms_W h pc L (jv x :: S) M := by
  intro ls H locs hL hS hM hP hA
  refine lv_lstore (nL := nL) h.1.1 h.1.2.1 hd  hL.1 hn rfl (fun ls2 hl2 => ?_)
  exact k ls2 H locs (ms_L.set2 ad kd wids hL hn (v := jv x) (by simp) hS.hd hl2) hS.tl hM hP hA
theorem mi_lstore_n (h : mBun p l e R s mid args below meth c cc nL Ts own Q D A ad kd wids aC) {i : Fin 4} {x : Int} (hd : decode cc pc = .ok (.lstore_n i, 1)) (hn : i.val + 1 < nL) (k : ms_W h (pc + 1) (mset2 L i.val (jv x)) S M) : ms_W h pc L (jv x :: S) M := by
  intro ls H locs hL hS hM hP hA
  refine lv_lstore_n (nL := nL) h.1.1 h.1.2.1 hd rfl hL.1 hn rfl (fun ls2 hl2 => ?_)
  exact k ls2 H locs (ms_L.set2 ad kd wids hL hn (v := jv x) (by simp) hS.hd hl2) hS.tl hM hP hA
theorem mi_iinc (h : mBun p l e R s mid args below meth c cc nL Ts own Q D A ad kd wids aC) {i : Nat} {n x : Int} (hd : decode cc pc = .ok (.iinc i n, 3)) (hn : i < nL) (hi : mget L i = iv x) (k : ms_W h (pc + 3) (mset1 L i (iv (w32 (x + n)))) S M) : ms_W h pc L S M := by
  intro ls H locs hL hS hM hP hA
  have hm : (i, ms_v ad (iv x)) ∈ ms_ll ad L := (ms_mem ad).mpr ⟨_, by simp, hi, rfl⟩
  obtain ⟨q, hq⟩ := List.getElem?_of_mem hm
  refine lv_iinc (nL := nL) (k := q) (v := Int32.ofInt (w32 (x + n))) h.1.1 h.1.2.1 hd hL.1 hq (by rw [ofInt_w32, Int32.ofInt_add]) hn rfl (fun ls2 hl2 => ?_)
  exact k ls2 H locs (ms_L.set1 ad kd wids hL hn (v := iv (w32 (x + n))) (by simp) (w32_ok _) hl2) hS hM hP hA
theorem mi_iadd (h : mBun p l e R s mid args below meth c cc nL Ts own Q D A ad kd wids aC) {x y : Int} (hd : decode cc pc = .ok (.iadd, 1)) (k : ms_W h (pc + 1) L (iv (w32 (x + y)) :: S) M) : ms_W h pc L (iv y :: iv x :: S) M := by
  intro ls H locs hL hS hM hP hA
  refine lv_iadd h.1.1 h.1.2.1 hd ?_
  rw [← Int32.ofInt_add, ← ofInt_w32]
  exact k ls H locs hL (hS.tl.tl.pushI (w32_ok _)) hM hP hA
theorem mi_isub (h : mBun p l e R s mid args below meth c cc nL Ts own Q D A ad kd wids aC) {x y : Int} (hd : decode cc pc = .ok (.isub, 1)) (k : ms_W h (pc + 1) L (iv (w32 (x - y)) :: S) M) : ms_W h pc L (iv y :: iv x :: S) M := by
  intro ls H locs hL hS hM hP hA
  refine lv_isub h.1.1 h.1.2.1 hd ?_
  rw [← Int32.ofInt_sub, ← ofInt_w32]
  exact k ls H locs hL (hS.tl.tl.pushI (w32_ok _)) hM hP hA
theorem mi_imul (h : mBun p l e R s mid args below meth c cc nL Ts own Q D A ad kd wids aC) {x y : Int} (hd : decode cc pc = .ok (.imul, 1)) (k : ms_W h (pc + 1) L (iv (w32 (x * y)) :: S) M) : ms_W h pc L (iv y :: iv x :: S) M := by
  intro ls H locs hL hS hM hP hA
  refine lv_imul h.1.1 h.1.2.1 hd ?_
  rw [← Int32.ofInt_mul, ← ofInt_w32]
  exact k ls H locs hL (hS.tl.tl.pushI (w32_ok _)) hM hP hA
theorem mi_ladd (h : mBun p l e R s mid args below meth c cc nL Ts own Q D A ad kd wids aC) {x y : Int} (hd : decode cc pc = .ok (.ladd, 1)) (k : ms_W h (pc + 1) L (jv (w64 (x + y)) :: S) M) : ms_W h pc L (jv y :: jv x :: S) M := by
  intro ls H locs hL hS hM hP hA
  refine lv_ladd h.1.1 h.1.2.1 hd ?_
  rw [← Int64.ofInt_add, ← ofInt_w64]
  exact k ls H locs hL (hS.tl.tl.pushJ (w64_ok _)) hM hP hA
theorem mi_lsub (h : mBun p l e R s mid args below meth c cc nL Ts own Q D A ad kd wids aC) {x y : Int} (hd : decode cc pc = .ok (.lsub, 1)) (k : ms_W h (pc + 1) L (jv (w64 (x - y)) :: S) M) : ms_W h pc L (jv y :: jv x :: S) M := by
  intro ls H locs hL hS hM hP hA
  refine lv_lsub h.1.1 h.1.2.1 hd ?_
  rw [← Int64.ofInt_sub, ← ofInt_w64]
  exact k ls H locs hL (hS.tl.tl.pushJ (w64_ok _)) hM hP hA
theorem mi_lmul (h : mBun p l e R s mid args below meth c cc nL Ts own Q D A ad kd wids aC) {x y : Int} (hd : decode cc pc = .ok (.lmul, 1)) (k : ms_W h (pc + 1) L (jv (w64 (x * y)) :: S) M) : ms_W h pc L (jv y :: jv x :: S) M := by
  intro ls H locs hL hS hM hP hA
  refine lv_lmul h.1.1 h.1.2.1 hd ?_
  rw [← Int64.ofInt_mul, ← ofInt_w64]
  exact k ls H locs hL (hS.tl.tl.pushJ (w64_ok _)) hM hP hA
theorem mi_iand (h : mBun p l e R s mid args below meth c cc nL Ts own Q D A ad kd wids aC) {x y : Int} (hd : decode cc pc = .ok (.iand, 1)) (k : ms_W h (pc + 1) L (iv (and32 x y) :: S) M) : ms_W h pc L (iv y :: iv x :: S) M := by
  intro ls H locs hL hS hM hP hA
  refine lv_iand h.1.1 h.1.2.1 hd ?_
  have k1 := k ls H locs hL (hS.tl.tl.pushI (okI_toInt _)) hM hP hA
  simp only [and32, List.map_cons, ms_v, Int32.ofInt_toInt] at k1
  exact k1
theorem mi_ior (h : mBun p l e R s mid args below meth c cc nL Ts own Q D A ad kd wids aC) {x y : Int} (hd : decode cc pc = .ok (.ior, 1)) (k : ms_W h (pc + 1) L (iv (or32 x y) :: S) M) : ms_W h pc L (iv y :: iv x :: S) M := by
  intro ls H locs hL hS hM hP hA
  refine lv_ior h.1.1 h.1.2.1 hd ?_
  have k1 := k ls H locs hL (hS.tl.tl.pushI (okI_toInt _)) hM hP hA
  simp only [or32, List.map_cons, ms_v, Int32.ofInt_toInt] at k1
  exact k1
theorem mi_ixor (h : mBun p l e R s mid args below meth c cc nL Ts own Q D A ad kd wids aC) {x y : Int} (hd : decode cc pc = .ok (.ixor, 1)) (k : ms_W h (pc + 1) L (iv (xor32 x y) :: S) M) : ms_W h pc L (iv y :: iv x :: S) M := by
  intro ls H locs hL hS hM hP hA
  refine lv_ixor h.1.1 h.1.2.1 hd ?_
  have k1 := k ls H locs hL (hS.tl.tl.pushI (okI_toInt _)) hM hP hA
  simp only [xor32, List.map_cons, ms_v, Int32.ofInt_toInt] at k1
  exact k1
theorem mi_ishl (h : mBun p l e R s mid args below meth c cc nL Ts own Q D A ad kd wids aC) {x y : Int} (hd : decode cc pc = .ok (.ishl, 1)) (k : ms_W h (pc + 1) L (iv (shl32 x y) :: S) M) : ms_W h pc L (iv y :: iv x :: S) M := by
  intro ls H locs hL hS hM hP hA
  refine lv_ishl h.1.1 h.1.2.1 hd ?_
  have k1 := k ls H locs hL (hS.tl.tl.pushI (okI_toInt _)) hM hP hA
  simp only [shl32, List.map_cons, ms_v, Int32.ofInt_toInt] at k1
  exact k1
theorem mi_ishr (h : mBun p l e R s mid args below meth c cc nL Ts own Q D A ad kd wids aC) {x y : Int} (hd : decode cc pc = .ok (.ishr, 1)) (k : ms_W h (pc + 1) L (iv (shr32 x y) :: S) M) : ms_W h pc L (iv y :: iv x :: S) M := by
  intro ls H locs hL hS hM hP hA
  refine lv_ishr h.1.1 h.1.2.1 hd ?_
  have k1 := k ls H locs hL (hS.tl.tl.pushI (okI_toInt _)) hM hP hA
  simp only [shr32, List.map_cons, ms_v, Int32.ofInt_toInt] at k1
  exact k1
theorem mi_iushr (h : mBun p l e R s mid args below meth c cc nL Ts own Q D A ad kd wids aC) {x y : Int} (hd : decode cc pc = .ok (.iushr, 1)) (k : ms_W h (pc + 1) L (iv (ushr32 x y) :: S) M) : ms_W h pc L (iv y :: iv x :: S) M := by
  intro ls H locs hL hS hM hP hA
  refine lv_iushr h.1.1 h.1.2.1 hd rfl ?_
  have k1 := k ls H locs hL (hS.tl.tl.pushI (okI_toInt _)) hM hP hA
  simp only [ushr32, List.map_cons, ms_v, Int32.ofInt_toInt] at k1
  exact k1
theorem mi_land (h : mBun p l e R s mid args below meth c cc nL Ts own Q D A ad kd wids aC) {x y : Int} (hd : decode cc pc = .ok (.land, 1)) (k : ms_W h (pc + 1) L (jv (and64 x y) :: S) M) : ms_W h pc L (jv y :: jv x :: S) M := by
  intro ls H locs hL hS hM hP hA
  refine lv_land h.1.1 h.1.2.1 hd ?_
  have k1 := k ls H locs hL (hS.tl.tl.pushJ (okJ_toInt _)) hM hP hA
  simp only [and64, List.map_cons, ms_v, Int64.ofInt_toInt] at k1
  exact k1
theorem mi_lor (h : mBun p l e R s mid args below meth c cc nL Ts own Q D A ad kd wids aC) {x y : Int} (hd : decode cc pc = .ok (.lor, 1)) (k : ms_W h (pc + 1) L (jv (or64 x y) :: S) M) : ms_W h pc L (jv y :: jv x :: S) M := by
  intro ls H locs hL hS hM hP hA
  refine lv_lor h.1.1 h.1.2.1 hd ?_
  have k1 := k ls H locs hL (hS.tl.tl.pushJ (okJ_toInt _)) hM hP hA
  simp only [or64, List.map_cons, ms_v, Int64.ofInt_toInt] at k1
  exact k1
theorem mi_lshl (h : mBun p l e R s mid args below meth c cc nL Ts own Q D A ad kd wids aC) {x y : Int} (hd : decode cc pc = .ok (.lshl, 1)) (k : ms_W h (pc + 1) L (jv (shl64 x y) :: S) M) : ms_W h pc L (iv y :: jv x :: S) M := by
  intro ls H locs hL hS hM hP hA
  refine lv_lshl h.1.1 h.1.2.1 hd rfl ?_
  have k1 := k ls H locs hL (hS.tl.tl.pushJ (okJ_toInt _)) hM hP hA
  simp only [shl64, List.map_cons, ms_v, Int64.ofInt_toInt] at k1
  exact k1
theorem mi_ineg (h : mBun p l e R s mid args below meth c cc nL Ts own Q D A ad kd wids aC) {x : Int} (hd : decode cc pc = .ok (.ineg, 1)) (k : ms_W h (pc + 1) L (iv (w32 (-x)) :: S) M) : ms_W h pc L (iv x :: S) M := by
  intro ls H locs hL hS hM hP hA
  refine lv_ineg h.1.1 h.1.2.1 hd ?_
  rw [← Int32.ofInt_neg, ← ofInt_w32]
  exact k ls H locs hL (hS.tl.pushI (w32_ok _)) hM hP hA
theorem mi_lneg (h : mBun p l e R s mid args below meth c cc nL Ts own Q D A ad kd wids aC) {x : Int} (hd : decode cc pc = .ok (.lneg, 1)) (k : ms_W h (pc + 1) L (jv (w64 (-x)) :: S) M) : ms_W h pc L (jv x :: S) M := by
  intro ls H locs hL hS hM hP hA
  refine lv_lneg h.1.1 h.1.2.1 hd ?_
  rw [← Int64.ofInt_neg, ← ofInt_w64]
  exact k ls H locs hL (hS.tl.pushJ (w64_ok _)) hM hP hA
theorem mi_irem (h : mBun p l e R s mid args below meth c cc nL Ts own Q D A ad kd wids aC) {x y : Int} (hd : decode cc pc = .ok (.irem, 1)) (h0 : ¬ y = 0) (k : ms_W h (pc + 1) L (iv (x.tmod y) :: S) M) : ms_W h pc L (iv y :: iv x :: S) M := by
  intro ls H locs hL hS hM hP hA
  have hx : okI x := hS.tl.hd
  have hy : okI y := hS.hd
  refine lv_irem h.1.1 h.1.2.1 hd (fun q => h0 ((ofI_inj hy (y := 0) ⟨by omega, by omega⟩).mp q)) ?_
  have e0 : Int32.ofInt x / Int32.ofInt y = Int32.ofInt (x.tdiv y) := by
    apply Int32.toInt_inj.mp
    rw [Int32.toInt_div, toInt_ofInt32 hx, toInt_ofInt32 hy, Int32.toInt_ofInt]
  have e1 : Int32.ofInt x - Int32.ofInt x / Int32.ofInt y * Int32.ofInt y = Int32.ofInt (x.tmod y) := by
    rw [e0, ← Int32.ofInt_mul, ← Int32.ofInt_sub, Int.tmod_def, Int.mul_comm y]
  rw [e1]
  exact k ls H locs hL (hS.tl.tl.pushI (tmod_okI hx)) hM hP hA
theorem mi_lrem (h : mBun p l e R s mid args below meth c cc nL Ts own Q D A ad kd wids aC) {x y : Int} (hd : decode cc pc = .ok (.lrem, 1)) (h0 : ¬ y = 0) (k : ms_W h (pc + 1) L (jv (x.tmod y) :: S) M) : ms_W h pc L (jv y :: jv x :: S) M := by
  intro ls H locs hL hS hM hP hA
  have hx : okJ x := hS.tl.hd
  have hy : okJ y := hS.hd
  refine lv_lrem h.1.1 h.1.2.1 hd (fun q => h0 ((ofJ_inj hy (y := 0) ⟨by omega, by omega⟩).mp q)) ?_
  have e0 : Int64.ofInt x / Int64.ofInt y = Int64.ofInt (x.tdiv y) := by
    apply Int64.toInt_inj.mp
    rw [Int64.toInt_div, toInt_ofInt64 hx, toInt_ofInt64 hy, Int64.toInt_ofInt]
  have e1 : Int64.ofInt x - Int64.ofInt x / Int64.ofInt y * Int64.ofInt y = Int64.ofInt (x.tmod y) := by
    rw [e0, ← Int64.ofInt_mul, ← Int64.ofInt_sub, Int.tmod_def, Int.mul_comm y]
  rw [e1]
  exact k ls H locs hL (hS.tl.tl.pushJ (tmod_okJ hx)) hM hP hA
theorem mi_ldiv (h : mBun p l e R s mid args below meth c cc nL Ts own Q D A ad kd wids aC) {x y : Int} (hd : decode cc pc = .ok (.ldiv, 1)) (h0 : ¬ y = 0) (k : ms_W h (pc + 1) L (jv (w64 (x.tdiv y)) :: S) M) : ms_W h pc L (jv y :: jv x :: S) M := by
  intro ls H locs hL hS hM hP hA
  have hx : okJ x := hS.tl.hd
  have hy : okJ y := hS.hd
  refine lv_ldiv h.1.1 h.1.2.1 hd (fun q => h0 ((ofJ_inj hy (y := 0) ⟨by omega, by omega⟩).mp q)) ?_
  have e1 : Int64.ofInt x / Int64.ofInt y = Int64.ofInt (w64 (x.tdiv y)) := by
    apply Int64.toInt_inj.mp
    rw [Int64.toInt_div, toInt_ofInt64 hx, toInt_ofInt64 hy, toInt_ofInt64 (w64_ok _), w64_bmod]
  rw [e1]
  exact k ls H locs hL (hS.tl.tl.pushJ (w64_ok _)) hM hP hA
theorem mi_lcmp (h : mBun p l e R s mid args below meth c cc nL Ts own Q D A ad kd wids aC) {x y : Int} (hd : decode cc pc = .ok (.lcmp, 1)) (k : ms_W h (pc + 1) L (iv (lcmp x y) :: S) M) : ms_W h pc L (jv y :: jv x :: S) M := by
  intro ls H locs hL hS hM hP hA
  have hx : okJ x := hS.tl.hd
  have hy : okJ y := hS.hd
  refine W.lcmp h.1.1 h.1.2.1 hd ?_
  have e1 : lg_cmp (Int64.ofInt x) (Int64.ofInt y) = Int32.ofInt (lcmp x y) := by
    unfold lg_cmp lcmp
    simp only [gt_iff_lt, ofJ_lt hy hx, ofJ_inj hx hy]
    rcases Int.lt_trichotomy x y with q | q | q
    · rw [if_neg (by omega), if_neg (by omega), if_pos q]; rfl
    · rw [if_neg (by omega), if_pos q, if_neg (by omega), if_pos q]; rfl
    · rw [if_pos q, if_neg (by omega), if_neg (by omega)]; rfl
  rw [e1]
  exact k ls H locs hL (hS.tl.tl.pushI (by unfold lcmp okI; split <;> (try split) <;> omega)) hM hP hA
theorem mi_i2l (h : mBun p l e R s mid args below meth c cc nL Ts own Q D A ad kd wids aC) {x : Int} (hd : decode cc pc = .ok (.i2l, 1)) (k : ms_W h (pc + 1) L (jv x :: S) M) : ms_W h pc L (iv x :: S) M := by
  intro ls H locs hL hS hM hP hA
  have hx : okI x := hS.hd
  exact lv_i2l h.1.1 h.1.2.1 hd (by apply Int64.toInt_inj.mp; rw [Int32.toInt_toInt64, toInt_ofInt32 hx, toInt_ofInt64 (by unfold okJ; unfold okI at hx; omega)]) (k ls H locs hL (hS.tl.pushJ (by unfold okJ; unfold okI at hx; omega)) hM hP hA)
theorem mi_l2i (h : mBun p l e R s mid args below meth c cc nL Ts own Q D A ad kd wids aC) {x : Int} (hd : decode cc pc = .ok (.l2i, 1)) (k : ms_W h (pc + 1) L (iv (w32 x) :: S) M) : ms_W h pc L (jv x :: S) M := by
  intro ls H locs hL hS hM hP hA
  have hx : okJ x := hS.hd
  exact lv_l2i h.1.1 h.1.2.1 hd (by apply Int32.toInt_inj.mp; rw [Int64.toInt_toInt32, toInt_ofInt64 hx, toInt_ofInt32 (w32_ok _), w32_bmod]) (k ls H locs hL (hS.tl.pushI (w32_ok _)) hM hP hA)
theorem mi_i2b (h : mBun p l e R s mid args below meth c cc nL Ts own Q D A ad kd wids aC) {x : Int} (hd : decode cc pc = .ok (.i2b, 1)) (k : ms_W h (pc + 1) L (iv (w8 x) :: S) M) : ms_W h pc L (iv x :: S) M := by
  intro ls H locs hL hS hM hP hA
  have hx : okI x := hS.hd
  exact lv_i2b h.1.1 h.1.2.1 hd (i2b_w8 hx) (k ls H locs hL (hS.tl.pushI (w8_ok _)) hM hP hA)
theorem mi_dupI (h : mBun p l e R s mid args below meth c cc nL Ts own Q D A ad kd wids aC) {x : Int} (hd : decode cc pc = .ok (.dup, 1)) (k : ms_W h (pc + 1) L (iv x :: iv x :: S) M) : ms_W h pc L (iv x :: S) M := by
  intro ls H locs hL hS hM hP hA
  exact lv_dup h.1.1 h.1.2.1 hd rfl (k ls H locs hL (hS.pushI hS.hd) hM hP hA)
theorem mi_dupR (h : mBun p l e R s mid args below meth c cc nL Ts own Q D A ad kd wids aC) {t o : Nat} (hd : decode cc pc = .ok (.dup, 1)) (k : ms_W h (pc + 1) L (rv t o :: rv t o :: S) M) : ms_W h pc L (rv t o :: S) M := by
  intro ls H locs hL hS hM hP hA
  exact lv_dup h.1.1 h.1.2.1 hd rfl (k ls H locs hL (hS.push (by simp) hS.hd) hM hP hA)
theorem mi_dup2 (h : mBun p l e R s mid args below meth c cc nL Ts own Q D A ad kd wids aC) {x : Int} {t o : Nat} (hd : decode cc pc = .ok (.dup2, 1)) (k : ms_W h (pc + 1) L (iv x :: rv t o :: iv x :: rv t o :: S) M) : ms_W h pc L (iv x :: rv t o :: S) M := by
  intro ls H locs hL hS hM hP hA
  exact lv_dup2_11 h.1.1 h.1.2.1 hd rfl rfl (k ls H locs hL ((hS.push (by simp) hS.tl.hd).pushI hS.hd) hM hP hA)
theorem mi_pop (h : mBun p l e R s mid args below meth c cc nL Ts own Q D A ad kd wids aC) {x : Int} (hd : decode cc pc = .ok (.pop, 1)) (k : ms_W h (pc + 1) L S M) : ms_W h pc L (iv x :: S) M := by
  intro ls H locs hL hS hM hP hA
  exact lv_pop h.1.1 h.1.2.1 hd rfl (k ls H locs hL hS.tl hM hP hA)
theorem mi_goto (h : mBun p l e R s mid args below meth c cc nL Ts own Q D A ad kd wids aC) {off : Int} {tgt : Nat} (hd : decode cc pc = .ok (.goto off, 3)) (ht : (pc : Int) + off = (tgt : Int)) (k : ms_W h tgt L S M) : ms_W h pc L S M := by
  intro ls H locs hL hS hM hP hA
  exact lv_goto h.1.1 h.1.2.1 hd ht (k ls H locs hL hS hM hP hA)
theorem mi_if (h : mBun p l e R s mid args below meth c cc nL Ts own Q D A ad kd wids aC) {cd : ClassFile.Cond} {off : Int} {tgt : Nat} {x : Int} (hd : decode cc pc = .ok (.ifCond cd off, 3)) (ht : (pc : Int) + off = (tgt : Int)) (k1 : mcond cd x 0 → ms_W h tgt L S M) (k2 : ¬ mcond cd x 0 → ms_W h (pc + 3) L S M) : ms_W h pc L (iv x :: S) M := by
  intro ls H locs hL hS hM hP hA
  have hx : okI x := hS.hd
  have h0 : okI 0 := ⟨by omega, by omega⟩
  have g1 : mcond cd x 0 → _ := fun q => k1 q ls H locs hL hS.tl hM hP hA
  have g2 : ¬ mcond cd x 0 → _ := fun q => k2 q ls H locs hL hS.tl hM hP hA
  cases cd with
  | eq => exact lv_if_eq h.1.1 h.1.2.1 hd ht (fun q => g1 ((ofI_inj hx h0).mp q)) (fun q => g2 (fun z => q ((ofI_inj hx h0).mpr z)))
  | ne => exact lv_if_ne h.1.1 h.1.2.1 hd ht (fun q => g1 (fun z => q ((ofI_inj hx h0).mpr z))) (fun q => g2 (fun z => z ((ofI_inj hx h0).mp q)))
  | lt => exact lv_if_lt h.1.1 h.1.2.1 hd ht (fun q => g1 ((ofI_lt hx h0).mp q)) (fun q => g2 (fun z => q ((ofI_lt hx h0).mpr z)))
  | ge => exact lv_if_ge h.1.1 h.1.2.1 hd ht (fun q => g1 ((ofI_le h0 hx).mp q)) (fun q => g2 (fun z => q ((ofI_le h0 hx).mpr z)))
  | gt => exact lv_if_gt h.1.1 h.1.2.1 hd ht (fun q => g1 ((ofI_lt h0 hx).mp q)) (fun q => g2 (fun z => q ((ofI_lt h0 hx).mpr z)))
  | le => exact lv_if_le h.1.1 h.1.2.1 hd ht (fun q => g1 ((ofI_le hx h0).mp q)) (fun q => g2 (fun z => q ((ofI_le hx h0).mpr z)))
theorem mi_icmp (h : mBun p l e R s mid args below meth c cc nL Ts own Q D A ad kd wids aC) {cd : ClassFile.Cond} {off : Int} {tgt : Nat} {x y : Int} (hd : decode cc pc = .ok (.if_icmp cd off, 3)) (ht : (pc : Int) + off = (tgt : Int)) (k1 : mcond cd x y → ms_W h tgt L S M) (k2 : ¬ mcond cd x y → ms_W h (pc + 3) L S M) : ms_W h pc L (iv y :: iv x :: S) M := by
  intro ls H locs hL hS hM hP hA
  have hx : okI x := hS.tl.hd
  have h0 : okI y := hS.hd
  have g1 : mcond cd x y → _ := fun q => k1 q ls H locs hL hS.tl.tl hM hP hA
  have g2 : ¬ mcond cd x y → _ := fun q => k2 q ls H locs hL hS.tl.tl hM hP hA
  cases cd with
  | eq => exact lv_icmp_eq h.1.1 h.1.2.1 hd ht (fun q => g1 ((ofI_inj hx h0).mp q)) (fun q => g2 (fun z => q ((ofI_inj hx h0).mpr z)))
  | ne => exact lv_icmp_ne h.1.1 h.1.2.1 hd ht (fun q => g1 (fun z => q ((ofI_inj hx h0).mpr z))) (fun q => g2 (fun z => z ((ofI_inj hx h0).mp q)))
  | lt => exact lv_icmp_lt h.1.1 h.1.2.1 hd ht (fun q => g1 ((ofI_lt hx h0).mp q)) (fun q => g2 (fun z => q ((ofI_lt hx h0).mpr z)))
  | ge => exact lv_icmp_ge h.1.1 h.1.2.1 hd ht (fun q => g1 ((ofI_le h0 hx).mp q)) (fun q => g2 (fun z => q ((ofI_le h0 hx).mpr z)))
  | gt => exact lv_icmp_gt h.1.1 h.1.2.1 hd ht (fun q => g1 ((ofI_lt h0 hx).mp q)) (fun q => g2 (fun z => q ((ofI_lt h0 hx).mpr z)))
  | le => exact lv_icmp_le h.1.1 h.1.2.1 hd ht (fun q => g1 ((ofI_le hx h0).mp q)) (fun q => g2 (fun z => q ((ofI_le hx h0).mpr z)))
end MI
