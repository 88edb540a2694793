/-! The law: two worlds side by side, the class's and the reference's. -/
def lBun (p : Program) (s : State) (mid : MethodId) (b L : Nat) (xs : Nat → Int32) (meth : Method) (c : Code) (D : va_G) (ad kd : Nat → Nat) (aC : Nat → ClassId) (wC wR : List Nat) : Prop :=
  CallFix p mid c code 4 s #[.ref b] lw_tbl R_law ∧ va_X b L xs s s.heap ∧ b < s.heap.size ∧ va_K D vwCl (ms_tys aC) s ∧ (va_D (fun q : Nat => s.heap.size ≤ q) (ms_ws ad kd wC aC (fun _ _ => 0)) ∧ va_D (fun q : Nat => s.heap.size ≤ q) (ms_ws ad kd wR aC (fun _ _ => 0)) ∧ ∀ x ∈ wC, ∀ y ∈ wR, ad x ≠ ad y) ∧ (wC.Nodup ∧ wR.Nodup) ∧ gNest s ∧ gStrW (fun q => s.heap.size ≤ q) s s.heap ∧ (∀ o t, kd o = t → (t - 100) / 4 < 2147483648) ∧ L ≤ 3072 ∧ meth.locks = false
section ML
variable {p : Program} {l : Launch} {e : Env} {s : State} {mid : MethodId} {b L : Nat} {xs : Nat → Int32} {below : List Frame} {meth : Method} {c : Code} {D : va_G} {ad kd : Nat → Nat} {aC : Nat → ClassId} {wC wR : List Nat} {Q : State → Prop} {CE SE : Nat}
theorem ml_run (h : lBun p s mid b L xs meth c D ad kd aC wC wR) {w1 w2 : List Nat} (hw1 : w1.Nodup) (hD1 : va_D (fun q : Nat => s.heap.size ≤ q) (ms_ws ad kd w1 aC (fun _ _ => 0))) (hD2 : ∀ x ∈ w1, ∀ y ∈ w2, ad x ≠ ad y) (hCE : CE ≤ room_1.cells) (hSE : SE ≤ room_1.slots)
    {H : Heap} {locs : List Loc} {ls : Array Slot} {pc m i idx t o : Nat} {as : List mV} {M MO M1 : mM} {r1 : mV} {rest st0 : List Value} (hm : m < gNM) (hst : (gD m).2.2.2.2.1 = false) (hcall : gC m (rv t o :: as) M = some (r1, M1)) (ho : o ∈ w1) (hko : kd o = t) (ht : t = (gD m).2.2.2.2.2.2) (has : ∀ v ∈ as, v ≠ none ∧ ms_ok kd w1 v)
    (hlink : tb i = some (.methodLink R_law idx (gY m))) (hpar : (parseMethodDescriptor (gY m).desc).map (fun d => d.parameters.length) = some as.length) (hroom : (gR m).frames + 1 ≤ 14 ∧ 8 + ((gT m).1 + 11) + (gR m).locals ≤ 542) (hd : decode code pc = .ok (.invokevirtual idx, 3))
    (hst0 : st0 = (as.map (ms_v ad)).reverse ++ Value.ref (ad o) :: rest) (hrest : (rest.map fun v => v.category).sum ≤ 8) (hls : ls.size = 4) (hM : ms_M kd w1 M) (hP1 : va_P D vwCl (ms_ws ad kd w1 aC M) H) (hP2 : va_P D vwCl (ms_ws ad kd w2 aC MO) H) (hS : va_S (fun q => s.heap.size ≤ q) s.heap H locs)
    (kk : ∀ (H1 : Heap) (locs1 : List Loc), va_P D vwCl (ms_ws ad kd w1 aC M1) H1 → va_P D vwCl (ms_ws ad kd w2 aC MO) H1 → va_S (fun q => s.heap.size ≤ q) s.heap H1 locs1 → ms_M kd w1 M1 → W p l e room_1 s mid #[.ref b] below meth c H1 locs1 CE SE Q (F0 mid (pc + 3) ls ((ms_r ad r1).toList ++ rest))) :
    W p l e room_1 s mid #[.ref b] below meth c H locs CE SE Q (F0 mid pc ls st0) := by
  obtain ⟨hF, hX, hbl, hK, -, -, hN, hStr, hkl, -, -⟩ := h
  subst hst0
  have hMet := gSound (l := l) (D := D) (ad := ad) (kd := kd) (aC := aC) hw1 (fun o t q => hkl o t q.2) hm hcall
  have hf := chkM_all m hm
  obtain ⟨g1, g2, T0, N0, g3, g4⟩ := hf.2.2.2.2 hst
  have hw : ∀ w ∈ gALL, w.before #[Value.ref b] s = true := fun w hw => hF.2.2.2.2 _ (gALL_good hw).1
  have hfree : ∀ q, va_A (ms_ws ad kd w1 aC M) H.size q → s.heap.size ≤ q := by
    intro q hq
    rcases hq with ⟨k, e0, hk⟩ | hq
    · exact (ms_D ad kd w1 aC (M' := M) hD1).2 k _ hk
    · exact Nat.le_trans hS.1 hq
  obtain ⟨q0, -, hws⟩ := ms_at ad kd w1 aC (M := M) ho
  rw [ms_e_obj (by rw [ht]; exact g4) hko] at hws
  have hrecv := va_recv (q := ((gY m).cls, T0, N0)) hK hP1 (by rw [ht]; exact g3) hws
  have has2 : ∀ v ∈ rv t o :: as, v ≠ none ∧ ms_ok kd w1 v := by
    intro v hv
    rcases List.mem_cons.mp hv with q | q
    · rw [q]; exact ⟨by simp, ho, hko⟩
    · exact has v q
  have hPre : PreV s H (gY m).cls (ad o) (ms_P D ad kd w1 aC (rv t o :: as) M H.size) (as.map (ms_v ad)) := ⟨ms_P_blind _ _ _, hrecv, fun U hU hW =>
    ⟨rfl, by rw [hU], by rw [hU]; exact hP1, va_K.moved hW.alike hK, gNest.warm hW hN, ms_apart hD1 M, hM, has2, by rw [hU]; exact gStrW.warm hW hS hfree hStr⟩⟩
  have hG : GoodIn lw_tbl (gW m) := good_all (fun w hw => (gALL_good hw).1) (fun w hw => by
    rcases List.mem_cons.mp hw with q | q
    · rw [q]; exact hf.1
    · exact q)
  have hr := va_runV (l := l) (R := room_1) (rest := rest) (g := F0 mid pc ls ((as.map (ms_v ad)).reverse ++ Value.ref (ad o) :: rest)) hF (hMet H.size) ⟨callB_of as.length hF.2.2.2.2 hG rfl rfl rfl (hw _ hf.2.1) (hF.2.2.2.2 _ (in_lw hlink)) ⟨hf.2.2.1.1, hf.2.2.1.2, hpar⟩ hroom, hw _ g1, hw _ g2⟩ hPre rfl (by simp) hls rfl (lv_room hrest) hd ⟨hCE, hSE⟩ (locs := locs) (below := below) (e := e) (meth := meth) (cells := CE) (slots := SE)
  intro T hT X
  obtain ⟨v, st₀, t', T', L', h0, X', hL', e1, e2, ⟨⟨hv, hrok, hM1, hP1'⟩, hF1, hF2⟩, hst⟩ := hr T hT X
  have hv2 : v = ms_r ad r1 := by cases hv; rfl
  subst hv2
  rw [h0] at hF1 hF2
  have hS2 : va_S (fun q => s.heap.size ≤ q) s.heap T'.heap (locs ++ L') := by
    refine ⟨Nat.le_trans hS.1 (by rw [e1]; exact hF1), fun q h1 h2 => ?_, fun q hq => ?_⟩
    · rw [e1, hF2 q (Nat.lt_of_lt_of_le h1 hS.1) (fun z => h2 (hfree q z))]
      exact hS.2.1 q h1 h2
    · rcases List.mem_append.mp hq with z | z
      · exact hS.2.2 q z
      · exact hfree _ (hL' q z)
  have hP2' : va_P D vwCl (ms_ws ad kd w2 aC MO) T'.heap := by
    intro k q hq
    have hlt := (hP2 k q hq).lt
    refine (hP2 k q hq).kept ?_
    rw [e1]
    refine hF2 q.1 hlt (fun z => ?_)
    rcases z with ⟨k2, e0, hk2⟩ | z
    · unfold ms_ws at hk2 hq
      rw [List.getElem?_map] at hk2 hq
      cases hx : w1[k2]? with
      | none => rw [hx] at hk2; cases hk2
      | some x =>
        cases hy : w2[k]? with
        | none => rw [hy] at hq; cases hq
        | some y =>
          rw [hx] at hk2
          rw [hy] at hq
          simp only [Option.map_some, Option.some.injEq, Prod.mk.injEq] at hk2 hq
          exact hD2 x (List.mem_of_getElem? hx) y (List.mem_of_getElem? hy) (hk2.1.trans (by rw [← hq]))
    · omega
  obtain ⟨t2, a1, b1⟩ := kk T'.heap (locs ++ L') (by rw [e1]; exact hP1') hP2' hS2 hM1 T' rfl X'
  exact ⟨t2, hst t2 a1, b1⟩
def ml_W (_ : lBun p s mid b L xs meth c D ad kd aC wC wR) (l : Launch) (e : Env) (below : List Frame) (Q : State → Prop) (CE SE pc : Nat) (lv : List (Nat × Value)) (st0 : List Value) (MC MR : mM) : Prop :=
  ∀ (ls : Array Slot) (H : Heap) (locs : List Loc), lv_has ls 4 lv → ms_M kd wC MC → ms_M kd wR MR → va_P D vwCl (ms_ws ad kd wC aC MC) H → va_P D vwCl (ms_ws ad kd wR aC MR) H → va_S (fun q => s.heap.size ≤ q) s.heap H locs → W p l e room_1 s mid #[.ref b] below meth c H locs CE SE Q (F0 mid pc ls st0)
/-- the locals in the loop -/
abbrev lLv (ad : Nat → Nat) (b i : Nat) : List (Nat × Value) := [(0, .ref b), (1, .ref (ad 0)), (2, .ref (ad 100)), (3, .int (Int32.ofNat i))]
variable {pc i : Nat} {st0 : List Value} {MC MR : mM}
theorem ml_o1 (h : lBun p s mid b L xs meth c D ad kd aC wC wR) (hd : decode code pc = .ok (.aload_n 1, 1)) (k : ml_W h l e below Q CE SE (pc + 1) (lLv ad b i) (.ref (ad 0) :: st0) MC MR) : ml_W h l e below Q CE SE pc (lLv ad b i) st0 MC MR :=
  fun ls H locs hl a1 a2 a3 a4 a5 => lv_aload_n h.1.1 h.1.2.1 hd rfl (lv_at hl 1 rfl) (k ls H locs hl a1 a2 a3 a4 a5)
theorem ml_o2 (h : lBun p s mid b L xs meth c D ad kd aC wC wR) (hd : decode code pc = .ok (.aload_n 2, 1)) (k : ml_W h l e below Q CE SE (pc + 1) (lLv ad b i) (.ref (ad 100) :: st0) MC MR) : ml_W h l e below Q CE SE pc (lLv ad b i) st0 MC MR :=
  fun ls H locs hl a1 a2 a3 a4 a5 => lv_aload_n h.1.1 h.1.2.1 hd rfl (lv_at hl 2 rfl) (k ls H locs hl a1 a2 a3 a4 a5)
/-- script[i + j] -/
theorem ml_arg (h : lBun p s mid b L xs meth c D ad kd aC wC wR) {j : Nat} (hj : j < 6) (hi : i + 6 ≤ L) (d0 : decode code pc = .ok (.aload_n 0, 1)) (d1 : decode code (pc + 1) = .ok (.iload_n 3, 1)) (d2 : decode code (pc + 1 + 1) = .ok (.iconst (j : Int), 1)) (d3 : decode code (pc + 1 + 1 + 1) = .ok (.iadd, 1)) (d4 : decode code (pc + 1 + 1 + 1 + 1) = .ok (.iaload, 1))
    (k : ml_W h l e below Q CE SE (pc + 1 + 1 + 1 + 1 + 1) (lLv ad b i) (.int (xs (i + j)) :: st0) MC MR) : ml_W h l e below Q CE SE pc (lLv ad b i) st0 MC MR := by
  intro ls H locs hl a1 a2 a3 a4 a5
  obtain ⟨hF, hX, hbl, -, -, -, -, -, -, hL, -⟩ := id h
  refine lv_aload_n hF.1 hF.2.1 d0 rfl (lv_at hl 0 rfl) ?_
  refine lv_iload_n hF.1 hF.2.1 d1 rfl (lv_at hl 3 rfl) ?_
  refine lv_iconst (v := Int32.ofNat j) hF.1 hF.2.1 d2 rfl ?_
  refine lv_iadd hF.1 hF.2.1 d3 ?_
  rw [← Int32.ofNat_add]
  have hc : (Int32.ofNat (i + j)).toNatClampNeg = i + j := Int32.toNatClampNeg_ofNat_of_lt (by omega)
  refine va_sld hF.1 hF.2.1 hX hbl (Nat.not_le.mpr hbl) a5 (vp_in_nI (by omega) (by omega)) d4 ?_
  rw [hc]
  exact k ls H locs hl a1 a2 a3 a4 a5
def b01 (x : Int32) : Int32 := if x = 0 then 0 else 1
/-- script[i + j] != 0 -/
theorem ml_bool (h : lBun p s mid b L xs meth c D ad kd aC wC wR) {x : Int32} (d0 : decode code pc = .ok (.ifCond .eq 7, 3)) (d1 : decode code (pc + 3) = .ok (.iconst 1, 1)) (d2 : decode code (pc + 3 + 1) = .ok (.goto 4, 3)) (d3 : decode code (pc + 7) = .ok (.iconst 0, 1))
    (k : ml_W h l e below Q CE SE (pc + 8) (lLv ad b i) (.int (b01 x) :: st0) MC MR) : ml_W h l e below Q CE SE pc (lLv ad b i) (.int x :: st0) MC MR := by
  intro ls H locs hl a1 a2 a3 a4 a5
  obtain ⟨hF, -⟩ := id h
  have k := k ls H locs hl a1 a2 a3 a4 a5
  refine lv_if_eq (tgt := pc + 7) hF.1 hF.2.1 d0 (by omega) (fun q => ?_) (fun q => ?_)
  · refine lv_iconst (v := 0) hF.1 hF.2.1 d3 rfl ?_
    rw [show b01 x = 0 from if_pos q] at k
    exact k
  · refine lv_iconst (v := 1) hF.1 hF.2.1 d1 rfl ?_
    refine lv_goto (tgt := pc + 8) hF.1 hF.2.1 d2 (by omega) ?_
    rw [show b01 x = 1 from if_neg q] at k
    exact k
theorem ml_i2l (h : lBun p s mid b L xs meth c D ad kd aC wC wR) {x : Int32} (d0 : decode code pc = .ok (.i2l, 1)) (k : ml_W h l e below Q CE SE (pc + 1) (lLv ad b i) (.long x.toInt64 :: st0) MC MR) : ml_W h l e below Q CE SE pc (lLv ad b i) (.int x :: st0) MC MR :=
  fun ls H locs hl a1 a2 a3 a4 a5 => lv_i2l h.1.1 h.1.2.1 d0 rfl (k ls H locs hl a1 a2 a3 a4 a5)
theorem ml_bipush (h : lBun p s mid b L xs meth c D ad kd aC wC wR) {n : Int} {x : Int32} (d0 : decode code pc = .ok (.bipush n, 2)) (hx : (Int8.ofInt n).toInt32 = x) (k : ml_W h l e below Q CE SE (pc + 2) (lLv ad b i) (.int x :: st0) MC MR) : ml_W h l e below Q CE SE pc (lLv ad b i) st0 MC MR :=
  fun ls H locs hl a1 a2 a3 a4 a5 => lv_bipush h.1.1 h.1.2.1 d0 hx (k ls H locs hl a1 a2 a3 a4 a5)
theorem ml_lshl (h : lBun p s mid b L xs meth c D ad kd aC wC wR) {x : Int64} {y : Int32} (d0 : decode code pc = .ok (.lshl, 1)) (k : ml_W h l e below Q CE SE (pc + 1) (lLv ad b i) (.long (x <<< (y.toInt64 &&& 63)) :: st0) MC MR) : ml_W h l e below Q CE SE pc (lLv ad b i) (.int y :: .long x :: st0) MC MR :=
  fun ls H locs hl a1 a2 a3 a4 a5 => lv_lshl h.1.1 h.1.2.1 d0 rfl (k ls H locs hl a1 a2 a3 a4 a5)
theorem ml_ldc2 (h : lBun p s mid b L xs meth c D ad kd aC wC wR) {n j : Nat} {x : Int64} (d0 : decode code pc = .ok (.ldc2_w n, 3)) (hw : tb j = some (.constantLong R_law n x)) (k : ml_W h l e below Q CE SE (pc + 3) (lLv ad b i) (.long x :: st0) MC MR) : ml_W h l e below Q CE SE pc (lLv ad b i) st0 MC MR :=
  fun ls H locs hl a1 a2 a3 a4 a5 => lv_ldc2 h.1.1 h.1.2.1 h.1.2.2.2.1 (h.1.2.2.2.2 _ (in_lw hw)) d0 (k ls H locs hl a1 a2 a3 a4 a5)
theorem ml_land (h : lBun p s mid b L xs meth c D ad kd aC wC wR) {x y : Int64} (d0 : decode code pc = .ok (.land, 1)) (k : ml_W h l e below Q CE SE (pc + 1) (lLv ad b i) (.long (x &&& y) :: st0) MC MR) : ml_W h l e below Q CE SE pc (lLv ad b i) (.long y :: .long x :: st0) MC MR :=
  fun ls H locs hl a1 a2 a3 a4 a5 => lv_land h.1.1 h.1.2.1 d0 (k ls H locs hl a1 a2 a3 a4 a5)
theorem ml_lor (h : lBun p s mid b L xs meth c D ad kd aC wC wR) {x y : Int64} (d0 : decode code pc = .ok (.lor, 1)) (k : ml_W h l e below Q CE SE (pc + 1) (lLv ad b i) (.long (x ||| y) :: st0) MC MR) : ml_W h l e below Q CE SE pc (lLv ad b i) (.long y :: .long x :: st0) MC MR :=
  fun ls H locs hl a1 a2 a3 a4 a5 => lv_lor h.1.1 h.1.2.1 d0 (k ls H locs hl a1 a2 a3 a4 a5)
/-- equal ints go on -/
theorem ml_eqI (h : lBun p s mid b L xs meth c D ad kd aC wC wR) {x : Int32} {off : Int} {tgt : Nat} (d0 : decode code pc = .ok (.if_icmp .eq off, 3)) (ht : (pc : Int) + off = (tgt : Int)) (k : ml_W h l e below Q CE SE tgt (lLv ad b i) st0 MC MR) : ml_W h l e below Q CE SE pc (lLv ad b i) (.int x :: .int x :: st0) MC MR :=
  fun ls H locs hl a1 a2 a3 a4 a5 => lv_icmp_eq h.1.1 h.1.2.1 d0 ht (fun _ => k ls H locs hl a1 a2 a3 a4 a5) (fun q => absurd rfl q)
/-- equal longs go on -/
theorem ml_eqJ (h : lBun p s mid b L xs meth c D ad kd aC wC wR) {x : Int64} {off : Int} {tgt : Nat} (d0 : decode code pc = .ok (.lcmp, 1)) (d1 : decode code (pc + 1) = .ok (.ifCond .eq off, 3)) (ht : ((pc + 1 : Nat) : Int) + off = (tgt : Int)) (k : ml_W h l e below Q CE SE tgt (lLv ad b i) st0 MC MR) : ml_W h l e below Q CE SE pc (lLv ad b i) (.long x :: .long x :: st0) MC MR := by
  intro ls H locs hl a1 a2 a3 a4 a5
  refine W.lcmp h.1.1 h.1.2.1 d0 ?_
  have e1 : lg_cmp x x = 0 := by
    unfold lg_cmp
    rw [if_neg (by rw [gt_iff_lt, Int64.lt_iff_toInt_lt]; omega), if_pos rfl]
  rw [e1]
  exact lv_if_eq h.1.1 h.1.2.1 d1 ht (fun _ => k ls H locs hl a1 a2 a3 a4 a5) (fun q => absurd rfl q)
theorem ml_callC (h : lBun p s mid b L xs meth c D ad kd aC wC wR) (hCE : CE ≤ room_1.cells) (hSE : SE ≤ room_1.slots) {m j idx : Nat} {as : List mV} {MC' : mM} {r1 : mV} {rest : List Value} (hm : m < gNM) (hcall : gC m (rv 10 0 :: as) MC = some (r1, MC')) (hst : (gD m).2.2.2.2.1 = false) (h0 : 0 ∈ wC) (hk0 : kd 0 = 10) (ht : (gD m).2.2.2.2.2.2 = 10) (has : ∀ v ∈ as, v ≠ none ∧ ms_ok kd wC v)
    (hlink : tb j = some (.methodLink R_law idx (gY m))) (hpar : (parseMethodDescriptor (gY m).desc).map (fun d => d.parameters.length) = some as.length) (hroom : (gR m).frames + 1 ≤ 14 ∧ 8 + ((gT m).1 + 11) + (gR m).locals ≤ 542) (hd : decode code pc = .ok (.invokevirtual idx, 3))
    (hst0 : st0 = (as.map (ms_v ad)).reverse ++ Value.ref (ad 0) :: rest) (hrest : (rest.map fun v => v.category).sum ≤ 8) (k : ml_W h l e below Q CE SE (pc + 3) (lLv ad b i) ((ms_r ad r1).toList ++ rest) MC' MR) : ml_W h l e below Q CE SE pc (lLv ad b i) st0 MC MR :=
  fun ls H locs hl a1 a2 a3 a4 a5 => ml_run h h.2.2.2.2.2.1.1 h.2.2.2.2.1.1 (fun x hx y hy => h.2.2.2.2.1.2.2 x hx y hy) hCE hSE hm hst hcall h0 hk0 ht.symm has hlink hpar hroom hd hst0 hrest hl.1 a1 a3 a4 a5 (fun H1 locs1 b1 b2 b3 b4 => k ls H1 locs1 hl b4 a2 b1 b2 b3)
theorem ml_callR (h : lBun p s mid b L xs meth c D ad kd aC wC wR) (hCE : CE ≤ room_1.cells) (hSE : SE ≤ room_1.slots) {m j idx : Nat} {as : List mV} {MR' : mM} {r1 : mV} {rest : List Value} (hm : m < gNM) (hcall : gC m (rv 11 100 :: as) MR = some (r1, MR')) (hst : (gD m).2.2.2.2.1 = false) (h0 : 100 ∈ wR) (hk0 : kd 100 = 11) (ht : (gD m).2.2.2.2.2.2 = 11) (has : ∀ v ∈ as, v ≠ none ∧ ms_ok kd wR v)
    (hlink : tb j = some (.methodLink R_law idx (gY m))) (hpar : (parseMethodDescriptor (gY m).desc).map (fun d => d.parameters.length) = some as.length) (hroom : (gR m).frames + 1 ≤ 14 ∧ 8 + ((gT m).1 + 11) + (gR m).locals ≤ 542) (hd : decode code pc = .ok (.invokevirtual idx, 3))
    (hst0 : st0 = (as.map (ms_v ad)).reverse ++ Value.ref (ad 100) :: rest) (hrest : (rest.map fun v => v.category).sum ≤ 8) (k : ml_W h l e below Q CE SE (pc + 3) (lLv ad b i) ((ms_r ad r1).toList ++ rest) MC MR') : ml_W h l e below Q CE SE pc (lLv ad b i) st0 MC MR :=
  fun ls H locs hl a1 a2 a3 a4 a5 => ml_run h h.2.2.2.2.2.1.2 h.2.2.2.2.1.2.1 (fun x hx y hy q => h.2.2.2.2.1.2.2 y hy x hx q.symm) hCE hSE hm hst hcall h0 hk0 ht.symm has hlink hpar hroom hd hst0 hrest hl.1 a2 a4 a3 a5 (fun H1 locs1 b1 b2 b3 b4 => k ls H1 locs1 hl a1 b4 b2 b1 b3)
/-- script[i] -/
theorem ml_a0 (h : lBun p s mid b L xs meth c D ad kd aC wC wR) (hd : decode code pc = .ok (.aload_n 0, 1)) (k : ml_W h l e below Q CE SE (pc + 1) (lLv ad b i) (.ref b :: st0) MC MR) : ml_W h l e below Q CE SE pc (lLv ad b i) st0 MC MR :=
  fun ls H locs hl a1 a2 a3 a4 a5 => lv_aload_n h.1.1 h.1.2.1 hd rfl (lv_at hl 0 rfl) (k ls H locs hl a1 a2 a3 a4 a5)
theorem ml_sw (h : lBun p s mid b L xs meth c D ad kd aC wC wR) (hi : i + 6 ≤ L) (d1 : decode code pc = .ok (.iload_n 3, 1)) (d2 : decode code (pc + 1) = .ok (.iaload, 1)) (d3 : decode code (pc + 1 + 1) = .ok (.bipush 63, 2)) (d4 : decode code (pc + 1 + 1 + 2) = .ok (.iand, 1))
    (k : ml_W h l e below Q CE SE (pc + 1 + 1 + 2 + 1) (lLv ad b i) (.int (xs i &&& 63) :: st0) MC MR) : ml_W h l e below Q CE SE pc (lLv ad b i) (.ref b :: st0) MC MR := by
  intro ls H locs hl a1 a2 a3 a4 a5
  obtain ⟨hF, hX, hbl, -, -, -, -, -, -, hL, -⟩ := id h
  refine lv_iload_n hF.1 hF.2.1 d1 rfl (lv_at hl 3 rfl) ?_
  have hc : (Int32.ofNat i).toNatClampNeg = i := Int32.toNatClampNeg_ofNat_of_lt (by omega)
  refine va_sld hF.1 hF.2.1 hX hbl (Nat.not_le.mpr hbl) a5 (vp_in_nI (by omega) (by omega)) d2 ?_
  rw [hc]
  refine lv_bipush hF.1 hF.2.1 d3 rfl ?_
  refine lv_iand hF.1 hF.2.1 d4 ?_
  exact k ls H locs hl a1 a2 a3 a4 a5
end ML

