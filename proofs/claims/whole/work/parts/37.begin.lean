/-! From the law's entry to its loop. -/
section BG
variable {p : Program} {l : Launch} {e : Env} {s : State} {mid : MethodId} {b : Nat} {below : List Frame} {meth : Method} {c : Code} {D : va_G} {aC : Nat → ClassId} {Q : State → Prop} {CE SE pc : Nat} {st0 : List Value} {ws : va_W}
theorem ml_ctor (hF : CallFix p mid c code 4 s #[.ref b] lw_tbl R_law) (hK : va_K D vwCl (ms_tys aC) s) (hN : gNest s) (hStr : gStrW (fun q => s.heap.size ≤ q) s s.heap) {y : MethodName} {c2 : ByteArray} {rm : Room} {ci idx j1 j2 j3 j4 q : Nat} {fs : List Value} {cells : (Nat → ClassId) → Nat → (Nat → Nat) → va_W} (hM : mcMet l y c2 rm ci fs cells) (hd : decode code pc = .ok (.invokespecial idx, 3)) (hw1 : tb j1 = some (.methodLink R_law idx y)) (hw2 : tb j2 = some (.code y c2 1 none)) (hw3 : tb j3 = some (.instanceMethod y)) (hw4 : tb j4 = some (.initialized y.cls)) (hy : y.name = "<init>") (hyc : y.cls ≠ "java/lang/invoke/MethodHandle" ∧ y.cls ≠ "java/lang/invoke/VarHandle" ∧ (parseMethodDescriptor y.desc).map (fun d => d.parameters.length) = some 0)
    (hR : rm.frames + 1 ≤ room_1.frames ∧ 8 + (1 + 11) + rm.locals ≤ room_1.locals) (hcells : CE + rm.cells ≤ room_1.cells) (hslots : SE + rm.slots ≤ room_1.slots) (hst : (st0.map fun v => v.category).sum ≤ 8)
    {ls : Array Slot} {H : Heap} {locs : List Loc} (hls : ls.size = 4) (a1 : va_P D vwCl (ws ++ [(q, .inr (ci, fs))]) H) (a2 : va_D (fun q : Nat => s.heap.size ≤ q) (ws ++ [(q, .inr (ci, fs))])) (a3 : va_S (fun q => s.heap.size ≤ q) s.heap H locs)
    (kk : ∀ (qs : Nat → Nat) (H1 : Heap) (locs1 : List Loc), va_P D vwCl (ws ++ cells aC q qs) H1 → va_D (fun q : Nat => s.heap.size ≤ q) (ws ++ cells aC q qs) → va_S (fun q => s.heap.size ≤ q) s.heap H1 locs1 → W p l e room_1 s mid #[.ref b] below meth c H1 locs1 (CE + rm.cells) (SE + rm.slots) Q (F0 mid (pc + 3) ls st0)) : W p l e room_1 s mid #[.ref b] below meth c H locs CE SE Q (F0 mid pc ls (.ref q :: st0)) := by
  have hw : ∀ w ∈ gALL, w.before #[Value.ref b] s = true := fun w hw => hF.2.2.2.2 _ (gALL_good hw).1
  have hG : GoodIn lw_tbl (kW y c2 1 none) := good_all (fun w hw => (gALL_good hw).1) (fun w hw => by
    rcases List.mem_cons.mp hw with z | z
    · rw [z]; exact in_all hw2 rfl
    · exact z)
  have hi : (ws ++ [(q, (.inr (ci, fs) : va_E))])[ws.length]? = some (q, .inr (ci, fs)) := by simp
  have hPc : va_P D vwCl [(q, .inr (ci, fs))] H := by
    intro k z hz
    cases k with
    | zero => cases hz; exact a1 _ _ hi
    | succ k => simp at hz
  have hFc : ∀ z, va_A [(q, .inr (ci, fs))] H.size z → s.heap.size ≤ z := by
    intro z hz
    rcases hz with ⟨k, e0, hk⟩ | hz
    · cases k with
      | zero => simp at hk; rw [← hk.1]; exact a2.2 _ _ hi
      | succ k => simp at hk
    · exact Nat.le_trans a3.1 hz
  have hPre : PreS s H (mcP D aC ci fs q H.size) [.ref q] := by
    refine ⟨?_, fun U hU hW => ⟨rfl, by rw [hU], by rw [hU]; exact hPc, va_K.moved hW.alike hK, gNest.warm hW hN, by rw [hU]; exact gStrW.warm hW a3 hFc hStr⟩⟩
    intro a U g mk z
    obtain ⟨rfl, z1, z2, z3, z4, z5⟩ := z
    exact ⟨rfl, z1, z2, va_K.moved (u := U) (U := U.calling g mk _) (Vm.Alike.refl U.vm) z3, gNest.same (u := U) (U := U.calling g mk _) rfl z4, gStrW.same (u := U) (U := U.calling g mk _) rfl (Vm.Alike.refl U.vm) z5⟩
  have hr := va_runI (l := l) (R := room_1) (As := []) (rest := st0) (g := F0 mid pc ls (.ref q :: st0)) hF (hM D aC q H.size) (cwI 0 hF.2.2.2.2 hG rfl rfl rfl (hw _ (in_all hw4 rfl)) (hF.2.2.2.2 _ (in_lw hw1)) (hw _ (in_all hw3 rfl)) hy hyc hR) hPre rfl rfl hls rfl (lv_room hst) hd ⟨hcells, hslots⟩ (locs := locs) (below := below) (e := e) (meth := meth) (cells := CE) (slots := SE)
  intro T hT X
  obtain ⟨v, st₀, t, T', L', z0, X', hL', e1, e2, ⟨⟨hv, qs, hP1, hD1⟩, hF1, hF2⟩, hstp⟩ := hr T hT X
  cases hv
  rw [z0] at hF1 hF2
  have hjoin := va_join (D := D) (cl := vwCl) (A0 := fun q : Nat => s.heap.size ≤ q) (ws := ws ++ [(q, .inr (ci, fs))]) (wc := [(q, .inr (ci, fs))]) (wr := ws) (w1 := cells aC q qs) (H := H) (H1 := T'.heap) a1 a2 [ws.length] (List.range ws.length) (by simp) (by
    apply List.ext_getElem?
    intro k
    rw [List.getElem?_map, List.getElem?_map]
    by_cases hk : k < ws.length
    · rw [List.getElem?_range hk]
      simp [List.getElem?_append_left hk, hk]
    · rw [List.getElem?_eq_none (by simpa using hk), List.getElem?_eq_none (by omega)]
      rfl) (mc_nd ws.length) (by intro k hk; simp at hk ⊢; omega) (fun z h1 h2 => by rw [e1]; exact hF2 z h1 h2) hFc (by rw [e1]; exact hP1) hD1
  have hS2 : va_S (fun q => s.heap.size ≤ q) s.heap T'.heap (locs ++ L') := by
    refine ⟨Nat.le_trans a3.1 (by rw [e1]; exact hF1), fun z h1 h2 => ?_, fun z hz => ?_⟩
    · rw [e1, hF2 z (Nat.lt_of_lt_of_le h1 a3.1) (fun y => h2 (hFc z y))]
      exact a3.2.1 z h1 h2
    · rcases List.mem_append.mp hz with y | y
      · exact a3.2.2 z y
      · exact hFc _ (hL' z y)
  obtain ⟨t2, b1, b2⟩ := kk qs T'.heap (locs ++ L') hjoin.1 hjoin.2 hS2 T' rfl X'
  exact ⟨t2, hstp t2 b1, b2⟩
theorem va_D_left {A : Nat → Prop} {x y : va_W} (h : va_D A (x ++ y)) : va_D A x := by
  have g : ∀ (k : Nat) (q : Nat × va_E), x[k]? = some q → (x ++ y)[k]? = some q := fun k q hq => by
    rw [List.getElem?_append_left (List.getElem?_eq_some_iff.mp hq).1]; exact hq
  exact ⟨fun i j p q hp hq e => h.1 i j p q (g i p hp) (g j q hq) e, fun k q hq => h.2 k q (g k q hq)⟩
theorem va_D_right {A : Nat → Prop} {x y : va_W} (h : va_D A (x ++ y)) : va_D A y ∧ ∀ (i j : Nat) (p q : Nat × va_E), x[i]? = some p → y[j]? = some q → p.1 ≠ q.1 := by
  have g : ∀ (k : Nat) (q : Nat × va_E), y[k]? = some q → (x ++ y)[x.length + k]? = some q := fun k q hq => by
    rw [List.getElem?_append_right (by omega)]; simpa using hq
  refine ⟨⟨fun i j p q hp hq e => ?_, fun k q hq => h.2 _ q (g k q hq)⟩, fun i j p q hp hq e => ?_⟩
  · have := h.1 _ _ p q (g i p hp) (g j q hq) e
    omega
  · have hi := (List.getElem?_eq_some_iff.mp hp).1
    have := h.1 i _ p q (by rw [List.getElem?_append_left hi]; exact hp) (g j q hq) e
    omega
theorem va_P_left {x y : va_W} {H : Heap} (h : va_P D vwCl (x ++ y) H) : va_P D vwCl x H := fun k q hq => h k q (by rw [List.getElem?_append_left (List.getElem?_eq_some_iff.mp hq).1]; exact hq)
theorem va_P_right {x y : va_W} {H : Heap} (h : va_P D vwCl (x ++ y) H) : va_P D vwCl y H := fun k q hq => h (x.length + k) q (by rw [List.getElem?_append_right (by omega)]; simpa using hq)
end BG
