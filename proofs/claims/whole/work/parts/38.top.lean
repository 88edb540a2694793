/-! The law's entry: what the Statement gives of the start; then the walk to the loop. -/
section TP
variable {s : State} {b : Nat}
theorem tp_flat (hgv : (Jvm.Cond.and given_1 narrow_1).before #[Value.ref b] s = true) : ∀ c ∈ flatC (Jvm.Cond.and given_1 narrow_1), c.before #[Value.ref b] s = true := flat_of_before _ hgv
set_option maxRecDepth 100000 in
set_option maxHeartbeats 4000000 in
theorem tp_str (hts : ∀ w ∈ lw_tbl, w.before #[Value.ref b] s = true) (hgv : (Jvm.Cond.and given_1 narrow_1).before #[Value.ref b] s = true) : gStrW (fun q => s.heap.size ≤ q) s s.heap := by
  have hs := tp_flat hgv
  have hA : ∀ a : Nat, a < s.heap.size → ¬ (fun q : Nat => s.heap.size ≤ q) a := fun a ha => Nat.not_le.mpr ha
  have l9 : ∀ P : Nat → Prop, P 0 → P 1 → P 2 → P 3 → P 4 → P 5 → P 6 → P 7 → P 8 → ∀ i, i < 9 → P i := by
    intro P p0 p1 p2 p3 p4 p5 p6 p7 p8 i hi
    rcases (show i = 0 ∨ i = 1 ∨ i = 2 ∨ i = 3 ∨ i = 4 ∨ i = 5 ∨ i = 6 ∨ i = 7 ∨ i = 8 by omega) with rfl | rfl | rfl | rfl | rfl | rfl | rfl | rfl | rfl <;> assumption
  have mem : ∀ c : Jvm.Cond, (flatC (Jvm.Cond.and given_1 narrow_1)).any (fun w => decide (w = c)) = true → c.before #[Value.ref b] s = true := by
    intro c hc
    obtain ⟨w, w1, w2⟩ := List.any_eq_true.mp hc
    rw [of_decide_eq_true w2] at w1
    exact hs c w1
  have hex : ∀ i, i < 9 → (Cond.exactly (Term.string RX8 (sIdx.getD i 0)) "java/lang/String").before #[Value.ref b] s = true := by
    refine l9 _ (mem _ (by decide +kernel)) (mem _ (by decide +kernel)) (mem _ (by decide +kernel)) (mem _ (by decide +kernel)) (mem _ (by decide +kernel)) (mem _ (by decide +kernel)) (mem _ (by decide +kernel)) (mem _ (by decide +kernel)) (mem _ (by decide +kernel))
  have hco : ∀ i, i < 9 → (Cond.eq (.field (Term.string RX8 (sIdx.getD i 0)) "java/lang/String" "coder" "B") (.int 0)).before #[Value.ref b] s = true := by
    refine l9 _ (mem _ (by decide +kernel)) (mem _ (by decide +kernel)) (mem _ (by decide +kernel)) (mem _ (by decide +kernel)) (mem _ (by decide +kernel)) (mem _ (by decide +kernel)) (mem _ (by decide +kernel)) (mem _ (by decide +kernel)) (mem _ (by decide +kernel))
  have har : ∀ i, i < 9 → (Cond.arrayOf (.field (Term.string RX8 (sIdx.getD i 0)) "java/lang/String" "value" "[B") .byte).before #[Value.ref b] s = true := by
    refine l9 _ (mem _ (by decide +kernel)) (mem _ (by decide +kernel)) (mem _ (by decide +kernel)) (mem _ (by decide +kernel)) (mem _ (by decide +kernel)) (mem _ (by decide +kernel)) (mem _ (by decide +kernel)) (mem _ (by decide +kernel)) (mem _ (by decide +kernel))
  have hle : ∀ i, i < 9 → (Cond.eq (.length (.field (Term.string RX8 (sIdx.getD i 0)) "java/lang/String" "value" "[B")) (.int (Int32.ofNat (sLen.getD i 0)))).before #[Value.ref b] s = true := by
    refine l9 _ (mem _ (by decide +kernel)) (mem _ (by decide +kernel)) (mem _ (by decide +kernel)) (mem _ (by decide +kernel)) (mem _ (by decide +kernel)) (mem _ (by decide +kernel)) (mem _ (by decide +kernel)) (mem _ (by decide +kernel)) (mem _ (by decide +kernel))
  have hel0 : ∀ i, i < 9 → ∀ j, j < sLen.getD i 0 → (flatC (Jvm.Cond.and given_1 narrow_1)).any (fun w => decide (w = Cond.eq (.elem (.field (Term.string RX8 (sIdx.getD i 0)) "java/lang/String" "value" "[B") (.int (Int32.ofNat j))) (.int ((sByt.getD i []).getD j 0)))) = true := by decide +kernel
  have hne0 : ∀ i, i < 9 → ∀ j, j < 9 → i ≠ j → (flatC (Jvm.Cond.and given_1 narrow_1)).any (fun w => decide (w = Cond.not (Cond.eq (Term.string RX8 (sIdx.getD i 0)) (Term.string RX8 (sIdx.getD j 0))))) = true ∨ (flatC (Jvm.Cond.and given_1 narrow_1)).any (fun w => decide (w = Cond.not (Cond.eq (Term.string RX8 (sIdx.getD j 0)) (Term.string RX8 (sIdx.getD i 0))))) = true := by decide +kernel
  obtain ⟨adK, adV, h1, h2⟩ := vk_Sof (args := #[Value.ref b]) (s := s) (N := 9) (tm := fun i => Term.string RX8 (sIdx.getD i 0)) (len := sLen) (byt := sByt) (A := fun q => s.heap.size ≤ q) (by decide +kernel) hex hco har hle (fun i hi j hj => mem _ (hel0 i hi j hj)) (fun i j hi hj hij => (hne0 i hi j hj hij).imp (mem _) (mem _)) hA
  have hst : ∀ i, i < 9 → (Cond.stringRef RX8 (sIdx.getD i 0) (sTx.getD i "")).before #[Value.ref b] s = true := by
    refine l9 _ (hts _ (in_lw (i := 2153) (by decide +kernel))) (hts _ (in_lw (i := 2205) (by decide +kernel))) (hts _ (in_lw (i := 2206) (by decide +kernel))) (hts _ (in_lw (i := 2207) (by decide +kernel))) (hts _ (in_lw (i := 2208) (by decide +kernel))) (hts _ (in_lw (i := 2209) (by decide +kernel))) (hts _ (in_lw (i := 2210) (by decide +kernel))) (hts _ (in_lw (i := 2211) (by decide +kernel))) (hts _ (in_lw (i := 2212) (by decide +kernel)))
  refine ⟨adK, adV, fun i hi => vk_R.of (hst i hi) (h2 i hi), h1, ?_, ?_⟩
  · exact va_Zof (hts _ (in_lw (i := 2166) (by decide +kernel))) (hts _ (in_lw (i := 1013) (by decide +kernel))) (va_eqt (mem _ (by decide +kernel))) hA
  · exact va_Zqof (hts _ (in_lw (i := 2182) (by decide +kernel))) (hts _ (in_lw (i := 1015) (by decide +kernel))) (mem _ (by decide +kernel)) hA
theorem tp_nest (hts : ∀ w ∈ lw_tbl, w.before #[Value.ref b] s = true) : gNest s := by
  intro w hw hn
  have h1 := hts w hw
  cases w <;> first | exact va_Nw.of rfl h1 | cases hn
theorem tp_cls (hts : ∀ w ∈ lw_tbl, w.before #[Value.ref b] s = true) : ∃ (dC : Nat → ClassId) (dI : Nat → Nat → Nat), ∀ (k : Nat) (q : vw_C), vwCl[k]? = some q → u_Kn s q.1 q.2.1 q.2.2 (dC k) (dI k) := by
  have h : ∀ k : Nat, ∃ w : ClassId × (Nat → Nat), ∀ q : vw_C, vwCl[k]? = some q → u_Kn s q.1 q.2.1 q.2.2 w.1 w.2 := by
    intro k
    match k with
    | 0 =>
      obtain ⟨cC, iS, hk⟩ := u_known (C := RX0) (T := TX0) (N := 4) (n := 4) hts (fun w hw => (gALL_good ((gCls_0 RX0 TX0 4 rfl).1 w hw)).1) (hts (.instantiable RX0 4) (in_lw (i := 2047) (by decide +kernel)))
      exact ⟨(cC, iS), fun q hq => by cases hq; exact hk⟩
    | 1 =>
      obtain ⟨cC, iS, hk⟩ := u_known (C := RX1) (T := TX1) (N := 8) (n := 8) hts (fun w hw => (gALL_good ((gCls_1 RX1 TX1 8 rfl).1 w hw)).1) (hts (.instantiable RX1 8) (in_lw (i := 1191) (by decide +kernel)))
      exact ⟨(cC, iS), fun q hq => by cases hq; exact hk⟩
    | 2 =>
      obtain ⟨cC, iS, hk⟩ := u_known (C := RX2) (T := TX2) (N := 3) (n := 3) hts (fun w hw => (gALL_good ((gCls_2 RX2 TX2 3 rfl).1 w hw)).1) (hts (.instantiable RX2 3) (in_lw (i := 2031) (by decide +kernel)))
      exact ⟨(cC, iS), fun q hq => by cases hq; exact hk⟩
    | 3 =>
      obtain ⟨cC, iS, hk⟩ := u_known (C := RX3) (T := TX3) (N := 2) (n := 2) hts (fun w hw => (gALL_good ((gCls_3 RX3 TX3 2 rfl).1 w hw)).1) (hts (.instantiable RX3 2) (in_lw (i := 1171) (by decide +kernel)))
      exact ⟨(cC, iS), fun q hq => by cases hq; exact hk⟩
    | 4 =>
      obtain ⟨cC, iS, hk⟩ := u_known (C := RX4) (T := TX4) (N := 11) (n := 11) hts (fun w hw => (gALL_good ((gCls_4 RX4 TX4 11 rfl).1 w hw)).1) (hts (.instantiable RX4 11) (in_lw (i := 1029) (by decide +kernel)))
      exact ⟨(cC, iS), fun q hq => by cases hq; exact hk⟩
    | 5 =>
      obtain ⟨cC, iS, hk⟩ := u_known (C := RX5) (T := TX5) (N := 4) (n := 4) hts (fun w hw => (gALL_good ((gCls_5 RX5 TX5 4 rfl).1 w hw)).1) (hts (.instantiable RX5 4) (in_lw (i := 2010) (by decide +kernel)))
      exact ⟨(cC, iS), fun q hq => by cases hq; exact hk⟩
    | 6 =>
      obtain ⟨cC, iS, hk⟩ := u_known (C := RX6) (T := TX6) (N := 1) (n := 1) hts (fun w hw => (gALL_good ((gCls_6 RX6 TX6 1 rfl).1 w hw)).1) (hts (.instantiable RX6 1) (in_lw (i := 2000) (by decide +kernel)))
      exact ⟨(cC, iS), fun q hq => by cases hq; exact hk⟩
    | 7 =>
      obtain ⟨cC, iS, hk⟩ := u_known (C := RX7) (T := TX7) (N := 5) (n := 5) hts (fun w hw => (gALL_good ((gCls_7 RX7 TX7 5 rfl).1 w hw)).1) (hts (.instantiable RX7 5) (in_lw (i := 1185) (by decide +kernel)))
      exact ⟨(cC, iS), fun q hq => by cases hq; exact hk⟩
    | 8 =>
      obtain ⟨cC, iS, hk⟩ := u_known (C := RX8) (T := TX8) (N := 4) (n := 4) hts (fun w hw => (gALL_good ((gCls_8 RX8 TX8 4 rfl).1 w hw)).1) (hts (.instantiable RX8 4) (in_lw (i := 1035) (by decide +kernel)))
      exact ⟨(cC, iS), fun q hq => by cases hq; exact hk⟩
    | 9 =>
      obtain ⟨cC, iS, hk⟩ := u_known (C := RX9) (T := TX9) (N := 15) (n := 15) hts (fun w hw => (gALL_good ((gCls_9 RX9 TX9 15 rfl).1 w hw)).1) (hts (.instantiable RX9 15) (in_lw (i := 1057) (by decide +kernel)))
      exact ⟨(cC, iS), fun q hq => by cases hq; exact hk⟩
    | 10 =>
      obtain ⟨cC, iS, hk⟩ := u_known (C := RX10) (T := TX10) (N := 12) (n := 12) hts (fun w hw => (gALL_good ((gCls_10 RX10 TX10 12 rfl).1 w hw)).1) (hts (.instantiable RX10 12) (in_lw (i := 1021) (by decide +kernel)))
      exact ⟨(cC, iS), fun q hq => by cases hq; exact hk⟩
    | 11 =>
      obtain ⟨cC, iS, hk⟩ := u_known (C := RX11) (T := TX11) (N := 59) (n := 59) hts (fun w hw => (gALL_good ((gCls_11 RX11 TX11 59 rfl).1 w hw)).1) (hts (.instantiable RX11 59) (in_lw (i := 5204) (by decide +kernel)))
      exact ⟨(cC, iS), fun q hq => by cases hq; exact hk⟩
    | k + 12 => exact ⟨(0, fun _ => 0), fun q hq => by
        have h2 : vwCl[k + 12]? = none := by simp [vwCl]
        rw [h2] at hq
        cases hq⟩
  obtain ⟨f, hf⟩ := Classical.axiomOfChoice h
  exact ⟨fun k => (f k).1, fun k => (f k).2, hf⟩
theorem tp_arr (hts : ∀ w ∈ lw_tbl, w.before #[Value.ref b] s = true) : ∃ aC : Nat → ClassId, ∀ (k : Nat) (q : ClassId × FieldType), (ms_tys aC)[k]? = some q → ArrOfT s q.1 q.2 ∧ va_RA s q.1 q.2 := by
  obtain ⟨c0, k0, m0, f0, g0, h0⟩ := Cond.arrayClass_spec (hts (.arrayClass .int) (in_lw (i := 1054) (by decide +kernel)))
  obtain ⟨c1, k1, m1, f1, g1, h1⟩ := Cond.arrayClass_spec (hts (.arrayClass .long) (in_lw (i := 1055) (by decide +kernel)))
  obtain ⟨c2, k2, m2, f2, g2, h2⟩ := Cond.arrayClass_spec (hts (.arrayClass .byte) (in_lw (i := 1053) (by decide +kernel)))
  obtain ⟨c3, k3, m3, f3, g3, h3⟩ := Cond.arrayClass_spec (hts (.arrayClass .boolean) (in_lw (i := 1183) (by decide +kernel)))
  refine ⟨fun k => match k with | 0 => c0 | 1 => c1 | 2 => c2 | _ => c3, fun k q hq => ?_⟩
  match k, hq with
  | 0, hq => cases hq; exact ⟨fun n z => ⟨fun k h => (by cases h), k0, g0, m0, h0⟩, f0⟩
  | 1, hq => cases hq; exact ⟨fun n z => ⟨fun k h => (by cases h), k1, g1, m1, h1⟩, f1⟩
  | 2, hq => cases hq; exact ⟨fun n z => ⟨fun k h => (by cases h), k2, g2, m2, h2⟩, f2⟩
  | 3, hq => cases hq; exact ⟨fun n z => ⟨fun k h => (by cases h), k3, g3, m3, h3⟩, f3⟩
  | k + 4, hq => simp [ms_tys] at hq
end TP
set_option maxRecDepth 100000 in
set_option maxHeartbeats 4000000 in
/-- the whole walk, out of what the two programs owe -/
theorem whole_of {Rel : mM → mM → Prop} (hp : PureAll Rel) (hR0 : Rel M0C M0R) {p : Program} {e : Env} {s : State} {m : MethodId} {below : List Frame} {meth : Method} {c : Code} (l : Launch) {b L : Nat} {xs : Nat → Int32} (hL : L ≤ 3072) (C0 : lw_At p s m meth c b L xs) : W p l e room_1 s m #[Value.ref b] below meth c s.heap [] 0 0 (lw_Z below #[Value.ref b] s) (entryFrame m ([Value.ref b] : List Value).toArray 4) := by
  obtain ⟨hx, hb, hr, hml, hown, hts, hX, hbl, hlocks, hgv⟩ := C0
  have hN := tp_nest hts
  have hStr := tp_str hts hgv
  obtain ⟨dC, dI, hKc⟩ := tp_cls hts
  obtain ⟨aC, hKa⟩ := tp_arr hts
  have hK : va_K (dC, dI) vwCl (ms_tys aC) s := ⟨hKc, hKa⟩
  have hF : CallFix p m c code 4 s #[Value.ref b] lw_tbl R_law := ⟨hx, hb, hml, hown, hts⟩
  have hA : ∀ q : Nat, s.heap.size ≤ q → (fun q : Nat => s.heap.size ≤ q) q := fun _ h => h
  have hl := lv_entry ([Value.ref b]) (n := 4) (Nat.le_of_ble_eq_true rfl)
  rw [lg_entry_eq]
  generalize (lg_sl ([Value.ref b]) ++ List.replicate (4 - (lg_sl ([Value.ref b])).length) Slot.unset).toArray = ls at hl ⊢
  have hl : lv_has ls 4 [(0, .ref b)] := hl
  have hS : va_S (fun q : Nat => s.heap.size ≤ q) s.heap s.heap [] := va_S.rf
  have hP : va_P (dC, dI) vwCl [] s.heap := fun k q h => by simp at h
  have hD : va_D (fun q : Nat => s.heap.size ≤ q) [] := ⟨fun i j p q h => by simp at h, fun k q h => by simp at h⟩
  refine va_new (index := 7) (ci := 10) (fs := [.null, .int 0, .int 0, .null, .null, .int 0, .null, .null, .null, .null, .null, .null]) (C := RX10) (T := TX10) (N := 12) hx hb hts (fun w hw => (gALL_good ((gCls_10 RX10 TX10 12 rfl).1 w hw)).1) (gTY 10) (gCls_10 RX10 TX10 12 rfl).2.1 hown (hts (.classLink R_law 7 RX10) (in_lw (i := 1020) (by decide +kernel))) (hts (.instantiable RX10 12) (in_lw (i := 1021) (by decide +kernel))) (hts (.initialized RX10) (in_lw (i := 1001) (by decide +kernel))) hK hP hD hS hA rfl (by decide) (Nat.le_of_ble_eq_true rfl) (Nat.le_of_ble_eq_true rfl) (by decide +kernel) (fun h H hP hD hS => ?_)
  refine lv_dup hx hb (by decide +kernel) rfl ?_
  refine ml_ctor (idx := 9) (j1 := 1022) (j2 := 1024) (j3 := 1023) (j4 := 1001) (ws := []) (q := h) hF hK hN hStr (ct_10 l) (by decide +kernel) (by decide +kernel) (by decide +kernel) (by decide +kernel) (by decide +kernel) rfl ⟨by decide +kernel, by decide +kernel, by decide +kernel⟩ ⟨Nat.le_of_ble_eq_true rfl, Nat.le_of_ble_eq_true rfl⟩ (Nat.le_of_ble_eq_true rfl) (Nat.le_of_ble_eq_true rfl) (Nat.le_of_ble_eq_true rfl) hl.1 hP hD hS (fun q H locs hP hD hS => ?_)
  refine W.widen (k := 50) (n := 55081) (Nat.le_of_ble_eq_true rfl) (Nat.le_of_ble_eq_true rfl) ?_
  refine lv_astore_n (k := 1) (i := 1) (lv' := [(1, .ref h), (0, .ref b)]) hx hb (by decide +kernel) rfl hl (by decide) rfl (fun ls hl => ?_)
  refine va_new (index := 10) (ci := 11) (fs := [.int 0, .null, .int 0, .null, .int 0, .null, .null, .null, .null, .null, .int 0, .int 0, .int 0, .int 0, .int 0, .int 0, .int 0, .int 0, .int 0, .int 0, .int 0, .null, .null, .null, .null, .null, .null, .null, .null, .null, .null, .null, .null, .null, .null, .int 0, .int 0, .int 0, .null, .int 0, .null, .null, .null, .null, .int 0, .int 0, .null, .null, .null, .null, .null, .null, .null, .int 0, .null, .null, .null, .int 0, .null]) (C := RX11) (T := TX11) (N := 59) hx hb hts (fun w hw => (gALL_good ((gCls_11 RX11 TX11 59 rfl).1 w hw)).1) (gTY 11) (gCls_11 RX11 TX11 59 rfl).2.1 hown (hts (.classLink R_law 10 RX11) (in_lw (i := 5203) (by decide +kernel))) (hts (.instantiable RX11 59) (in_lw (i := 5204) (by decide +kernel))) (hts (.initialized RX11) (in_lw (i := 1012) (by decide +kernel))) hK hP hD hS hA rfl (by decide) (Nat.le_of_ble_eq_true rfl) (Nat.le_of_ble_eq_true rfl) (by decide +kernel) (fun h' H hP hD hS => ?_)
  refine W.widen (k := 51) (n := 55140) (Nat.le_of_ble_eq_true rfl) (Nat.le_of_ble_eq_true rfl) ?_
  refine lv_dup hx hb (by decide +kernel) rfl ?_
  refine ml_ctor (idx := 12) (j1 := 5205) (j2 := 5207) (j3 := 5206) (j4 := 1012) (ws := [] ++ cl_10 aC h q) (q := h') hF hK hN hStr (ct_11 l) (by decide +kernel) (by decide +kernel) (by decide +kernel) (by decide +kernel) (by decide +kernel) rfl ⟨by decide +kernel, by decide +kernel, by decide +kernel⟩ ⟨Nat.le_of_ble_eq_true rfl, Nat.le_of_ble_eq_true rfl⟩ (show 51 + 37 ≤ 600000 by decide) (show 55140 + 104733 ≤ 7302250 by decide) (show ([Value.ref h'].map fun v => v.category).sum ≤ 8 from Nat.le_of_ble_eq_true rfl) hl.1 hP hD hS (fun q' H locs hP hD hS => ?_)
  refine W.widen (k := 88) (n := 159873) (Nat.le_of_ble_eq_true rfl) (Nat.le_of_ble_eq_true rfl) ?_
  refine lv_astore_n (k := 2) (i := 2) (lv' := [(2, .ref h'), (1, .ref h), (0, .ref b)]) hx hb (by decide +kernel) rfl hl (by decide) rfl (fun ls hl => ?_)
  refine lv_iconst (n := 0) (v := 0) hx hb (by decide +kernel) rfl ?_
  refine lv_istore_n (k := 3) (i := 3) (lv' := [(3, .int 0), (2, .ref h'), (1, .ref h), (0, .ref b)]) hx hb (by decide +kernel) rfl hl (by decide) rfl (fun ls hl => ?_)
  have eC := stC_ws aC h q h' q'
  have eR := stR_ws aC h q h' q'
  have hP1 : va_P (dC, dI) vwCl (cl_10 aC h q) H := va_P_left hP
  have hP2 : va_P (dC, dI) vwCl (cl_11 aC h' q') H := va_P_right hP
  have hD1 : va_D (fun q : Nat => s.heap.size ≤ q) (cl_10 aC h q) := va_D_left hD
  obtain ⟨hD2, hD3⟩ := va_D_right (x := cl_10 aC h q) (y := cl_11 aC h' q') hD
  rw [← eC] at hP1 hD1
  rw [← eR] at hP2 hD2
  rw [← eC, ← eR] at hD3
  have hB : lBun p s m b L xs meth c (dC, dI) (gAD h q h' q') gKD aC wC wR := ⟨hF, hX, hbl, hK, ⟨ms_D _ _ _ _ hD1, ms_D _ _ _ _ hD2, fun x hx y hy => by
    obtain ⟨i, -, hi⟩ := ms_at (gAD h q h' q') gKD wC aC (M := M0C) hx
    obtain ⟨j, -, hj⟩ := ms_at (gAD h q h' q') gKD wR aC (M := M0R) hy
    exact hD3 i j _ _ hi hj⟩, ⟨wC_nodup, wR_nodup⟩, hN, hStr, fun o t ht => by rw [← ht]; exact gKD_len o, hL, hlocks⟩
  exact lk_loop hB hr (Nat.le_of_ble_eq_true rfl) (Nat.le_of_ble_eq_true rfl) (by decide) rfl (by decide) rfl hp (L + 1) 0 (Nat.zero_le _) (by omega) M0C M0R hR0 ls H locs (lv_sub hl [3, 2, 1, 0] rfl) ms_M0C ms_M0R hP1 hP2 hS
