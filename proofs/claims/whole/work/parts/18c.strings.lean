/-! The methods of String that 'nameOf' asks, over the String constants. -/
def mk_P (adK adV : Nat → Nat) (sz : Nat) (av : List Value) : Array Value → State → Prop := va_Pc av (fun U => U.heap.size = sz ∧ gStrE adK adV (fun q => sz ≤ q) U U.heap)
def mk_Q (v : Option Value) : Array Value → State → Outcome → State → Prop := fun _ st oc t => oc = .returned v ∧ t.heap = st.heap
def mk_R (f n : Nat) : Room := { frames := f, cells := 0, slots := 0, locals := n }
theorem mk_P_blind (adK adV : Nat → Nat) (sz : Nat) (av : List Value) : FrameBlind (mk_P adK adV sz av) := by
  intro a U g mk q
  obtain ⟨rfl, q1, q2⟩ := q
  exact ⟨rfl, q1, gStrE.same (u := U) (U := U.calling g mk _) rfl (Vm.Alike.refl U.vm) q2⟩
section SK
variable {p : Program} {l : Launch} {e : Env} {R : Room} {s : State} {mid : MethodId} {args : Array Value} {below : List Frame} {meth : Method} {c : Code} {H : Heap} {locs : List Loc} {Q : State → Prop} {F : Nat → Prop}
theorem mk_behind {pc : Nat} {ls : Array Slot} {st0 rest : List Value} {v : Option Value} {a1 : Array Value} (hl : ∀ q ∈ locs, F q.base) (hr : va_Run p l e R s mid args below meth c H locs 0 0 0 0 (F0 mid pc ls st0) rest (mk_Q v a1) (fun _ => False))
    (kk : ∀ locs1 : List Loc, (∀ q ∈ locs1, F q.base) → W p l e R s mid args below meth c H locs1 0 0 Q (F0 mid (pc + 3) ls (v.toList ++ rest))) : W p l e R s mid args below meth c H locs 0 0 Q (F0 mid pc ls st0) := by
  intro T hT X
  obtain ⟨v', st₀, t, T', L', h0, X', hL', e1, e2, ⟨hv, hF⟩, hst⟩ := hr T hT X
  cases hv
  obtain ⟨t2, a1, b1⟩ := kk (locs ++ L') (fun q hq => by
    rcases List.mem_append.mp hq with z | z
    · exact hl q z
    · exact (hL' q z).elim) T' (by rw [e1, hF, h0]) X'
  exact ⟨t2, hst t2 a1, b1⟩
theorem mk_P_of {adK adV : Nat → Nat} {sz : Nat} {av : List Value} (hsz : s.heap.size = sz) (hE : gStrE adK adV (fun q => sz ≤ q) s s.heap) (hH : H = s.heap) : ∀ U : State, U.heap = H → s.WarmedH U.vm → mk_P adK adV sz av av.toArray U := fun U hU hW => by
  subst hH
  exact ⟨rfl, by rw [hU]; exact hsz, by rw [hU]; exact hE.warm hW (locs := []) va_S.rf (fun _ h => h)⟩
end SK
abbrev kW (y : MethodName) (cc : ByteArray) (n : Nat) (ret : Option FieldType) : List Jvm.Cond := .code y cc n ret :: gALL
theorem kW_good {y y2 : MethodName} {cc c2 : ByteArray} {n n2 : Nat} {ret r2 : Option FieldType} (h : Cond.code y2 c2 n2 r2 ∈ gALL) : GoodIn (kW y cc n ret) (kW y2 c2 n2 r2) := good_all (fun w hw => List.mem_cons_of_mem _ hw) (fun w hw => by
  rcases List.mem_cons.mp hw with q | q
  · rw [q]; exact h
  · exact q)

theorem w_coder : Cond.code yJ0_coder_7d493 prog_16_method_152_code 1 (some .byte) ∈ gALL := in_all (i := 2164) (by decide +kernel) rfl
theorem wi_coder : Cond.initialized yJ0_coder_7d493.cls ∈ gALL := in_all (i := 1013) (by decide +kernel) rfl
theorem wn_coder : Cond.instanceMethod yJ0_coder_7d493 ∈ gALL := in_all (i := 2162) (by decide +kernel) rfl
theorem ws_coder : Cond.selects yJ0_coder_7d493.cls yJ0_coder_7d493 yJ0_coder_7d493 ∈ gALL := in_all (i := 2163) (by decide +kernel) rfl
theorem w_length : Cond.code yJ0_length_8abf5 prog_16_method_54_code 1 (some .int) ∈ gALL := in_all (i := 2160) (by decide +kernel) rfl
theorem wi_length : Cond.initialized yJ0_length_8abf5.cls ∈ gALL := in_all (i := 1013) (by decide +kernel) rfl
theorem wn_length : Cond.instanceMethod yJ0_length_8abf5 ∈ gALL := in_all (i := 2158) (by decide +kernel) rfl
theorem ws_length : Cond.selects yJ0_length_8abf5.cls yJ0_length_8abf5 yJ0_length_8abf5 ∈ gALL := in_all (i := 2159) (by decide +kernel) rfl
theorem w_isLatin1 : Cond.code yJ0_isLatin1_aae02 prog_16_method_154_code 1 (some .boolean) ∈ gALL := in_all (i := 2174) (by decide +kernel) rfl
theorem wi_isLatin1 : Cond.initialized yJ0_isLatin1_aae02.cls ∈ gALL := in_all (i := 1013) (by decide +kernel) rfl
theorem wn_isLatin1 : Cond.instanceMethod yJ0_isLatin1_aae02 ∈ gALL := in_all (i := 2172) (by decide +kernel) rfl
theorem ws_isLatin1 : Cond.selects yJ0_isLatin1_aae02.cls yJ0_isLatin1_aae02 yJ0_isLatin1_aae02 ∈ gALL := in_all (i := 2173) (by decide +kernel) rfl
theorem w_preCheck : Cond.code yJ3_checkIndex_8e157 prog_20_method_11_code 3 (some .int) ∈ gALL := in_all (i := 2185) (by decide +kernel) rfl
theorem wi_preCheck : Cond.initialized yJ3_checkIndex_8e157.cls ∈ gALL := in_all (i := 1015) (by decide +kernel) rfl
theorem wn_preCheck : Cond.static yJ3_checkIndex_8e157 ∈ gALL := in_all (i := 2184) (by decide +kernel) rfl
theorem w_strCheck : Cond.code yJ0_checkIndex_df160 prog_16_method_155_code 2 none ∈ gALL := in_all (i := 2180) (by decide +kernel) rfl
theorem wi_strCheck : Cond.initialized yJ0_checkIndex_df160.cls ∈ gALL := in_all (i := 1013) (by decide +kernel) rfl
theorem wn_strCheck : Cond.static yJ0_checkIndex_df160 ∈ gALL := in_all (i := 2179) (by decide +kernel) rfl
theorem w_l1CharAt : Cond.code yJ1_charAt_3b067 prog_17_method_2_code 2 (some .char) ∈ gALL := in_all (i := 2177) (by decide +kernel) rfl
theorem wi_l1CharAt : Cond.initialized yJ1_charAt_3b067.cls ∈ gALL := in_all (i := 1014) (by decide +kernel) rfl
theorem wn_l1CharAt : Cond.static yJ1_charAt_3b067 ∈ gALL := in_all (i := 2176) (by decide +kernel) rfl
theorem w_charAt : Cond.code yJ0_charAt_5068e prog_16_method_56_code 2 (some .char) ∈ gALL := in_all (i := 2170) (by decide +kernel) rfl
theorem wi_charAt : Cond.initialized yJ0_charAt_5068e.cls ∈ gALL := in_all (i := 1013) (by decide +kernel) rfl
theorem wn_charAt : Cond.instanceMethod yJ0_charAt_5068e ∈ gALL := in_all (i := 2168) (by decide +kernel) rfl
theorem ws_charAt : Cond.selects yJ0_charAt_5068e.cls yJ0_charAt_5068e yJ0_charAt_5068e ∈ gALL := in_all (i := 2169) (by decide +kernel) rfl
theorem w_withLetter : Cond.code yX8_withLetter prog_10_method_15_code 3 (some .long) ∈ gALL := in_all (i := 2148) (by decide +kernel) rfl
theorem wi_withLetter : Cond.initialized yX8_withLetter.cls ∈ gALL := in_all (i := 1003) (by decide +kernel) rfl
theorem wn_withLetter : Cond.static yX8_withLetter ∈ gALL := in_all (i := 2147) (by decide +kernel) rfl
theorem w_nameOf : Cond.code yX8_nameOf prog_10_method_16_code 4 (some .long) ∈ gALL := in_all (i := 2156) (by decide +kernel) rfl
theorem wi_nameOf : Cond.initialized yX8_nameOf.cls ∈ gALL := in_all (i := 1003) (by decide +kernel) rfl
theorem wn_nameOf : Cond.static yX8_nameOf ∈ gALL := in_all (i := 2155) (by decide +kernel) rfl
set_option maxRecDepth 100000 in
set_option maxHeartbeats 4000000 in
/-- coder() of a constant: 0 -/
theorem k_coder (l : Launch) (adK adV : Nat → Nat) (sz : Nat) (i : Nat) (hi : i < 9) : Met l yJ0_coder_7d493 (kW yJ0_coder_7d493 prog_16_method_152_code 1 (some .byte)) (mk_R 0 0) (mk_P adK adV sz [.ref (adK i)]) (mk_Q (some (.int 0))) 0 0 (fun _ => False) := by
  refine Met.ofW (cc := prog_16_method_152_code) (maxL := 1) (ret := (some .byte)) (by decide +kernel) rfl ?_
  intro p e s mid args below meth c s₁ B hml hv
  obtain ⟨rfl, hsz, hE⟩ := hv
  have hx := B.exec
  have hb := B.bytes
  have hr := B.returns
  have hts := atoms_spec (ws := kW yJ0_coder_7d493 prog_16_method_152_code 1 (some .byte)) B.pre
  have hown : s.vm.findClass "java/lang/String" = some mid.cls := findClass_of_methodNamed B.named
  have hlocks := B.notSynchronized
  have hw : ∀ w ∈ gALL, w.before [.ref (adK i)].toArray s = true := fun w h => hts w (List.mem_cons_of_mem _ h)
  have hS : va_S (fun q => sz ≤ q) s.heap s.heap [] := va_S.rf
  have hl := lv_entry [.ref (adK i)] (n := 1) (Nat.le_of_ble_eq_true rfl)
  rw [lg_entry_eq]
  generalize (lg_sl ([.ref (adK i)]) ++ List.replicate (1 - (lg_sl ([.ref (adK i)])).length) Slot.unset).toArray = ls at hl ⊢
  have hl : lv_has ls 1 [(0, .ref (adK i))] := hl
  have hlo : ∀ q ∈ ([] : List Loc), (fun _ : Nat => False) q.base := fun q h => by cases h
  refine va_gets hx hb hE.2.2.1 hS hown (ref := "java/lang/String") (hw _ (in_all (i := 2165) (by decide +kernel) rfl)) (fun x h => h) (index := 38) (by decide +kernel) ?_
  refine lv_if_eq (tgt := 13) hx hb (off := 10) (by decide +kernel) (by decide) (fun q => absurd q (by decide)) (fun _ => ?_)
  refine lv_aload_n (k := 0) (i := 0) hx hb (by decide +kernel) rfl (lv_at hl 0 rfl) ?_
  refine vk_getf hx hb (hE.2.1.1 i hi).2.1 hS hown (ref := "java/lang/String") (hw _ (in_all (i := 8088) (by decide +kernel) rfl)) (fun x h => h) (index := 15) (by decide +kernel) ?_
  refine lv_goto (off := 4) (tgt := 14) hx hb (by decide +kernel) (by decide) ?_
  exact W.zret hx hb hr rfl (fun t ht _ => ⟨rfl, ht⟩) hlo (by decide +kernel) hlocks
set_option maxRecDepth 100000 in
set_option maxHeartbeats 4000000 in
/-- length() of a constant -/
theorem k_length (l : Launch) (adK adV : Nat → Nat) (sz : Nat) (i : Nat) (hi : i < 9) : Met l yJ0_length_8abf5 (kW yJ0_length_8abf5 prog_16_method_54_code 1 (some .int)) (mk_R 1 20) (mk_P adK adV sz [.ref (adK i)]) (mk_Q (some (.int (Int32.ofNat (sLen.getD i 0))))) 0 0 (fun _ => False) := by
  refine Met.ofW (cc := prog_16_method_54_code) (maxL := 1) (ret := (some .int)) (by decide +kernel) rfl ?_
  intro p e s mid args below meth c s₁ B hml hv
  obtain ⟨rfl, hsz, hE⟩ := hv
  have hx := B.exec
  have hb := B.bytes
  have hr := B.returns
  have hts := atoms_spec (ws := kW yJ0_length_8abf5 prog_16_method_54_code 1 (some .int)) B.pre
  have hown : s.vm.findClass "java/lang/String" = some mid.cls := findClass_of_methodNamed B.named
  have hlocks := B.notSynchronized
  have hw : ∀ w ∈ gALL, w.before [.ref (adK i)].toArray s = true := fun w h => hts w (List.mem_cons_of_mem _ h)
  have hS : va_S (fun q => sz ≤ q) s.heap s.heap [] := va_S.rf
  have hl := lv_entry [.ref (adK i)] (n := 1) (Nat.le_of_ble_eq_true rfl)
  rw [lg_entry_eq]
  generalize (lg_sl ([.ref (adK i)]) ++ List.replicate (1 - (lg_sl ([.ref (adK i)])).length) Slot.unset).toArray = ls at hl ⊢
  have hl : lv_has ls 1 [(0, .ref (adK i))] := hl
  have hlo : ∀ q ∈ ([] : List Loc), (fun _ : Nat => False) q.base := fun q h => by cases h
  refine lv_aload_n (k := 0) (i := 0) hx hb (by decide +kernel) rfl (lv_at hl 0 rfl) ?_
  refine vk_getf hx hb (hE.2.1.1 i hi).2.2.1 hS hown (ref := "java/lang/String") (hw _ (in_all (i := 8087) (by decide +kernel) rfl)) (fun x h => h) (index := 9) (by decide +kernel) ?_
  refine va_tlen hx hb (hE.2.1.1 i hi).2.2.2 hS rfl (by decide +kernel) ?_
  refine lv_aload_n (k := 0) (i := 0) hx hb (by decide +kernel) rfl (lv_at hl 0 rfl) ?_
  refine mk_behind (F := fun _ => False) hlo (va_runV (C := yJ0_coder_7d493.cls) (As := []) (rest := [.int (Int32.ofNat (sLen.getD i 0))]) (n := 0) (nL := 1) ⟨hx, hb, hml, hown, hts⟩ (k_coder l adK adV sz i hi) ⟨callB_of 0 hts (kW_good w_coder) rfl rfl rfl (hw _ wi_coder) (hw _ (in_all (i := 2161) (by decide +kernel) rfl)) ⟨by decide +kernel, by decide +kernel, by decide +kernel⟩ ⟨Nat.le_of_ble_eq_true rfl, Nat.le_of_ble_eq_true rfl⟩, hw _ wn_coder, hw _ ws_coder⟩ ⟨mk_P_blind _ _ _ _, vk_recv hE.2.1 hi hS, mk_P_of hsz hE rfl⟩ rfl rfl hl.1 rfl (lv_room (Nat.le_of_ble_eq_true rfl)) (index := 335) (show decode prog_16_method_54_code 6 = .ok (.invokevirtual 335, 3) by decide +kernel) ⟨Nat.zero_le _, Nat.zero_le _⟩) (fun locs1 hlo => ?_)
  refine lv_ishr hx hb (by decide +kernel) ?_
  have e1 : Int32.ofNat (sLen.getD i 0) >>> ((0 : Int32) &&& 31) = Int32.ofNat (sLen.getD i 0) := (show ∀ j, j < 9 → Int32.ofNat (sLen.getD j 0) >>> ((0 : Int32) &&& 31) = Int32.ofNat (sLen.getD j 0) by decide +kernel) i hi
  rw [e1]
  exact W.iret hx hb hr (fun t ht _ => ⟨rfl, ht⟩) hlo (by decide +kernel) hlocks
set_option maxRecDepth 100000 in
set_option maxHeartbeats 4000000 in
/-- isLatin1() of a constant: true -/
theorem k_isLatin1 (l : Launch) (adK adV : Nat → Nat) (sz : Nat) (i : Nat) (hi : i < 9) : Met l yJ0_isLatin1_aae02 (kW yJ0_isLatin1_aae02 prog_16_method_154_code 1 (some .boolean)) (mk_R 0 0) (mk_P adK adV sz [.ref (adK i)]) (mk_Q (some (.int 1))) 0 0 (fun _ => False) := by
  refine Met.ofW (cc := prog_16_method_154_code) (maxL := 1) (ret := (some .boolean)) (by decide +kernel) rfl ?_
  intro p e s mid args below meth c s₁ B hml hv
  obtain ⟨rfl, hsz, hE⟩ := hv
  have hx := B.exec
  have hb := B.bytes
  have hr := B.returns
  have hts := atoms_spec (ws := kW yJ0_isLatin1_aae02 prog_16_method_154_code 1 (some .boolean)) B.pre
  have hown : s.vm.findClass "java/lang/String" = some mid.cls := findClass_of_methodNamed B.named
  have hlocks := B.notSynchronized
  have hw : ∀ w ∈ gALL, w.before [.ref (adK i)].toArray s = true := fun w h => hts w (List.mem_cons_of_mem _ h)
  have hS : va_S (fun q => sz ≤ q) s.heap s.heap [] := va_S.rf
  have hl := lv_entry [.ref (adK i)] (n := 1) (Nat.le_of_ble_eq_true rfl)
  rw [lg_entry_eq]
  generalize (lg_sl ([.ref (adK i)]) ++ List.replicate (1 - (lg_sl ([.ref (adK i)])).length) Slot.unset).toArray = ls at hl ⊢
  have hl : lv_has ls 1 [(0, .ref (adK i))] := hl
  have hlo : ∀ q ∈ ([] : List Loc), (fun _ : Nat => False) q.base := fun q h => by cases h
  refine va_gets hx hb hE.2.2.1 hS hown (ref := "java/lang/String") (hw _ (in_all (i := 2165) (by decide +kernel) rfl)) (fun x h => h) (index := 38) (by decide +kernel) ?_
  refine lv_if_eq (tgt := 17) hx hb (off := 14) (by decide +kernel) (by decide) (fun q => absurd q (by decide)) (fun _ => ?_)
  refine lv_aload_n (k := 0) (i := 0) hx hb (by decide +kernel) rfl (lv_at hl 0 rfl) ?_
  refine vk_getf hx hb (hE.2.1.1 i hi).2.1 hS hown (ref := "java/lang/String") (hw _ (in_all (i := 8088) (by decide +kernel) rfl)) (fun x h => h) (index := 15) (by decide +kernel) ?_
  refine lv_if_ne (tgt := 17) hx hb (off := 7) (by decide +kernel) (by decide) (fun q => absurd rfl q) (fun _ => ?_)
  refine lv_iconst (v := 1) hx hb (n := 1) (by decide +kernel) (by decide) ?_
  refine lv_goto (off := 4) (tgt := 18) hx hb (by decide +kernel) (by decide) ?_
  exact W.zret hx hb hr rfl (fun t ht _ => ⟨rfl, ht⟩) hlo (by decide +kernel) hlocks
set_option maxRecDepth 100000 in
set_option maxHeartbeats 4000000 in
/-- Preconditions.checkIndex within the bounds -/
theorem k_preCheckN (l : Launch) (adK adV : Nat → Nat) (sz : Nat) (i n : Nat) (hin : i < n) (hn : n < 100)  : Met l yJ3_checkIndex_8e157 (kW yJ3_checkIndex_8e157 prog_20_method_11_code 3 (some .int)) (mk_R 0 0) (mk_P adK adV sz [.int (Int32.ofNat i), .int (Int32.ofNat n), .null]) (mk_Q (some (.int (Int32.ofNat i)))) 0 0 (fun _ => False) := by
  refine Met.ofW (cc := prog_20_method_11_code) (maxL := 3) (ret := (some .int)) (by decide +kernel) rfl ?_
  intro p e s mid args below meth c s₁ B hml hv
  obtain ⟨rfl, hsz, hE⟩ := hv
  have hx := B.exec
  have hb := B.bytes
  have hr := B.returns
  have hts := atoms_spec (ws := kW yJ3_checkIndex_8e157 prog_20_method_11_code 3 (some .int)) B.pre
  have hown : s.vm.findClass "jdk/internal/util/Preconditions" = some mid.cls := findClass_of_methodNamed B.named
  have hlocks := B.notSynchronized
  have hw : ∀ w ∈ gALL, w.before [.int (Int32.ofNat i), .int (Int32.ofNat n), .null].toArray s = true := fun w h => hts w (List.mem_cons_of_mem _ h)
  have hS : va_S (fun q => sz ≤ q) s.heap s.heap [] := va_S.rf
  have hl := lv_entry [.int (Int32.ofNat i), .int (Int32.ofNat n), .null] (n := 3) (Nat.le_of_ble_eq_true rfl)
  rw [lg_entry_eq]
  generalize (lg_sl ([.int (Int32.ofNat i), .int (Int32.ofNat n), .null]) ++ List.replicate (3 - (lg_sl ([.int (Int32.ofNat i), .int (Int32.ofNat n), .null])).length) Slot.unset).toArray = ls at hl ⊢
  have hl : lv_has ls 3 [(0, .int (Int32.ofNat i)), (1, .int (Int32.ofNat n)), (2, .null)] := hl
  have hlo : ∀ q ∈ ([] : List Loc), (fun _ : Nat => False) q.base := fun q h => by cases h
  refine lv_iload_n (k := 0) (i := 0) hx hb (by decide +kernel) rfl (lv_at hl 0 rfl) ?_
  refine lv_if_lt (tgt := 9) hx hb (off := 8) (by decide +kernel) (by decide) (fun q => ?_) (fun _ => ?_)
  · exfalso
    rw [Int32.lt_iff_toInt_lt, Int32.toInt_ofNat_of_lt (by omega)] at q
    simp at q
    omega
  refine lv_iload_n (k := 0) (i := 0) hx hb (by decide +kernel) rfl (lv_at hl 0 rfl) ?_
  refine lv_iload_n (k := 1) (i := 1) hx hb (by decide +kernel) rfl (lv_at hl 1 rfl) ?_
  refine lv_icmp_lt (tgt := 16) hx hb (off := 10) (by decide +kernel) (by decide) (fun _ => ?_) (fun q => ?_)
  · refine lv_iload_n (k := 0) (i := 0) hx hb (by decide +kernel) rfl (lv_at hl 0 rfl) ?_
    exact W.iret hx hb hr (fun t ht _ => ⟨rfl, ht⟩) hlo (by decide +kernel) hlocks
  · exfalso
    apply q
    rw [Int32.lt_iff_toInt_lt, Int32.toInt_ofNat_of_lt (by omega), Int32.toInt_ofNat_of_lt (by omega)]
    omega
set_option maxRecDepth 100000 in
set_option maxHeartbeats 4000000 in
/-- Preconditions.checkIndex within the bounds -/
theorem k_preCheckR (l : Launch) (adK adV : Nat → Nat) (sz : Nat) (i n : Nat) (hin : i < n) (hn : n < 100) (t : Nat) : Met l yJ3_checkIndex_8e157 (kW yJ3_checkIndex_8e157 prog_20_method_11_code 3 (some .int)) (mk_R 0 0) (mk_P adK adV sz [.int (Int32.ofNat i), .int (Int32.ofNat n), .ref t]) (mk_Q (some (.int (Int32.ofNat i)))) 0 0 (fun _ => False) := by
  refine Met.ofW (cc := prog_20_method_11_code) (maxL := 3) (ret := (some .int)) (by decide +kernel) rfl ?_
  intro p e s mid args below meth c s₁ B hml hv
  obtain ⟨rfl, hsz, hE⟩ := hv
  have hx := B.exec
  have hb := B.bytes
  have hr := B.returns
  have hts := atoms_spec (ws := kW yJ3_checkIndex_8e157 prog_20_method_11_code 3 (some .int)) B.pre
  have hown : s.vm.findClass "jdk/internal/util/Preconditions" = some mid.cls := findClass_of_methodNamed B.named
  have hlocks := B.notSynchronized
  have hw : ∀ w ∈ gALL, w.before [.int (Int32.ofNat i), .int (Int32.ofNat n), .ref t].toArray s = true := fun w h => hts w (List.mem_cons_of_mem _ h)
  have hS : va_S (fun q => sz ≤ q) s.heap s.heap [] := va_S.rf
  have hl := lv_entry [.int (Int32.ofNat i), .int (Int32.ofNat n), .ref t] (n := 3) (Nat.le_of_ble_eq_true rfl)
  rw [lg_entry_eq]
  generalize (lg_sl ([.int (Int32.ofNat i), .int (Int32.ofNat n), .ref t]) ++ List.replicate (3 - (lg_sl ([.int (Int32.ofNat i), .int (Int32.ofNat n), .ref t])).length) Slot.unset).toArray = ls at hl ⊢
  have hl : lv_has ls 3 [(0, .int (Int32.ofNat i)), (1, .int (Int32.ofNat n)), (2, .ref t)] := hl
  have hlo : ∀ q ∈ ([] : List Loc), (fun _ : Nat => False) q.base := fun q h => by cases h
  refine lv_iload_n (k := 0) (i := 0) hx hb (by decide +kernel) rfl (lv_at hl 0 rfl) ?_
  refine lv_if_lt (tgt := 9) hx hb (off := 8) (by decide +kernel) (by decide) (fun q => ?_) (fun _ => ?_)
  · exfalso
    rw [Int32.lt_iff_toInt_lt, Int32.toInt_ofNat_of_lt (by omega)] at q
    simp at q
    omega
  refine lv_iload_n (k := 0) (i := 0) hx hb (by decide +kernel) rfl (lv_at hl 0 rfl) ?_
  refine lv_iload_n (k := 1) (i := 1) hx hb (by decide +kernel) rfl (lv_at hl 1 rfl) ?_
  refine lv_icmp_lt (tgt := 16) hx hb (off := 10) (by decide +kernel) (by decide) (fun _ => ?_) (fun q => ?_)
  · refine lv_iload_n (k := 0) (i := 0) hx hb (by decide +kernel) rfl (lv_at hl 0 rfl) ?_
    exact W.iret hx hb hr (fun t ht _ => ⟨rfl, ht⟩) hlo (by decide +kernel) hlocks
  · exfalso
    apply q
    rw [Int32.lt_iff_toInt_lt, Int32.toInt_ofNat_of_lt (by omega), Int32.toInt_ofNat_of_lt (by omega)]
    omega
theorem k_preCheck (l : Launch) (adK adV : Nat → Nat) (sz : Nat) (i n : Nat) (hin : i < n) (hn : n < 100) (f : Value) (hf : f = .null ∨ ∃ t, f = .ref t) : Met l yJ3_checkIndex_8e157 (kW yJ3_checkIndex_8e157 prog_20_method_11_code 3 (some .int)) (mk_R 0 0) (mk_P adK adV sz [.int (Int32.ofNat i), .int (Int32.ofNat n), f]) (mk_Q (some (.int (Int32.ofNat i)))) 0 0 (fun _ => False) := by
  rcases hf with rfl | ⟨t, rfl⟩
  · exact k_preCheckN l adK adV sz i n hin hn
  · exact k_preCheckR l adK adV sz i n hin hn t
set_option maxRecDepth 100000 in
set_option maxHeartbeats 4000000 in
/-- String.checkIndex within the bounds -/
theorem k_strCheck (l : Launch) (adK adV : Nat → Nat) (sz : Nat) (i n : Nat) (hin : i < n) (hn : n < 100) : Met l yJ0_checkIndex_df160 (kW yJ0_checkIndex_df160 prog_16_method_155_code 2 none) (mk_R 1 22) (mk_P adK adV sz [.int (Int32.ofNat i), .int (Int32.ofNat n)]) (mk_Q none) 0 0 (fun _ => False) := by
  refine Met.ofW (cc := prog_16_method_155_code) (maxL := 2) (ret := none) (by decide +kernel) rfl ?_
  intro p e s mid args below meth c s₁ B hml hv
  obtain ⟨rfl, hsz, hE⟩ := hv
  have hx := B.exec
  have hb := B.bytes
  have hr := B.returns
  have hts := atoms_spec (ws := kW yJ0_checkIndex_df160 prog_16_method_155_code 2 none) B.pre
  have hown : s.vm.findClass "java/lang/String" = some mid.cls := findClass_of_methodNamed B.named
  have hlocks := B.notSynchronized
  have hw : ∀ w ∈ gALL, w.before [.int (Int32.ofNat i), .int (Int32.ofNat n)].toArray s = true := fun w h => hts w (List.mem_cons_of_mem _ h)
  have hS : va_S (fun q => sz ≤ q) s.heap s.heap [] := va_S.rf
  have hl := lv_entry [.int (Int32.ofNat i), .int (Int32.ofNat n)] (n := 2) (Nat.le_of_ble_eq_true rfl)
  rw [lg_entry_eq]
  generalize (lg_sl ([.int (Int32.ofNat i), .int (Int32.ofNat n)]) ++ List.replicate (2 - (lg_sl ([.int (Int32.ofNat i), .int (Int32.ofNat n)])).length) Slot.unset).toArray = ls at hl ⊢
  have hl : lv_has ls 2 [(0, .int (Int32.ofNat i)), (1, .int (Int32.ofNat n))] := hl
  have hlo : ∀ q ∈ ([] : List Loc), (fun _ : Nat => False) q.base := fun q h => by cases h
  have go : ∀ f : Value, (f = .null ∨ ∃ t, f = .ref t) → f.category = 1 → va_Z "jdk/internal/util/Preconditions" "SIOOBE_FORMATTER" "Ljava/util/function/BiFunction;" f (fun q => sz ≤ q) s s.heap → W p l e (headSpec (kW yJ0_checkIndex_df160 prog_16_method_155_code 2 none) (mk_R 1 22)).room s mid [Value.int (Int32.ofNat i), .int (Int32.ofNat n)].toArray below meth c s.heap [] 0 0 (MQ below (mk_Q none) [Value.int (Int32.ofNat i), .int (Int32.ofNat n)].toArray s 0 0 (fun _ => False)) (F0 mid 0 ls []) := by
    intro f hf hcat hZ
    refine lv_iload_n (k := 0) (i := 0) hx hb (by decide +kernel) rfl (lv_at hl 0 rfl) ?_
    refine lv_iload_n (k := 1) (i := 1) hx hb (by decide +kernel) rfl (lv_at hl 1 rfl) ?_
    refine va_gets hx hb hZ hS hown (ref := "jdk/internal/util/Preconditions") (hw _ (in_all (i := 2181) (by decide +kernel) rfl)) (fun x h => h) (index := 1053) (by decide +kernel) ?_
    refine mk_behind (F := fun _ => False) hlo (va_runS (As := [.int (Int32.ofNat i), .int (Int32.ofNat n), f]) (rest := []) (n := 3) (nL := 2) ⟨hx, hb, hml, hown, hts⟩ (k_preCheck l adK adV sz i n hin hn f hf) ⟨callB_of 3 hts (kW_good w_preCheck) rfl rfl rfl (hw _ wi_preCheck) (hw _ (in_all (i := 2183) (by decide +kernel) rfl)) ⟨by decide +kernel, by decide +kernel, by decide +kernel⟩ ⟨Nat.le_of_ble_eq_true rfl, Nat.le_of_ble_eq_true rfl⟩, hw _ wn_preCheck⟩ ⟨mk_P_blind _ _ _ _, mk_P_of hsz hE rfl⟩ rfl rfl hl.1 rfl (lv_room (Nat.le_of_ble_eq_true rfl)) (index := 1059) (show decode prog_16_method_155_code 5 = .ok (.invokestatic 1059, 3) by decide +kernel) ⟨Nat.zero_le _, Nat.zero_le _⟩) (fun locs1 hlo => ?_)
    refine lv_pop hx hb (by decide +kernel) rfl ?_
    exact W.vret hx hb hr (fun t ht _ => ⟨rfl, ht⟩) hlo (by decide +kernel) hlocks
  rcases hE.2.2.2 with hZ | ⟨t, hZ⟩
  · exact go _ (Or.inl rfl) rfl hZ
  · exact go _ (Or.inr ⟨t, rfl⟩) rfl hZ
set_option maxRecDepth 100000 in
set_option maxHeartbeats 4000000 in
/-- StringLatin1.charAt of a constant bytes -/
theorem k_l1CharAt (l : Launch) (adK adV : Nat → Nat) (sz : Nat) (i k : Nat) (hi : i < 9) (hk : k < sLen.getD i 0) : Met l yJ1_charAt_3b067 (kW yJ1_charAt_3b067 prog_17_method_2_code 2 (some .char)) (mk_R 2 43) (mk_P adK adV sz [.ref (adV i), .int (Int32.ofNat k)]) (mk_Q (some (.int ((sByt.getD i []).getD k 0)))) 0 0 (fun _ => False) := by
  refine Met.ofW (cc := prog_17_method_2_code) (maxL := 2) (ret := (some .char)) (by decide +kernel) rfl ?_
  intro p e s mid args below meth c s₁ B hml hv
  obtain ⟨rfl, hsz, hE⟩ := hv
  have hx := B.exec
  have hb := B.bytes
  have hr := B.returns
  have hts := atoms_spec (ws := kW yJ1_charAt_3b067 prog_17_method_2_code 2 (some .char)) B.pre
  have hown : s.vm.findClass "java/lang/StringLatin1" = some mid.cls := findClass_of_methodNamed B.named
  have hlocks := B.notSynchronized
  have hw : ∀ w ∈ gALL, w.before [.ref (adV i), .int (Int32.ofNat k)].toArray s = true := fun w h => hts w (List.mem_cons_of_mem _ h)
  have hS : va_S (fun q => sz ≤ q) s.heap s.heap [] := va_S.rf
  have hl := lv_entry [.ref (adV i), .int (Int32.ofNat k)] (n := 2) (Nat.le_of_ble_eq_true rfl)
  rw [lg_entry_eq]
  generalize (lg_sl ([.ref (adV i), .int (Int32.ofNat k)]) ++ List.replicate (2 - (lg_sl ([.ref (adV i), .int (Int32.ofNat k)])).length) Slot.unset).toArray = ls at hl ⊢
  have hl : lv_has ls 2 [(0, .ref (adV i)), (1, .int (Int32.ofNat k))] := hl
  have hlo : ∀ q ∈ ([] : List Loc), (fun _ : Nat => False) q.base := fun q h => by cases h
  have hn : sLen.getD i 0 < 100 := (show ∀ j, j < 9 → sLen.getD j 0 < 100 by decide +kernel) i hi
  refine lv_iload_n (k := 1) (i := 1) hx hb (by decide +kernel) rfl (lv_at hl 1 rfl) ?_
  refine lv_aload_n (k := 0) (i := 0) hx hb (by decide +kernel) rfl (lv_at hl 0 rfl) ?_
  refine va_tlen hx hb (hE.2.1.1 i hi).2.2.2 hS rfl (by decide +kernel) ?_
  refine mk_behind (F := fun _ => False) hlo (va_runS (As := [.int (Int32.ofNat k), .int (Int32.ofNat (sLen.getD i 0))]) (rest := []) (n := 2) (nL := 2) ⟨hx, hb, hml, hown, hts⟩ (k_strCheck l adK adV sz k (sLen.getD i 0) hk hn) ⟨callB_of 2 hts (kW_good w_strCheck) rfl rfl rfl (hw _ wi_strCheck) (hw _ (in_all (i := 2178) (by decide +kernel) rfl)) ⟨by decide +kernel, by decide +kernel, by decide +kernel⟩ ⟨Nat.le_of_ble_eq_true rfl, Nat.le_of_ble_eq_true rfl⟩, hw _ wn_strCheck⟩ ⟨mk_P_blind _ _ _ _, mk_P_of hsz hE rfl⟩ rfl rfl hl.1 rfl (lv_room (Nat.le_of_ble_eq_true rfl)) (index := 9) (show decode prog_17_method_2_code 3 = .ok (.invokestatic 9, 3) by decide +kernel) ⟨Nat.zero_le _, Nat.zero_le _⟩) (fun locs1 hlo => ?_)
  refine lv_aload_n (k := 0) (i := 0) hx hb (by decide +kernel) rfl (lv_at hl 0 rfl) ?_
  refine lv_iload_n (k := 1) (i := 1) hx hb (by decide +kernel) rfl (lv_at hl 1 rfl) ?_
  have hkn : (Int32.ofNat k).toNatClampNeg = k := Int32.toNatClampNeg_ofNat_of_lt (by omega)
  have hin : vp_in (Int32.ofNat k) (sLen.getD i 0) := vp_in_nI hk (by omega)
  have hS1 : va_S (fun q => sz ≤ q) s.heap s.heap locs1 := ⟨Nat.le_refl _, fun _ _ _ => rfl, fun q hq => (hlo q hq).elim⟩
  refine va_tb hx hb (hE.2.1.1 i hi).2.2.2 hS1 hin rfl (by decide +kernel) ?_
  rw [hkn]
  refine lv_sipush (n := 255) hx hb (by decide +kernel) rfl ?_
  refine lv_iand hx hb (by decide +kernel) ?_
  refine lv_i2c hx hb (by decide +kernel) rfl ?_
  have hchar : (((((sByt.getD i []).getD k 0) &&& (Int16.ofInt 255).toInt32).toUInt32 % 65536).toInt32 = (sByt.getD i []).getD k 0) ∧ narrow .char (.int ((sByt.getD i []).getD k 0)) = .int ((sByt.getD i []).getD k 0) := (show ∀ j, j < 9 → ∀ q, q < sLen.getD j 0 → ((((sByt.getD j []).getD q 0) &&& (Int16.ofInt 255).toInt32).toUInt32 % 65536).toInt32 = (sByt.getD j []).getD q 0 ∧ narrow .char (.int ((sByt.getD j []).getD q 0)) = .int ((sByt.getD j []).getD q 0) by decide +kernel) i hi k hk
  rw [hchar.1]
  exact W.zret hx hb hr hchar.2 (fun t ht _ => ⟨rfl, ht⟩) hlo (by decide +kernel) hlocks
set_option maxRecDepth 100000 in
set_option maxHeartbeats 4000000 in
/-- charAt of a constant -/
theorem k_charAt (l : Launch) (adK adV : Nat → Nat) (sz : Nat) (i k : Nat) (hi : i < 9) (hk : k < sLen.getD i 0) : Met l yJ0_charAt_5068e (kW yJ0_charAt_5068e prog_16_method_56_code 2 (some .char)) (mk_R 3 64) (mk_P adK adV sz [.ref (adK i), .int (Int32.ofNat k)]) (mk_Q (some (.int ((sByt.getD i []).getD k 0)))) 0 0 (fun _ => False) := by
  refine Met.ofW (cc := prog_16_method_56_code) (maxL := 2) (ret := (some .char)) (by decide +kernel) rfl ?_
  intro p e s mid args below meth c s₁ B hml hv
  obtain ⟨rfl, hsz, hE⟩ := hv
  have hx := B.exec
  have hb := B.bytes
  have hr := B.returns
  have hts := atoms_spec (ws := kW yJ0_charAt_5068e prog_16_method_56_code 2 (some .char)) B.pre
  have hown : s.vm.findClass "java/lang/String" = some mid.cls := findClass_of_methodNamed B.named
  have hlocks := B.notSynchronized
  have hw : ∀ w ∈ gALL, w.before [.ref (adK i), .int (Int32.ofNat k)].toArray s = true := fun w h => hts w (List.mem_cons_of_mem _ h)
  have hS : va_S (fun q => sz ≤ q) s.heap s.heap [] := va_S.rf
  have hl := lv_entry [.ref (adK i), .int (Int32.ofNat k)] (n := 2) (Nat.le_of_ble_eq_true rfl)
  rw [lg_entry_eq]
  generalize (lg_sl ([.ref (adK i), .int (Int32.ofNat k)]) ++ List.replicate (2 - (lg_sl ([.ref (adK i), .int (Int32.ofNat k)])).length) Slot.unset).toArray = ls at hl ⊢
  have hl : lv_has ls 2 [(0, .ref (adK i)), (1, .int (Int32.ofNat k))] := hl
  have hlo : ∀ q ∈ ([] : List Loc), (fun _ : Nat => False) q.base := fun q h => by cases h
  refine lv_aload_n (k := 0) (i := 0) hx hb (by decide +kernel) rfl (lv_at hl 0 rfl) ?_
  refine mk_behind (F := fun _ => False) hlo (va_runV (C := yJ0_isLatin1_aae02.cls) (As := []) (rest := []) (n := 0) (nL := 2) ⟨hx, hb, hml, hown, hts⟩ (k_isLatin1 l adK adV sz i hi) ⟨callB_of 0 hts (kW_good w_isLatin1) rfl rfl rfl (hw _ wi_isLatin1) (hw _ (in_all (i := 2171) (by decide +kernel) rfl)) ⟨by decide +kernel, by decide +kernel, by decide +kernel⟩ ⟨Nat.le_of_ble_eq_true rfl, Nat.le_of_ble_eq_true rfl⟩, hw _ wn_isLatin1, hw _ ws_isLatin1⟩ ⟨mk_P_blind _ _ _ _, vk_recv hE.2.1 hi hS, mk_P_of hsz hE rfl⟩ rfl rfl hl.1 rfl (lv_room (Nat.le_of_ble_eq_true rfl)) (index := 492) (show decode prog_16_method_56_code 1 = .ok (.invokevirtual 492, 3) by decide +kernel) ⟨Nat.zero_le _, Nat.zero_le _⟩) (fun locs1 hlo => ?_)
  have hS1 : va_S (fun q => sz ≤ q) s.heap s.heap locs1 := ⟨Nat.le_refl _, fun _ _ _ => rfl, fun q hq => (hlo q hq).elim⟩
  refine lv_if_eq (tgt := 16) hx hb (off := 12) (by decide +kernel) (by decide) (fun q => absurd q (by decide)) (fun _ => ?_)
  refine lv_aload_n (k := 0) (i := 0) hx hb (by decide +kernel) rfl (lv_at hl 0 rfl) ?_
  refine vk_getf hx hb (hE.2.1.1 i hi).2.2.1 hS1 hown (ref := "java/lang/String") (hw _ (in_all (i := 8087) (by decide +kernel) rfl)) (fun x h => h) (index := 9) (by decide +kernel) ?_
  refine lv_iload_n (k := 1) (i := 1) hx hb (by decide +kernel) rfl (lv_at hl 1 rfl) ?_
  refine mk_behind (F := fun _ => False) hlo (va_runS (As := [.ref (adV i), .int (Int32.ofNat k)]) (rest := []) (n := 2) (nL := 2) ⟨hx, hb, hml, hown, hts⟩ (k_l1CharAt l adK adV sz i k hi hk) ⟨callB_of 2 hts (kW_good w_l1CharAt) rfl rfl rfl (hw _ wi_l1CharAt) (hw _ (in_all (i := 2175) (by decide +kernel) rfl)) ⟨by decide +kernel, by decide +kernel, by decide +kernel⟩ ⟨Nat.le_of_ble_eq_true rfl, Nat.le_of_ble_eq_true rfl⟩, hw _ wn_l1CharAt⟩ ⟨mk_P_blind _ _ _ _, mk_P_of hsz hE rfl⟩ rfl rfl hl.1 rfl (lv_room (Nat.le_of_ble_eq_true rfl)) (index := 495) (show decode prog_16_method_56_code 12 = .ok (.invokestatic 495, 3) by decide +kernel) ⟨Nat.zero_le _, Nat.zero_le _⟩) (fun locs1 hlo => ?_)
  have hchar : narrow .char (.int ((sByt.getD i []).getD k 0)) = .int ((sByt.getD i []).getD k 0) := (show ∀ j, j < 9 → ∀ q, q < sLen.getD j 0 → narrow .char (.int ((sByt.getD j []).getD q 0)) = .int ((sByt.getD j []).getD q 0) by decide +kernel) i hi k hk
  exact W.zret hx hb hr hchar (fun t ht _ => ⟨rfl, ht⟩) hlo (by decide +kernel) hlocks
set_option maxRecDepth 100000 in
set_option maxHeartbeats 4000000 in
/-- a letter behind a name -/
theorem k_withLetter (l : Launch) (adK adV : Nat → Nat) (sz : Nat) (x : Int64) (cc : Int32) : Met l yX8_withLetter (kW yX8_withLetter prog_10_method_15_code 3 (some .long)) (mk_R 0 0) (mk_P adK adV sz [.long x, .int cc]) (mk_Q (some (.long (x * 32 + (cc - 97 + 1).toInt64)))) 0 0 (fun _ => False) := by
  refine Met.ofW (cc := prog_10_method_15_code) (maxL := 3) (ret := (some .long)) (by decide +kernel) rfl ?_
  intro p e s mid args below meth c s₁ B hml hv
  obtain ⟨rfl, hsz, hE⟩ := hv
  have hx := B.exec
  have hb := B.bytes
  have hr := B.returns
  have hts := atoms_spec (ws := kW yX8_withLetter prog_10_method_15_code 3 (some .long)) B.pre
  have hown : s.vm.findClass "GaugeNet$Tokens" = some mid.cls := findClass_of_methodNamed B.named
  have hlocks := B.notSynchronized
  have hw : ∀ w ∈ gALL, w.before [.long x, .int cc].toArray s = true := fun w h => hts w (List.mem_cons_of_mem _ h)
  have hS : va_S (fun q => sz ≤ q) s.heap s.heap [] := va_S.rf
  have hl := lv_entry [.long x, .int cc] (n := 3) (Nat.le_of_ble_eq_true rfl)
  rw [lg_entry_eq]
  generalize (lg_sl ([.long x, .int cc]) ++ List.replicate (3 - (lg_sl ([.long x, .int cc])).length) Slot.unset).toArray = ls at hl ⊢
  have hl : lv_has ls 3 [(0, .long x), (2, .int cc)] := hl
  have hlo : ∀ q ∈ ([] : List Loc), (fun _ : Nat => False) q.base := fun q h => by cases h
  refine lv_lload_n (k := 0) (i := 0) hx hb (by decide +kernel) rfl (lv_at hl 0 rfl) ?_
  refine lv_ldc2 (v := 32) (index := 72) hx hb hown (hw _ (in_all (i := 2149) (by decide +kernel) rfl)) (by decide +kernel) ?_
  refine lv_lmul hx hb (by decide +kernel) ?_
  refine lv_iload_n (k := 2) (i := 2) hx hb (by decide +kernel) rfl (lv_at hl 1 rfl) ?_
  refine lv_bipush (n := 97) hx hb (by decide +kernel) rfl ?_
  refine lv_isub hx hb (by decide +kernel) ?_
  refine lv_iconst (n := 1) hx hb (by decide +kernel) rfl ?_
  refine lv_iadd hx hb (by decide +kernel) ?_
  refine lv_i2l hx hb (by decide +kernel) rfl ?_
  refine lv_ladd hx hb (by decide +kernel) ?_
  exact W.lret hx hb hr (fun t ht _ => ⟨rfl, ht⟩) hlo (by decide +kernel) hlocks
def sName (i : Nat) : Nat → Int64
  | 0 => 0
  | k + 1 => sName i k * 32 + ((sByt.getD i []).getD k 0 - 97 + 1).toInt64
set_option maxRecDepth 100000 in
set_option maxHeartbeats 4000000 in
/-- nameOf of a constant -/
theorem k_nameOf (l : Launch) (adK adV : Nat → Nat) (sz : Nat) (i : Nat) (hi : i < 9) : Met l yX8_nameOf (kW yX8_nameOf prog_10_method_16_code 4 (some .long)) (mk_R 4 85) (mk_P adK adV sz [.ref (adK i)]) (mk_Q (some (.long (sName i (sLen.getD i 0))))) 0 0 (fun _ => False) := by
  refine Met.ofW (cc := prog_10_method_16_code) (maxL := 4) (ret := (some .long)) (by decide +kernel) rfl ?_
  intro p e s mid args below meth c s₁ B hml hv
  obtain ⟨rfl, hsz, hE⟩ := hv
  have hx := B.exec
  have hb := B.bytes
  have hr := B.returns
  have hts := atoms_spec (ws := kW yX8_nameOf prog_10_method_16_code 4 (some .long)) B.pre
  have hown : s.vm.findClass "GaugeNet$Tokens" = some mid.cls := findClass_of_methodNamed B.named
  have hlocks := B.notSynchronized
  have hw : ∀ w ∈ gALL, w.before [.ref (adK i)].toArray s = true := fun w h => hts w (List.mem_cons_of_mem _ h)
  have hS : va_S (fun q => sz ≤ q) s.heap s.heap [] := va_S.rf
  have hl := lv_entry [.ref (adK i)] (n := 4) (Nat.le_of_ble_eq_true rfl)
  rw [lg_entry_eq]
  generalize (lg_sl ([.ref (adK i)]) ++ List.replicate (4 - (lg_sl ([.ref (adK i)])).length) Slot.unset).toArray = ls at hl ⊢
  have hl : lv_has ls 4 [(0, .ref (adK i))] := hl
  have hlo : ∀ q ∈ ([] : List Loc), (fun _ : Nat => False) q.base := fun q h => by cases h
  have hn : sLen.getD i 0 < 100 := (show ∀ j, j < 9 → sLen.getD j 0 < 100 by decide +kernel) i hi
  have loop : ∀ (j k : Nat), k + j = sLen.getD i 0 → ∀ (ls : Array Slot) (locs1 : List Loc), lv_has ls 4 [(3, .int (Int32.ofNat k)), (1, .long (sName i k)), (0, .ref (adK i))] → (∀ q ∈ locs1, (fun _ : Nat => False) q.base) → W p l e (headSpec (kW yX8_nameOf prog_10_method_16_code 4 (some .long)) (mk_R 4 85)).room s mid [Value.ref (adK i)].toArray below meth c s.heap locs1 0 0 (MQ below (mk_Q (some (.long (sName i (sLen.getD i 0))))) [Value.ref (adK i)].toArray s 0 0 (fun _ => False)) (F0 mid 4 ls []) := by
    intro j
    induction j with
    | zero =>
      intro k hk ls locs1 hl hlo
      have hk : k = sLen.getD i 0 := hk
      subst hk
      refine lv_iload_n (k := 3) (i := 3) hx hb (by decide +kernel) rfl (lv_at hl 0 rfl) ?_
      refine lv_aload_n (k := 0) (i := 0) hx hb (by decide +kernel) rfl (lv_at hl 2 rfl) ?_
      have hS1 : va_S (fun q => sz ≤ q) s.heap s.heap locs1 := ⟨Nat.le_refl _, fun _ _ _ => rfl, fun q hq => (hlo q hq).elim⟩
      refine mk_behind (F := fun _ => False) hlo (va_runV (C := yJ0_length_8abf5.cls) (As := []) (rest := [.int (Int32.ofNat (sLen.getD i 0))]) (n := 0) (nL := 4) ⟨hx, hb, hml, hown, hts⟩ (k_length l adK adV sz i hi) ⟨callB_of 0 hts (kW_good w_length) rfl rfl rfl (hw _ wi_length) (hw _ (in_all (i := 2157) (by decide +kernel) rfl)) ⟨by decide +kernel, by decide +kernel, by decide +kernel⟩ ⟨Nat.le_of_ble_eq_true rfl, Nat.le_of_ble_eq_true rfl⟩, hw _ wn_length, hw _ ws_length⟩ ⟨mk_P_blind _ _ _ _, vk_recv hE.2.1 hi hS1, mk_P_of hsz hE rfl⟩ rfl rfl hl.1 rfl (lv_room (Nat.le_of_ble_eq_true rfl)) (index := 74) (show decode prog_10_method_16_code 6 = .ok (.invokevirtual 74, 3) by decide +kernel) ⟨Nat.zero_le _, Nat.zero_le _⟩) (fun locs1 hlo => ?_)
      refine lv_icmp_ge (tgt := 28) (off := 19) hx hb (by decide +kernel) (by decide) (fun _ => ?_) (fun q => absurd (Int32.le_refl _) q)
      refine lv_lload_n (k := 1) (i := 1) hx hb (by decide +kernel) rfl (lv_at hl 1 rfl) ?_
      exact W.lret hx hb hr (fun t ht _ => ⟨rfl, ht⟩) hlo (by decide +kernel) hlocks
    | succ j ih =>
      intro k hk ls locs1 hl hlo
      refine lv_iload_n (k := 3) (i := 3) hx hb (by decide +kernel) rfl (lv_at hl 0 rfl) ?_
      refine lv_aload_n (k := 0) (i := 0) hx hb (by decide +kernel) rfl (lv_at hl 2 rfl) ?_
      have hS1 : va_S (fun q => sz ≤ q) s.heap s.heap locs1 := ⟨Nat.le_refl _, fun _ _ _ => rfl, fun q hq => (hlo q hq).elim⟩
      refine mk_behind (F := fun _ => False) hlo (va_runV (C := yJ0_length_8abf5.cls) (As := []) (rest := [.int (Int32.ofNat k)]) (n := 0) (nL := 4) ⟨hx, hb, hml, hown, hts⟩ (k_length l adK adV sz i hi) ⟨callB_of 0 hts (kW_good w_length) rfl rfl rfl (hw _ wi_length) (hw _ (in_all (i := 2157) (by decide +kernel) rfl)) ⟨by decide +kernel, by decide +kernel, by decide +kernel⟩ ⟨Nat.le_of_ble_eq_true rfl, Nat.le_of_ble_eq_true rfl⟩, hw _ wn_length, hw _ ws_length⟩ ⟨mk_P_blind _ _ _ _, vk_recv hE.2.1 hi hS1, mk_P_of hsz hE rfl⟩ rfl rfl hl.1 rfl (lv_room (Nat.le_of_ble_eq_true rfl)) (index := 74) (show decode prog_10_method_16_code 6 = .ok (.invokevirtual 74, 3) by decide +kernel) ⟨Nat.zero_le _, Nat.zero_le _⟩) (fun locs2 hlo => ?_)
      refine lv_icmp_ge (tgt := 28) (off := 19) hx hb (by decide +kernel) (by decide) (fun q => ?_) (fun _ => ?_)
      · exfalso
        have q : Int32.ofNat (sLen.getD i 0) ≤ Int32.ofNat k := q
        rw [Int32.le_iff_toInt_le, Int32.toInt_ofNat_of_lt (by omega), Int32.toInt_ofNat_of_lt (by omega)] at q
        omega
      refine lv_lload_n (k := 1) (i := 1) hx hb (by decide +kernel) rfl (lv_at hl 1 rfl) ?_
      refine lv_aload_n (k := 0) (i := 0) hx hb (by decide +kernel) rfl (lv_at hl 2 rfl) ?_
      refine lv_iload_n (k := 3) (i := 3) hx hb (by decide +kernel) rfl (lv_at hl 0 rfl) ?_
      refine mk_behind (F := fun _ => False) hlo (va_runV (C := yJ0_charAt_5068e.cls) (As := [.int (Int32.ofNat k)]) (rest := [.long (sName i k)]) (n := 1) (nL := 4) ⟨hx, hb, hml, hown, hts⟩ (k_charAt l adK adV sz i k hi (by omega)) ⟨callB_of 1 hts (kW_good w_charAt) rfl rfl rfl (hw _ wi_charAt) (hw _ (in_all (i := 2167) (by decide +kernel) rfl)) ⟨by decide +kernel, by decide +kernel, by decide +kernel⟩ ⟨Nat.le_of_ble_eq_true rfl, Nat.le_of_ble_eq_true rfl⟩, hw _ wn_charAt, hw _ ws_charAt⟩ ⟨mk_P_blind _ _ _ _, vk_recv hE.2.1 hi hS1, mk_P_of hsz hE rfl⟩ rfl rfl hl.1 rfl (lv_room (Nat.le_of_ble_eq_true rfl)) (index := 80) (show decode prog_10_method_16_code 15 = .ok (.invokevirtual 80, 3) by decide +kernel) ⟨Nat.zero_le _, Nat.zero_le _⟩) (fun locs3 hlo => ?_)
      refine mk_behind (F := fun _ => False) hlo (va_runS (As := [.long (sName i k), .int ((sByt.getD i []).getD k 0)]) (rest := []) (n := 2) (nL := 4) ⟨hx, hb, hml, hown, hts⟩ (k_withLetter l adK adV sz (sName i k) ((sByt.getD i []).getD k 0)) ⟨callB_of 2 hts (kW_good w_withLetter) rfl rfl rfl (hw _ wi_withLetter) (hw _ (in_all (i := 2146) (by decide +kernel) rfl)) ⟨by decide +kernel, by decide +kernel, by decide +kernel⟩ ⟨Nat.le_of_ble_eq_true rfl, Nat.le_of_ble_eq_true rfl⟩, hw _ wn_withLetter⟩ ⟨mk_P_blind _ _ _ _, mk_P_of hsz hE rfl⟩ rfl rfl hl.1 rfl (lv_room (Nat.le_of_ble_eq_true rfl)) (index := 57) (show decode prog_10_method_16_code 18 = .ok (.invokestatic 57, 3) by decide +kernel) ⟨Nat.zero_le _, Nat.zero_le _⟩) (fun locs4 hlo => ?_)
      refine lv_lstore_n (k := 1) (i := 1) (lv' := [(1, .long (sName i (k + 1))), (3, .int (Int32.ofNat k)), (0, .ref (adK i))]) hx hb (by decide +kernel) rfl hl (by decide) rfl (fun ls hl => ?_)
      refine lv_iinc (i := 3) (n := 1) (k := 1) (v := Int32.ofNat (k + 1)) (lv' := [(3, .int (Int32.ofNat (k + 1))), (1, .long (sName i (k + 1))), (0, .ref (adK i))]) hx hb (by decide +kernel) hl rfl (by rw [inc_ofNat]; rfl) (by decide) rfl (fun ls hl => ?_)
      refine lv_goto (off := -21) (tgt := 4) hx hb (by decide +kernel) (by decide) ?_
      exact ih (k + 1) (by omega) ls locs4 hl hlo
  refine lv_lconst (n := 0) (v := 0) hx hb (by decide +kernel) rfl ?_
  refine lv_lstore_n (k := 1) (i := 1) (lv' := [(1, .long 0), (0, .ref (adK i))]) hx hb (by decide +kernel) rfl hl (by decide) rfl (fun ls hl => ?_)
  refine lv_iconst (n := 0) (v := 0) hx hb (by decide +kernel) rfl ?_
  refine lv_istore_n (k := 3) (i := 3) (lv' := [(3, .int 0), (1, .long 0), (0, .ref (adK i))]) hx hb (by decide +kernel) rfl hl (by decide) rfl (fun ls hl => ?_)
  exact loop (sLen.getD i 0) 0 (Nat.zero_add _) ls [] hl hlo
theorem gNO_at : ∀ q ∈ gStr, ∃ i, i < 9 ∧ sIdx.getD i 0 = q.1 ∧ q.2.1 = 86 ∧ Int64.ofInt q.2.2 = sName i (sLen.getD i 0) ∧ okJb q.2.2 = true := by decide +kernel
theorem gNameOf_ok (l : Launch) : gNameOf l := by
  intro p e R s mid args below meth c cc nL Ts own Q D A ad kd wids aC h ow idx j pc v L S M hown hno hd hf hlc hlen kk
  have how : ow = 8 := by
    unfold gNO at hno
    split at hno
    · rfl
    · cases hno
  subst how
  obtain ⟨q, hq, hq2⟩ := List.any_eq_true.mp hno
  simp only [Bool.and_eq_true, decide_eq_true_eq] at hq2
  obtain ⟨⟨e1, e2⟩, hd2⟩ := hq2
  have e1 := Nat.eq_of_beq_eq_true e1
  obtain ⟨i, hi, g1, g2, g3, g4⟩ := gNO_at q hq
  rw [e1] at g1
  rw [g2] at hd2
  rw [e2] at g3 g4
  intro ls H locs hL hS hM hP hA
  obtain ⟨adK, adV, hE⟩ := h.2.2.2.2.2.2.2
  have hw : ∀ w ∈ gALL, w.before args s = true := fun w hw => h.1.2.2.2.2 _ (h.2.2.2.2.1 _ hw)
  subst hown
  have hZ := hE.1 i hi
  rw [g1] at hZ
  refine va_ldcS h.1.1 h.1.2.1 h.1.2.2.2.1 hZ hd ?_
  have hPre : PreS s H (mk_P adK adV H.size [.ref (adK i)]) [.ref (adK i)] := ⟨mk_P_blind _ _ _ _, fun U hU hW => ⟨rfl, by rw [hU], by rw [hU]; exact hE.warm hW hA (fun q hq => h.2.2.2.2.2.2.1 q (Nat.le_trans hA.1 hq))⟩⟩
  have hr := va_runS (As := [.ref (adK i)]) (rest := S.map (ms_v ad)) (n := 1) (index := 86) (g := F0 mid (pc + 2) ls (.ref (adK i) :: S.map (ms_v ad))) h.1 (k_nameOf l adK adV H.size i hi) ⟨callB_of 1 h.1.2.2.2.2 (good_all h.2.2.2.2.1 (fun w hw => by
    rcases List.mem_cons.mp hw with q | q
    · rw [q]; exact w_nameOf
    · exact q)) rfl rfl rfl (hw _ wi_nameOf) (hw _ (in_all (i := 2154) (by decide +kernel) rfl)) ⟨by decide +kernel, by decide +kernel, by decide +kernel⟩ ⟨hf, Nat.le_trans (show 8 + (4 + 11) + 85 ≤ 8 + (nameOfL + 11) + nameOfR from by decide +kernel) hlc⟩, hw _ wn_nameOf⟩ hPre rfl rfl hL.1.1 rfl (lv_room (cat_sum S hlen)) hd2 ⟨Nat.zero_le _, Nat.zero_le _⟩ (locs := locs) (below := below) (e := e) (meth := meth) (cells := 0) (slots := 0)
  refine mk_behind (F := A) hA.2.2 hr (fun locs1 hl1 => ?_)
  have k1 := kk ls H locs1 hL (hS.pushJ (okJb_ok g4)) hM hP ⟨hA.1, hA.2.1, hl1⟩
  rw [← g3]
  exact k1
