/-! The law's cases: by program. -/
def PureI (Rel : mM → mM → Prop) (mC mR : Nat) (as : List mV) : Prop := ∀ MC MR, Rel MC MR → ∃ x MC' MR', gC mC (rv 10 0 :: as) MC = some (iv x, MC') ∧ gC mR (rv 11 100 :: as) MR = some (iv x, MR') ∧ Rel MC' MR'
def PureJ (Rel : mM → mM → Prop) (mC mR : Nat) (as : List mV) : Prop := ∀ MC MR, Rel MC MR → ∃ x MC' MR', gC mC (rv 10 0 :: as) MC = some (jv x, MC') ∧ gC mR (rv 11 100 :: as) MR = some (jv x, MR') ∧ Rel MC' MR'
theorem asI {kd : Nat → Nat} {w : List Nat} (x : Int32) : (iv x.toInt : mV) ≠ none ∧ ms_ok kd w (iv x.toInt) := ⟨by simp, okI_toInt x⟩
theorem asJ {kd : Nat → Nat} {w : List Nat} (x : Int64) : (jv x.toInt : mV) ≠ none ∧ ms_ok kd w (jv x.toInt) := ⟨by simp, okJ_toInt x⟩
section LC
variable {p : Program} {l : Launch} {e : Env} {s : State} {mid : MethodId} {b L : Nat} {xs : Nat → Int32} {below : List Frame} {meth : Method} {c : Code} {D : va_G} {ad kd : Nat → Nat} {aC : Nat → ClassId} {wC wR : List Nat} {Q : State → Prop} {CE SE i : Nat} {MC MR : mM} {Rel : mM → mM → Prop}
theorem b01_or (x : Int32) : (b01 x).toInt = 0 ∨ (b01 x).toInt = 1 := by
  unfold b01
  split
  · exact Or.inl rfl
  · exact Or.inr rfl
set_option maxRecDepth 100000 in
set_option maxHeartbeats 4000000 in
theorem lc_0 (h : lBun p s mid b L xs meth c D ad kd aC wC wR) (hCE : CE ≤ room_1.cells) (hSE : SE ≤ room_1.slots) (h0 : 0 ∈ wC) (hk0 : kd 0 = 10) (h100 : 100 ∈ wR) (hk100 : kd 100 = 11) (hi : i + 6 ≤ L) (hp : ∀ a0 a1 a2 a3 a4 : Int, okI a0 → okI a1 → okI a2 → okI a3 → okI a4 → PureI Rel 119 172 [iv a0, iv a1, iv a2, iv a3, iv a4]) (hR : Rel MC MR) (kk : ∀ MC' MR', Rel MC' MR' → ml_W h l e below Q CE SE 1429 (lLv ad b i) [] MC' MR') : ml_W h l e below Q CE SE 212 (lLv ad b i) [] MC MR := by
  obtain ⟨x, MC', MR', c1, c2, hR'⟩ := hp (xs (i + 1)).toInt (xs (i + 2)).toInt (xs (i + 3)).toInt (xs (i + 4)).toInt (xs (i + 5)).toInt (okI_toInt _) (okI_toInt _) (okI_toInt _) (okI_toInt _) (okI_toInt _) MC MR hR
  refine ml_o1 h (by decide +kernel) ?_
  refine ml_arg h (j := 1) (by decide) hi (by decide +kernel) (by decide +kernel) (by decide +kernel) (by decide +kernel) (by decide +kernel) ?_
  refine ml_arg h (j := 2) (by decide) hi (by decide +kernel) (by decide +kernel) (by decide +kernel) (by decide +kernel) (by decide +kernel) ?_
  refine ml_arg h (j := 3) (by decide) hi (by decide +kernel) (by decide +kernel) (by decide +kernel) (by decide +kernel) (by decide +kernel) ?_
  refine ml_arg h (j := 4) (by decide) hi (by decide +kernel) (by decide +kernel) (by decide +kernel) (by decide +kernel) (by decide +kernel) ?_
  refine ml_arg h (j := 5) (by decide) hi (by decide +kernel) (by decide +kernel) (by decide +kernel) (by decide +kernel) (by decide +kernel) ?_
  refine ml_callC h hCE hSE (m := 119) (j := 2107) (idx := 13) (as := [iv (xs (i + 1)).toInt, iv (xs (i + 2)).toInt, iv (xs (i + 3)).toInt, iv (xs (i + 4)).toInt, iv (xs (i + 5)).toInt]) (rest := []) (by decide +kernel) c1 rfl h0 hk0 rfl (List.forall_mem_cons.mpr ⟨asI _, List.forall_mem_cons.mpr ⟨asI _, List.forall_mem_cons.mpr ⟨asI _, List.forall_mem_cons.mpr ⟨asI _, List.forall_mem_cons.mpr ⟨asI _, (fun v hv => by cases hv)⟩⟩⟩⟩⟩) (by decide +kernel) (show (parseMethodDescriptor (gY 119).desc).map (fun d => d.parameters.length) = some 5 by decide +kernel) ⟨by decide +kernel, by decide +kernel⟩ (by decide +kernel) (by simp [ms_v, ms_r, Int32.ofInt_toInt, Int64.ofInt_toInt]) (by simp [Value.category]) ?_
  refine ml_o2 h (by decide +kernel) ?_
  refine ml_arg h (j := 1) (by decide) hi (by decide +kernel) (by decide +kernel) (by decide +kernel) (by decide +kernel) (by decide +kernel) ?_
  refine ml_arg h (j := 2) (by decide) hi (by decide +kernel) (by decide +kernel) (by decide +kernel) (by decide +kernel) (by decide +kernel) ?_
  refine ml_arg h (j := 3) (by decide) hi (by decide +kernel) (by decide +kernel) (by decide +kernel) (by decide +kernel) (by decide +kernel) ?_
  refine ml_arg h (j := 4) (by decide) hi (by decide +kernel) (by decide +kernel) (by decide +kernel) (by decide +kernel) (by decide +kernel) ?_
  refine ml_arg h (j := 5) (by decide) hi (by decide +kernel) (by decide +kernel) (by decide +kernel) (by decide +kernel) (by decide +kernel) ?_
  refine ml_callR h hCE hSE (m := 172) (j := 6138) (idx := 17) (as := [iv (xs (i + 1)).toInt, iv (xs (i + 2)).toInt, iv (xs (i + 3)).toInt, iv (xs (i + 4)).toInt, iv (xs (i + 5)).toInt]) (rest := [.int (Int32.ofInt x)]) (by decide +kernel) c2 rfl h100 hk100 rfl (List.forall_mem_cons.mpr ⟨asI _, List.forall_mem_cons.mpr ⟨asI _, List.forall_mem_cons.mpr ⟨asI _, List.forall_mem_cons.mpr ⟨asI _, List.forall_mem_cons.mpr ⟨asI _, (fun v hv => by cases hv)⟩⟩⟩⟩⟩) (by decide +kernel) (show (parseMethodDescriptor (gY 172).desc).map (fun d => d.parameters.length) = some 5 by decide +kernel) ⟨by decide +kernel, by decide +kernel⟩ (by decide +kernel) (by simp [ms_v, ms_r, Int32.ofInt_toInt, Int64.ofInt_toInt]) (by simp [Value.category]) ?_
  refine ml_eqI (x := Int32.ofInt x) (st0 := []) (off := 1159) (tgt := 1429) h (by decide +kernel) (by decide) ?_
  exact kk MC' MR' hR'
set_option maxRecDepth 100000 in
set_option maxHeartbeats 4000000 in
theorem lc_1 (h : lBun p s mid b L xs meth c D ad kd aC wC wR) (hCE : CE ≤ room_1.cells) (hSE : SE ≤ room_1.slots) (h0 : 0 ∈ wC) (hk0 : kd 0 = 10) (h100 : 100 ∈ wR) (hk100 : kd 100 = 11) (hi : i + 6 ≤ L) (hp : ∀ a0 : Int, okI a0 → PureI Rel 121 174 [iv a0]) (hR : Rel MC MR) (kk : ∀ MC' MR', Rel MC' MR' → ml_W h l e below Q CE SE 1429 (lLv ad b i) [] MC' MR') : ml_W h l e below Q CE SE 275 (lLv ad b i) [] MC MR := by
  obtain ⟨x, MC', MR', c1, c2, hR'⟩ := hp (xs (i + 1)).toInt (okI_toInt _) MC MR hR
  refine ml_o1 h (by decide +kernel) ?_
  refine ml_arg h (j := 1) (by decide) hi (by decide +kernel) (by decide +kernel) (by decide +kernel) (by decide +kernel) (by decide +kernel) ?_
  refine ml_callC h hCE hSE (m := 121) (j := 2115) (idx := 18) (as := [iv (xs (i + 1)).toInt]) (rest := []) (by decide +kernel) c1 rfl h0 hk0 rfl (List.forall_mem_cons.mpr ⟨asI _, (fun v hv => by cases hv)⟩) (by decide +kernel) (show (parseMethodDescriptor (gY 121).desc).map (fun d => d.parameters.length) = some 1 by decide +kernel) ⟨by decide +kernel, by decide +kernel⟩ (by decide +kernel) (by simp [ms_v, ms_r, Int32.ofInt_toInt, Int64.ofInt_toInt]) (by simp [Value.category]) ?_
  refine ml_o2 h (by decide +kernel) ?_
  refine ml_arg h (j := 1) (by decide) hi (by decide +kernel) (by decide +kernel) (by decide +kernel) (by decide +kernel) (by decide +kernel) ?_
  refine ml_callR h hCE hSE (m := 174) (j := 6146) (idx := 22) (as := [iv (xs (i + 1)).toInt]) (rest := [.int (Int32.ofInt x)]) (by decide +kernel) c2 rfl h100 hk100 rfl (List.forall_mem_cons.mpr ⟨asI _, (fun v hv => by cases hv)⟩) (by decide +kernel) (show (parseMethodDescriptor (gY 174).desc).map (fun d => d.parameters.length) = some 1 by decide +kernel) ⟨by decide +kernel, by decide +kernel⟩ (by decide +kernel) (by simp [ms_v, ms_r, Int32.ofInt_toInt, Int64.ofInt_toInt]) (by simp [Value.category]) ?_
  refine ml_eqI (x := Int32.ofInt x) (st0 := []) (off := 1136) (tgt := 1429) h (by decide +kernel) (by decide) ?_
  exact kk MC' MR' hR'
set_option maxRecDepth 100000 in
set_option maxHeartbeats 4000000 in
theorem lc_2 (h : lBun p s mid b L xs meth c D ad kd aC wC wR) (hCE : CE ≤ room_1.cells) (hSE : SE ≤ room_1.slots) (h0 : 0 ∈ wC) (hk0 : kd 0 = 10) (h100 : 100 ∈ wR) (hk100 : kd 100 = 11) (hi : i + 6 ≤ L) (hp : PureI Rel 122 175 []) (hR : Rel MC MR) (kk : ∀ MC' MR', Rel MC' MR' → ml_W h l e below Q CE SE 1429 (lLv ad b i) [] MC' MR') : ml_W h l e below Q CE SE 298 (lLv ad b i) [] MC MR := by
  obtain ⟨x, MC', MR', c1, c2, hR'⟩ := hp   MC MR hR
  refine ml_o1 h (by decide +kernel) ?_
  refine ml_callC h hCE hSE (m := 122) (j := 2119) (idx := 23) (as := []) (rest := []) (by decide +kernel) c1 rfl h0 hk0 rfl ((fun v hv => by cases hv)) (by decide +kernel) (show (parseMethodDescriptor (gY 122).desc).map (fun d => d.parameters.length) = some 0 by decide +kernel) ⟨by decide +kernel, by decide +kernel⟩ (by decide +kernel) (by simp [ms_v, ms_r, Int32.ofInt_toInt, Int64.ofInt_toInt]) (by simp [Value.category]) ?_
  refine ml_o2 h (by decide +kernel) ?_
  refine ml_callR h hCE hSE (m := 175) (j := 6150) (idx := 27) (as := []) (rest := [.int (Int32.ofInt x)]) (by decide +kernel) c2 rfl h100 hk100 rfl ((fun v hv => by cases hv)) (by decide +kernel) (show (parseMethodDescriptor (gY 175).desc).map (fun d => d.parameters.length) = some 0 by decide +kernel) ⟨by decide +kernel, by decide +kernel⟩ (by decide +kernel) (by simp [ms_v, ms_r, Int32.ofInt_toInt, Int64.ofInt_toInt]) (by simp [Value.category]) ?_
  refine ml_eqI (x := Int32.ofInt x) (st0 := []) (off := 1123) (tgt := 1429) h (by decide +kernel) (by decide) ?_
  exact kk MC' MR' hR'
set_option maxRecDepth 100000 in
set_option maxHeartbeats 4000000 in
theorem lc_3 (h : lBun p s mid b L xs meth c D ad kd aC wC wR) (hCE : CE ≤ room_1.cells) (hSE : SE ≤ room_1.slots) (h0 : 0 ∈ wC) (hk0 : kd 0 = 10) (h100 : 100 ∈ wR) (hk100 : kd 100 = 11) (hi : i + 6 ≤ L) (hp : PureI Rel 125 197 []) (hR : Rel MC MR) (kk : ∀ MC' MR', Rel MC' MR' → ml_W h l e below Q CE SE 1429 (lLv ad b i) [] MC' MR') : ml_W h l e below Q CE SE 311 (lLv ad b i) [] MC MR := by
  obtain ⟨x, MC', MR', c1, c2, hR'⟩ := hp   MC MR hR
  refine ml_o1 h (by decide +kernel) ?_
  refine ml_callC h hCE hSE (m := 125) (j := 3107) (idx := 28) (as := []) (rest := []) (by decide +kernel) c1 rfl h0 hk0 rfl ((fun v hv => by cases hv)) (by decide +kernel) (show (parseMethodDescriptor (gY 125).desc).map (fun d => d.parameters.length) = some 0 by decide +kernel) ⟨by decide +kernel, by decide +kernel⟩ (by decide +kernel) (by simp [ms_v, ms_r, Int32.ofInt_toInt, Int64.ofInt_toInt]) (by simp [Value.category]) ?_
  refine ml_o2 h (by decide +kernel) ?_
  refine ml_callR h hCE hSE (m := 197) (j := 6235) (idx := 31) (as := []) (rest := [.int (Int32.ofInt x)]) (by decide +kernel) c2 rfl h100 hk100 rfl ((fun v hv => by cases hv)) (by decide +kernel) (show (parseMethodDescriptor (gY 197).desc).map (fun d => d.parameters.length) = some 0 by decide +kernel) ⟨by decide +kernel, by decide +kernel⟩ (by decide +kernel) (by simp [ms_v, ms_r, Int32.ofInt_toInt, Int64.ofInt_toInt]) (by simp [Value.category]) ?_
  refine ml_eqI (x := Int32.ofInt x) (st0 := []) (off := 1110) (tgt := 1429) h (by decide +kernel) (by decide) ?_
  exact kk MC' MR' hR'
set_option maxRecDepth 100000 in
set_option maxHeartbeats 4000000 in
theorem lc_4 (h : lBun p s mid b L xs meth c D ad kd aC wC wR) (hCE : CE ≤ room_1.cells) (hSE : SE ≤ room_1.slots) (h0 : 0 ∈ wC) (hk0 : kd 0 = 10) (h100 : 100 ∈ wR) (hk100 : kd 100 = 11) (hi : i + 6 ≤ L) (hp : ∀ a0 : Int, okI a0 → PureI Rel 126 198 [iv a0]) (hR : Rel MC MR) (kk : ∀ MC' MR', Rel MC' MR' → ml_W h l e below Q CE SE 1429 (lLv ad b i) [] MC' MR') : ml_W h l e below Q CE SE 324 (lLv ad b i) [] MC MR := by
  obtain ⟨x, MC', MR', c1, c2, hR'⟩ := hp (xs (i + 1)).toInt (okI_toInt _) MC MR hR
  refine ml_o1 h (by decide +kernel) ?_
  refine ml_arg h (j := 1) (by decide) hi (by decide +kernel) (by decide +kernel) (by decide +kernel) (by decide +kernel) (by decide +kernel) ?_
  refine ml_callC h hCE hSE (m := 126) (j := 3111) (idx := 32) (as := [iv (xs (i + 1)).toInt]) (rest := []) (by decide +kernel) c1 rfl h0 hk0 rfl (List.forall_mem_cons.mpr ⟨asI _, (fun v hv => by cases hv)⟩) (by decide +kernel) (show (parseMethodDescriptor (gY 126).desc).map (fun d => d.parameters.length) = some 1 by decide +kernel) ⟨by decide +kernel, by decide +kernel⟩ (by decide +kernel) (by simp [ms_v, ms_r, Int32.ofInt_toInt, Int64.ofInt_toInt]) (by simp [Value.category]) ?_
  refine ml_o2 h (by decide +kernel) ?_
  refine ml_arg h (j := 1) (by decide) hi (by decide +kernel) (by decide +kernel) (by decide +kernel) (by decide +kernel) (by decide +kernel) ?_
  refine ml_callR h hCE hSE (m := 198) (j := 6239) (idx := 36) (as := [iv (xs (i + 1)).toInt]) (rest := [.int (Int32.ofInt x)]) (by decide +kernel) c2 rfl h100 hk100 rfl (List.forall_mem_cons.mpr ⟨asI _, (fun v hv => by cases hv)⟩) (by decide +kernel) (show (parseMethodDescriptor (gY 198).desc).map (fun d => d.parameters.length) = some 1 by decide +kernel) ⟨by decide +kernel, by decide +kernel⟩ (by decide +kernel) (by simp [ms_v, ms_r, Int32.ofInt_toInt, Int64.ofInt_toInt]) (by simp [Value.category]) ?_
  refine ml_eqI (x := Int32.ofInt x) (st0 := []) (off := 1087) (tgt := 1429) h (by decide +kernel) (by decide) ?_
  exact kk MC' MR' hR'
set_option maxRecDepth 100000 in
set_option maxHeartbeats 4000000 in
theorem lc_5 (h : lBun p s mid b L xs meth c D ad kd aC wC wR) (hCE : CE ≤ room_1.cells) (hSE : SE ≤ room_1.slots) (h0 : 0 ∈ wC) (hk0 : kd 0 = 10) (h100 : 100 ∈ wR) (hk100 : kd 100 = 11) (hi : i + 6 ≤ L) (hp : ∀ a0 a1 : Int, okI a0 → (a1 = 0 ∨ a1 = 1) → PureI Rel 127 200 [iv a0, iv a1]) (hR : Rel MC MR) (kk : ∀ MC' MR', Rel MC' MR' → ml_W h l e below Q CE SE 1429 (lLv ad b i) [] MC' MR') : ml_W h l e below Q CE SE 347 (lLv ad b i) [] MC MR := by
  obtain ⟨x, MC', MR', c1, c2, hR'⟩ := hp (xs (i + 1)).toInt (b01 (xs (i + 2))).toInt (okI_toInt _) (b01_or _) MC MR hR
  refine ml_o1 h (by decide +kernel) ?_
  refine ml_arg h (j := 1) (by decide) hi (by decide +kernel) (by decide +kernel) (by decide +kernel) (by decide +kernel) (by decide +kernel) ?_
  refine ml_arg h (j := 2) (by decide) hi (by decide +kernel) (by decide +kernel) (by decide +kernel) (by decide +kernel) (by decide +kernel) ?_
  refine ml_bool h (by decide +kernel) (by decide +kernel) (by decide +kernel) (by decide +kernel) ?_
  refine ml_callC h hCE hSE (m := 127) (j := 3115) (idx := 37) (as := [iv (xs (i + 1)).toInt, iv (b01 (xs (i + 2))).toInt]) (rest := []) (by decide +kernel) c1 rfl h0 hk0 rfl (List.forall_mem_cons.mpr ⟨asI _, List.forall_mem_cons.mpr ⟨asI _, (fun v hv => by cases hv)⟩⟩) (by decide +kernel) (show (parseMethodDescriptor (gY 127).desc).map (fun d => d.parameters.length) = some 2 by decide +kernel) ⟨by decide +kernel, by decide +kernel⟩ (by decide +kernel) (by simp [ms_v, ms_r, Int32.ofInt_toInt, Int64.ofInt_toInt]) (by simp [Value.category]) ?_
  refine ml_o2 h (by decide +kernel) ?_
  refine ml_arg h (j := 1) (by decide) hi (by decide +kernel) (by decide +kernel) (by decide +kernel) (by decide +kernel) (by decide +kernel) ?_
  refine ml_arg h (j := 2) (by decide) hi (by decide +kernel) (by decide +kernel) (by decide +kernel) (by decide +kernel) (by decide +kernel) ?_
  refine ml_bool h (by decide +kernel) (by decide +kernel) (by decide +kernel) (by decide +kernel) ?_
  refine ml_callR h hCE hSE (m := 200) (j := 7006) (idx := 41) (as := [iv (xs (i + 1)).toInt, iv (b01 (xs (i + 2))).toInt]) (rest := [.int (Int32.ofInt x)]) (by decide +kernel) c2 rfl h100 hk100 rfl (List.forall_mem_cons.mpr ⟨asI _, List.forall_mem_cons.mpr ⟨asI _, (fun v hv => by cases hv)⟩⟩) (by decide +kernel) (show (parseMethodDescriptor (gY 200).desc).map (fun d => d.parameters.length) = some 2 by decide +kernel) ⟨by decide +kernel, by decide +kernel⟩ (by decide +kernel) (by simp [ms_v, ms_r, Int32.ofInt_toInt, Int64.ofInt_toInt]) (by simp [Value.category]) ?_
  refine ml_eqI (x := Int32.ofInt x) (st0 := []) (off := 1038) (tgt := 1429) h (by decide +kernel) (by decide) ?_
  exact kk MC' MR' hR'
set_option maxRecDepth 100000 in
set_option maxHeartbeats 4000000 in
theorem lc_6 (h : lBun p s mid b L xs meth c D ad kd aC wC wR) (hCE : CE ≤ room_1.cells) (hSE : SE ≤ room_1.slots) (h0 : 0 ∈ wC) (hk0 : kd 0 = 10) (h100 : 100 ∈ wR) (hk100 : kd 100 = 11) (hi : i + 6 ≤ L) (hp : ∀ a0 a1 : Int, okI a0 → (a1 = 0 ∨ a1 = 1) → PureI Rel 128 203 [iv a0, iv a1]) (hR : Rel MC MR) (kk : ∀ MC' MR', Rel MC' MR' → ml_W h l e below Q CE SE 1429 (lLv ad b i) [] MC' MR') : ml_W h l e below Q CE SE 396 (lLv ad b i) [] MC MR := by
  obtain ⟨x, MC', MR', c1, c2, hR'⟩ := hp (xs (i + 1)).toInt (b01 (xs (i + 2))).toInt (okI_toInt _) (b01_or _) MC MR hR
  refine ml_o1 h (by decide +kernel) ?_
  refine ml_arg h (j := 1) (by decide) hi (by decide +kernel) (by decide +kernel) (by decide +kernel) (by decide +kernel) (by decide +kernel) ?_
  refine ml_arg h (j := 2) (by decide) hi (by decide +kernel) (by decide +kernel) (by decide +kernel) (by decide +kernel) (by decide +kernel) ?_
  refine ml_bool h (by decide +kernel) (by decide +kernel) (by decide +kernel) (by decide +kernel) ?_
  refine ml_callC h hCE hSE (m := 128) (j := 3124) (idx := 42) (as := [iv (xs (i + 1)).toInt, iv (b01 (xs (i + 2))).toInt]) (rest := []) (by decide +kernel) c1 rfl h0 hk0 rfl (List.forall_mem_cons.mpr ⟨asI _, List.forall_mem_cons.mpr ⟨asI _, (fun v hv => by cases hv)⟩⟩) (by decide +kernel) (show (parseMethodDescriptor (gY 128).desc).map (fun d => d.parameters.length) = some 2 by decide +kernel) ⟨by decide +kernel, by decide +kernel⟩ (by decide +kernel) (by simp [ms_v, ms_r, Int32.ofInt_toInt, Int64.ofInt_toInt]) (by simp [Value.category]) ?_
  refine ml_o2 h (by decide +kernel) ?_
  refine ml_arg h (j := 1) (by decide) hi (by decide +kernel) (by decide +kernel) (by decide +kernel) (by decide +kernel) (by decide +kernel) ?_
  refine ml_arg h (j := 2) (by decide) hi (by decide +kernel) (by decide +kernel) (by decide +kernel) (by decide +kernel) (by decide +kernel) ?_
  refine ml_bool h (by decide +kernel) (by decide +kernel) (by decide +kernel) (by decide +kernel) ?_
  refine ml_callR h hCE hSE (m := 203) (j := 7017) (idx := 45) (as := [iv (xs (i + 1)).toInt, iv (b01 (xs (i + 2))).toInt]) (rest := [.int (Int32.ofInt x)]) (by decide +kernel) c2 rfl h100 hk100 rfl (List.forall_mem_cons.mpr ⟨asI _, List.forall_mem_cons.mpr ⟨asI _, (fun v hv => by cases hv)⟩⟩) (by decide +kernel) (show (parseMethodDescriptor (gY 203).desc).map (fun d => d.parameters.length) = some 2 by decide +kernel) ⟨by decide +kernel, by decide +kernel⟩ (by decide +kernel) (by simp [ms_v, ms_r, Int32.ofInt_toInt, Int64.ofInt_toInt]) (by simp [Value.category]) ?_
  refine ml_eqI (x := Int32.ofInt x) (st0 := []) (off := 989) (tgt := 1429) h (by decide +kernel) (by decide) ?_
  exact kk MC' MR' hR'
set_option maxRecDepth 100000 in
set_option maxHeartbeats 4000000 in
theorem lc_7 (h : lBun p s mid b L xs meth c D ad kd aC wC wR) (hCE : CE ≤ room_1.cells) (hSE : SE ≤ room_1.slots) (h0 : 0 ∈ wC) (hk0 : kd 0 = 10) (h100 : 100 ∈ wR) (hk100 : kd 100 = 11) (hi : i + 6 ≤ L) (hp : ∀ a0 a1 : Int, okI a0 → okI a1 → PureI Rel 129 204 [iv a0, iv a1]) (hR : Rel MC MR) (kk : ∀ MC' MR', Rel MC' MR' → ml_W h l e below Q CE SE 1429 (lLv ad b i) [] MC' MR') : ml_W h l e below Q CE SE 445 (lLv ad b i) [] MC MR := by
  obtain ⟨x, MC', MR', c1, c2, hR'⟩ := hp (xs (i + 1)).toInt (xs (i + 2)).toInt (okI_toInt _) (okI_toInt _) MC MR hR
  refine ml_o1 h (by decide +kernel) ?_
  refine ml_arg h (j := 1) (by decide) hi (by decide +kernel) (by decide +kernel) (by decide +kernel) (by decide +kernel) (by decide +kernel) ?_
  refine ml_arg h (j := 2) (by decide) hi (by decide +kernel) (by decide +kernel) (by decide +kernel) (by decide +kernel) (by decide +kernel) ?_
  refine ml_callC h hCE hSE (m := 129) (j := 3128) (idx := 46) (as := [iv (xs (i + 1)).toInt, iv (xs (i + 2)).toInt]) (rest := []) (by decide +kernel) c1 rfl h0 hk0 rfl (List.forall_mem_cons.mpr ⟨asI _, List.forall_mem_cons.mpr ⟨asI _, (fun v hv => by cases hv)⟩⟩) (by decide +kernel) (show (parseMethodDescriptor (gY 129).desc).map (fun d => d.parameters.length) = some 2 by decide +kernel) ⟨by decide +kernel, by decide +kernel⟩ (by decide +kernel) (by simp [ms_v, ms_r, Int32.ofInt_toInt, Int64.ofInt_toInt]) (by simp [Value.category]) ?_
  refine ml_o2 h (by decide +kernel) ?_
  refine ml_arg h (j := 1) (by decide) hi (by decide +kernel) (by decide +kernel) (by decide +kernel) (by decide +kernel) (by decide +kernel) ?_
  refine ml_arg h (j := 2) (by decide) hi (by decide +kernel) (by decide +kernel) (by decide +kernel) (by decide +kernel) (by decide +kernel) ?_
  refine ml_callR h hCE hSE (m := 204) (j := 7021) (idx := 50) (as := [iv (xs (i + 1)).toInt, iv (xs (i + 2)).toInt]) (rest := [.int (Int32.ofInt x)]) (by decide +kernel) c2 rfl h100 hk100 rfl (List.forall_mem_cons.mpr ⟨asI _, List.forall_mem_cons.mpr ⟨asI _, (fun v hv => by cases hv)⟩⟩) (by decide +kernel) (show (parseMethodDescriptor (gY 204).desc).map (fun d => d.parameters.length) = some 2 by decide +kernel) ⟨by decide +kernel, by decide +kernel⟩ (by decide +kernel) (by simp [ms_v, ms_r, Int32.ofInt_toInt, Int64.ofInt_toInt]) (by simp [Value.category]) ?_
  refine ml_eqI (x := Int32.ofInt x) (st0 := []) (off := 956) (tgt := 1429) h (by decide +kernel) (by decide) ?_
  exact kk MC' MR' hR'
set_option maxRecDepth 100000 in
set_option maxHeartbeats 4000000 in
theorem lc_8 (h : lBun p s mid b L xs meth c D ad kd aC wC wR) (hCE : CE ≤ room_1.cells) (hSE : SE ≤ room_1.slots) (h0 : 0 ∈ wC) (hk0 : kd 0 = 10) (h100 : 100 ∈ wR) (hk100 : kd 100 = 11) (hi : i + 6 ≤ L) (hp : ∀ a0 a1 : Int, okI a0 → okI a1 → PureI Rel 130 205 [iv a0, iv a1]) (hR : Rel MC MR) (kk : ∀ MC' MR', Rel MC' MR' → ml_W h l e below Q CE SE 1429 (lLv ad b i) [] MC' MR') : ml_W h l e below Q CE SE 478 (lLv ad b i) [] MC MR := by
  obtain ⟨x, MC', MR', c1, c2, hR'⟩ := hp (xs (i + 1)).toInt (xs (i + 2)).toInt (okI_toInt _) (okI_toInt _) MC MR hR
  refine ml_o1 h (by decide +kernel) ?_
  refine ml_arg h (j := 1) (by decide) hi (by decide +kernel) (by decide +kernel) (by decide +kernel) (by decide +kernel) (by decide +kernel) ?_
  refine ml_arg h (j := 2) (by decide) hi (by decide +kernel) (by decide +kernel) (by decide +kernel) (by decide +kernel) (by decide +kernel) ?_
  refine ml_callC h hCE hSE (m := 130) (j := 3132) (idx := 51) (as := [iv (xs (i + 1)).toInt, iv (xs (i + 2)).toInt]) (rest := []) (by decide +kernel) c1 rfl h0 hk0 rfl (List.forall_mem_cons.mpr ⟨asI _, List.forall_mem_cons.mpr ⟨asI _, (fun v hv => by cases hv)⟩⟩) (by decide +kernel) (show (parseMethodDescriptor (gY 130).desc).map (fun d => d.parameters.length) = some 2 by decide +kernel) ⟨by decide +kernel, by decide +kernel⟩ (by decide +kernel) (by simp [ms_v, ms_r, Int32.ofInt_toInt, Int64.ofInt_toInt]) (by simp [Value.category]) ?_
  refine ml_o2 h (by decide +kernel) ?_
  refine ml_arg h (j := 1) (by decide) hi (by decide +kernel) (by decide +kernel) (by decide +kernel) (by decide +kernel) (by decide +kernel) ?_
  refine ml_arg h (j := 2) (by decide) hi (by decide +kernel) (by decide +kernel) (by decide +kernel) (by decide +kernel) (by decide +kernel) ?_
  refine ml_callR h hCE hSE (m := 205) (j := 7025) (idx := 55) (as := [iv (xs (i + 1)).toInt, iv (xs (i + 2)).toInt]) (rest := [.int (Int32.ofInt x)]) (by decide +kernel) c2 rfl h100 hk100 rfl (List.forall_mem_cons.mpr ⟨asI _, List.forall_mem_cons.mpr ⟨asI _, (fun v hv => by cases hv)⟩⟩) (by decide +kernel) (show (parseMethodDescriptor (gY 205).desc).map (fun d => d.parameters.length) = some 2 by decide +kernel) ⟨by decide +kernel, by decide +kernel⟩ (by decide +kernel) (by simp [ms_v, ms_r, Int32.ofInt_toInt, Int64.ofInt_toInt]) (by simp [Value.category]) ?_
  refine ml_eqI (x := Int32.ofInt x) (st0 := []) (off := 923) (tgt := 1429) h (by decide +kernel) (by decide) ?_
  exact kk MC' MR' hR'
set_option maxRecDepth 100000 in
set_option maxHeartbeats 4000000 in
theorem lc_9 (h : lBun p s mid b L xs meth c D ad kd aC wC wR) (hCE : CE ≤ room_1.cells) (hSE : SE ≤ room_1.slots) (h0 : 0 ∈ wC) (hk0 : kd 0 = 10) (h100 : 100 ∈ wR) (hk100 : kd 100 = 11) (hi : i + 6 ≤ L) (hp : PureI Rel 131 206 []) (hR : Rel MC MR) (kk : ∀ MC' MR', Rel MC' MR' → ml_W h l e below Q CE SE 1429 (lLv ad b i) [] MC' MR') : ml_W h l e below Q CE SE 511 (lLv ad b i) [] MC MR := by
  obtain ⟨x, MC', MR', c1, c2, hR'⟩ := hp   MC MR hR
  refine ml_o1 h (by decide +kernel) ?_
  refine ml_callC h hCE hSE (m := 131) (j := 3148) (idx := 56) (as := []) (rest := []) (by decide +kernel) c1 rfl h0 hk0 rfl ((fun v hv => by cases hv)) (by decide +kernel) (show (parseMethodDescriptor (gY 131).desc).map (fun d => d.parameters.length) = some 0 by decide +kernel) ⟨by decide +kernel, by decide +kernel⟩ (by decide +kernel) (by simp [ms_v, ms_r, Int32.ofInt_toInt, Int64.ofInt_toInt]) (by simp [Value.category]) ?_
  refine ml_o2 h (by decide +kernel) ?_
  refine ml_callR h hCE hSE (m := 206) (j := 7029) (idx := 59) (as := []) (rest := [.int (Int32.ofInt x)]) (by decide +kernel) c2 rfl h100 hk100 rfl ((fun v hv => by cases hv)) (by decide +kernel) (show (parseMethodDescriptor (gY 206).desc).map (fun d => d.parameters.length) = some 0 by decide +kernel) ⟨by decide +kernel, by decide +kernel⟩ (by decide +kernel) (by simp [ms_v, ms_r, Int32.ofInt_toInt, Int64.ofInt_toInt]) (by simp [Value.category]) ?_
  refine ml_eqI (x := Int32.ofInt x) (st0 := []) (off := 910) (tgt := 1429) h (by decide +kernel) (by decide) ?_
  exact kk MC' MR' hR'
set_option maxRecDepth 100000 in
set_option maxHeartbeats 4000000 in
theorem lc_10 (h : lBun p s mid b L xs meth c D ad kd aC wC wR) (hCE : CE ≤ room_1.cells) (hSE : SE ≤ room_1.slots) (h0 : 0 ∈ wC) (hk0 : kd 0 = 10) (h100 : 100 ∈ wR) (hk100 : kd 100 = 11) (hi : i + 6 ≤ L) (hp : PureI Rel 132 209 []) (hR : Rel MC MR) (kk : ∀ MC' MR', Rel MC' MR' → ml_W h l e below Q CE SE 1429 (lLv ad b i) [] MC' MR') : ml_W h l e below Q CE SE 524 (lLv ad b i) [] MC MR := by
  obtain ⟨x, MC', MR', c1, c2, hR'⟩ := hp   MC MR hR
  refine ml_o1 h (by decide +kernel) ?_
  refine ml_callC h hCE hSE (m := 132) (j := 3161) (idx := 60) (as := []) (rest := []) (by decide +kernel) c1 rfl h0 hk0 rfl ((fun v hv => by cases hv)) (by decide +kernel) (show (parseMethodDescriptor (gY 132).desc).map (fun d => d.parameters.length) = some 0 by decide +kernel) ⟨by decide +kernel, by decide +kernel⟩ (by decide +kernel) (by simp [ms_v, ms_r, Int32.ofInt_toInt, Int64.ofInt_toInt]) (by simp [Value.category]) ?_
  refine ml_o2 h (by decide +kernel) ?_
  refine ml_callR h hCE hSE (m := 209) (j := 7041) (idx := 63) (as := []) (rest := [.int (Int32.ofInt x)]) (by decide +kernel) c2 rfl h100 hk100 rfl ((fun v hv => by cases hv)) (by decide +kernel) (show (parseMethodDescriptor (gY 209).desc).map (fun d => d.parameters.length) = some 0 by decide +kernel) ⟨by decide +kernel, by decide +kernel⟩ (by decide +kernel) (by simp [ms_v, ms_r, Int32.ofInt_toInt, Int64.ofInt_toInt]) (by simp [Value.category]) ?_
  refine ml_eqI (x := Int32.ofInt x) (st0 := []) (off := 897) (tgt := 1429) h (by decide +kernel) (by decide) ?_
  exact kk MC' MR' hR'
set_option maxRecDepth 100000 in
set_option maxHeartbeats 4000000 in
theorem lc_11 (h : lBun p s mid b L xs meth c D ad kd aC wC wR) (hCE : CE ≤ room_1.cells) (hSE : SE ≤ room_1.slots) (h0 : 0 ∈ wC) (hk0 : kd 0 = 10) (h100 : 100 ∈ wR) (hk100 : kd 100 = 11) (hi : i + 6 ≤ L) (hp : ∀ a0 : Int, okI a0 → PureI Rel 134 214 [iv a0]) (hR : Rel MC MR) (kk : ∀ MC' MR', Rel MC' MR' → ml_W h l e below Q CE SE 1429 (lLv ad b i) [] MC' MR') : ml_W h l e below Q CE SE 537 (lLv ad b i) [] MC MR := by
  obtain ⟨x, MC', MR', c1, c2, hR'⟩ := hp (xs (i + 1)).toInt (okI_toInt _) MC MR hR
  refine ml_o1 h (by decide +kernel) ?_
  refine ml_arg h (j := 1) (by decide) hi (by decide +kernel) (by decide +kernel) (by decide +kernel) (by decide +kernel) (by decide +kernel) ?_
  refine ml_callC h hCE hSE (m := 134) (j := 3208) (idx := 64) (as := [iv (xs (i + 1)).toInt]) (rest := []) (by decide +kernel) c1 rfl h0 hk0 rfl (List.forall_mem_cons.mpr ⟨asI _, (fun v hv => by cases hv)⟩) (by decide +kernel) (show (parseMethodDescriptor (gY 134).desc).map (fun d => d.parameters.length) = some 1 by decide +kernel) ⟨by decide +kernel, by decide +kernel⟩ (by decide +kernel) (by simp [ms_v, ms_r, Int32.ofInt_toInt, Int64.ofInt_toInt]) (by simp [Value.category]) ?_
  refine ml_o2 h (by decide +kernel) ?_
  refine ml_arg h (j := 1) (by decide) hi (by decide +kernel) (by decide +kernel) (by decide +kernel) (by decide +kernel) (by decide +kernel) ?_
  refine ml_callR h hCE hSE (m := 214) (j := 7061) (idx := 67) (as := [iv (xs (i + 1)).toInt]) (rest := [.int (Int32.ofInt x)]) (by decide +kernel) c2 rfl h100 hk100 rfl (List.forall_mem_cons.mpr ⟨asI _, (fun v hv => by cases hv)⟩) (by decide +kernel) (show (parseMethodDescriptor (gY 214).desc).map (fun d => d.parameters.length) = some 1 by decide +kernel) ⟨by decide +kernel, by decide +kernel⟩ (by decide +kernel) (by simp [ms_v, ms_r, Int32.ofInt_toInt, Int64.ofInt_toInt]) (by simp [Value.category]) ?_
  refine ml_eqI (x := Int32.ofInt x) (st0 := []) (off := 874) (tgt := 1429) h (by decide +kernel) (by decide) ?_
  exact kk MC' MR' hR'
set_option maxRecDepth 100000 in
set_option maxHeartbeats 4000000 in
theorem lc_12 (h : lBun p s mid b L xs meth c D ad kd aC wC wR) (hCE : CE ≤ room_1.cells) (hSE : SE ≤ room_1.slots) (h0 : 0 ∈ wC) (hk0 : kd 0 = 10) (h100 : 100 ∈ wR) (hk100 : kd 100 = 11) (hi : i + 6 ≤ L) (hp : ∀ a0 : Int, okI a0 → PureI Rel 135 216 [iv a0]) (hR : Rel MC MR) (kk : ∀ MC' MR', Rel MC' MR' → ml_W h l e below Q CE SE 1429 (lLv ad b i) [] MC' MR') : ml_W h l e below Q CE SE 560 (lLv ad b i) [] MC MR := by
  obtain ⟨x, MC', MR', c1, c2, hR'⟩ := hp (xs (i + 1)).toInt (okI_toInt _) MC MR hR
  refine ml_o1 h (by decide +kernel) ?_
  refine ml_arg h (j := 1) (by decide) hi (by decide +kernel) (by decide +kernel) (by decide +kernel) (by decide +kernel) (by decide +kernel) ?_
  refine ml_callC h hCE hSE (m := 135) (j := 3226) (idx := 68) (as := [iv (xs (i + 1)).toInt]) (rest := []) (by decide +kernel) c1 rfl h0 hk0 rfl (List.forall_mem_cons.mpr ⟨asI _, (fun v hv => by cases hv)⟩) (by decide +kernel) (show (parseMethodDescriptor (gY 135).desc).map (fun d => d.parameters.length) = some 1 by decide +kernel) ⟨by decide +kernel, by decide +kernel⟩ (by decide +kernel) (by simp [ms_v, ms_r, Int32.ofInt_toInt, Int64.ofInt_toInt]) (by simp [Value.category]) ?_
  refine ml_o2 h (by decide +kernel) ?_
  refine ml_arg h (j := 1) (by decide) hi (by decide +kernel) (by decide +kernel) (by decide +kernel) (by decide +kernel) (by decide +kernel) ?_
  refine ml_callR h hCE hSE (m := 216) (j := 7069) (idx := 71) (as := [iv (xs (i + 1)).toInt]) (rest := [.int (Int32.ofInt x)]) (by decide +kernel) c2 rfl h100 hk100 rfl (List.forall_mem_cons.mpr ⟨asI _, (fun v hv => by cases hv)⟩) (by decide +kernel) (show (parseMethodDescriptor (gY 216).desc).map (fun d => d.parameters.length) = some 1 by decide +kernel) ⟨by decide +kernel, by decide +kernel⟩ (by decide +kernel) (by simp [ms_v, ms_r, Int32.ofInt_toInt, Int64.ofInt_toInt]) (by simp [Value.category]) ?_
  refine ml_eqI (x := Int32.ofInt x) (st0 := []) (off := 851) (tgt := 1429) h (by decide +kernel) (by decide) ?_
  exact kk MC' MR' hR'
set_option maxRecDepth 100000 in
set_option maxHeartbeats 4000000 in
theorem lc_13 (h : lBun p s mid b L xs meth c D ad kd aC wC wR) (hCE : CE ≤ room_1.cells) (hSE : SE ≤ room_1.slots) (h0 : 0 ∈ wC) (hk0 : kd 0 = 10) (h100 : 100 ∈ wR) (hk100 : kd 100 = 11) (hi : i + 6 ≤ L) (hp : PureI Rel 136 217 []) (hR : Rel MC MR) (kk : ∀ MC' MR', Rel MC' MR' → ml_W h l e below Q CE SE 1429 (lLv ad b i) [] MC' MR') : ml_W h l e below Q CE SE 583 (lLv ad b i) [] MC MR := by
  obtain ⟨x, MC', MR', c1, c2, hR'⟩ := hp   MC MR hR
  refine ml_o1 h (by decide +kernel) ?_
  refine ml_callC h hCE hSE (m := 136) (j := 3230) (idx := 72) (as := []) (rest := []) (by decide +kernel) c1 rfl h0 hk0 rfl ((fun v hv => by cases hv)) (by decide +kernel) (show (parseMethodDescriptor (gY 136).desc).map (fun d => d.parameters.length) = some 0 by decide +kernel) ⟨by decide +kernel, by decide +kernel⟩ (by decide +kernel) (by simp [ms_v, ms_r, Int32.ofInt_toInt, Int64.ofInt_toInt]) (by simp [Value.category]) ?_
  refine ml_o2 h (by decide +kernel) ?_
  refine ml_callR h hCE hSE (m := 217) (j := 7073) (idx := 75) (as := []) (rest := [.int (Int32.ofInt x)]) (by decide +kernel) c2 rfl h100 hk100 rfl ((fun v hv => by cases hv)) (by decide +kernel) (show (parseMethodDescriptor (gY 217).desc).map (fun d => d.parameters.length) = some 0 by decide +kernel) ⟨by decide +kernel, by decide +kernel⟩ (by decide +kernel) (by simp [ms_v, ms_r, Int32.ofInt_toInt, Int64.ofInt_toInt]) (by simp [Value.category]) ?_
  refine ml_eqI (x := Int32.ofInt x) (st0 := []) (off := 838) (tgt := 1429) h (by decide +kernel) (by decide) ?_
  exact kk MC' MR' hR'
set_option maxRecDepth 100000 in
set_option maxHeartbeats 4000000 in
theorem lc_14 (h : lBun p s mid b L xs meth c D ad kd aC wC wR) (hCE : CE ≤ room_1.cells) (hSE : SE ≤ room_1.slots) (h0 : 0 ∈ wC) (hk0 : kd 0 = 10) (h100 : 100 ∈ wR) (hk100 : kd 100 = 11) (hi : i + 6 ≤ L) (hp : ∀ a0 : Int, okI a0 → PureI Rel 137 224 [iv a0]) (hR : Rel MC MR) (kk : ∀ MC' MR', Rel MC' MR' → ml_W h l e below Q CE SE 1429 (lLv ad b i) [] MC' MR') : ml_W h l e below Q CE SE 596 (lLv ad b i) [] MC MR := by
  obtain ⟨x, MC', MR', c1, c2, hR'⟩ := hp (xs (i + 1)).toInt (okI_toInt _) MC MR hR
  refine ml_o1 h (by decide +kernel) ?_
  refine ml_arg h (j := 1) (by decide) hi (by decide +kernel) (by decide +kernel) (by decide +kernel) (by decide +kernel) (by decide +kernel) ?_
  refine ml_callC h hCE hSE (m := 137) (j := 4006) (idx := 76) (as := [iv (xs (i + 1)).toInt]) (rest := []) (by decide +kernel) c1 rfl h0 hk0 rfl (List.forall_mem_cons.mpr ⟨asI _, (fun v hv => by cases hv)⟩) (by decide +kernel) (show (parseMethodDescriptor (gY 137).desc).map (fun d => d.parameters.length) = some 1 by decide +kernel) ⟨by decide +kernel, by decide +kernel⟩ (by decide +kernel) (by simp [ms_v, ms_r, Int32.ofInt_toInt, Int64.ofInt_toInt]) (by simp [Value.category]) ?_
  refine ml_o2 h (by decide +kernel) ?_
  refine ml_arg h (j := 1) (by decide) hi (by decide +kernel) (by decide +kernel) (by decide +kernel) (by decide +kernel) (by decide +kernel) ?_
  refine ml_callR h hCE hSE (m := 224) (j := 7099) (idx := 79) (as := [iv (xs (i + 1)).toInt]) (rest := [.int (Int32.ofInt x)]) (by decide +kernel) c2 rfl h100 hk100 rfl (List.forall_mem_cons.mpr ⟨asI _, (fun v hv => by cases hv)⟩) (by decide +kernel) (show (parseMethodDescriptor (gY 224).desc).map (fun d => d.parameters.length) = some 1 by decide +kernel) ⟨by decide +kernel, by decide +kernel⟩ (by decide +kernel) (by simp [ms_v, ms_r, Int32.ofInt_toInt, Int64.ofInt_toInt]) (by simp [Value.category]) ?_
  refine ml_eqI (x := Int32.ofInt x) (st0 := []) (off := 815) (tgt := 1429) h (by decide +kernel) (by decide) ?_
  exact kk MC' MR' hR'
set_option maxRecDepth 100000 in
set_option maxHeartbeats 4000000 in
theorem lc_15 (h : lBun p s mid b L xs meth c D ad kd aC wC wR) (hCE : CE ≤ room_1.cells) (hSE : SE ≤ room_1.slots) (h0 : 0 ∈ wC) (hk0 : kd 0 = 10) (h100 : 100 ∈ wR) (hk100 : kd 100 = 11) (hi : i + 6 ≤ L) (hp : ∀ a0 a1 : Int, okI a0 → okI a1 → PureI Rel 139 226 [iv a0, iv a1]) (hR : Rel MC MR) (kk : ∀ MC' MR', Rel MC' MR' → ml_W h l e below Q CE SE 1429 (lLv ad b i) [] MC' MR') : ml_W h l e below Q CE SE 619 (lLv ad b i) [] MC MR := by
  obtain ⟨x, MC', MR', c1, c2, hR'⟩ := hp (xs (i + 1)).toInt (xs (i + 2)).toInt (okI_toInt _) (okI_toInt _) MC MR hR
  refine ml_o1 h (by decide +kernel) ?_
  refine ml_arg h (j := 1) (by decide) hi (by decide +kernel) (by decide +kernel) (by decide +kernel) (by decide +kernel) (by decide +kernel) ?_
  refine ml_arg h (j := 2) (by decide) hi (by decide +kernel) (by decide +kernel) (by decide +kernel) (by decide +kernel) (by decide +kernel) ?_
  refine ml_callC h hCE hSE (m := 139) (j := 4019) (idx := 80) (as := [iv (xs (i + 1)).toInt, iv (xs (i + 2)).toInt]) (rest := []) (by decide +kernel) c1 rfl h0 hk0 rfl (List.forall_mem_cons.mpr ⟨asI _, List.forall_mem_cons.mpr ⟨asI _, (fun v hv => by cases hv)⟩⟩) (by decide +kernel) (show (parseMethodDescriptor (gY 139).desc).map (fun d => d.parameters.length) = some 2 by decide +kernel) ⟨by decide +kernel, by decide +kernel⟩ (by decide +kernel) (by simp [ms_v, ms_r, Int32.ofInt_toInt, Int64.ofInt_toInt]) (by simp [Value.category]) ?_
  refine ml_o2 h (by decide +kernel) ?_
  refine ml_arg h (j := 1) (by decide) hi (by decide +kernel) (by decide +kernel) (by decide +kernel) (by decide +kernel) (by decide +kernel) ?_
  refine ml_arg h (j := 2) (by decide) hi (by decide +kernel) (by decide +kernel) (by decide +kernel) (by decide +kernel) (by decide +kernel) ?_
  refine ml_callR h hCE hSE (m := 226) (j := 7107) (idx := 83) (as := [iv (xs (i + 1)).toInt, iv (xs (i + 2)).toInt]) (rest := [.int (Int32.ofInt x)]) (by decide +kernel) c2 rfl h100 hk100 rfl (List.forall_mem_cons.mpr ⟨asI _, List.forall_mem_cons.mpr ⟨asI _, (fun v hv => by cases hv)⟩⟩) (by decide +kernel) (show (parseMethodDescriptor (gY 226).desc).map (fun d => d.parameters.length) = some 2 by decide +kernel) ⟨by decide +kernel, by decide +kernel⟩ (by decide +kernel) (by simp [ms_v, ms_r, Int32.ofInt_toInt, Int64.ofInt_toInt]) (by simp [Value.category]) ?_
  refine ml_eqI (x := Int32.ofInt x) (st0 := []) (off := 782) (tgt := 1429) h (by decide +kernel) (by decide) ?_
  exact kk MC' MR' hR'
set_option maxRecDepth 100000 in
set_option maxHeartbeats 4000000 in
theorem lc_16 (h : lBun p s mid b L xs meth c D ad kd aC wC wR) (hCE : CE ≤ room_1.cells) (hSE : SE ≤ room_1.slots) (h0 : 0 ∈ wC) (hk0 : kd 0 = 10) (h100 : 100 ∈ wR) (hk100 : kd 100 = 11) (hi : i + 6 ≤ L) (hp : ∀ a0 : Int, okI a0 → PureI Rel 140 229 [iv a0]) (hR : Rel MC MR) (kk : ∀ MC' MR', Rel MC' MR' → ml_W h l e below Q CE SE 1429 (lLv ad b i) [] MC' MR') : ml_W h l e below Q CE SE 652 (lLv ad b i) [] MC MR := by
  obtain ⟨x, MC', MR', c1, c2, hR'⟩ := hp (xs (i + 1)).toInt (okI_toInt _) MC MR hR
  refine ml_o1 h (by decide +kernel) ?_
  refine ml_arg h (j := 1) (by decide) hi (by decide +kernel) (by decide +kernel) (by decide +kernel) (by decide +kernel) (by decide +kernel) ?_
  refine ml_callC h hCE hSE (m := 140) (j := 4037) (idx := 84) (as := [iv (xs (i + 1)).toInt]) (rest := []) (by decide +kernel) c1 rfl h0 hk0 rfl (List.forall_mem_cons.mpr ⟨asI _, (fun v hv => by cases hv)⟩) (by decide +kernel) (show (parseMethodDescriptor (gY 140).desc).map (fun d => d.parameters.length) = some 1 by decide +kernel) ⟨by decide +kernel, by decide +kernel⟩ (by decide +kernel) (by simp [ms_v, ms_r, Int32.ofInt_toInt, Int64.ofInt_toInt]) (by simp [Value.category]) ?_
  refine ml_o2 h (by decide +kernel) ?_
  refine ml_arg h (j := 1) (by decide) hi (by decide +kernel) (by decide +kernel) (by decide +kernel) (by decide +kernel) (by decide +kernel) ?_
  refine ml_callR h hCE hSE (m := 229) (j := 7119) (idx := 87) (as := [iv (xs (i + 1)).toInt]) (rest := [.int (Int32.ofInt x)]) (by decide +kernel) c2 rfl h100 hk100 rfl (List.forall_mem_cons.mpr ⟨asI _, (fun v hv => by cases hv)⟩) (by decide +kernel) (show (parseMethodDescriptor (gY 229).desc).map (fun d => d.parameters.length) = some 1 by decide +kernel) ⟨by decide +kernel, by decide +kernel⟩ (by decide +kernel) (by simp [ms_v, ms_r, Int32.ofInt_toInt, Int64.ofInt_toInt]) (by simp [Value.category]) ?_
  refine ml_eqI (x := Int32.ofInt x) (st0 := []) (off := 759) (tgt := 1429) h (by decide +kernel) (by decide) ?_
  exact kk MC' MR' hR'
set_option maxRecDepth 100000 in
set_option maxHeartbeats 4000000 in
theorem lc_17 (h : lBun p s mid b L xs meth c D ad kd aC wC wR) (hCE : CE ≤ room_1.cells) (hSE : SE ≤ room_1.slots) (h0 : 0 ∈ wC) (hk0 : kd 0 = 10) (h100 : 100 ∈ wR) (hk100 : kd 100 = 11) (hi : i + 6 ≤ L) (hp : ∀ a0 a1 : Int, okI a0 → okI a1 → PureI Rel 141 231 [iv a0, iv a1]) (hR : Rel MC MR) (kk : ∀ MC' MR', Rel MC' MR' → ml_W h l e below Q CE SE 1429 (lLv ad b i) [] MC' MR') : ml_W h l e below Q CE SE 675 (lLv ad b i) [] MC MR := by
  obtain ⟨x, MC', MR', c1, c2, hR'⟩ := hp (xs (i + 1)).toInt (xs (i + 2)).toInt (okI_toInt _) (okI_toInt _) MC MR hR
  refine ml_o1 h (by decide +kernel) ?_
  refine ml_arg h (j := 1) (by decide) hi (by decide +kernel) (by decide +kernel) (by decide +kernel) (by decide +kernel) (by decide +kernel) ?_
  refine ml_arg h (j := 2) (by decide) hi (by decide +kernel) (by decide +kernel) (by decide +kernel) (by decide +kernel) (by decide +kernel) ?_
  refine ml_callC h hCE hSE (m := 141) (j := 4041) (idx := 88) (as := [iv (xs (i + 1)).toInt, iv (xs (i + 2)).toInt]) (rest := []) (by decide +kernel) c1 rfl h0 hk0 rfl (List.forall_mem_cons.mpr ⟨asI _, List.forall_mem_cons.mpr ⟨asI _, (fun v hv => by cases hv)⟩⟩) (by decide +kernel) (show (parseMethodDescriptor (gY 141).desc).map (fun d => d.parameters.length) = some 2 by decide +kernel) ⟨by decide +kernel, by decide +kernel⟩ (by decide +kernel) (by simp [ms_v, ms_r, Int32.ofInt_toInt, Int64.ofInt_toInt]) (by simp [Value.category]) ?_
  refine ml_o2 h (by decide +kernel) ?_
  refine ml_arg h (j := 1) (by decide) hi (by decide +kernel) (by decide +kernel) (by decide +kernel) (by decide +kernel) (by decide +kernel) ?_
  refine ml_arg h (j := 2) (by decide) hi (by decide +kernel) (by decide +kernel) (by decide +kernel) (by decide +kernel) (by decide +kernel) ?_
  refine ml_callR h hCE hSE (m := 231) (j := 7127) (idx := 91) (as := [iv (xs (i + 1)).toInt, iv (xs (i + 2)).toInt]) (rest := [.int (Int32.ofInt x)]) (by decide +kernel) c2 rfl h100 hk100 rfl (List.forall_mem_cons.mpr ⟨asI _, List.forall_mem_cons.mpr ⟨asI _, (fun v hv => by cases hv)⟩⟩) (by decide +kernel) (show (parseMethodDescriptor (gY 231).desc).map (fun d => d.parameters.length) = some 2 by decide +kernel) ⟨by decide +kernel, by decide +kernel⟩ (by decide +kernel) (by simp [ms_v, ms_r, Int32.ofInt_toInt, Int64.ofInt_toInt]) (by simp [Value.category]) ?_
  refine ml_eqI (x := Int32.ofInt x) (st0 := []) (off := 726) (tgt := 1429) h (by decide +kernel) (by decide) ?_
  exact kk MC' MR' hR'
set_option maxRecDepth 100000 in
set_option maxHeartbeats 4000000 in
theorem lc_18 (h : lBun p s mid b L xs meth c D ad kd aC wC wR) (hCE : CE ≤ room_1.cells) (hSE : SE ≤ room_1.slots) (h0 : 0 ∈ wC) (hk0 : kd 0 = 10) (h100 : 100 ∈ wR) (hk100 : kd 100 = 11) (hi : i + 6 ≤ L) (hp : ∀ a0 : Int, okI a0 → PureI Rel 142 233 [iv a0]) (hR : Rel MC MR) (kk : ∀ MC' MR', Rel MC' MR' → ml_W h l e below Q CE SE 1429 (lLv ad b i) [] MC' MR') : ml_W h l e below Q CE SE 708 (lLv ad b i) [] MC MR := by
  obtain ⟨x, MC', MR', c1, c2, hR'⟩ := hp (xs (i + 1)).toInt (okI_toInt _) MC MR hR
  refine ml_o1 h (by decide +kernel) ?_
  refine ml_arg h (j := 1) (by decide) hi (by decide +kernel) (by decide +kernel) (by decide +kernel) (by decide +kernel) (by decide +kernel) ?_
  refine ml_callC h hCE hSE (m := 142) (j := 4053) (idx := 92) (as := [iv (xs (i + 1)).toInt]) (rest := []) (by decide +kernel) c1 rfl h0 hk0 rfl (List.forall_mem_cons.mpr ⟨asI _, (fun v hv => by cases hv)⟩) (by decide +kernel) (show (parseMethodDescriptor (gY 142).desc).map (fun d => d.parameters.length) = some 1 by decide +kernel) ⟨by decide +kernel, by decide +kernel⟩ (by decide +kernel) (by simp [ms_v, ms_r, Int32.ofInt_toInt, Int64.ofInt_toInt]) (by simp [Value.category]) ?_
  refine ml_o2 h (by decide +kernel) ?_
  refine ml_arg h (j := 1) (by decide) hi (by decide +kernel) (by decide +kernel) (by decide +kernel) (by decide +kernel) (by decide +kernel) ?_
  refine ml_callR h hCE hSE (m := 233) (j := 7135) (idx := 95) (as := [iv (xs (i + 1)).toInt]) (rest := [.int (Int32.ofInt x)]) (by decide +kernel) c2 rfl h100 hk100 rfl (List.forall_mem_cons.mpr ⟨asI _, (fun v hv => by cases hv)⟩) (by decide +kernel) (show (parseMethodDescriptor (gY 233).desc).map (fun d => d.parameters.length) = some 1 by decide +kernel) ⟨by decide +kernel, by decide +kernel⟩ (by decide +kernel) (by simp [ms_v, ms_r, Int32.ofInt_toInt, Int64.ofInt_toInt]) (by simp [Value.category]) ?_
  refine ml_eqI (x := Int32.ofInt x) (st0 := []) (off := 703) (tgt := 1429) h (by decide +kernel) (by decide) ?_
  exact kk MC' MR' hR'
set_option maxRecDepth 100000 in
set_option maxHeartbeats 4000000 in
theorem lc_19 (h : lBun p s mid b L xs meth c D ad kd aC wC wR) (hCE : CE ≤ room_1.cells) (hSE : SE ≤ room_1.slots) (h0 : 0 ∈ wC) (hk0 : kd 0 = 10) (h100 : 100 ∈ wR) (hk100 : kd 100 = 11) (hi : i + 6 ≤ L) (hp : ∀ a0 : Int, (a0 = 0 ∨ a0 = 1) → PureI Rel 143 237 [iv a0]) (hR : Rel MC MR) (kk : ∀ MC' MR', Rel MC' MR' → ml_W h l e below Q CE SE 1429 (lLv ad b i) [] MC' MR') : ml_W h l e below Q CE SE 731 (lLv ad b i) [] MC MR := by
  obtain ⟨x, MC', MR', c1, c2, hR'⟩ := hp (b01 (xs (i + 1))).toInt (b01_or _) MC MR hR
  refine ml_o1 h (by decide +kernel) ?_
  refine ml_arg h (j := 1) (by decide) hi (by decide +kernel) (by decide +kernel) (by decide +kernel) (by decide +kernel) (by decide +kernel) ?_
  refine ml_bool h (by decide +kernel) (by decide +kernel) (by decide +kernel) (by decide +kernel) ?_
  refine ml_callC h hCE hSE (m := 143) (j := 4086) (idx := 96) (as := [iv (b01 (xs (i + 1))).toInt]) (rest := []) (by decide +kernel) c1 rfl h0 hk0 rfl (List.forall_mem_cons.mpr ⟨asI _, (fun v hv => by cases hv)⟩) (by decide +kernel) (show (parseMethodDescriptor (gY 143).desc).map (fun d => d.parameters.length) = some 1 by decide +kernel) ⟨by decide +kernel, by decide +kernel⟩ (by decide +kernel) (by simp [ms_v, ms_r, Int32.ofInt_toInt, Int64.ofInt_toInt]) (by simp [Value.category]) ?_
  refine ml_o2 h (by decide +kernel) ?_
  refine ml_arg h (j := 1) (by decide) hi (by decide +kernel) (by decide +kernel) (by decide +kernel) (by decide +kernel) (by decide +kernel) ?_
  refine ml_bool h (by decide +kernel) (by decide +kernel) (by decide +kernel) (by decide +kernel) ?_
  refine ml_callR h hCE hSE (m := 237) (j := 7151) (idx := 100) (as := [iv (b01 (xs (i + 1))).toInt]) (rest := [.int (Int32.ofInt x)]) (by decide +kernel) c2 rfl h100 hk100 rfl (List.forall_mem_cons.mpr ⟨asI _, (fun v hv => by cases hv)⟩) (by decide +kernel) (show (parseMethodDescriptor (gY 237).desc).map (fun d => d.parameters.length) = some 1 by decide +kernel) ⟨by decide +kernel, by decide +kernel⟩ (by decide +kernel) (by simp [ms_v, ms_r, Int32.ofInt_toInt, Int64.ofInt_toInt]) (by simp [Value.category]) ?_
  refine ml_eqI (x := Int32.ofInt x) (st0 := []) (off := 664) (tgt := 1429) h (by decide +kernel) (by decide) ?_
  exact kk MC' MR' hR'
set_option maxRecDepth 100000 in
set_option maxHeartbeats 4000000 in
theorem lc_20 (h : lBun p s mid b L xs meth c D ad kd aC wC wR) (hCE : CE ≤ room_1.cells) (hSE : SE ≤ room_1.slots) (h0 : 0 ∈ wC) (hk0 : kd 0 = 10) (h100 : 100 ∈ wR) (hk100 : kd 100 = 11) (hi : i + 6 ≤ L) (hp : PureI Rel 144 239 []) (hR : Rel MC MR) (kk : ∀ MC' MR', Rel MC' MR' → ml_W h l e below Q CE SE 1429 (lLv ad b i) [] MC' MR') : ml_W h l e below Q CE SE 770 (lLv ad b i) [] MC MR := by
  obtain ⟨x, MC', MR', c1, c2, hR'⟩ := hp   MC MR hR
  refine ml_o1 h (by decide +kernel) ?_
  refine ml_callC h hCE hSE (m := 144) (j := 4102) (idx := 101) (as := []) (rest := []) (by decide +kernel) c1 rfl h0 hk0 rfl ((fun v hv => by cases hv)) (by decide +kernel) (show (parseMethodDescriptor (gY 144).desc).map (fun d => d.parameters.length) = some 0 by decide +kernel) ⟨by decide +kernel, by decide +kernel⟩ (by decide +kernel) (by simp [ms_v, ms_r, Int32.ofInt_toInt, Int64.ofInt_toInt]) (by simp [Value.category]) ?_
  refine ml_o2 h (by decide +kernel) ?_
  refine ml_callR h hCE hSE (m := 239) (j := 7159) (idx := 104) (as := []) (rest := [.int (Int32.ofInt x)]) (by decide +kernel) c2 rfl h100 hk100 rfl ((fun v hv => by cases hv)) (by decide +kernel) (show (parseMethodDescriptor (gY 239).desc).map (fun d => d.parameters.length) = some 0 by decide +kernel) ⟨by decide +kernel, by decide +kernel⟩ (by decide +kernel) (by simp [ms_v, ms_r, Int32.ofInt_toInt, Int64.ofInt_toInt]) (by simp [Value.category]) ?_
  refine ml_eqI (x := Int32.ofInt x) (st0 := []) (off := 651) (tgt := 1429) h (by decide +kernel) (by decide) ?_
  exact kk MC' MR' hR'
set_option maxRecDepth 100000 in
set_option maxHeartbeats 4000000 in
theorem lc_21 (h : lBun p s mid b L xs meth c D ad kd aC wC wR) (hCE : CE ≤ room_1.cells) (hSE : SE ≤ room_1.slots) (h0 : 0 ∈ wC) (hk0 : kd 0 = 10) (h100 : 100 ∈ wR) (hk100 : kd 100 = 11) (hi : i + 6 ≤ L) (hp : PureI Rel 145 242 []) (hR : Rel MC MR) (kk : ∀ MC' MR', Rel MC' MR' → ml_W h l e below Q CE SE 1429 (lLv ad b i) [] MC' MR') : ml_W h l e below Q CE SE 783 (lLv ad b i) [] MC MR := by
  obtain ⟨x, MC', MR', c1, c2, hR'⟩ := hp   MC MR hR
  refine ml_o1 h (by decide +kernel) ?_
  refine ml_callC h hCE hSE (m := 145) (j := 4117) (idx := 105) (as := []) (rest := []) (by decide +kernel) c1 rfl h0 hk0 rfl ((fun v hv => by cases hv)) (by decide +kernel) (show (parseMethodDescriptor (gY 145).desc).map (fun d => d.parameters.length) = some 0 by decide +kernel) ⟨by decide +kernel, by decide +kernel⟩ (by decide +kernel) (by simp [ms_v, ms_r, Int32.ofInt_toInt, Int64.ofInt_toInt]) (by simp [Value.category]) ?_
  refine ml_o2 h (by decide +kernel) ?_
  refine ml_callR h hCE hSE (m := 242) (j := 7171) (idx := 108) (as := []) (rest := [.int (Int32.ofInt x)]) (by decide +kernel) c2 rfl h100 hk100 rfl ((fun v hv => by cases hv)) (by decide +kernel) (show (parseMethodDescriptor (gY 242).desc).map (fun d => d.parameters.length) = some 0 by decide +kernel) ⟨by decide +kernel, by decide +kernel⟩ (by decide +kernel) (by simp [ms_v, ms_r, Int32.ofInt_toInt, Int64.ofInt_toInt]) (by simp [Value.category]) ?_
  refine ml_eqI (x := Int32.ofInt x) (st0 := []) (off := 638) (tgt := 1429) h (by decide +kernel) (by decide) ?_
  exact kk MC' MR' hR'
set_option maxRecDepth 100000 in
set_option maxHeartbeats 4000000 in
theorem lc_22 (h : lBun p s mid b L xs meth c D ad kd aC wC wR) (hCE : CE ≤ room_1.cells) (hSE : SE ≤ room_1.slots) (h0 : 0 ∈ wC) (hk0 : kd 0 = 10) (h100 : 100 ∈ wR) (hk100 : kd 100 = 11) (hi : i + 6 ≤ L) (hp : ∀ a0 : Int, okI a0 → PureI Rel 146 235 [iv a0]) (hR : Rel MC MR) (kk : ∀ MC' MR', Rel MC' MR' → ml_W h l e below Q CE SE 1429 (lLv ad b i) [] MC' MR') : ml_W h l e below Q CE SE 796 (lLv ad b i) [] MC MR := by
  obtain ⟨x, MC', MR', c1, c2, hR'⟩ := hp (xs (i + 1)).toInt (okI_toInt _) MC MR hR
  refine ml_o1 h (by decide +kernel) ?_
  refine ml_arg h (j := 1) (by decide) hi (by decide +kernel) (by decide +kernel) (by decide +kernel) (by decide +kernel) (by decide +kernel) ?_
  refine ml_callC h hCE hSE (m := 146) (j := 4127) (idx := 109) (as := [iv (xs (i + 1)).toInt]) (rest := []) (by decide +kernel) c1 rfl h0 hk0 rfl (List.forall_mem_cons.mpr ⟨asI _, (fun v hv => by cases hv)⟩) (by decide +kernel) (show (parseMethodDescriptor (gY 146).desc).map (fun d => d.parameters.length) = some 1 by decide +kernel) ⟨by decide +kernel, by decide +kernel⟩ (by decide +kernel) (by simp [ms_v, ms_r, Int32.ofInt_toInt, Int64.ofInt_toInt]) (by simp [Value.category]) ?_
  refine ml_o2 h (by decide +kernel) ?_
  refine ml_arg h (j := 1) (by decide) hi (by decide +kernel) (by decide +kernel) (by decide +kernel) (by decide +kernel) (by decide +kernel) ?_
  refine ml_callR h hCE hSE (m := 235) (j := 7143) (idx := 112) (as := [iv (xs (i + 1)).toInt]) (rest := [.int (Int32.ofInt x)]) (by decide +kernel) c2 rfl h100 hk100 rfl (List.forall_mem_cons.mpr ⟨asI _, (fun v hv => by cases hv)⟩) (by decide +kernel) (show (parseMethodDescriptor (gY 235).desc).map (fun d => d.parameters.length) = some 1 by decide +kernel) ⟨by decide +kernel, by decide +kernel⟩ (by decide +kernel) (by simp [ms_v, ms_r, Int32.ofInt_toInt, Int64.ofInt_toInt]) (by simp [Value.category]) ?_
  refine ml_eqI (x := Int32.ofInt x) (st0 := []) (off := 615) (tgt := 1429) h (by decide +kernel) (by decide) ?_
  exact kk MC' MR' hR'
set_option maxRecDepth 100000 in
set_option maxHeartbeats 4000000 in
theorem lc_23 (h : lBun p s mid b L xs meth c D ad kd aC wC wR) (hCE : CE ≤ room_1.cells) (hSE : SE ≤ room_1.slots) (h0 : 0 ∈ wC) (hk0 : kd 0 = 10) (h100 : 100 ∈ wR) (hk100 : kd 100 = 11) (hi : i + 6 ≤ L) (hp : ∀ a0 a1 : Int, okI a0 → okI a1 → PureI Rel 147 243 [iv a0, iv a1]) (hR : Rel MC MR) (kk : ∀ MC' MR', Rel MC' MR' → ml_W h l e below Q CE SE 1429 (lLv ad b i) [] MC' MR') : ml_W h l e below Q CE SE 819 (lLv ad b i) [] MC MR := by
  obtain ⟨x, MC', MR', c1, c2, hR'⟩ := hp (xs (i + 1)).toInt (xs (i + 2)).toInt (okI_toInt _) (okI_toInt _) MC MR hR
  refine ml_o1 h (by decide +kernel) ?_
  refine ml_arg h (j := 1) (by decide) hi (by decide +kernel) (by decide +kernel) (by decide +kernel) (by decide +kernel) (by decide +kernel) ?_
  refine ml_arg h (j := 2) (by decide) hi (by decide +kernel) (by decide +kernel) (by decide +kernel) (by decide +kernel) (by decide +kernel) ?_
  refine ml_callC h hCE hSE (m := 147) (j := 4132) (idx := 113) (as := [iv (xs (i + 1)).toInt, iv (xs (i + 2)).toInt]) (rest := []) (by decide +kernel) c1 rfl h0 hk0 rfl (List.forall_mem_cons.mpr ⟨asI _, List.forall_mem_cons.mpr ⟨asI _, (fun v hv => by cases hv)⟩⟩) (by decide +kernel) (show (parseMethodDescriptor (gY 147).desc).map (fun d => d.parameters.length) = some 2 by decide +kernel) ⟨by decide +kernel, by decide +kernel⟩ (by decide +kernel) (by simp [ms_v, ms_r, Int32.ofInt_toInt, Int64.ofInt_toInt]) (by simp [Value.category]) ?_
  refine ml_o2 h (by decide +kernel) ?_
  refine ml_arg h (j := 1) (by decide) hi (by decide +kernel) (by decide +kernel) (by decide +kernel) (by decide +kernel) (by decide +kernel) ?_
  refine ml_arg h (j := 2) (by decide) hi (by decide +kernel) (by decide +kernel) (by decide +kernel) (by decide +kernel) (by decide +kernel) ?_
  refine ml_callR h hCE hSE (m := 243) (j := 7175) (idx := 116) (as := [iv (xs (i + 1)).toInt, iv (xs (i + 2)).toInt]) (rest := [.int (Int32.ofInt x)]) (by decide +kernel) c2 rfl h100 hk100 rfl (List.forall_mem_cons.mpr ⟨asI _, List.forall_mem_cons.mpr ⟨asI _, (fun v hv => by cases hv)⟩⟩) (by decide +kernel) (show (parseMethodDescriptor (gY 243).desc).map (fun d => d.parameters.length) = some 2 by decide +kernel) ⟨by decide +kernel, by decide +kernel⟩ (by decide +kernel) (by simp [ms_v, ms_r, Int32.ofInt_toInt, Int64.ofInt_toInt]) (by simp [Value.category]) ?_
  refine ml_eqI (x := Int32.ofInt x) (st0 := []) (off := 582) (tgt := 1429) h (by decide +kernel) (by decide) ?_
  exact kk MC' MR' hR'
set_option maxRecDepth 100000 in
set_option maxHeartbeats 4000000 in
theorem lc_24 (h : lBun p s mid b L xs meth c D ad kd aC wC wR) (hCE : CE ≤ room_1.cells) (hSE : SE ≤ room_1.slots) (h0 : 0 ∈ wC) (hk0 : kd 0 = 10) (h100 : 100 ∈ wR) (hk100 : kd 100 = 11) (hi : i + 6 ≤ L) (hp : ∀ a0 a1 a2 : Int, okI a0 → okI a1 → okI a2 → PureI Rel 149 245 [iv a0, iv a1, iv a2]) (hR : Rel MC MR) (kk : ∀ MC' MR', Rel MC' MR' → ml_W h l e below Q CE SE 1429 (lLv ad b i) [] MC' MR') : ml_W h l e below Q CE SE 852 (lLv ad b i) [] MC MR := by
  obtain ⟨x, MC', MR', c1, c2, hR'⟩ := hp (xs (i + 1)).toInt (xs (i + 2)).toInt (xs (i + 3)).toInt (okI_toInt _) (okI_toInt _) (okI_toInt _) MC MR hR
  refine ml_o1 h (by decide +kernel) ?_
  refine ml_arg h (j := 1) (by decide) hi (by decide +kernel) (by decide +kernel) (by decide +kernel) (by decide +kernel) (by decide +kernel) ?_
  refine ml_arg h (j := 2) (by decide) hi (by decide +kernel) (by decide +kernel) (by decide +kernel) (by decide +kernel) (by decide +kernel) ?_
  refine ml_arg h (j := 3) (by decide) hi (by decide +kernel) (by decide +kernel) (by decide +kernel) (by decide +kernel) (by decide +kernel) ?_
  refine ml_callC h hCE hSE (m := 149) (j := 4151) (idx := 117) (as := [iv (xs (i + 1)).toInt, iv (xs (i + 2)).toInt, iv (xs (i + 3)).toInt]) (rest := []) (by decide +kernel) c1 rfl h0 hk0 rfl (List.forall_mem_cons.mpr ⟨asI _, List.forall_mem_cons.mpr ⟨asI _, List.forall_mem_cons.mpr ⟨asI _, (fun v hv => by cases hv)⟩⟩⟩) (by decide +kernel) (show (parseMethodDescriptor (gY 149).desc).map (fun d => d.parameters.length) = some 3 by decide +kernel) ⟨by decide +kernel, by decide +kernel⟩ (by decide +kernel) (by simp [ms_v, ms_r, Int32.ofInt_toInt, Int64.ofInt_toInt]) (by simp [Value.category]) ?_
  refine ml_o2 h (by decide +kernel) ?_
  refine ml_arg h (j := 1) (by decide) hi (by decide +kernel) (by decide +kernel) (by decide +kernel) (by decide +kernel) (by decide +kernel) ?_
  refine ml_arg h (j := 2) (by decide) hi (by decide +kernel) (by decide +kernel) (by decide +kernel) (by decide +kernel) (by decide +kernel) ?_
  refine ml_arg h (j := 3) (by decide) hi (by decide +kernel) (by decide +kernel) (by decide +kernel) (by decide +kernel) (by decide +kernel) ?_
  refine ml_callR h hCE hSE (m := 245) (j := 7183) (idx := 121) (as := [iv (xs (i + 1)).toInt, iv (xs (i + 2)).toInt, iv (xs (i + 3)).toInt]) (rest := [.int (Int32.ofInt x)]) (by decide +kernel) c2 rfl h100 hk100 rfl (List.forall_mem_cons.mpr ⟨asI _, List.forall_mem_cons.mpr ⟨asI _, List.forall_mem_cons.mpr ⟨asI _, (fun v hv => by cases hv)⟩⟩⟩) (by decide +kernel) (show (parseMethodDescriptor (gY 245).desc).map (fun d => d.parameters.length) = some 3 by decide +kernel) ⟨by decide +kernel, by decide +kernel⟩ (by decide +kernel) (by simp [ms_v, ms_r, Int32.ofInt_toInt, Int64.ofInt_toInt]) (by simp [Value.category]) ?_
  refine ml_eqI (x := Int32.ofInt x) (st0 := []) (off := 539) (tgt := 1429) h (by decide +kernel) (by decide) ?_
  exact kk MC' MR' hR'
set_option maxRecDepth 100000 in
set_option maxHeartbeats 4000000 in
theorem lc_25 (h : lBun p s mid b L xs meth c D ad kd aC wC wR) (hCE : CE ≤ room_1.cells) (hSE : SE ≤ room_1.slots) (h0 : 0 ∈ wC) (hk0 : kd 0 = 10) (h100 : 100 ∈ wR) (hk100 : kd 100 = 11) (hi : i + 6 ≤ L) (hp : ∀ a0 a1 : Int, okI a0 → okI a1 → PureI Rel 150 246 [iv a0, iv a1]) (hR : Rel MC MR) (kk : ∀ MC' MR', Rel MC' MR' → ml_W h l e below Q CE SE 1429 (lLv ad b i) [] MC' MR') : ml_W h l e below Q CE SE 895 (lLv ad b i) [] MC MR := by
  obtain ⟨x, MC', MR', c1, c2, hR'⟩ := hp (xs (i + 1)).toInt (xs (i + 2)).toInt (okI_toInt _) (okI_toInt _) MC MR hR
  refine ml_o1 h (by decide +kernel) ?_
  refine ml_arg h (j := 1) (by decide) hi (by decide +kernel) (by decide +kernel) (by decide +kernel) (by decide +kernel) (by decide +kernel) ?_
  refine ml_arg h (j := 2) (by decide) hi (by decide +kernel) (by decide +kernel) (by decide +kernel) (by decide +kernel) (by decide +kernel) ?_
  refine ml_callC h hCE hSE (m := 150) (j := 4159) (idx := 122) (as := [iv (xs (i + 1)).toInt, iv (xs (i + 2)).toInt]) (rest := []) (by decide +kernel) c1 rfl h0 hk0 rfl (List.forall_mem_cons.mpr ⟨asI _, List.forall_mem_cons.mpr ⟨asI _, (fun v hv => by cases hv)⟩⟩) (by decide +kernel) (show (parseMethodDescriptor (gY 150).desc).map (fun d => d.parameters.length) = some 2 by decide +kernel) ⟨by decide +kernel, by decide +kernel⟩ (by decide +kernel) (by simp [ms_v, ms_r, Int32.ofInt_toInt, Int64.ofInt_toInt]) (by simp [Value.category]) ?_
  refine ml_o2 h (by decide +kernel) ?_
  refine ml_arg h (j := 1) (by decide) hi (by decide +kernel) (by decide +kernel) (by decide +kernel) (by decide +kernel) (by decide +kernel) ?_
  refine ml_arg h (j := 2) (by decide) hi (by decide +kernel) (by decide +kernel) (by decide +kernel) (by decide +kernel) (by decide +kernel) ?_
  refine ml_callR h hCE hSE (m := 246) (j := 7187) (idx := 125) (as := [iv (xs (i + 1)).toInt, iv (xs (i + 2)).toInt]) (rest := [.int (Int32.ofInt x)]) (by decide +kernel) c2 rfl h100 hk100 rfl (List.forall_mem_cons.mpr ⟨asI _, List.forall_mem_cons.mpr ⟨asI _, (fun v hv => by cases hv)⟩⟩) (by decide +kernel) (show (parseMethodDescriptor (gY 246).desc).map (fun d => d.parameters.length) = some 2 by decide +kernel) ⟨by decide +kernel, by decide +kernel⟩ (by decide +kernel) (by simp [ms_v, ms_r, Int32.ofInt_toInt, Int64.ofInt_toInt]) (by simp [Value.category]) ?_
  refine ml_eqI (x := Int32.ofInt x) (st0 := []) (off := 506) (tgt := 1429) h (by decide +kernel) (by decide) ?_
  exact kk MC' MR' hR'
set_option maxRecDepth 100000 in
set_option maxHeartbeats 4000000 in
theorem lc_26 (h : lBun p s mid b L xs meth c D ad kd aC wC wR) (hCE : CE ≤ room_1.cells) (hSE : SE ≤ room_1.slots) (h0 : 0 ∈ wC) (hk0 : kd 0 = 10) (h100 : 100 ∈ wR) (hk100 : kd 100 = 11) (hi : i + 6 ≤ L) (hp : ∀ a0 : Int, okI a0 → PureI Rel 151 247 [iv a0]) (hR : Rel MC MR) (kk : ∀ MC' MR', Rel MC' MR' → ml_W h l e below Q CE SE 1429 (lLv ad b i) [] MC' MR') : ml_W h l e below Q CE SE 928 (lLv ad b i) [] MC MR := by
  obtain ⟨x, MC', MR', c1, c2, hR'⟩ := hp (xs (i + 1)).toInt (okI_toInt _) MC MR hR
  refine ml_o1 h (by decide +kernel) ?_
  refine ml_arg h (j := 1) (by decide) hi (by decide +kernel) (by decide +kernel) (by decide +kernel) (by decide +kernel) (by decide +kernel) ?_
  refine ml_callC h hCE hSE (m := 151) (j := 4163) (idx := 126) (as := [iv (xs (i + 1)).toInt]) (rest := []) (by decide +kernel) c1 rfl h0 hk0 rfl (List.forall_mem_cons.mpr ⟨asI _, (fun v hv => by cases hv)⟩) (by decide +kernel) (show (parseMethodDescriptor (gY 151).desc).map (fun d => d.parameters.length) = some 1 by decide +kernel) ⟨by decide +kernel, by decide +kernel⟩ (by decide +kernel) (by simp [ms_v, ms_r, Int32.ofInt_toInt, Int64.ofInt_toInt]) (by simp [Value.category]) ?_
  refine ml_o2 h (by decide +kernel) ?_
  refine ml_arg h (j := 1) (by decide) hi (by decide +kernel) (by decide +kernel) (by decide +kernel) (by decide +kernel) (by decide +kernel) ?_
  refine ml_callR h hCE hSE (m := 247) (j := 7191) (idx := 129) (as := [iv (xs (i + 1)).toInt]) (rest := [.int (Int32.ofInt x)]) (by decide +kernel) c2 rfl h100 hk100 rfl (List.forall_mem_cons.mpr ⟨asI _, (fun v hv => by cases hv)⟩) (by decide +kernel) (show (parseMethodDescriptor (gY 247).desc).map (fun d => d.parameters.length) = some 1 by decide +kernel) ⟨by decide +kernel, by decide +kernel⟩ (by decide +kernel) (by simp [ms_v, ms_r, Int32.ofInt_toInt, Int64.ofInt_toInt]) (by simp [Value.category]) ?_
  refine ml_eqI (x := Int32.ofInt x) (st0 := []) (off := 483) (tgt := 1429) h (by decide +kernel) (by decide) ?_
  exact kk MC' MR' hR'
set_option maxRecDepth 100000 in
set_option maxHeartbeats 4000000 in
theorem lc_27 (h : lBun p s mid b L xs meth c D ad kd aC wC wR) (hCE : CE ≤ room_1.cells) (hSE : SE ≤ room_1.slots) (h0 : 0 ∈ wC) (hk0 : kd 0 = 10) (h100 : 100 ∈ wR) (hk100 : kd 100 = 11) (hi : i + 6 ≤ L) (hp : ∀ a0 a1 : Int, okI a0 → okI a1 → PureJ Rel 154 248 [iv a0, iv a1]) (hR : Rel MC MR) (kk : ∀ MC' MR', Rel MC' MR' → ml_W h l e below Q CE SE 1429 (lLv ad b i) [] MC' MR') : ml_W h l e below Q CE SE 951 (lLv ad b i) [] MC MR := by
  obtain ⟨x, MC', MR', c1, c2, hR'⟩ := hp (xs (i + 1)).toInt (xs (i + 2)).toInt (okI_toInt _) (okI_toInt _) MC MR hR
  refine ml_o1 h (by decide +kernel) ?_
  refine ml_arg h (j := 1) (by decide) hi (by decide +kernel) (by decide +kernel) (by decide +kernel) (by decide +kernel) (by decide +kernel) ?_
  refine ml_arg h (j := 2) (by decide) hi (by decide +kernel) (by decide +kernel) (by decide +kernel) (by decide +kernel) (by decide +kernel) ?_
  refine ml_callC h hCE hSE (m := 154) (j := 5002) (idx := 130) (as := [iv (xs (i + 1)).toInt, iv (xs (i + 2)).toInt]) (rest := []) (by decide +kernel) c1 rfl h0 hk0 rfl (List.forall_mem_cons.mpr ⟨asI _, List.forall_mem_cons.mpr ⟨asI _, (fun v hv => by cases hv)⟩⟩) (by decide +kernel) (show (parseMethodDescriptor (gY 154).desc).map (fun d => d.parameters.length) = some 2 by decide +kernel) ⟨by decide +kernel, by decide +kernel⟩ (by decide +kernel) (by simp [ms_v, ms_r, Int32.ofInt_toInt, Int64.ofInt_toInt]) (by simp [Value.category]) ?_
  refine ml_o2 h (by decide +kernel) ?_
  refine ml_arg h (j := 1) (by decide) hi (by decide +kernel) (by decide +kernel) (by decide +kernel) (by decide +kernel) (by decide +kernel) ?_
  refine ml_arg h (j := 2) (by decide) hi (by decide +kernel) (by decide +kernel) (by decide +kernel) (by decide +kernel) (by decide +kernel) ?_
  refine ml_callR h hCE hSE (m := 248) (j := 7195) (idx := 134) (as := [iv (xs (i + 1)).toInt, iv (xs (i + 2)).toInt]) (rest := [.long (Int64.ofInt x)]) (by decide +kernel) c2 rfl h100 hk100 rfl (List.forall_mem_cons.mpr ⟨asI _, List.forall_mem_cons.mpr ⟨asI _, (fun v hv => by cases hv)⟩⟩) (by decide +kernel) (show (parseMethodDescriptor (gY 248).desc).map (fun d => d.parameters.length) = some 2 by decide +kernel) ⟨by decide +kernel, by decide +kernel⟩ (by decide +kernel) (by simp [ms_v, ms_r, Int32.ofInt_toInt, Int64.ofInt_toInt]) (by simp [Value.category]) ?_
  refine ml_eqJ (x := Int64.ofInt x) (st0 := []) (off := 449) (tgt := 1429) h (by decide +kernel) (by decide +kernel) (by decide) ?_
  exact kk MC' MR' hR'
set_option maxRecDepth 100000 in
set_option maxHeartbeats 4000000 in
theorem lc_28 (h : lBun p s mid b L xs meth c D ad kd aC wC wR) (hCE : CE ≤ room_1.cells) (hSE : SE ≤ room_1.slots) (h0 : 0 ∈ wC) (hk0 : kd 0 = 10) (h100 : 100 ∈ wR) (hk100 : kd 100 = 11) (hi : i + 6 ≤ L) (hp : ∀ a0 : Int, okI a0 → PureJ Rel 156 250 [iv a0]) (hR : Rel MC MR) (kk : ∀ MC' MR', Rel MC' MR' → ml_W h l e below Q CE SE 1429 (lLv ad b i) [] MC' MR') : ml_W h l e below Q CE SE 985 (lLv ad b i) [] MC MR := by
  obtain ⟨x, MC', MR', c1, c2, hR'⟩ := hp (xs (i + 1)).toInt (okI_toInt _) MC MR hR
  refine ml_o1 h (by decide +kernel) ?_
  refine ml_arg h (j := 1) (by decide) hi (by decide +kernel) (by decide +kernel) (by decide +kernel) (by decide +kernel) (by decide +kernel) ?_
  refine ml_callC h hCE hSE (m := 156) (j := 5016) (idx := 135) (as := [iv (xs (i + 1)).toInt]) (rest := []) (by decide +kernel) c1 rfl h0 hk0 rfl (List.forall_mem_cons.mpr ⟨asI _, (fun v hv => by cases hv)⟩) (by decide +kernel) (show (parseMethodDescriptor (gY 156).desc).map (fun d => d.parameters.length) = some 1 by decide +kernel) ⟨by decide +kernel, by decide +kernel⟩ (by decide +kernel) (by simp [ms_v, ms_r, Int32.ofInt_toInt, Int64.ofInt_toInt]) (by simp [Value.category]) ?_
  refine ml_o2 h (by decide +kernel) ?_
  refine ml_arg h (j := 1) (by decide) hi (by decide +kernel) (by decide +kernel) (by decide +kernel) (by decide +kernel) (by decide +kernel) ?_
  refine ml_callR h hCE hSE (m := 250) (j := 7204) (idx := 139) (as := [iv (xs (i + 1)).toInt]) (rest := [.long (Int64.ofInt x)]) (by decide +kernel) c2 rfl h100 hk100 rfl (List.forall_mem_cons.mpr ⟨asI _, (fun v hv => by cases hv)⟩) (by decide +kernel) (show (parseMethodDescriptor (gY 250).desc).map (fun d => d.parameters.length) = some 1 by decide +kernel) ⟨by decide +kernel, by decide +kernel⟩ (by decide +kernel) (by simp [ms_v, ms_r, Int32.ofInt_toInt, Int64.ofInt_toInt]) (by simp [Value.category]) ?_
  refine ml_eqJ (x := Int64.ofInt x) (st0 := []) (off := 425) (tgt := 1429) h (by decide +kernel) (by decide +kernel) (by decide) ?_
  exact kk MC' MR' hR'
set_option maxRecDepth 100000 in
set_option maxHeartbeats 4000000 in
theorem lc_29 (h : lBun p s mid b L xs meth c D ad kd aC wC wR) (hCE : CE ≤ room_1.cells) (hSE : SE ≤ room_1.slots) (h0 : 0 ∈ wC) (hk0 : kd 0 = 10) (h100 : 100 ∈ wR) (hk100 : kd 100 = 11) (hi : i + 6 ≤ L) (hp : ∀ a0 : Int, okI a0 → PureJ Rel 157 252 [iv a0]) (hR : Rel MC MR) (kk : ∀ MC' MR', Rel MC' MR' → ml_W h l e below Q CE SE 1429 (lLv ad b i) [] MC' MR') : ml_W h l e below Q CE SE 1009 (lLv ad b i) [] MC MR := by
  obtain ⟨x, MC', MR', c1, c2, hR'⟩ := hp (xs (i + 1)).toInt (okI_toInt _) MC MR hR
  refine ml_o1 h (by decide +kernel) ?_
  refine ml_arg h (j := 1) (by decide) hi (by decide +kernel) (by decide +kernel) (by decide +kernel) (by decide +kernel) (by decide +kernel) ?_
  refine ml_callC h hCE hSE (m := 157) (j := 5033) (idx := 140) (as := [iv (xs (i + 1)).toInt]) (rest := []) (by decide +kernel) c1 rfl h0 hk0 rfl (List.forall_mem_cons.mpr ⟨asI _, (fun v hv => by cases hv)⟩) (by decide +kernel) (show (parseMethodDescriptor (gY 157).desc).map (fun d => d.parameters.length) = some 1 by decide +kernel) ⟨by decide +kernel, by decide +kernel⟩ (by decide +kernel) (by simp [ms_v, ms_r, Int32.ofInt_toInt, Int64.ofInt_toInt]) (by simp [Value.category]) ?_
  refine ml_o2 h (by decide +kernel) ?_
  refine ml_arg h (j := 1) (by decide) hi (by decide +kernel) (by decide +kernel) (by decide +kernel) (by decide +kernel) (by decide +kernel) ?_
  refine ml_callR h hCE hSE (m := 252) (j := 7213) (idx := 143) (as := [iv (xs (i + 1)).toInt]) (rest := [.long (Int64.ofInt x)]) (by decide +kernel) c2 rfl h100 hk100 rfl (List.forall_mem_cons.mpr ⟨asI _, (fun v hv => by cases hv)⟩) (by decide +kernel) (show (parseMethodDescriptor (gY 252).desc).map (fun d => d.parameters.length) = some 1 by decide +kernel) ⟨by decide +kernel, by decide +kernel⟩ (by decide +kernel) (by simp [ms_v, ms_r, Int32.ofInt_toInt, Int64.ofInt_toInt]) (by simp [Value.category]) ?_
  refine ml_eqJ (x := Int64.ofInt x) (st0 := []) (off := 401) (tgt := 1429) h (by decide +kernel) (by decide +kernel) (by decide) ?_
  exact kk MC' MR' hR'
set_option maxRecDepth 100000 in
set_option maxHeartbeats 4000000 in
theorem lc_30 (h : lBun p s mid b L xs meth c D ad kd aC wC wR) (hCE : CE ≤ room_1.cells) (hSE : SE ≤ room_1.slots) (h0 : 0 ∈ wC) (hk0 : kd 0 = 10) (h100 : 100 ∈ wR) (hk100 : kd 100 = 11) (hi : i + 6 ≤ L) (hp : ∀ a0 : Int, okI a0 → PureI Rel 158 255 [iv a0]) (hR : Rel MC MR) (kk : ∀ MC' MR', Rel MC' MR' → ml_W h l e below Q CE SE 1429 (lLv ad b i) [] MC' MR') : ml_W h l e below Q CE SE 1033 (lLv ad b i) [] MC MR := by
  obtain ⟨x, MC', MR', c1, c2, hR'⟩ := hp (xs (i + 1)).toInt (okI_toInt _) MC MR hR
  refine ml_o1 h (by decide +kernel) ?_
  refine ml_arg h (j := 1) (by decide) hi (by decide +kernel) (by decide +kernel) (by decide +kernel) (by decide +kernel) (by decide +kernel) ?_
  refine ml_callC h hCE hSE (m := 158) (j := 5047) (idx := 144) (as := [iv (xs (i + 1)).toInt]) (rest := []) (by decide +kernel) c1 rfl h0 hk0 rfl (List.forall_mem_cons.mpr ⟨asI _, (fun v hv => by cases hv)⟩) (by decide +kernel) (show (parseMethodDescriptor (gY 158).desc).map (fun d => d.parameters.length) = some 1 by decide +kernel) ⟨by decide +kernel, by decide +kernel⟩ (by decide +kernel) (by simp [ms_v, ms_r, Int32.ofInt_toInt, Int64.ofInt_toInt]) (by simp [Value.category]) ?_
  refine ml_o2 h (by decide +kernel) ?_
  refine ml_arg h (j := 1) (by decide) hi (by decide +kernel) (by decide +kernel) (by decide +kernel) (by decide +kernel) (by decide +kernel) ?_
  refine ml_callR h hCE hSE (m := 255) (j := 7225) (idx := 147) (as := [iv (xs (i + 1)).toInt]) (rest := [.int (Int32.ofInt x)]) (by decide +kernel) c2 rfl h100 hk100 rfl (List.forall_mem_cons.mpr ⟨asI _, (fun v hv => by cases hv)⟩) (by decide +kernel) (show (parseMethodDescriptor (gY 255).desc).map (fun d => d.parameters.length) = some 1 by decide +kernel) ⟨by decide +kernel, by decide +kernel⟩ (by decide +kernel) (by simp [ms_v, ms_r, Int32.ofInt_toInt, Int64.ofInt_toInt]) (by simp [Value.category]) ?_
  refine ml_eqI (x := Int32.ofInt x) (st0 := []) (off := 378) (tgt := 1429) h (by decide +kernel) (by decide) ?_
  exact kk MC' MR' hR'
set_option maxRecDepth 100000 in
set_option maxHeartbeats 4000000 in
theorem lc_31 (h : lBun p s mid b L xs meth c D ad kd aC wC wR) (hCE : CE ≤ room_1.cells) (hSE : SE ≤ room_1.slots) (h0 : 0 ∈ wC) (hk0 : kd 0 = 10) (h100 : 100 ∈ wR) (hk100 : kd 100 = 11) (hi : i + 6 ≤ L) (hp : ∀ a0 a1 : Int, okI a0 → okI a1 → PureJ Rel 159 257 [iv a0, iv a1]) (hR : Rel MC MR) (kk : ∀ MC' MR', Rel MC' MR' → ml_W h l e below Q CE SE 1429 (lLv ad b i) [] MC' MR') : ml_W h l e below Q CE SE 1056 (lLv ad b i) [] MC MR := by
  obtain ⟨x, MC', MR', c1, c2, hR'⟩ := hp (xs (i + 1)).toInt (xs (i + 2)).toInt (okI_toInt _) (okI_toInt _) MC MR hR
  refine ml_o1 h (by decide +kernel) ?_
  refine ml_arg h (j := 1) (by decide) hi (by decide +kernel) (by decide +kernel) (by decide +kernel) (by decide +kernel) (by decide +kernel) ?_
  refine ml_arg h (j := 2) (by decide) hi (by decide +kernel) (by decide +kernel) (by decide +kernel) (by decide +kernel) (by decide +kernel) ?_
  refine ml_callC h hCE hSE (m := 159) (j := 5057) (idx := 148) (as := [iv (xs (i + 1)).toInt, iv (xs (i + 2)).toInt]) (rest := []) (by decide +kernel) c1 rfl h0 hk0 rfl (List.forall_mem_cons.mpr ⟨asI _, List.forall_mem_cons.mpr ⟨asI _, (fun v hv => by cases hv)⟩⟩) (by decide +kernel) (show (parseMethodDescriptor (gY 159).desc).map (fun d => d.parameters.length) = some 2 by decide +kernel) ⟨by decide +kernel, by decide +kernel⟩ (by decide +kernel) (by simp [ms_v, ms_r, Int32.ofInt_toInt, Int64.ofInt_toInt]) (by simp [Value.category]) ?_
  refine ml_o2 h (by decide +kernel) ?_
  refine ml_arg h (j := 1) (by decide) hi (by decide +kernel) (by decide +kernel) (by decide +kernel) (by decide +kernel) (by decide +kernel) ?_
  refine ml_arg h (j := 2) (by decide) hi (by decide +kernel) (by decide +kernel) (by decide +kernel) (by decide +kernel) (by decide +kernel) ?_
  refine ml_callR h hCE hSE (m := 257) (j := 7233) (idx := 151) (as := [iv (xs (i + 1)).toInt, iv (xs (i + 2)).toInt]) (rest := [.long (Int64.ofInt x)]) (by decide +kernel) c2 rfl h100 hk100 rfl (List.forall_mem_cons.mpr ⟨asI _, List.forall_mem_cons.mpr ⟨asI _, (fun v hv => by cases hv)⟩⟩) (by decide +kernel) (show (parseMethodDescriptor (gY 257).desc).map (fun d => d.parameters.length) = some 2 by decide +kernel) ⟨by decide +kernel, by decide +kernel⟩ (by decide +kernel) (by simp [ms_v, ms_r, Int32.ofInt_toInt, Int64.ofInt_toInt]) (by simp [Value.category]) ?_
  refine ml_eqJ (x := Int64.ofInt x) (st0 := []) (off := 344) (tgt := 1429) h (by decide +kernel) (by decide +kernel) (by decide) ?_
  exact kk MC' MR' hR'
set_option maxRecDepth 100000 in
set_option maxHeartbeats 4000000 in
theorem lc_32 (h : lBun p s mid b L xs meth c D ad kd aC wC wR) (hCE : CE ≤ room_1.cells) (hSE : SE ≤ room_1.slots) (h0 : 0 ∈ wC) (hk0 : kd 0 = 10) (h100 : 100 ∈ wR) (hk100 : kd 100 = 11) (hi : i + 6 ≤ L) (hp : ∀ a0 a1 a2 a3 : Int, okI a0 → okI a1 → okI a2 → okJ a3 → PureI Rel 160 259 [iv a0, iv a1, iv a2, jv a3]) (hR : Rel MC MR) (kk : ∀ MC' MR', Rel MC' MR' → ml_W h l e below Q CE SE 1429 (lLv ad b i) [] MC' MR') : ml_W h l e below Q CE SE 1090 (lLv ad b i) [] MC MR := by
  obtain ⟨x, MC', MR', c1, c2, hR'⟩ := hp (xs (i + 1)).toInt (xs (i + 2)).toInt (xs (i + 3)).toInt (((xs (i + 4)).toInt64 <<< ((32 : Int32).toInt64 &&& 63)) ||| ((xs (i + 5)).toInt64 &&& 4294967295)).toInt (okI_toInt _) (okI_toInt _) (okI_toInt _) (okJ_toInt _) MC MR hR
  refine ml_o1 h (by decide +kernel) ?_
  refine ml_arg h (j := 1) (by decide) hi (by decide +kernel) (by decide +kernel) (by decide +kernel) (by decide +kernel) (by decide +kernel) ?_
  refine ml_arg h (j := 2) (by decide) hi (by decide +kernel) (by decide +kernel) (by decide +kernel) (by decide +kernel) (by decide +kernel) ?_
  refine ml_arg h (j := 3) (by decide) hi (by decide +kernel) (by decide +kernel) (by decide +kernel) (by decide +kernel) (by decide +kernel) ?_
  refine ml_arg h (j := 4) (by decide) hi (by decide +kernel) (by decide +kernel) (by decide +kernel) (by decide +kernel) (by decide +kernel) ?_
  refine ml_i2l h (by decide +kernel) ?_
  refine ml_bipush (n := 32) (x := 32) h (by decide +kernel) rfl ?_
  refine ml_lshl h (by decide +kernel) ?_
  refine ml_arg h (j := 5) (by decide) hi (by decide +kernel) (by decide +kernel) (by decide +kernel) (by decide +kernel) (by decide +kernel) ?_
  refine ml_i2l h (by decide +kernel) ?_
  refine ml_ldc2 (n := 152) (j := 8071) (x := 4294967295) h (by decide +kernel) (by decide +kernel) ?_
  refine ml_land h (by decide +kernel) ?_
  refine ml_lor h (by decide +kernel) ?_
  refine ml_callC h hCE hSE (m := 160) (j := 5063) (idx := 154) (as := [iv (xs (i + 1)).toInt, iv (xs (i + 2)).toInt, iv (xs (i + 3)).toInt, jv (((xs (i + 4)).toInt64 <<< ((32 : Int32).toInt64 &&& 63)) ||| ((xs (i + 5)).toInt64 &&& 4294967295)).toInt]) (rest := []) (by decide +kernel) c1 rfl h0 hk0 rfl (List.forall_mem_cons.mpr ⟨asI _, List.forall_mem_cons.mpr ⟨asI _, List.forall_mem_cons.mpr ⟨asI _, List.forall_mem_cons.mpr ⟨asJ _, (fun v hv => by cases hv)⟩⟩⟩⟩) (by decide +kernel) (show (parseMethodDescriptor (gY 160).desc).map (fun d => d.parameters.length) = some 4 by decide +kernel) ⟨by decide +kernel, by decide +kernel⟩ (by decide +kernel) (by simp [ms_v, ms_r, Int32.ofInt_toInt, Int64.ofInt_toInt]) (by simp [Value.category]) ?_
  refine ml_o2 h (by decide +kernel) ?_
  refine ml_arg h (j := 1) (by decide) hi (by decide +kernel) (by decide +kernel) (by decide +kernel) (by decide +kernel) (by decide +kernel) ?_
  refine ml_arg h (j := 2) (by decide) hi (by decide +kernel) (by decide +kernel) (by decide +kernel) (by decide +kernel) (by decide +kernel) ?_
  refine ml_arg h (j := 3) (by decide) hi (by decide +kernel) (by decide +kernel) (by decide +kernel) (by decide +kernel) (by decide +kernel) ?_
  refine ml_arg h (j := 4) (by decide) hi (by decide +kernel) (by decide +kernel) (by decide +kernel) (by decide +kernel) (by decide +kernel) ?_
  refine ml_i2l h (by decide +kernel) ?_
  refine ml_bipush (n := 32) (x := 32) h (by decide +kernel) rfl ?_
  refine ml_lshl h (by decide +kernel) ?_
  refine ml_arg h (j := 5) (by decide) hi (by decide +kernel) (by decide +kernel) (by decide +kernel) (by decide +kernel) (by decide +kernel) ?_
  refine ml_i2l h (by decide +kernel) ?_
  refine ml_ldc2 (n := 152) (j := 8071) (x := 4294967295) h (by decide +kernel) (by decide +kernel) ?_
  refine ml_land h (by decide +kernel) ?_
  refine ml_lor h (by decide +kernel) ?_
  refine ml_callR h hCE hSE (m := 259) (j := 8003) (idx := 158) (as := [iv (xs (i + 1)).toInt, iv (xs (i + 2)).toInt, iv (xs (i + 3)).toInt, jv (((xs (i + 4)).toInt64 <<< ((32 : Int32).toInt64 &&& 63)) ||| ((xs (i + 5)).toInt64 &&& 4294967295)).toInt]) (rest := [.int (Int32.ofInt x)]) (by decide +kernel) c2 rfl h100 hk100 rfl (List.forall_mem_cons.mpr ⟨asI _, List.forall_mem_cons.mpr ⟨asI _, List.forall_mem_cons.mpr ⟨asI _, List.forall_mem_cons.mpr ⟨asJ _, (fun v hv => by cases hv)⟩⟩⟩⟩) (by decide +kernel) (show (parseMethodDescriptor (gY 259).desc).map (fun d => d.parameters.length) = some 4 by decide +kernel) ⟨by decide +kernel, by decide +kernel⟩ (by decide +kernel) (by simp [ms_v, ms_r, Int32.ofInt_toInt, Int64.ofInt_toInt]) (by simp [Value.category]) ?_
  refine ml_eqI (x := Int32.ofInt x) (st0 := []) (off := 261) (tgt := 1429) h (by decide +kernel) (by decide) ?_
  exact kk MC' MR' hR'
set_option maxRecDepth 100000 in
set_option maxHeartbeats 4000000 in
theorem lc_33 (h : lBun p s mid b L xs meth c D ad kd aC wC wR) (hCE : CE ≤ room_1.cells) (hSE : SE ≤ room_1.slots) (h0 : 0 ∈ wC) (hk0 : kd 0 = 10) (h100 : 100 ∈ wR) (hk100 : kd 100 = 11) (hi : i + 6 ≤ L) (hp : ∀ a0 : Int, (a0 = 0 ∨ a0 = 1) → PureI Rel 161 261 [iv a0]) (hR : Rel MC MR) (kk : ∀ MC' MR', Rel MC' MR' → ml_W h l e below Q CE SE 1429 (lLv ad b i) [] MC' MR') : ml_W h l e below Q CE SE 1173 (lLv ad b i) [] MC MR := by
  obtain ⟨x, MC', MR', c1, c2, hR'⟩ := hp (b01 (xs (i + 1))).toInt (b01_or _) MC MR hR
  refine ml_o1 h (by decide +kernel) ?_
  refine ml_arg h (j := 1) (by decide) hi (by decide +kernel) (by decide +kernel) (by decide +kernel) (by decide +kernel) (by decide +kernel) ?_
  refine ml_bool h (by decide +kernel) (by decide +kernel) (by decide +kernel) (by decide +kernel) ?_
  refine ml_callC h hCE hSE (m := 161) (j := 5080) (idx := 159) (as := [iv (b01 (xs (i + 1))).toInt]) (rest := []) (by decide +kernel) c1 rfl h0 hk0 rfl (List.forall_mem_cons.mpr ⟨asI _, (fun v hv => by cases hv)⟩) (by decide +kernel) (show (parseMethodDescriptor (gY 161).desc).map (fun d => d.parameters.length) = some 1 by decide +kernel) ⟨by decide +kernel, by decide +kernel⟩ (by decide +kernel) (by simp [ms_v, ms_r, Int32.ofInt_toInt, Int64.ofInt_toInt]) (by simp [Value.category]) ?_
  refine ml_o2 h (by decide +kernel) ?_
  refine ml_arg h (j := 1) (by decide) hi (by decide +kernel) (by decide +kernel) (by decide +kernel) (by decide +kernel) (by decide +kernel) ?_
  refine ml_bool h (by decide +kernel) (by decide +kernel) (by decide +kernel) (by decide +kernel) ?_
  refine ml_callR h hCE hSE (m := 261) (j := 8011) (idx := 162) (as := [iv (b01 (xs (i + 1))).toInt]) (rest := [.int (Int32.ofInt x)]) (by decide +kernel) c2 rfl h100 hk100 rfl (List.forall_mem_cons.mpr ⟨asI _, (fun v hv => by cases hv)⟩) (by decide +kernel) (show (parseMethodDescriptor (gY 261).desc).map (fun d => d.parameters.length) = some 1 by decide +kernel) ⟨by decide +kernel, by decide +kernel⟩ (by decide +kernel) (by simp [ms_v, ms_r, Int32.ofInt_toInt, Int64.ofInt_toInt]) (by simp [Value.category]) ?_
  refine ml_eqI (x := Int32.ofInt x) (st0 := []) (off := 222) (tgt := 1429) h (by decide +kernel) (by decide) ?_
  exact kk MC' MR' hR'
set_option maxRecDepth 100000 in
set_option maxHeartbeats 4000000 in
theorem lc_34 (h : lBun p s mid b L xs meth c D ad kd aC wC wR) (hCE : CE ≤ room_1.cells) (hSE : SE ≤ room_1.slots) (h0 : 0 ∈ wC) (hk0 : kd 0 = 10) (h100 : 100 ∈ wR) (hk100 : kd 100 = 11) (hi : i + 6 ≤ L) (hp : ∀ a0 a1 : Int, (a0 = 0 ∨ a0 = 1) → okI a1 → PureI Rel 163 267 [iv a0, iv a1]) (hR : Rel MC MR) (kk : ∀ MC' MR', Rel MC' MR' → ml_W h l e below Q CE SE 1429 (lLv ad b i) [] MC' MR') : ml_W h l e below Q CE SE 1212 (lLv ad b i) [] MC MR := by
  obtain ⟨x, MC', MR', c1, c2, hR'⟩ := hp (b01 (xs (i + 1))).toInt (xs (i + 2)).toInt (b01_or _) (okI_toInt _) MC MR hR
  refine ml_o1 h (by decide +kernel) ?_
  refine ml_arg h (j := 1) (by decide) hi (by decide +kernel) (by decide +kernel) (by decide +kernel) (by decide +kernel) (by decide +kernel) ?_
  refine ml_bool h (by decide +kernel) (by decide +kernel) (by decide +kernel) (by decide +kernel) ?_
  refine ml_arg h (j := 2) (by decide) hi (by decide +kernel) (by decide +kernel) (by decide +kernel) (by decide +kernel) (by decide +kernel) ?_
  refine ml_callC h hCE hSE (m := 163) (j := 5116) (idx := 163) (as := [iv (b01 (xs (i + 1))).toInt, iv (xs (i + 2)).toInt]) (rest := []) (by decide +kernel) c1 rfl h0 hk0 rfl (List.forall_mem_cons.mpr ⟨asI _, List.forall_mem_cons.mpr ⟨asI _, (fun v hv => by cases hv)⟩⟩) (by decide +kernel) (show (parseMethodDescriptor (gY 163).desc).map (fun d => d.parameters.length) = some 2 by decide +kernel) ⟨by decide +kernel, by decide +kernel⟩ (by decide +kernel) (by simp [ms_v, ms_r, Int32.ofInt_toInt, Int64.ofInt_toInt]) (by simp [Value.category]) ?_
  refine ml_o2 h (by decide +kernel) ?_
  refine ml_arg h (j := 1) (by decide) hi (by decide +kernel) (by decide +kernel) (by decide +kernel) (by decide +kernel) (by decide +kernel) ?_
  refine ml_bool h (by decide +kernel) (by decide +kernel) (by decide +kernel) (by decide +kernel) ?_
  refine ml_arg h (j := 2) (by decide) hi (by decide +kernel) (by decide +kernel) (by decide +kernel) (by decide +kernel) (by decide +kernel) ?_
  refine ml_callR h hCE hSE (m := 267) (j := 8035) (idx := 167) (as := [iv (b01 (xs (i + 1))).toInt, iv (xs (i + 2)).toInt]) (rest := [.int (Int32.ofInt x)]) (by decide +kernel) c2 rfl h100 hk100 rfl (List.forall_mem_cons.mpr ⟨asI _, List.forall_mem_cons.mpr ⟨asI _, (fun v hv => by cases hv)⟩⟩) (by decide +kernel) (show (parseMethodDescriptor (gY 267).desc).map (fun d => d.parameters.length) = some 2 by decide +kernel) ⟨by decide +kernel, by decide +kernel⟩ (by decide +kernel) (by simp [ms_v, ms_r, Int32.ofInt_toInt, Int64.ofInt_toInt]) (by simp [Value.category]) ?_
  refine ml_eqI (x := Int32.ofInt x) (st0 := []) (off := 173) (tgt := 1429) h (by decide +kernel) (by decide) ?_
  exact kk MC' MR' hR'
set_option maxRecDepth 100000 in
set_option maxHeartbeats 4000000 in
theorem lc_35 (h : lBun p s mid b L xs meth c D ad kd aC wC wR) (hCE : CE ≤ room_1.cells) (hSE : SE ≤ room_1.slots) (h0 : 0 ∈ wC) (hk0 : kd 0 = 10) (h100 : 100 ∈ wR) (hk100 : kd 100 = 11) (hi : i + 6 ≤ L) (hp : PureI Rel 164 268 []) (hR : Rel MC MR) (kk : ∀ MC' MR', Rel MC' MR' → ml_W h l e below Q CE SE 1429 (lLv ad b i) [] MC' MR') : ml_W h l e below Q CE SE 1261 (lLv ad b i) [] MC MR := by
  obtain ⟨x, MC', MR', c1, c2, hR'⟩ := hp   MC MR hR
  refine ml_o1 h (by decide +kernel) ?_
  refine ml_callC h hCE hSE (m := 164) (j := 5124) (idx := 168) (as := []) (rest := []) (by decide +kernel) c1 rfl h0 hk0 rfl ((fun v hv => by cases hv)) (by decide +kernel) (show (parseMethodDescriptor (gY 164).desc).map (fun d => d.parameters.length) = some 0 by decide +kernel) ⟨by decide +kernel, by decide +kernel⟩ (by decide +kernel) (by simp [ms_v, ms_r, Int32.ofInt_toInt, Int64.ofInt_toInt]) (by simp [Value.category]) ?_
  refine ml_o2 h (by decide +kernel) ?_
  refine ml_callR h hCE hSE (m := 268) (j := 8039) (idx := 171) (as := []) (rest := [.int (Int32.ofInt x)]) (by decide +kernel) c2 rfl h100 hk100 rfl ((fun v hv => by cases hv)) (by decide +kernel) (show (parseMethodDescriptor (gY 268).desc).map (fun d => d.parameters.length) = some 0 by decide +kernel) ⟨by decide +kernel, by decide +kernel⟩ (by decide +kernel) (by simp [ms_v, ms_r, Int32.ofInt_toInt, Int64.ofInt_toInt]) (by simp [Value.category]) ?_
  refine ml_eqI (x := Int32.ofInt x) (st0 := []) (off := 160) (tgt := 1429) h (by decide +kernel) (by decide) ?_
  exact kk MC' MR' hR'
set_option maxRecDepth 100000 in
set_option maxHeartbeats 4000000 in
theorem lc_36 (h : lBun p s mid b L xs meth c D ad kd aC wC wR) (hCE : CE ≤ room_1.cells) (hSE : SE ≤ room_1.slots) (h0 : 0 ∈ wC) (hk0 : kd 0 = 10) (h100 : 100 ∈ wR) (hk100 : kd 100 = 11) (hi : i + 6 ≤ L) (hp : ∀ a0 a1 : Int, okI a0 → okI a1 → PureI Rel 165 269 [iv a0, iv a1]) (hR : Rel MC MR) (kk : ∀ MC' MR', Rel MC' MR' → ml_W h l e below Q CE SE 1429 (lLv ad b i) [] MC' MR') : ml_W h l e below Q CE SE 1274 (lLv ad b i) [] MC MR := by
  obtain ⟨x, MC', MR', c1, c2, hR'⟩ := hp (xs (i + 1)).toInt (xs (i + 2)).toInt (okI_toInt _) (okI_toInt _) MC MR hR
  refine ml_o1 h (by decide +kernel) ?_
  refine ml_arg h (j := 1) (by decide) hi (by decide +kernel) (by decide +kernel) (by decide +kernel) (by decide +kernel) (by decide +kernel) ?_
  refine ml_arg h (j := 2) (by decide) hi (by decide +kernel) (by decide +kernel) (by decide +kernel) (by decide +kernel) (by decide +kernel) ?_
  refine ml_callC h hCE hSE (m := 165) (j := 5136) (idx := 172) (as := [iv (xs (i + 1)).toInt, iv (xs (i + 2)).toInt]) (rest := []) (by decide +kernel) c1 rfl h0 hk0 rfl (List.forall_mem_cons.mpr ⟨asI _, List.forall_mem_cons.mpr ⟨asI _, (fun v hv => by cases hv)⟩⟩) (by decide +kernel) (show (parseMethodDescriptor (gY 165).desc).map (fun d => d.parameters.length) = some 2 by decide +kernel) ⟨by decide +kernel, by decide +kernel⟩ (by decide +kernel) (by simp [ms_v, ms_r, Int32.ofInt_toInt, Int64.ofInt_toInt]) (by simp [Value.category]) ?_
  refine ml_o2 h (by decide +kernel) ?_
  refine ml_arg h (j := 1) (by decide) hi (by decide +kernel) (by decide +kernel) (by decide +kernel) (by decide +kernel) (by decide +kernel) ?_
  refine ml_arg h (j := 2) (by decide) hi (by decide +kernel) (by decide +kernel) (by decide +kernel) (by decide +kernel) (by decide +kernel) ?_
  refine ml_callR h hCE hSE (m := 269) (j := 8043) (idx := 175) (as := [iv (xs (i + 1)).toInt, iv (xs (i + 2)).toInt]) (rest := [.int (Int32.ofInt x)]) (by decide +kernel) c2 rfl h100 hk100 rfl (List.forall_mem_cons.mpr ⟨asI _, List.forall_mem_cons.mpr ⟨asI _, (fun v hv => by cases hv)⟩⟩) (by decide +kernel) (show (parseMethodDescriptor (gY 269).desc).map (fun d => d.parameters.length) = some 2 by decide +kernel) ⟨by decide +kernel, by decide +kernel⟩ (by decide +kernel) (by simp [ms_v, ms_r, Int32.ofInt_toInt, Int64.ofInt_toInt]) (by simp [Value.category]) ?_
  refine ml_eqI (x := Int32.ofInt x) (st0 := []) (off := 127) (tgt := 1429) h (by decide +kernel) (by decide) ?_
  exact kk MC' MR' hR'
set_option maxRecDepth 100000 in
set_option maxHeartbeats 4000000 in
theorem lc_37 (h : lBun p s mid b L xs meth c D ad kd aC wC wR) (hCE : CE ≤ room_1.cells) (hSE : SE ≤ room_1.slots) (h0 : 0 ∈ wC) (hk0 : kd 0 = 10) (h100 : 100 ∈ wR) (hk100 : kd 100 = 11) (hi : i + 6 ≤ L) (hp : ∀ a0 : Int, okI a0 → PureI Rel 166 270 [iv a0]) (hR : Rel MC MR) (kk : ∀ MC' MR', Rel MC' MR' → ml_W h l e below Q CE SE 1429 (lLv ad b i) [] MC' MR') : ml_W h l e below Q CE SE 1307 (lLv ad b i) [] MC MR := by
  obtain ⟨x, MC', MR', c1, c2, hR'⟩ := hp (xs (i + 1)).toInt (okI_toInt _) MC MR hR
  refine ml_o1 h (by decide +kernel) ?_
  refine ml_arg h (j := 1) (by decide) hi (by decide +kernel) (by decide +kernel) (by decide +kernel) (by decide +kernel) (by decide +kernel) ?_
  refine ml_callC h hCE hSE (m := 166) (j := 5146) (idx := 176) (as := [iv (xs (i + 1)).toInt]) (rest := []) (by decide +kernel) c1 rfl h0 hk0 rfl (List.forall_mem_cons.mpr ⟨asI _, (fun v hv => by cases hv)⟩) (by decide +kernel) (show (parseMethodDescriptor (gY 166).desc).map (fun d => d.parameters.length) = some 1 by decide +kernel) ⟨by decide +kernel, by decide +kernel⟩ (by decide +kernel) (by simp [ms_v, ms_r, Int32.ofInt_toInt, Int64.ofInt_toInt]) (by simp [Value.category]) ?_
  refine ml_o2 h (by decide +kernel) ?_
  refine ml_arg h (j := 1) (by decide) hi (by decide +kernel) (by decide +kernel) (by decide +kernel) (by decide +kernel) (by decide +kernel) ?_
  refine ml_callR h hCE hSE (m := 270) (j := 8047) (idx := 179) (as := [iv (xs (i + 1)).toInt]) (rest := [.int (Int32.ofInt x)]) (by decide +kernel) c2 rfl h100 hk100 rfl (List.forall_mem_cons.mpr ⟨asI _, (fun v hv => by cases hv)⟩) (by decide +kernel) (show (parseMethodDescriptor (gY 270).desc).map (fun d => d.parameters.length) = some 1 by decide +kernel) ⟨by decide +kernel, by decide +kernel⟩ (by decide +kernel) (by simp [ms_v, ms_r, Int32.ofInt_toInt, Int64.ofInt_toInt]) (by simp [Value.category]) ?_
  refine ml_eqI (x := Int32.ofInt x) (st0 := []) (off := 104) (tgt := 1429) h (by decide +kernel) (by decide) ?_
  exact kk MC' MR' hR'
set_option maxRecDepth 100000 in
set_option maxHeartbeats 4000000 in
theorem lc_38 (h : lBun p s mid b L xs meth c D ad kd aC wC wR) (hCE : CE ≤ room_1.cells) (hSE : SE ≤ room_1.slots) (h0 : 0 ∈ wC) (hk0 : kd 0 = 10) (h100 : 100 ∈ wR) (hk100 : kd 100 = 11) (hi : i + 6 ≤ L) (hp : ∀ a0 a1 a2 : Int, okI a0 → okI a1 → okI a2 → PureI Rel 167 272 [iv a0, iv a1, iv a2]) (hR : Rel MC MR) (kk : ∀ MC' MR', Rel MC' MR' → ml_W h l e below Q CE SE 1429 (lLv ad b i) [] MC' MR') : ml_W h l e below Q CE SE 1330 (lLv ad b i) [] MC MR := by
  obtain ⟨x, MC', MR', c1, c2, hR'⟩ := hp (xs (i + 1)).toInt (xs (i + 2)).toInt (xs (i + 3)).toInt (okI_toInt _) (okI_toInt _) (okI_toInt _) MC MR hR
  refine ml_o1 h (by decide +kernel) ?_
  refine ml_arg h (j := 1) (by decide) hi (by decide +kernel) (by decide +kernel) (by decide +kernel) (by decide +kernel) (by decide +kernel) ?_
  refine ml_arg h (j := 2) (by decide) hi (by decide +kernel) (by decide +kernel) (by decide +kernel) (by decide +kernel) (by decide +kernel) ?_
  refine ml_arg h (j := 3) (by decide) hi (by decide +kernel) (by decide +kernel) (by decide +kernel) (by decide +kernel) (by decide +kernel) ?_
  refine ml_callC h hCE hSE (m := 167) (j := 5154) (idx := 180) (as := [iv (xs (i + 1)).toInt, iv (xs (i + 2)).toInt, iv (xs (i + 3)).toInt]) (rest := []) (by decide +kernel) c1 rfl h0 hk0 rfl (List.forall_mem_cons.mpr ⟨asI _, List.forall_mem_cons.mpr ⟨asI _, List.forall_mem_cons.mpr ⟨asI _, (fun v hv => by cases hv)⟩⟩⟩) (by decide +kernel) (show (parseMethodDescriptor (gY 167).desc).map (fun d => d.parameters.length) = some 3 by decide +kernel) ⟨by decide +kernel, by decide +kernel⟩ (by decide +kernel) (by simp [ms_v, ms_r, Int32.ofInt_toInt, Int64.ofInt_toInt]) (by simp [Value.category]) ?_
  refine ml_o2 h (by decide +kernel) ?_
  refine ml_arg h (j := 1) (by decide) hi (by decide +kernel) (by decide +kernel) (by decide +kernel) (by decide +kernel) (by decide +kernel) ?_
  refine ml_arg h (j := 2) (by decide) hi (by decide +kernel) (by decide +kernel) (by decide +kernel) (by decide +kernel) (by decide +kernel) ?_
  refine ml_arg h (j := 3) (by decide) hi (by decide +kernel) (by decide +kernel) (by decide +kernel) (by decide +kernel) (by decide +kernel) ?_
  refine ml_callR h hCE hSE (m := 272) (j := 8055) (idx := 183) (as := [iv (xs (i + 1)).toInt, iv (xs (i + 2)).toInt, iv (xs (i + 3)).toInt]) (rest := [.int (Int32.ofInt x)]) (by decide +kernel) c2 rfl h100 hk100 rfl (List.forall_mem_cons.mpr ⟨asI _, List.forall_mem_cons.mpr ⟨asI _, List.forall_mem_cons.mpr ⟨asI _, (fun v hv => by cases hv)⟩⟩⟩) (by decide +kernel) (show (parseMethodDescriptor (gY 272).desc).map (fun d => d.parameters.length) = some 3 by decide +kernel) ⟨by decide +kernel, by decide +kernel⟩ (by decide +kernel) (by simp [ms_v, ms_r, Int32.ofInt_toInt, Int64.ofInt_toInt]) (by simp [Value.category]) ?_
  refine ml_eqI (x := Int32.ofInt x) (st0 := []) (off := 61) (tgt := 1429) h (by decide +kernel) (by decide) ?_
  exact kk MC' MR' hR'
set_option maxRecDepth 100000 in
set_option maxHeartbeats 4000000 in
theorem lc_39 (h : lBun p s mid b L xs meth c D ad kd aC wC wR) (hCE : CE ≤ room_1.cells) (hSE : SE ≤ room_1.slots) (h0 : 0 ∈ wC) (hk0 : kd 0 = 10) (h100 : 100 ∈ wR) (hk100 : kd 100 = 11) (hi : i + 6 ≤ L) (hp : ∀ a0 a1 : Int, okI a0 → okI a1 → PureI Rel 168 274 [iv a0, iv a1]) (hR : Rel MC MR) (kk : ∀ MC' MR', Rel MC' MR' → ml_W h l e below Q CE SE 1429 (lLv ad b i) [] MC' MR') : ml_W h l e below Q CE SE 1373 (lLv ad b i) [] MC MR := by
  obtain ⟨x, MC', MR', c1, c2, hR'⟩ := hp (xs (i + 1)).toInt (xs (i + 2)).toInt (okI_toInt _) (okI_toInt _) MC MR hR
  refine ml_o1 h (by decide +kernel) ?_
  refine ml_arg h (j := 1) (by decide) hi (by decide +kernel) (by decide +kernel) (by decide +kernel) (by decide +kernel) (by decide +kernel) ?_
  refine ml_arg h (j := 2) (by decide) hi (by decide +kernel) (by decide +kernel) (by decide +kernel) (by decide +kernel) (by decide +kernel) ?_
  refine ml_callC h hCE hSE (m := 168) (j := 5176) (idx := 184) (as := [iv (xs (i + 1)).toInt, iv (xs (i + 2)).toInt]) (rest := []) (by decide +kernel) c1 rfl h0 hk0 rfl (List.forall_mem_cons.mpr ⟨asI _, List.forall_mem_cons.mpr ⟨asI _, (fun v hv => by cases hv)⟩⟩) (by decide +kernel) (show (parseMethodDescriptor (gY 168).desc).map (fun d => d.parameters.length) = some 2 by decide +kernel) ⟨by decide +kernel, by decide +kernel⟩ (by decide +kernel) (by simp [ms_v, ms_r, Int32.ofInt_toInt, Int64.ofInt_toInt]) (by simp [Value.category]) ?_
  refine ml_o2 h (by decide +kernel) ?_
  refine ml_arg h (j := 1) (by decide) hi (by decide +kernel) (by decide +kernel) (by decide +kernel) (by decide +kernel) (by decide +kernel) ?_
  refine ml_arg h (j := 2) (by decide) hi (by decide +kernel) (by decide +kernel) (by decide +kernel) (by decide +kernel) (by decide +kernel) ?_
  refine ml_callR h hCE hSE (m := 274) (j := 8063) (idx := 187) (as := [iv (xs (i + 1)).toInt, iv (xs (i + 2)).toInt]) (rest := [.int (Int32.ofInt x)]) (by decide +kernel) c2 rfl h100 hk100 rfl (List.forall_mem_cons.mpr ⟨asI _, List.forall_mem_cons.mpr ⟨asI _, (fun v hv => by cases hv)⟩⟩) (by decide +kernel) (show (parseMethodDescriptor (gY 274).desc).map (fun d => d.parameters.length) = some 2 by decide +kernel) ⟨by decide +kernel, by decide +kernel⟩ (by decide +kernel) (by simp [ms_v, ms_r, Int32.ofInt_toInt, Int64.ofInt_toInt]) (by simp [Value.category]) ?_
  refine ml_eqI (x := Int32.ofInt x) (st0 := []) (off := 28) (tgt := 1429) h (by decide +kernel) (by decide) ?_
  exact kk MC' MR' hR'
set_option maxRecDepth 100000 in
set_option maxHeartbeats 4000000 in
theorem lc_40 (h : lBun p s mid b L xs meth c D ad kd aC wC wR) (hCE : CE ≤ room_1.cells) (hSE : SE ≤ room_1.slots) (h0 : 0 ∈ wC) (hk0 : kd 0 = 10) (h100 : 100 ∈ wR) (hk100 : kd 100 = 11) (hi : i + 6 ≤ L) (hp : ∀ a0 : Int, okI a0 → PureI Rel 169 275 [iv a0]) (hR : Rel MC MR) (kk : ∀ MC' MR', Rel MC' MR' → ml_W h l e below Q CE SE 1429 (lLv ad b i) [] MC' MR') : ml_W h l e below Q CE SE 1406 (lLv ad b i) [] MC MR := by
  obtain ⟨x, MC', MR', c1, c2, hR'⟩ := hp (xs (i + 1)).toInt (okI_toInt _) MC MR hR
  refine ml_o1 h (by decide +kernel) ?_
  refine ml_arg h (j := 1) (by decide) hi (by decide +kernel) (by decide +kernel) (by decide +kernel) (by decide +kernel) (by decide +kernel) ?_
  refine ml_callC h hCE hSE (m := 169) (j := 5184) (idx := 188) (as := [iv (xs (i + 1)).toInt]) (rest := []) (by decide +kernel) c1 rfl h0 hk0 rfl (List.forall_mem_cons.mpr ⟨asI _, (fun v hv => by cases hv)⟩) (by decide +kernel) (show (parseMethodDescriptor (gY 169).desc).map (fun d => d.parameters.length) = some 1 by decide +kernel) ⟨by decide +kernel, by decide +kernel⟩ (by decide +kernel) (by simp [ms_v, ms_r, Int32.ofInt_toInt, Int64.ofInt_toInt]) (by simp [Value.category]) ?_
  refine ml_o2 h (by decide +kernel) ?_
  refine ml_arg h (j := 1) (by decide) hi (by decide +kernel) (by decide +kernel) (by decide +kernel) (by decide +kernel) (by decide +kernel) ?_
  refine ml_callR h hCE hSE (m := 275) (j := 8067) (idx := 191) (as := [iv (xs (i + 1)).toInt]) (rest := [.int (Int32.ofInt x)]) (by decide +kernel) c2 rfl h100 hk100 rfl (List.forall_mem_cons.mpr ⟨asI _, (fun v hv => by cases hv)⟩) (by decide +kernel) (show (parseMethodDescriptor (gY 275).desc).map (fun d => d.parameters.length) = some 1 by decide +kernel) ⟨by decide +kernel, by decide +kernel⟩ (by decide +kernel) (by simp [ms_v, ms_r, Int32.ofInt_toInt, Int64.ofInt_toInt]) (by simp [Value.category]) ?_
  refine ml_eqI (x := Int32.ofInt x) (st0 := []) (off := 5) (tgt := 1429) h (by decide +kernel) (by decide) ?_
  exact kk MC' MR' hR'
end LC
