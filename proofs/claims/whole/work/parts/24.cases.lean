/-! The law's cases: by program. -/
def PureI (Rel : mM → mM → Prop) (mC mR : Nat) (as : List mV) : Prop := ∀ MC MR, Rel MC MR → ∃ x MC' MR', gC mC (rv 10 0 :: as) MC = some (iv x, MC') ∧ gC mR (rv 11 100 :: as) MR = some (iv x, MR') ∧ Rel MC' MR'
def PureJ (Rel : mM → mM → Prop) (mC mR : Nat) (as : List mV) : Prop := ∀ MC MR, Rel MC MR → ∃ x MC' MR', gC mC (rv 10 0 :: as) MC = some (jv x, MC') ∧ gC mR (rv 11 100 :: as) MR = some (jv x, MR') ∧ Rel MC' MR'
theorem asI {kd : Nat → Nat} {w : List Nat} (x : Int32) : (iv x.toInt : mV) ≠ none ∧ ms_ok kd w (iv x.toInt) := ⟨by simp, okI_toInt x⟩
theorem asJ {kd : Nat → Nat} {w : List Nat} (x : Int64) : (jv x.toInt : mV) ≠ none ∧ ms_ok kd w (jv x.toInt) := ⟨by simp, okJ_toInt x⟩
section LC
variable {p : Program} {l : Launch} {e : Env} {s : State} {mid : MethodId} {b L : Nat} {xs : Nat → Int32} {below : List Frame} {meth : Method} {c : Code} {D : va_G} {ad kd : Nat → Nat} {aC : Nat → ClassId} {wC wR : List Nat} {Q : State → Prop} {CE SE i : Nat} {MC MR : mM} {Rel : mM → mM → Prop}
theorem b01_or (x : Int32) : (b01 x).toInt = 0 ∨ (b01 x).toInt = 1 := by
  unfold b01
  split
  · exact Or.inl rfl
  · exact Or.inr rfl
set_option maxRecDepth 100000 in
set_option maxHeartbeats 4000000 in
theorem lc_0 (h : lBun p s mid b L xs meth c D ad kd aC wC wR) (hCE : CE ≤ room_1.cells) (hSE : SE ≤ room_1.slots) (h0 : 0 ∈ wC) (hk0 : kd 0 = 10) (h100 : 100 ∈ wR) (hk100 : kd 100 = 11) (hi : i + 6 ≤ L) (hp : ∀ a0 a1 a2 a3 a4 : Int, okI a0 → okI a1 → okI a2 → okI a3 → okI a4 → PureI Rel 124 177 [iv a0, iv a1, iv a2, iv a3, iv a4]) (hR : Rel MC MR) (kk : ∀ MC' MR', Rel MC' MR' → ml_W h l e below Q CE SE 1429 (lLv ad b i) [] MC' MR') : ml_W h l e below Q CE SE 212 (lLv ad b i) [] MC MR := by
  obtain ⟨x, MC', MR', c1, c2, hR'⟩ := hp (xs (i + 1)).toInt (xs (i + 2)).toInt (xs (i + 3)).toInt (xs (i + 4)).toInt (xs (i + 5)).toInt (okI_toInt _) (okI_toInt _) (okI_toInt _) (okI_toInt _) (okI_toInt _) MC MR hR
  refine ml_o1 h (by decide +kernel) ?_
  refine ml_arg h (j := 1) (by decide) hi (by decide +kernel) (by decide +kernel) (by decide +kernel) (by decide +kernel) (by decide +kernel) ?_
  refine ml_arg h (j := 2) (by decide) hi (by decide +kernel) (by decide +kernel) (by decide +kernel) (by decide +kernel) (by decide +kernel) ?_
  refine ml_arg h (j := 3) (by decide) hi (by decide +kernel) (by decide +kernel) (by decide +kernel) (by decide +kernel) (by decide +kernel) ?_
  refine ml_arg h (j := 4) (by decide) hi (by decide +kernel) (by decide +kernel) (by decide +kernel) (by decide +kernel) (by decide +kernel) ?_
  refine ml_arg h (j := 5) (by decide) hi (by decide +kernel) (by decide +kernel) (by decide +kernel) (by decide +kernel) (by decide +kernel) ?_
  refine ml_callC h hCE hSE (m := 124) (j := 2102) (idx := 13) (as := [iv (xs (i + 1)).toInt, iv (xs (i + 2)).toInt, iv (xs (i + 3)).toInt, iv (xs (i + 4)).toInt, iv (xs (i + 5)).toInt]) (rest := []) (by decide +kernel) c1 rfl h0 hk0 rfl (List.forall_mem_cons.mpr ⟨asI _, List.forall_mem_cons.mpr ⟨asI _, List.forall_mem_cons.mpr ⟨asI _, List.forall_mem_cons.mpr ⟨asI _, List.forall_mem_cons.mpr ⟨asI _, (fun v hv => by cases hv)⟩⟩⟩⟩⟩) (by decide +kernel) (show (parseMethodDescriptor (gY 124).desc).map (fun d => d.parameters.length) = some 5 by decide +kernel) ⟨by decide +kernel, by decide +kernel⟩ (by decide +kernel) (by simp [ms_v, ms_r, Int32.ofInt_toInt, Int64.ofInt_toInt]) (by simp [Value.category]) ?_
  refine ml_o2 h (by decide +kernel) ?_
  refine ml_arg h (j := 1) (by decide) hi (by decide +kernel) (by decide +kernel) (by decide +kernel) (by decide +kernel) (by decide +kernel) ?_
  refine ml_arg h (j := 2) (by decide) hi (by decide +kernel) (by decide +kernel) (by decide +kernel) (by decide +kernel) (by decide +kernel) ?_
  refine ml_arg h (j := 3) (by decide) hi (by decide +kernel) (by decide +kernel) (by decide +kernel) (by decide +kernel) (by decide +kernel) ?_
  refine ml_arg h (j := 4) (by decide) hi (by decide +kernel) (by decide +kernel) (by decide +kernel) (by decide +kernel) (by decide +kernel) ?_
  refine ml_arg h (j := 5) (by decide) hi (by decide +kernel) (by decide +kernel) (by decide +kernel) (by decide +kernel) (by decide +kernel) ?_
  refine ml_callR h hCE hSE (m := 177) (j := 6153) (idx := 17) (as := [iv (xs (i + 1)).toInt, iv (xs (i + 2)).toInt, iv (xs (i + 3)).toInt, iv (xs (i + 4)).toInt, iv (xs (i + 5)).toInt]) (rest := [.int (Int32.ofInt x)]) (by decide +kernel) c2 rfl h100 hk100 rfl (List.forall_mem_cons.mpr ⟨asI _, List.forall_mem_cons.mpr ⟨asI _, List.forall_mem_cons.mpr ⟨asI _, List.forall_mem_cons.mpr ⟨asI _, List.forall_mem_cons.mpr ⟨asI _, (fun v hv => by cases hv)⟩⟩⟩⟩⟩) (by decide +kernel) (show (parseMethodDescriptor (gY 177).desc).map (fun d => d.parameters.length) = some 5 by decide +kernel) ⟨by decide +kernel, by decide +kernel⟩ (by decide +kernel) (by simp [ms_v, ms_r, Int32.ofInt_toInt, Int64.ofInt_toInt]) (by simp [Value.category]) ?_
  refine ml_eqI (x := Int32.ofInt x) (st0 := []) (off := 1159) (tgt := 1429) h (by decide +kernel) (by decide) ?_
  exact kk MC' MR' hR'
set_option maxRecDepth 100000 in
set_option maxHeartbeats 4000000 in
theorem lc_1 (h : lBun p s mid b L xs meth c D ad kd aC wC wR) (hCE : CE ≤ room_1.cells) (hSE : SE ≤ room_1.slots) (h0 : 0 ∈ wC) (hk0 : kd 0 = 10) (h100 : 100 ∈ wR) (hk100 : kd 100 = 11) (hi : i + 6 ≤ L) (hp : ∀ a0 : Int, okI a0 → PureI Rel 126 179 [iv a0]) (hR : Rel MC MR) (kk : ∀ MC' MR', Rel MC' MR' → ml_W h l e below Q CE SE 1429 (lLv ad b i) [] MC' MR') : ml_W h l e below Q CE SE 275 (lLv ad b i) [] MC MR := by
  obtain ⟨x, MC', MR', c1, c2, hR'⟩ := hp (xs (i + 1)).toInt (okI_toInt _) MC MR hR
  refine ml_o1 h (by decide +kernel) ?_
  refine ml_arg h (j := 1) (by decide) hi (by decide +kernel) (by decide +kernel) (by decide +kernel) (by decide +kernel) (by decide +kernel) ?_
  refine ml_callC h hCE hSE (m := 126) (j := 2110) (idx := 18) (as := [iv (xs (i + 1)).toInt]) (rest := []) (by decide +kernel) c1 rfl h0 hk0 rfl (List.forall_mem_cons.mpr ⟨asI _, (fun v hv => by cases hv)⟩) (by decide +kernel) (show (parseMethodDescriptor (gY 126).desc).map (fun d => d.parameters.length) = some 1 by decide +kernel) ⟨by decide +kernel, by decide +kernel⟩ (by decide +kernel) (by simp [ms_v, ms_r, Int32.ofInt_toInt, Int64.ofInt_toInt]) (by simp [Value.category]) ?_
  refine ml_o2 h (by decide +kernel) ?_
  refine ml_arg h (j := 1) (by decide) hi (by decide +kernel) (by decide +kernel) (by decide +kernel) (by decide +kernel) (by decide +kernel) ?_
  refine ml_callR h hCE hSE (m := 179) (j := 6161) (idx := 22) (as := [iv (xs (i + 1)).toInt]) (rest := [.int (Int32.ofInt x)]) (by decide +kernel) c2 rfl h100 hk100 rfl (List.forall_mem_cons.mpr ⟨asI _, (fun v hv => by cases hv)⟩) (by decide +kernel) (show (parseMethodDescriptor (gY 179).desc).map (fun d => d.parameters.length) = some 1 by decide +kernel) ⟨by decide +kernel, by decide +kernel⟩ (by decide +kernel) (by simp [ms_v, ms_r, Int32.ofInt_toInt, Int64.ofInt_toInt]) (by simp [Value.category]) ?_
  refine ml_eqI (x := Int32.ofInt x) (st0 := []) (off := 1136) (tgt := 1429) h (by decide +kernel) (by decide) ?_
  exact kk MC' MR' hR'
set_option maxRecDepth 100000 in
set_option maxHeartbeats 4000000 in
theorem lc_2 (h : lBun p s mid b L xs meth c D ad kd aC wC wR) (hCE : CE ≤ room_1.cells) (hSE : SE ≤ room_1.slots) (h0 : 0 ∈ wC) (hk0 : kd 0 = 10) (h100 : 100 ∈ wR) (hk100 : kd 100 = 11) (hi : i + 6 ≤ L) (hp : PureI Rel 127 180 []) (hR : Rel MC MR) (kk : ∀ MC' MR', Rel MC' MR' → ml_W h l e below Q CE SE 1429 (lLv ad b i) [] MC' MR') : ml_W h l e below Q CE SE 298 (lLv ad b i) [] MC MR := by
  obtain ⟨x, MC', MR', c1, c2, hR'⟩ := hp   MC MR hR
  refine ml_o1 h (by decide +kernel) ?_
  refine ml_callC h hCE hSE (m := 127) (j := 2114) (idx := 23) (as := []) (rest := []) (by decide +kernel) c1 rfl h0 hk0 rfl ((fun v hv => by cases hv)) (by decide +kernel) (show (parseMethodDescriptor (gY 127).desc).map (fun d => d.parameters.length) = some 0 by decide +kernel) ⟨by decide +kernel, by decide +kernel⟩ (by decide +kernel) (by simp [ms_v, ms_r, Int32.ofInt_toInt, Int64.ofInt_toInt]) (by simp [Value.category]) ?_
  refine ml_o2 h (by decide +kernel) ?_
  refine ml_callR h hCE hSE (m := 180) (j := 6165) (idx := 27) (as := []) (rest := [.int (Int32.ofInt x)]) (by decide +kernel) c2 rfl h100 hk100 rfl ((fun v hv => by cases hv)) (by decide +kernel) (show (parseMethodDescriptor (gY 180).desc).map (fun d => d.parameters.length) = some 0 by decide +kernel) ⟨by decide +kernel, by decide +kernel⟩ (by decide +kernel) (by simp [ms_v, ms_r, Int32.ofInt_toInt, Int64.ofInt_toInt]) (by simp [Value.category]) ?_
  refine ml_eqI (x := Int32.ofInt x) (st0 := []) (off := 1123) (tgt := 1429) h (by decide +kernel) (by decide) ?_
  exact kk MC' MR' hR'
set_option maxRecDepth 100000 in
set_option maxHeartbeats 4000000 in
theorem lc_3 (h : lBun p s mid b L xs meth c D ad kd aC wC wR) (hCE : CE ≤ room_1.cells) (hSE : SE ≤ room_1.slots) (h0 : 0 ∈ wC) (hk0 : kd 0 = 10) (h100 : 100 ∈ wR) (hk100 : kd 100 = 11) (hi : i + 6 ≤ L) (hp : PureI Rel 130 202 []) (hR : Rel MC MR) (kk : ∀ MC' MR', Rel MC' MR' → ml_W h l e below Q CE SE 1429 (lLv ad b i) [] MC' MR') : ml_W h l e below Q CE SE 311 (lLv ad b i) [] MC MR := by
  obtain ⟨x, MC', MR', c1, c2, hR'⟩ := hp   MC MR hR
  refine ml_o1 h (by decide +kernel) ?_
  refine ml_callC h hCE hSE (m := 130) (j := 3122) (idx := 28) (as := []) (rest := []) (by decide +kernel) c1 rfl h0 hk0 rfl ((fun v hv => by cases hv)) (by decide +kernel) (show (parseMethodDescriptor (gY 130).desc).map (fun d => d.parameters.length) = some 0 by decide +kernel) ⟨by decide +kernel, by decide +kernel⟩ (by decide +kernel) (by simp [ms_v, ms_r, Int32.ofInt_toInt, Int64.ofInt_toInt]) (by simp [Value.category]) ?_
  refine ml_o2 h (by decide +kernel) ?_
  refine ml_callR h hCE hSE (m := 202) (j := 7010) (idx := 31) (as := []) (rest := [.int (Int32.ofInt x)]) (by decide +kernel) c2 rfl h100 hk100 rfl ((fun v hv => by cases hv)) (by decide +kernel) (show (parseMethodDescriptor (gY 202).desc).map (fun d => d.parameters.length) = some 0 by decide +kernel) ⟨by decide +kernel, by decide +kernel⟩ (by decide +kernel) (by simp [ms_v, ms_r, Int32.ofInt_toInt, Int64.ofInt_toInt]) (by simp [Value.category]) ?_
  refine ml_eqI (x := Int32.ofInt x) (st0 := []) (off := 1110) (tgt := 1429) h (by decide +kernel) (by decide) ?_
  exact kk MC' MR' hR'
set_option maxRecDepth 100000 in
set_option maxHeartbeats 4000000 in
theorem lc_4 (h : lBun p s mid b L xs meth c D ad kd aC wC wR) (hCE : CE ≤ room_1.cells) (hSE : SE ≤ room_1.slots) (h0 : 0 ∈ wC) (hk0 : kd 0 = 10) (h100 : 100 ∈ wR) (hk100 : kd 100 = 11) (hi : i + 6 ≤ L) (hp : ∀ a0 : Int, okI a0 → PureI Rel 131 203 [iv a0]) (hR : Rel MC MR) (kk : ∀ MC' MR', Rel MC' MR' → ml_W h l e below Q CE SE 1429 (lLv ad b i) [] MC' MR') : ml_W h l e below Q CE SE 324 (lLv ad b i) [] MC MR := by
  obtain ⟨x, MC', MR', c1, c2, hR'⟩ := hp (xs (i + 1)).toInt (okI_toInt _) MC MR hR
  refine ml_o1 h (by decide +kernel) ?_
  refine ml_arg h (j := 1) (by decide) hi (by decide +kernel) (by decide +kernel) (by decide +kernel) (by decide +kernel) (by decide +kernel) ?_
  refine ml_callC h hCE hSE (m := 131) (j := 3126) (idx := 32) (as := [iv (xs (i + 1)).toInt]) (rest := []) (by decide +kernel) c1 rfl h0 hk0 rfl (List.forall_mem_cons.mpr ⟨asI _, (fun v hv => by cases hv)⟩) (by decide +kernel) (show (parseMethodDescriptor (gY 131).desc).map (fun d => d.parameters.length) = some 1 by decide +kernel) ⟨by decide +kernel, by decide +kernel⟩ (by decide +kernel) (by simp [ms_v, ms_r, Int32.ofInt_toInt, Int64.ofInt_toInt]) (by simp [Value.category]) ?_
  refine ml_o2 h (by decide +kernel) ?_
  refine ml_arg h (j := 1) (by decide) hi (by decide +kernel) (by decide +kernel) (by decide +kernel) (by decide +kernel) (by decide +kernel) ?_
  refine ml_callR h hCE hSE (m := 203) (j := 7014) (idx := 36) (as := [iv (xs (i + 1)).toInt]) (rest := [.int (Int32.ofInt x)]) (by decide +kernel) c2 rfl h100 hk100 rfl (List.forall_mem_cons.mpr ⟨asI _, (fun v hv => by cases hv)⟩) (by decide +kernel) (show (parseMethodDescriptor (gY 203).desc).map (fun d => d.parameters.length) = some 1 by decide +kernel) ⟨by decide +kernel, by decide +kernel⟩ (by decide +kernel) (by simp [ms_v, ms_r, Int32.ofInt_toInt, Int64.ofInt_toInt]) (by simp [Value.category]) ?_
  refine ml_eqI (x := Int32.ofInt x) (st0 := []) (off := 1087) (tgt := 1429) h (by decide +kernel) (by decide) ?_
  exact kk MC' MR' hR'
set_option maxRecDepth 100000 in
set_option maxHeartbeats 4000000 in
theorem lc_5 (h : lBun p s mid b L xs meth c D ad kd aC wC wR) (hCE : CE ≤ room_1.cells) (hSE : SE ≤ room_1.slots) (h0 : 0 ∈ wC) (hk0 : kd 0 = 10) (h100 : 100 ∈ wR) (hk100 : kd 100 = 11) (hi : i + 6 ≤ L) (hp : ∀ a0 a1 : Int, okI a0 → (a1 = 0 ∨ a1 = 1) → PureI Rel 132 205 [iv a0, iv a1]) (hR : Rel MC MR) (kk : ∀ MC' MR', Rel MC' MR' → ml_W h l e below Q CE SE 1429 (lLv ad b i) [] MC' MR') : ml_W h l e below Q CE SE 347 (lLv ad b i) [] MC MR := by
  obtain ⟨x, MC', MR', c1, c2, hR'⟩ := hp (xs (i + 1)).toInt (b01 (xs (i + 2))).toInt (okI_toInt _) (b01_or _) MC MR hR
  refine ml_o1 h (by decide +kernel) ?_
  refine ml_arg h (j := 1) (by decide) hi (by decide +kernel) (by decide +kernel) (by decide +kernel) (by decide +kernel) (by decide +kernel) ?_
  refine ml_arg h (j := 2) (by decide) hi (by decide +kernel) (by decide +kernel) (by decide +kernel) (by decide +kernel) (by decide +kernel) ?_
  refine ml_bool h (by decide +kernel) (by decide +kernel) (by decide +kernel) (by decide +kernel) ?_
  refine ml_callC h hCE hSE (m := 132) (j := 3130) (idx := 37) (as := [iv (xs (i + 1)).toInt, iv (b01 (xs (i + 2))).toInt]) (rest := []) (by decide +kernel) c1 rfl h0 hk0 rfl (List.forall_mem_cons.mpr ⟨asI _, List.forall_mem_cons.mpr ⟨asI _, (fun v hv => by cases hv)⟩⟩) (by decide +kernel) (show (parseMethodDescriptor (gY 132).desc).map (fun d => d.parameters.length) = some 2 by decide +kernel) ⟨by decide +kernel, by decide +kernel⟩ (by decide +kernel) (by simp [ms_v, ms_r, Int32.ofInt_toInt, Int64.ofInt_toInt]) (by simp [Value.category]) ?_
  refine ml_o2 h (by decide +kernel) ?_
  refine ml_arg h (j := 1) (by decide) hi (by decide +kernel) (by decide +kernel) (by decide +kernel) (by decide +kernel) (by decide +kernel) ?_
  refine ml_arg h (j := 2) (by decide) hi (by decide +kernel) (by decide +kernel) (by decide +kernel) (by decide +kernel) (by decide +kernel) ?_
  refine ml_bool h (by decide +kernel) (by decide +kernel) (by decide +kernel) (by decide +kernel) ?_
  refine ml_callR h hCE hSE (m := 205) (j := 7021) (idx := 41) (as := [iv (xs (i + 1)).toInt, iv (b01 (xs (i + 2))).toInt]) (rest := [.int (Int32.ofInt x)]) (by decide +kernel) c2 rfl h100 hk100 rfl (List.forall_mem_cons.mpr ⟨asI _, List.forall_mem_cons.mpr ⟨asI _, (fun v hv => by cases hv)⟩⟩) (by decide +kernel) (show (parseMethodDescriptor (gY 205).desc).map (fun d => d.parameters.length) = some 2 by decide +kernel) ⟨by decide +kernel, by decide +kernel⟩ (by decide +kernel) (by simp [ms_v, ms_r, Int32.ofInt_toInt, Int64.ofInt_toInt]) (by simp [Value.category]) ?_
  refine ml_eqI (x := Int32.ofInt x) (st0 := []) (off := 1038) (tgt := 1429) h (by decide +kernel) (by decide) ?_
  exact kk MC' MR' hR'
set_option maxRecDepth 100000 in
set_option maxHeartbeats 4000000 in
theorem lc_6 (h : lBun p s mid b L xs meth c D ad kd aC wC wR) (hCE : CE ≤ room_1.cells) (hSE : SE ≤ room_1.slots) (h0 : 0 ∈ wC) (hk0 : kd 0 = 10) (h100 : 100 ∈ wR) (hk100 : kd 100 = 11) (hi : i + 6 ≤ L) (hp : ∀ a0 a1 : Int, okI a0 → (a1 = 0 ∨ a1 = 1) → PureI Rel 133 208 [iv a0, iv a1]) (hR : Rel MC MR) (kk : ∀ MC' MR', Rel MC' MR' → ml_W h l e below Q CE SE 1429 (lLv ad b i) [] MC' MR') : ml_W h l e below Q CE SE 396 (lLv ad b i) [] MC MR := by
  obtain ⟨x, MC', MR', c1, c2, hR'⟩ := hp (xs (i + 1)).toInt (b01 (xs (i + 2))).toInt (okI_toInt _) (b01_or _) MC MR hR
  refine ml_o1 h (by decide +kernel) ?_
  refine ml_arg h (j := 1) (by decide) hi (by decide +kernel) (by decide +kernel) (by decide +kernel) (by decide +kernel) (by decide +kernel) ?_
  refine ml_arg h (j := 2) (by decide) hi (by decide +kernel) (by decide +kernel) (by decide +kernel) (by decide +kernel) (by decide +kernel) ?_
  refine ml_bool h (by decide +kernel) (by decide +kernel) (by decide +kernel) (by decide +kernel) ?_
  refine ml_callC h hCE hSE (m := 133) (j := 3139) (idx := 42) (as := [iv (xs (i + 1)).toInt, iv (b01 (xs (i + 2))).toInt]) (rest := []) (by decide +kernel) c1 rfl h0 hk0 rfl (List.forall_mem_cons.mpr ⟨asI _, List.forall_mem_cons.mpr ⟨asI _, (fun v hv => by cases hv)⟩⟩) (by decide +kernel) (show (parseMethodDescriptor (gY 133).desc).map (fun d => d.parameters.length) = some 2 by decide +kernel) ⟨by decide +kernel, by decide +kernel⟩ (by decide +kernel) (by simp [ms_v, ms_r, Int32.ofInt_toInt, Int64.ofInt_toInt]) (by simp [Value.category]) ?_
  refine ml_o2 h (by decide +kernel) ?_
  refine ml_arg h (j := 1) (by decide) hi (by decide +kernel) (by decide +kernel) (by decide +kernel) (by decide +kernel) (by decide +kernel) ?_
  refine ml_arg h (j := 2) (by decide) hi (by decide +kernel) (by decide +kernel) (by decide +kernel) (by decide +kernel) (by decide +kernel) ?_
  refine ml_bool h (by decide +kernel) (by decide +kernel) (by decide +kernel) (by decide +kernel) ?_
  refine ml_callR h hCE hSE (m := 208) (j := 7032) (idx := 45) (as := [iv (xs (i + 1)).toInt, iv (b01 (xs (i + 2))).toInt]) (rest := [.int (Int32.ofInt x)]) (by decide +kernel) c2 rfl h100 hk100 rfl (List.forall_mem_cons.mpr ⟨asI _, List.forall_mem_cons.mpr ⟨asI _, (fun v hv => by cases hv)⟩⟩) (by decide +kernel) (show (parseMethodDescriptor (gY 208).desc).map (fun d => d.parameters.length) = some 2 by decide +kernel) ⟨by decide +kernel, by decide +kernel⟩ (by decide +kernel) (by simp [ms_v, ms_r, Int32.ofInt_toInt, Int64.ofInt_toInt]) (by simp [Value.category]) ?_
  refine ml_eqI (x := Int32.ofInt x) (st0 := []) (off := 989) (tgt := 1429) h (by decide +kernel) (by decide) ?_
  exact kk MC' MR' hR'
set_option maxRecDepth 100000 in
set_option maxHeartbeats 4000000 in
theorem lc_7 (h : lBun p s mid b L xs meth c D ad kd aC wC wR) (hCE : CE ≤ room_1.cells) (hSE : SE ≤ room_1.slots) (h0 : 0 ∈ wC) (hk0 : kd 0 = 10) (h100 : 100 ∈ wR) (hk100 : kd 100 = 11) (hi : i + 6 ≤ L) (hp : ∀ a0 a1 : Int, okI a0 → okI a1 → PureI Rel 134 209 [iv a0, iv a1]) (hR : Rel MC MR) (kk : ∀ MC' MR', Rel MC' MR' → ml_W h l e below Q CE SE 1429 (lLv ad b i) [] MC' MR') : ml_W h l e below Q CE SE 445 (lLv ad b i) [] MC MR := by
  obtain ⟨x, MC', MR', c1, c2, hR'⟩ := hp (xs (i + 1)).toInt (xs (i + 2)).toInt (okI_toInt _) (okI_toInt _) MC MR hR
  refine ml_o1 h (by decide +kernel) ?_
  refine ml_arg h (j := 1) (by decide) hi (by decide +kernel) (by decide +kernel) (by decide +kernel) (by decide +kernel) (by decide +kernel) ?_
  refine ml_arg h (j := 2) (by decide) hi (by decide +kernel) (by decide +kernel) (by decide +kernel) (by decide +kernel) (by decide +kernel) ?_
  refine ml_callC h hCE hSE (m := 134) (j := 3143) (idx := 46) (as := [iv (xs (i + 1)).toInt, iv (xs (i + 2)).toInt]) (rest := []) (by decide +kernel) c1 rfl h0 hk0 rfl (List.forall_mem_cons.mpr ⟨asI _, List.forall_mem_cons.mpr ⟨asI _, (fun v hv => by cases hv)⟩⟩) (by decide +kernel) (show (parseMethodDescriptor (gY 134).desc).map (fun d => d.parameters.length) = some 2 by decide +kernel) ⟨by decide +kernel, by decide +kernel⟩ (by decide +kernel) (by simp [ms_v, ms_r, Int32.ofInt_toInt, Int64.ofInt_toInt]) (by simp [Value.category]) ?_
  refine ml_o2 h (by decide +kernel) ?_
  refine ml_arg h (j := 1) (by decide) hi (by decide +kernel) (by decide +kernel) (by decide +kernel) (by decide +kernel) (by decide +kernel) ?_
  refine ml_arg h (j := 2) (by decide) hi (by decide +kernel) (by decide +kernel) (by decide +kernel) (by decide +kernel) (by decide +kernel) ?_
  refine ml_callR h hCE hSE (m := 209) (j := 7036) (idx := 50) (as := [iv (xs (i + 1)).toInt, iv (xs (i + 2)).toInt]) (rest := [.int (Int32.ofInt x)]) (by decide +kernel) c2 rfl h100 hk100 rfl (List.forall_mem_cons.mpr ⟨asI _, List.forall_mem_cons.mpr ⟨asI _, (fun v hv => by cases hv)⟩⟩) (by decide +kernel) (show (parseMethodDescriptor (gY 209).desc).map (fun d => d.parameters.length) = some 2 by decide +kernel) ⟨by decide +kernel, by decide +kernel⟩ (by decide +kernel) (by simp [ms_v, ms_r, Int32.ofInt_toInt, Int64.ofInt_toInt]) (by simp [Value.category]) ?_
  refine ml_eqI (x := Int32.ofInt x) (st0 := []) (off := 956) (tgt := 1429) h (by decide +kernel) (by decide) ?_
  exact kk MC' MR' hR'
set_option maxRecDepth 100000 in
set_option maxHeartbeats 4000000 in
theorem lc_8 (h : lBun p s mid b L xs meth c D ad kd aC wC wR) (hCE : CE ≤ room_1.cells) (hSE : SE ≤ room_1.slots) (h0 : 0 ∈ wC) (hk0 : kd 0 = 10) (h100 : 100 ∈ wR) (hk100 : kd 100 = 11) (hi : i + 6 ≤ L) (hp : ∀ a0 a1 : Int, okI a0 → okI a1 → PureI Rel 135 210 [iv a0, iv a1]) (hR : Rel MC MR) (kk : ∀ MC' MR', Rel MC' MR' → ml_W h l e below Q CE SE 1429 (lLv ad b i) [] MC' MR') : ml_W h l e below Q CE SE 478 (lLv ad b i) [] MC MR := by
  obtain ⟨x, MC', MR', c1, c2, hR'⟩ := hp (xs (i + 1)).toInt (xs (i + 2)).toInt (okI_toInt _) (okI_toInt _) MC MR hR
  refine ml_o1 h (by decide +kernel) ?_
  refine ml_arg h (j := 1) (by decide) hi (by decide +kernel) (by decide +kernel) (by decide +kernel) (by decide +kernel) (by decide +kernel) ?_
  refine ml_arg h (j := 2) (by decide) hi (by decide +kernel) (by decide +kernel) (by decide +kernel) (by decide +kernel) (by decide +kernel) ?_
  refine ml_callC h hCE hSE (m := 135) (j := 3147) (idx := 51) (as := [iv (xs (i + 1)).toInt, iv (xs (i + 2)).toInt]) (rest := []) (by decide +kernel) c1 rfl h0 hk0 rfl (List.forall_mem_cons.mpr ⟨asI _, List.forall_mem_cons.mpr ⟨asI _, (fun v hv => by cases hv)⟩⟩) (by decide +kernel) (show (parseMethodDescriptor (gY 135).desc).map (fun d => d.parameters.length) = some 2 by decide +kernel) ⟨by decide +kernel, by decide +kernel⟩ (by decide +kernel) (by simp [ms_v, ms_r, Int32.ofInt_toInt, Int64.ofInt_toInt]) (by simp [Value.category]) ?_
  refine ml_o2 h (by decide +kernel) ?_
  refine ml_arg h (j := 1) (by decide) hi (by decide +kernel) (by decide +kernel) (by decide +kernel) (by decide +kernel) (by decide +kernel) ?_
  refine ml_arg h (j := 2) (by decide) hi (by decide +kernel) (by decide +kernel) (by decide +kernel) (by decide +kernel) (by decide +kernel) ?_
  refine ml_callR h hCE hSE (m := 210) (j := 7040) (idx := 55) (as := [iv (xs (i + 1)).toInt, iv (xs (i + 2)).toInt]) (rest := [.int (Int32.ofInt x)]) (by decide +kernel) c2 rfl h100 hk100 rfl (List.forall_mem_cons.mpr ⟨asI _, List.forall_mem_cons.mpr ⟨asI _, (fun v hv => by cases hv)⟩⟩) (by decide +kernel) (show (parseMethodDescriptor (gY 210).desc).map (fun d => d.parameters.length) = some 2 by decide +kernel) ⟨by decide +kernel, by decide +kernel⟩ (by decide +kernel) (by simp [ms_v, ms_r, Int32.ofInt_toInt, Int64.ofInt_toInt]) (by simp [Value.category]) ?_
  refine ml_eqI (x := Int32.ofInt x) (st0 := []) (off := 923) (tgt := 1429) h (by decide +kernel) (by decide) ?_
  exact kk MC' MR' hR'
set_option maxRecDepth 100000 in
set_option maxHeartbeats 4000000 in
theorem lc_9 (h : lBun p s mid b L xs meth c D ad kd aC wC wR) (hCE : CE ≤ room_1.cells) (hSE : SE ≤ room_1.slots) (h0 : 0 ∈ wC) (hk0 : kd 0 = 10) (h100 : 100 ∈ wR) (hk100 : kd 100 = 11) (hi : i + 6 ≤ L) (hp : PureI Rel 136 211 []) (hR : Rel MC MR) (kk : ∀ MC' MR', Rel MC' MR' → ml_W h l e below Q CE SE 1429 (lLv ad b i) [] MC' MR') : ml_W h l e below Q CE SE 511 (lLv ad b i) [] MC MR := by
  obtain ⟨x, MC', MR', c1, c2, hR'⟩ := hp   MC MR hR
  refine ml_o1 h (by decide +kernel) ?_
  refine ml_callC h hCE hSE (m := 136) (j := 3163) (idx := 56) (as := []) (rest := []) (by decide +kernel) c1 rfl h0 hk0 rfl ((fun v hv => by cases hv)) (by decide +kernel) (show (parseMethodDescriptor (gY 136).desc).map (fun d => d.parameters.length) = some 0 by decide +kernel) ⟨by decide +kernel, by decide +kernel⟩ (by decide +kernel) (by simp [ms_v, ms_r, Int32.ofInt_toInt, Int64.ofInt_toInt]) (by simp [Value.category]) ?_
  refine ml_o2 h (by decide +kernel) ?_
  refine ml_callR h hCE hSE (m := 211) (j := 7044) (idx := 59) (as := []) (rest := [.int (Int32.ofInt x)]) (by decide +kernel) c2 rfl h100 hk100 rfl ((fun v hv => by cases hv)) (by decide +kernel) (show (parseMethodDescriptor (gY 211).desc).map (fun d => d.parameters.length) = some 0 by decide +kernel) ⟨by decide +kernel, by decide +kernel⟩ (by decide +kernel) (by simp [ms_v, ms_r, Int32.ofInt_toInt, Int64.ofInt_toInt]) (by simp [Value.category]) ?_
  refine ml_eqI (x := Int32.ofInt x) (st0 := []) (off := 910) (tgt := 1429) h (by decide +kernel) (by decide) ?_
  exact kk MC' MR' hR'
set_option maxRecDepth 100000 in
set_option maxHeartbeats 4000000 in
theorem lc_10 (h : lBun p s mid b L xs meth c D ad kd aC wC wR) (hCE : CE ≤ room_1.cells) (hSE : SE ≤ room_1.slots) (h0 : 0 ∈ wC) (hk0 : kd 0 = 10) (h100 : 100 ∈ wR) (hk100 : kd 100 = 11) (hi : i + 6 ≤ L) (hp : PureI Rel 137 214 []) (hR : Rel MC MR) (kk : ∀ MC' MR', Rel MC' MR' → ml_W h l e below Q CE SE 1429 (lLv ad b i) [] MC' MR') : ml_W h l e below Q CE SE 524 (lLv ad b i) [] MC MR := by
  obtain ⟨x, MC', MR', c1, c2, hR'⟩ := hp   MC MR hR
  refine ml_o1 h (by decide +kernel) ?_
  refine ml_callC h hCE hSE (m := 137) (j := 3176) (idx := 60) (as := []) (rest := []) (by decide +kernel) c1 rfl h0 hk0 rfl ((fun v hv => by cases hv)) (by decide +kernel) (show (parseMethodDescriptor (gY 137).desc).map (fun d => d.parameters.length) = some 0 by decide +kernel) ⟨by decide +kernel, by decide +kernel⟩ (by decide +kernel) (by simp [ms_v, ms_r, Int32.ofInt_toInt, Int64.ofInt_toInt]) (by simp [Value.category]) ?_
  refine ml_o2 h (by decide +kernel) ?_
  refine ml_callR h hCE hSE (m := 214) (j := 7056) (idx := 63) (as := []) (rest := [.int (Int32.ofInt x)]) (by decide +kernel) c2 rfl h100 hk100 rfl ((fun v hv => by cases hv)) (by decide +kernel) (show (parseMethodDescriptor (gY 214).desc).map (fun d => d.parameters.length) = some 0 by decide +kernel) ⟨by decide +kernel, by decide +kernel⟩ (by decide +kernel) (by simp [ms_v, ms_r, Int32.ofInt_toInt, Int64.ofInt_toInt]) (by simp [Value.category]) ?_
  refine ml_eqI (x := Int32.ofInt x) (st0 := []) (off := 897) (tgt := 1429) h (by decide +kernel) (by decide) ?_
  exact kk MC' MR' hR'
set_option maxRecDepth 100000 in
set_option maxHeartbeats 4000000 in
theorem lc_11 (h : lBun p s mid b L xs meth c D ad kd aC wC wR) (hCE : CE ≤ room_1.cells) (hSE : SE ≤ room_1.slots) (h0 : 0 ∈ wC) (hk0 : kd 0 = 10) (h100 : 100 ∈ wR) (hk100 : kd 100 = 11) (hi : i + 6 ≤ L) (hp : ∀ a0 : Int, okI a0 → PureI Rel 139 219 [iv a0]) (hR : Rel MC MR) (kk : ∀ MC' MR', Rel MC' MR' → ml_W h l e below Q CE SE 1429 (lLv ad b i) [] MC' MR') : ml_W h l e below Q CE SE 537 (lLv ad b i) [] MC MR := by
  obtain ⟨x, MC', MR', c1, c2, hR'⟩ := hp (xs (i + 1)).toInt (okI_toInt _) MC MR hR
  refine ml_o1 h (by decide +kernel) ?_
  refine ml_arg h (j := 1) (by decide) hi (by decide +kernel) (by decide +kernel) (by decide +kernel) (by decide +kernel) (by decide +kernel) ?_
  refine ml_callC h hCE hSE (m := 139) (j := 3223) (idx := 64) (as := [iv (xs (i + 1)).toInt]) (rest := []) (by decide +kernel) c1 rfl h0 hk0 rfl (List.forall_mem_cons.mpr ⟨asI _, (fun v hv => by cases hv)⟩) (by decide +kernel) (show (parseMethodDescriptor (gY 139).desc).map (fun d => d.parameters.length) = some 1 by decide +kernel) ⟨by decide +kernel, by decide +kernel⟩ (by decide +kernel) (by simp [ms_v, ms_r, Int32.ofInt_toInt, Int64.ofInt_toInt]) (by simp [Value.category]) ?_
  refine ml_o2 h (by decide +kernel) ?_
  refine ml_arg h (j := 1) (by decide) hi (by decide +kernel) (by decide +kernel) (by decide +kernel) (by decide +kernel) (by decide +kernel) ?_
  refine ml_callR h hCE hSE (m := 219) (j := 7076) (idx := 67) (as := [iv (xs (i + 1)).toInt]) (rest := [.int (Int32.ofInt x)]) (by decide +kernel) c2 rfl h100 hk100 rfl (List.forall_mem_cons.mpr ⟨asI _, (fun v hv => by cases hv)⟩) (by decide +kernel) (show (parseMethodDescriptor (gY 219).desc).map (fun d => d.parameters.length) = some 1 by decide +kernel) ⟨by decide +kernel, by decide +kernel⟩ (by decide +kernel) (by simp [ms_v, ms_r, Int32.ofInt_toInt, Int64.ofInt_toInt]) (by simp [Value.category]) ?_
  refine ml_eqI (x := Int32.ofInt x) (st0 := []) (off := 874) (tgt := 1429) h (by decide +kernel) (by decide) ?_
  exact kk MC' MR' hR'
set_option maxRecDepth 100000 in
set_option maxHeartbeats 4000000 in
theorem lc_12 (h : lBun p s mid b L xs meth c D ad kd aC wC wR) (hCE : CE ≤ room_1.cells) (hSE : SE ≤ room_1.slots) (h0 : 0 ∈ wC) (hk0 : kd 0 = 10) (h100 : 100 ∈ wR) (hk100 : kd 100 = 11) (hi : i + 6 ≤ L) (hp : ∀ a0 : Int, okI a0 → PureI Rel 140 221 [iv a0]) (hR : Rel MC MR) (kk : ∀ MC' MR', Rel MC' MR' → ml_W h l e below Q CE SE 1429 (lLv ad b i) [] MC' MR') : ml_W h l e below Q CE SE 560 (lLv ad b i) [] MC MR := by
  obtain ⟨x, MC', MR', c1, c2, hR'⟩ := hp (xs (i + 1)).toInt (okI_toInt _) MC MR hR
  refine ml_o1 h (by decide +kernel) ?_
  refine ml_arg h (j := 1) (by decide) hi (by decide +kernel) (by decide +kernel) (by decide +kernel) (by decide +kernel) (by decide +kernel) ?_
  refine ml_callC h hCE hSE (m := 140) (j := 4001) (idx := 68) (as := [iv (xs (i + 1)).toInt]) (rest := []) (by decide +kernel) c1 rfl h0 hk0 rfl (List.forall_mem_cons.mpr ⟨asI _, (fun v hv => by cases hv)⟩) (by decide +kernel) (show (parseMethodDescriptor (gY 140).desc).map (fun d => d.parameters.length) = some 1 by decide +kernel) ⟨by decide +kernel, by decide +kernel⟩ (by decide +kernel) (by simp [ms_v, ms_r, Int32.ofInt_toInt, Int64.ofInt_toInt]) (by simp [Value.category]) ?_
  refine ml_o2 h (by decide +kernel) ?_
  refine ml_arg h (j := 1) (by decide) hi (by decide +kernel) (by decide +kernel) (by decide +kernel) (by decide +kernel) (by decide +kernel) ?_
  refine ml_callR h hCE hSE (m := 221) (j := 7084) (idx := 71) (as := [iv (xs (i + 1)).toInt]) (rest := [.int (Int32.ofInt x)]) (by decide +kernel) c2 rfl h100 hk100 rfl (List.forall_mem_cons.mpr ⟨asI _, (fun v hv => by cases hv)⟩) (by decide +kernel) (show (parseMethodDescriptor (gY 221).desc).map (fun d => d.parameters.length) = some 1 by decide +kernel) ⟨by decide +kernel, by decide +kernel⟩ (by decide +kernel) (by simp [ms_v, ms_r, Int32.ofInt_toInt, Int64.ofInt_toInt]) (by simp [Value.category]) ?_
  refine ml_eqI (x := Int32.ofInt x) (st0 := []) (off := 851) (tgt := 1429) h (by decide +kernel) (by decide) ?_
  exact kk MC' MR' hR'
set_option maxRecDepth 100000 in
set_option maxHeartbeats 4000000 in
theorem lc_13 (h : lBun p s mid b L xs meth c D ad kd aC wC wR) (hCE : CE ≤ room_1.cells) (hSE : SE ≤ room_1.slots) (h0 : 0 ∈ wC) (hk0 : kd 0 = 10) (h100 : 100 ∈ wR) (hk100 : kd 100 = 11) (hi : i + 6 ≤ L) (hp : PureI Rel 141 222 []) (hR : Rel MC MR) (kk : ∀ MC' MR', Rel MC' MR' → ml_W h l e below Q CE SE 1429 (lLv ad b i) [] MC' MR') : ml_W h l e below Q CE SE 583 (lLv ad b i) [] MC MR := by
  obtain ⟨x, MC', MR', c1, c2, hR'⟩ := hp   MC MR hR
  refine ml_o1 h (by decide +kernel) ?_
  refine ml_callC h hCE hSE (m := 141) (j := 4005) (idx := 72) (as := []) (rest := []) (by decide +kernel) c1 rfl h0 hk0 rfl ((fun v hv => by cases hv)) (by decide +kernel) (show (parseMethodDescriptor (gY 141).desc).map (fun d => d.parameters.length) = some 0 by decide +kernel) ⟨by decide +kernel, by decide +kernel⟩ (by decide +kernel) (by simp [ms_v, ms_r, Int32.ofInt_toInt, Int64.ofInt_toInt]) (by simp [Value.category]) ?_
  refine ml_o2 h (by decide +kernel) ?_
  refine ml_callR h hCE hSE (m := 222) (j := 7088) (idx := 75) (as := []) (rest := [.int (Int32.ofInt x)]) (by decide +kernel) c2 rfl h100 hk100 rfl ((fun v hv => by cases hv)) (by decide +kernel) (show (parseMethodDescriptor (gY 222).desc).map (fun d => d.parameters.length) = some 0 by decide +kernel) ⟨by decide +kernel, by decide +kernel⟩ (by decide +kernel) (by simp [ms_v, ms_r, Int32.ofInt_toInt, Int64.ofInt_toInt]) (by simp [Value.category]) ?_
  refine ml_eqI (x := Int32.ofInt x) (st0 := []) (off := 838) (tgt := 1429) h (by decide +kernel) (by decide) ?_
  exact kk MC' MR' hR'
set_option maxRecDepth 100000 in
set_option maxHeartbeats 4000000 in
theorem lc_14 (h : lBun p s mid b L xs meth c D ad kd aC wC wR) (hCE : CE ≤ room_1.cells) (hSE : SE ≤ room_1.slots) (h0 : 0 ∈ wC) (hk0 : kd 0 = 10) (h100 : 100 ∈ wR) (hk100 : kd 100 = 11) (hi : i + 6 ≤ L) (hp : ∀ a0 : Int, okI a0 → PureI Rel 142 229 [iv a0]) (hR : Rel MC MR) (kk : ∀ MC' MR', Rel MC' MR' → ml_W h l e below Q CE SE 1429 (lLv ad b i) [] MC' MR') : ml_W h l e below Q CE SE 596 (lLv ad b i) [] MC MR := by
  obtain ⟨x, MC', MR', c1, c2, hR'⟩ := hp (xs (i + 1)).toInt (okI_toInt _) MC MR hR
  refine ml_o1 h (by decide +kernel) ?_
  refine ml_arg h (j := 1) (by decide) hi (by decide +kernel) (by decide +kernel) (by decide +kernel) (by decide +kernel) (by decide +kernel) ?_
  refine ml_callC h hCE hSE (m := 142) (j := 4021) (idx := 76) (as := [iv (xs (i + 1)).toInt]) (rest := []) (by decide +kernel) c1 rfl h0 hk0 rfl (List.forall_mem_cons.mpr ⟨asI _, (fun v hv => by cases hv)⟩) (by decide +kernel) (show (parseMethodDescriptor (gY 142).desc).map (fun d => d.parameters.length) = some 1 by decide +kernel) ⟨by decide +kernel, by decide +kernel⟩ (by decide +kernel) (by simp [ms_v, ms_r, Int32.ofInt_toInt, Int64.ofInt_toInt]) (by simp [Value.category]) ?_
  refine ml_o2 h (by decide +kernel) ?_
  refine ml_arg h (j := 1) (by decide) hi (by decide +kernel) (by decide +kernel) (by decide +kernel) (by decide +kernel) (by decide +kernel) ?_
  refine ml_callR h hCE hSE (m := 229) (j := 7114) (idx := 79) (as := [iv (xs (i + 1)).toInt]) (rest := [.int (Int32.ofInt x)]) (by decide +kernel) c2 rfl h100 hk100 rfl (List.forall_mem_cons.mpr ⟨asI _, (fun v hv => by cases hv)⟩) (by decide +kernel) (show (parseMethodDescriptor (gY 229).desc).map (fun d => d.parameters.length) = some 1 by decide +kernel) ⟨by decide +kernel, by decide +kernel⟩ (by decide +kernel) (by simp [ms_v, ms_r, Int32.ofInt_toInt, Int64.ofInt_toInt]) (by simp [Value.category]) ?_
  refine ml_eqI (x := Int32.ofInt x) (st0 := []) (off := 815) (tgt := 1429) h (by decide +kernel) (by decide) ?_
  exact kk MC' MR' hR'
set_option maxRecDepth 100000 in
set_option maxHeartbeats 4000000 in
theorem lc_15 (h : lBun p s mid b L xs meth c D ad kd aC wC wR) (hCE : CE ≤ room_1.cells) (hSE : SE ≤ room_1.slots) (h0 : 0 ∈ wC) (hk0 : kd 0 = 10) (h100 : 100 ∈ wR) (hk100 : kd 100 = 11) (hi : i + 6 ≤ L) (hp : ∀ a0 a1 : Int, okI a0 → okI a1 → PureI Rel 144 231 [iv a0, iv a1]) (hR : Rel MC MR) (kk : ∀ MC' MR', Rel MC' MR' → ml_W h l e below Q CE SE 1429 (lLv ad b i) [] MC' MR') : ml_W h l e below Q CE SE 619 (lLv ad b i) [] MC MR := by
  obtain ⟨x, MC', MR', c1, c2, hR'⟩ := hp (xs (i + 1)).toInt (xs (i + 2)).toInt (okI_toInt _) (okI_toInt _) MC MR hR
  refine ml_o1 h (by decide +kernel) ?_
  refine ml_arg h (j := 1) (by decide) hi (by decide +kernel) (by decide +kernel) (by decide +kernel) (by decide +kernel) (by decide +kernel) ?_
  refine ml_arg h (j := 2) (by decide) hi (by decide +kernel) (by decide +kernel) (by decide +kernel) (by decide +kernel) (by decide +kernel) ?_
  refine ml_callC h hCE hSE (m := 144) (j := 4034) (idx := 80) (as := [iv (xs (i + 1)).toInt, iv (xs (i + 2)).toInt]) (rest := []) (by decide +kernel) c1 rfl h0 hk0 rfl (List.forall_mem_cons.mpr ⟨asI _, List.forall_mem_cons.mpr ⟨asI _, (fun v hv => by cases hv)⟩⟩) (by decide +kernel) (show (parseMethodDescriptor (gY 144).desc).map (fun d => d.parameters.length) = some 2 by decide +kernel) ⟨by decide +kernel, by decide +kernel⟩ (by decide +kernel) (by simp [ms_v, ms_r, Int32.ofInt_toInt, Int64.ofInt_toInt]) (by simp [Value.category]) ?_
  refine ml_o2 h (by decide +kernel) ?_
  refine ml_arg h (j := 1) (by decide) hi (by decide +kernel) (by decide +kernel) (by decide +kernel) (by decide +kernel) (by decide +kernel) ?_
  refine ml_arg h (j := 2) (by decide) hi (by decide +kernel) (by decide +kernel) (by decide +kernel) (by decide +kernel) (by decide +kernel) ?_
  refine ml_callR h hCE hSE (m := 231) (j := 7122) (idx := 83) (as := [iv (xs (i + 1)).toInt, iv (xs (i + 2)).toInt]) (rest := [.int (Int32.ofInt x)]) (by decide +kernel) c2 rfl h100 hk100 rfl (List.forall_mem_cons.mpr ⟨asI _, List.forall_mem_cons.mpr ⟨asI _, (fun v hv => by cases hv)⟩⟩) (by decide +kernel) (show (parseMethodDescriptor (gY 231).desc).map (fun d => d.parameters.length) = some 2 by decide +kernel) ⟨by decide +kernel, by decide +kernel⟩ (by decide +kernel) (by simp [ms_v, ms_r, Int32.ofInt_toInt, Int64.ofInt_toInt]) (by simp [Value.category]) ?_
  refine ml_eqI (x := Int32.ofInt x) (st0 := []) (off := 782) (tgt := 1429) h (by decide +kernel) (by decide) ?_
  exact kk MC' MR' hR'
set_option maxRecDepth 100000 in
set_option maxHeartbeats 4000000 in
theorem lc_16 (h : lBun p s mid b L xs meth c D ad kd aC wC wR) (hCE : CE ≤ room_1.cells) (hSE : SE ≤ room_1.slots) (h0 : 0 ∈ wC) (hk0 : kd 0 = 10) (h100 : 100 ∈ wR) (hk100 : kd 100 = 11) (hi : i + 6 ≤ L) (hp : ∀ a0 : Int, okI a0 → PureI Rel 145 234 [iv a0]) (hR : Rel MC MR) (kk : ∀ MC' MR', Rel MC' MR' → ml_W h l e below Q CE SE 1429 (lLv ad b i) [] MC' MR') : ml_W h l e below Q CE SE 652 (lLv ad b i) [] MC MR := by
  obtain ⟨x, MC', MR', c1, c2, hR'⟩ := hp (xs (i + 1)).toInt (okI_toInt _) MC MR hR
  refine ml_o1 h (by decide +kernel) ?_
  refine ml_arg h (j := 1) (by decide) hi (by decide +kernel) (by decide +kernel) (by decide +kernel) (by decide +kernel) (by decide +kernel) ?_
  refine ml_callC h hCE hSE (m := 145) (j := 4052) (idx := 84) (as := [iv (xs (i + 1)).toInt]) (rest := []) (by decide +kernel) c1 rfl h0 hk0 rfl (List.forall_mem_cons.mpr ⟨asI _, (fun v hv => by cases hv)⟩) (by decide +kernel) (show (parseMethodDescriptor (gY 145).desc).map (fun d => d.parameters.length) = some 1 by decide +kernel) ⟨by decide +kernel, by decide +kernel⟩ (by decide +kernel) (by simp [ms_v, ms_r, Int32.ofInt_toInt, Int64.ofInt_toInt]) (by simp [Value.category]) ?_
  refine ml_o2 h (by decide +kernel) ?_
  refine ml_arg h (j := 1) (by decide) hi (by decide +kernel) (by decide +kernel) (by decide +kernel) (by decide +kernel) (by decide +kernel) ?_
  refine ml_callR h hCE hSE (m := 234) (j := 7134) (idx := 87) (as := [iv (xs (i + 1)).toInt]) (rest := [.int (Int32.ofInt x)]) (by decide +kernel) c2 rfl h100 hk100 rfl (List.forall_mem_cons.mpr ⟨asI _, (fun v hv => by cases hv)⟩) (by decide +kernel) (show (parseMethodDescriptor (gY 234).desc).map (fun d => d.parameters.length) = some 1 by decide +kernel) ⟨by decide +kernel, by decide +kernel⟩ (by decide +kernel) (by simp [ms_v, ms_r, Int32.ofInt_toInt, Int64.ofInt_toInt]) (by simp [Value.category]) ?_
  refine ml_eqI (x := Int32.ofInt x) (st0 := []) (off := 759) (tgt := 1429) h (by decide +kernel) (by decide) ?_
  exact kk MC' MR' hR'
set_option maxRecDepth 100000 in
set_option maxHeartbeats 4000000 in
theorem lc_17 (h : lBun p s mid b L xs meth c D ad kd aC wC wR) (hCE : CE ≤ room_1.cells) (hSE : SE ≤ room_1.slots) (h0 : 0 ∈ wC) (hk0 : kd 0 = 10) (h100 : 100 ∈ wR) (hk100 : kd 100 = 11) (hi : i + 6 ≤ L) (hp : ∀ a0 a1 : Int, okI a0 → okI a1 → PureI Rel 146 236 [iv a0, iv a1]) (hR : Rel MC MR) (kk : ∀ MC' MR', Rel MC' MR' → ml_W h l e below Q CE SE 1429 (lLv ad b i) [] MC' MR') : ml_W h l e below Q CE SE 675 (lLv ad b i) [] MC MR := by
  obtain ⟨x, MC', MR', c1, c2, hR'⟩ := hp (xs (i + 1)).toInt (xs (i + 2)).toInt (okI_toInt _) (okI_toInt _) MC MR hR
  refine ml_o1 h (by decide +kernel) ?_
  refine ml_arg h (j := 1) (by decide) hi (by decide +kernel) (by decide +kernel) (by decide +kernel) (by decide +kernel) (by decide +kernel) ?_
  refine ml_arg h (j := 2) (by decide) hi (by decide +kernel) (by decide +kernel) (by decide +kernel) (by decide +kernel) (by decide +kernel) ?_
  refine ml_callC h hCE hSE (m := 146) (j := 4056) (idx := 88) (as := [iv (xs (i + 1)).toInt, iv (xs (i + 2)).toInt]) (rest := []) (by decide +kernel) c1 rfl h0 hk0 rfl (List.forall_mem_cons.mpr ⟨asI _, List.forall_mem_cons.mpr ⟨asI _, (fun v hv => by cases hv)⟩⟩) (by decide +kernel) (show (parseMethodDescriptor (gY 146).desc).map (fun d => d.parameters.length) = some 2 by decide +kernel) ⟨by decide +kernel, by decide +kernel⟩ (by decide +kernel) (by simp [ms_v, ms_r, Int32.ofInt_toInt, Int64.ofInt_toInt]) (by simp [Value.category]) ?_
  refine ml_o2 h (by decide +kernel) ?_
  refine ml_arg h (j := 1) (by decide) hi (by decide +kernel) (by decide +kernel) (by decide +kernel) (by decide +kernel) (by decide +kernel) ?_
  refine ml_arg h (j := 2) (by decide) hi (by decide +kernel) (by decide +kernel) (by decide +kernel) (by decide +kernel) (by decide +kernel) ?_
  refine ml_callR h hCE hSE (m := 236) (j := 7142) (idx := 91) (as := [iv (xs (i + 1)).toInt, iv (xs (i + 2)).toInt]) (rest := [.int (Int32.ofInt x)]) (by decide +kernel) c2 rfl h100 hk100 rfl (List.forall_mem_cons.mpr ⟨asI _, List.forall_mem_cons.mpr ⟨asI _, (fun v hv => by cases hv)⟩⟩) (by decide +kernel) (show (parseMethodDescriptor (gY 236).desc).map (fun d => d.parameters.length) = some 2 by decide +kernel) ⟨by decide +kernel, by decide +kernel⟩ (by decide +kernel) (by simp [ms_v, ms_r, Int32.ofInt_toInt, Int64.ofInt_toInt]) (by simp [Value.category]) ?_
  refine ml_eqI (x := Int32.ofInt x) (st0 := []) (off := 726) (tgt := 1429) h (by decide +kernel) (by decide) ?_
  exact kk MC' MR' hR'
set_option maxRecDepth 100000 in
set_option maxHeartbeats 4000000 in
theorem lc_18 (h : lBun p s mid b L xs meth c D ad kd aC wC wR) (hCE : CE ≤ room_1.cells) (hSE : SE ≤ room_1.slots) (h0 : 0 ∈ wC) (hk0 : kd 0 = 10) (h100 : 100 ∈ wR) (hk100 : kd 100 = 11) (hi : i + 6 ≤ L) (hp : ∀ a0 : Int, okI a0 → PureI Rel 147 238 [iv a0]) (hR : Rel MC MR) (kk : ∀ MC' MR', Rel MC' MR' → ml_W h l e below Q CE SE 1429 (lLv ad b i) [] MC' MR') : ml_W h l e below Q CE SE 708 (lLv ad b i) [] MC MR := by
  obtain ⟨x, MC', MR', c1, c2, hR'⟩ := hp (xs (i + 1)).toInt (okI_toInt _) MC MR hR
  refine ml_o1 h (by decide +kernel) ?_
  refine ml_arg h (j := 1) (by decide) hi (by decide +kernel) (by decide +kernel) (by decide +kernel) (by decide +kernel) (by decide +kernel) ?_
  refine ml_callC h hCE hSE (m := 147) (j := 4068) (idx := 92) (as := [iv (xs (i + 1)).toInt]) (rest := []) (by decide +kernel) c1 rfl h0 hk0 rfl (List.forall_mem_cons.mpr ⟨asI _, (fun v hv => by cases hv)⟩) (by decide +kernel) (show (parseMethodDescriptor (gY 147).desc).map (fun d => d.parameters.length) = some 1 by decide +kernel) ⟨by decide +kernel, by decide +kernel⟩ (by decide +kernel) (by simp [ms_v, ms_r, Int32.ofInt_toInt, Int64.ofInt_toInt]) (by simp [Value.category]) ?_
  refine ml_o2 h (by decide +kernel) ?_
  refine ml_arg h (j := 1) (by decide) hi (by decide +kernel) (by decide +kernel) (by decide +kernel) (by decide +kernel) (by decide +kernel) ?_
  refine ml_callR h hCE hSE (m := 238) (j := 7150) (idx := 95) (as := [iv (xs (i + 1)).toInt]) (rest := [.int (Int32.ofInt x)]) (by decide +kernel) c2 rfl h100 hk100 rfl (List.forall_mem_cons.mpr ⟨asI _, (fun v hv => by cases hv)⟩) (by decide +kernel) (show (parseMethodDescriptor (gY 238).desc).map (fun d => d.parameters.length) = some 1 by decide +kernel) ⟨by decide +kernel, by decide +kernel⟩ (by decide +kernel) (by simp [ms_v, ms_r, Int32.ofInt_toInt, Int64.ofInt_toInt]) (by simp [Value.category]) ?_
  refine ml_eqI (x := Int32.ofInt x) (st0 := []) (off := 703) (tgt := 1429) h (by decide +kernel) (by decide) ?_
  exact kk MC' MR' hR'
set_option maxRecDepth 100000 in
set_option maxHeartbeats 4000000 in
theorem lc_19 (h : lBun p s mid b L xs meth c D ad kd aC wC wR) (hCE : CE ≤ room_1.cells) (hSE : SE ≤ room_1.slots) (h0 : 0 ∈ wC) (hk0 : kd 0 = 10) (h100 : 100 ∈ wR) (hk100 : kd 100 = 11) (hi : i + 6 ≤ L) (hp : ∀ a0 : Int, (a0 = 0 ∨ a0 = 1) → PureI Rel 148 242 [iv a0]) (hR : Rel MC MR) (kk : ∀ MC' MR', Rel MC' MR' → ml_W h l e below Q CE SE 1429 (lLv ad b i) [] MC' MR') : ml_W h l e below Q CE SE 731 (lLv ad b i) [] MC MR := by
  obtain ⟨x, MC', MR', c1, c2, hR'⟩ := hp (b01 (xs (i + 1))).toInt (b01_or _) MC MR hR
  refine ml_o1 h (by decide +kernel) ?_
  refine ml_arg h (j := 1) (by decide) hi (by decide +kernel) (by decide +kernel) (by decide +kernel) (by decide +kernel) (by decide +kernel) ?_
  refine ml_bool h (by decide +kernel) (by decide +kernel) (by decide +kernel) (by decide +kernel) ?_
  refine ml_callC h hCE hSE (m := 148) (j := 4101) (idx := 96) (as := [iv (b01 (xs (i + 1))).toInt]) (rest := []) (by decide +kernel) c1 rfl h0 hk0 rfl (List.forall_mem_cons.mpr ⟨asI _, (fun v hv => by cases hv)⟩) (by decide +kernel) (show (parseMethodDescriptor (gY 148).desc).map (fun d => d.parameters.length) = some 1 by decide +kernel) ⟨by decide +kernel, by decide +kernel⟩ (by decide +kernel) (by simp [ms_v, ms_r, Int32.ofInt_toInt, Int64.ofInt_toInt]) (by simp [Value.category]) ?_
  refine ml_o2 h (by decide +kernel) ?_
  refine ml_arg h (j := 1) (by decide) hi (by decide +kernel) (by decide +kernel) (by decide +kernel) (by decide +kernel) (by decide +kernel) ?_
  refine ml_bool h (by decide +kernel) (by decide +kernel) (by decide +kernel) (by decide +kernel) ?_
  refine ml_callR h hCE hSE (m := 242) (j := 7166) (idx := 100) (as := [iv (b01 (xs (i + 1))).toInt]) (rest := [.int (Int32.ofInt x)]) (by decide +kernel) c2 rfl h100 hk100 rfl (List.forall_mem_cons.mpr ⟨asI _, (fun v hv => by cases hv)⟩) (by decide +kernel) (show (parseMethodDescriptor (gY 242).desc).map (fun d => d.parameters.length) = some 1 by decide +kernel) ⟨by decide +kernel, by decide +kernel⟩ (by decide +kernel) (by simp [ms_v, ms_r, Int32.ofInt_toInt, Int64.ofInt_toInt]) (by simp [Value.category]) ?_
  refine ml_eqI (x := Int32.ofInt x) (st0 := []) (off := 664) (tgt := 1429) h (by decide +kernel) (by decide) ?_
  exact kk MC' MR' hR'
set_option maxRecDepth 100000 in
set_option maxHeartbeats 4000000 in
theorem lc_20 (h : lBun p s mid b L xs meth c D ad kd aC wC wR) (hCE : CE ≤ room_1.cells) (hSE : SE ≤ room_1.slots) (h0 : 0 ∈ wC) (hk0 : kd 0 = 10) (h100 : 100 ∈ wR) (hk100 : kd 100 = 11) (hi : i + 6 ≤ L) (hp : PureI Rel 149 244 []) (hR : Rel MC MR) (kk : ∀ MC' MR', Rel MC' MR' → ml_W h l e below Q CE SE 1429 (lLv ad b i) [] MC' MR') : ml_W h l e below Q CE SE 770 (lLv ad b i) [] MC MR := by
  obtain ⟨x, MC', MR', c1, c2, hR'⟩ := hp   MC MR hR
  refine ml_o1 h (by decide +kernel) ?_
  refine ml_callC h hCE hSE (m := 149) (j := 4117) (idx := 101) (as := []) (rest := []) (by decide +kernel) c1 rfl h0 hk0 rfl ((fun v hv => by cases hv)) (by decide +kernel) (show (parseMethodDescriptor (gY 149).desc).map (fun d => d.parameters.length) = some 0 by decide +kernel) ⟨by decide +kernel, by decide +kernel⟩ (by decide +kernel) (by simp [ms_v, ms_r, Int32.ofInt_toInt, Int64.ofInt_toInt]) (by simp [Value.category]) ?_
  refine ml_o2 h (by decide +kernel) ?_
  refine ml_callR h hCE hSE (m := 244) (j := 7174) (idx := 104) (as := []) (rest := [.int (Int32.ofInt x)]) (by decide +kernel) c2 rfl h100 hk100 rfl ((fun v hv => by cases hv)) (by decide +kernel) (show (parseMethodDescriptor (gY 244).desc).map (fun d => d.parameters.length) = some 0 by decide +kernel) ⟨by decide +kernel, by decide +kernel⟩ (by decide +kernel) (by simp [ms_v, ms_r, Int32.ofInt_toInt, Int64.ofInt_toInt]) (by simp [Value.category]) ?_
  refine ml_eqI (x := Int32.ofInt x) (st0 := []) (off := 651) (tgt := 1429) h (by decide +kernel) (by decide) ?_
  exact kk MC' MR' hR'
set_option maxRecDepth 100000 in
set_option maxHeartbeats 4000000 in
theorem lc_21 (h : lBun p s mid b L xs meth c D ad kd aC wC wR) (hCE : CE ≤ room_1.cells) (hSE : SE ≤ room_1.slots) (h0 : 0 ∈ wC) (hk0 : kd 0 = 10) (h100 : 100 ∈ wR) (hk100 : kd 100 = 11) (hi : i + 6 ≤ L) (hp : PureI Rel 150 247 []) (hR : Rel MC MR) (kk : ∀ MC' MR', Rel MC' MR' → ml_W h l e below Q CE SE 1429 (lLv ad b i) [] MC' MR') : ml_W h l e below Q CE SE 783 (lLv ad b i) [] MC MR := by
  obtain ⟨x, MC', MR', c1, c2, hR'⟩ := hp   MC MR hR
  refine ml_o1 h (by decide +kernel) ?_
  refine ml_callC h hCE hSE (m := 150) (j := 4132) (idx := 105) (as := []) (rest := []) (by decide +kernel) c1 rfl h0 hk0 rfl ((fun v hv => by cases hv)) (by decide +kernel) (show (parseMethodDescriptor (gY 150).desc).map (fun d => d.parameters.length) = some 0 by decide +kernel) ⟨by decide +kernel, by decide +kernel⟩ (by decide +kernel) (by simp [ms_v, ms_r, Int32.ofInt_toInt, Int64.ofInt_toInt]) (by simp [Value.category]) ?_
  refine ml_o2 h (by decide +kernel) ?_
  refine ml_callR h hCE hSE (m := 247) (j := 7186) (idx := 108) (as := []) (rest := [.int (Int32.ofInt x)]) (by decide +kernel) c2 rfl h100 hk100 rfl ((fun v hv => by cases hv)) (by decide +kernel) (show (parseMethodDescriptor (gY 247).desc).map (fun d => d.parameters.length) = some 0 by decide +kernel) ⟨by decide +kernel, by decide +kernel⟩ (by decide +kernel) (by simp [ms_v, ms_r, Int32.ofInt_toInt, Int64.ofInt_toInt]) (by simp [Value.category]) ?_
  refine ml_eqI (x := Int32.ofInt x) (st0 := []) (off := 638) (tgt := 1429) h (by decide +kernel) (by decide) ?_
  exact kk MC' MR' hR'
set_option maxRecDepth 100000 in
set_option maxHeartbeats 4000000 in
theorem lc_22 (h : lBun p s mid b L xs meth c D ad kd aC wC wR) (hCE : CE ≤ room_1.cells) (hSE : SE ≤ room_1.slots) (h0 : 0 ∈ wC) (hk0 : kd 0 = 10) (h100 : 100 ∈ wR) (hk100 : kd 100 = 11) (hi : i + 6 ≤ L) (hp : ∀ a0 : Int, okI a0 → PureI Rel 151 240 [iv a0]) (hR : Rel MC MR) (kk : ∀ MC' MR', Rel MC' MR' → ml_W h l e below Q CE SE 1429 (lLv ad b i) [] MC' MR') : ml_W h l e below Q CE SE 796 (lLv ad b i) [] MC MR := by
  obtain ⟨x, MC', MR', c1, c2, hR'⟩ := hp (xs (i + 1)).toInt (okI_toInt _) MC MR hR
  refine ml_o1 h (by decide +kernel) ?_
  refine ml_arg h (j := 1) (by decide) hi (by decide +kernel) (by decide +kernel) (by decide +kernel) (by decide +kernel) (by decide +kernel) ?_
  refine ml_callC h hCE hSE (m := 151) (j := 4142) (idx := 109) (as := [iv (xs (i + 1)).toInt]) (rest := []) (by decide +kernel) c1 rfl h0 hk0 rfl (List.forall_mem_cons.mpr ⟨asI _, (fun v hv => by cases hv)⟩) (by decide +kernel) (show (parseMethodDescriptor (gY 151).desc).map (fun d => d.parameters.length) = some 1 by decide +kernel) ⟨by decide +kernel, by decide +kernel⟩ (by decide +kernel) (by simp [ms_v, ms_r, Int32.ofInt_toInt, Int64.ofInt_toInt]) (by simp [Value.category]) ?_
  refine ml_o2 h (by decide +kernel) ?_
  refine ml_arg h (j := 1) (by decide) hi (by decide +kernel) (by decide +kernel) (by decide +kernel) (by decide +kernel) (by decide +kernel) ?_
  refine ml_callR h hCE hSE (m := 240) (j := 7158) (idx := 112) (as := [iv (xs (i + 1)).toInt]) (rest := [.int (Int32.ofInt x)]) (by decide +kernel) c2 rfl h100 hk100 rfl (List.forall_mem_cons.mpr ⟨asI _, (fun v hv => by cases hv)⟩) (by decide +kernel) (show (parseMethodDescriptor (gY 240).desc).map (fun d => d.parameters.length) = some 1 by decide +kernel) ⟨by decide +kernel, by decide +kernel⟩ (by decide +kernel) (by simp [ms_v, ms_r, Int32.ofInt_toInt, Int64.ofInt_toInt]) (by simp [Value.category]) ?_
  refine ml_eqI (x := Int32.ofInt x) (st0 := []) (off := 615) (tgt := 1429) h (by decide +kernel) (by decide) ?_
  exact kk MC' MR' hR'
set_option maxRecDepth 100000 in
set_option maxHeartbeats 4000000 in
theorem lc_23 (h : lBun p s mid b L xs meth c D ad kd aC wC wR) (hCE : CE ≤ room_1.cells) (hSE : SE ≤ room_1.slots) (h0 : 0 ∈ wC) (hk0 : kd 0 = 10) (h100 : 100 ∈ wR) (hk100 : kd 100 = 11) (hi : i + 6 ≤ L) (hp : ∀ a0 a1 : Int, okI a0 → okI a1 → PureI Rel 152 248 [iv a0, iv a1]) (hR : Rel MC MR) (kk : ∀ MC' MR', Rel MC' MR' → ml_W h l e below Q CE SE 1429 (lLv ad b i) [] MC' MR') : ml_W h l e below Q CE SE 819 (lLv ad b i) [] MC MR := by
  obtain ⟨x, MC', MR', c1, c2, hR'⟩ := hp (xs (i + 1)).toInt (xs (i + 2)).toInt (okI_toInt _) (okI_toInt _) MC MR hR
  refine ml_o1 h (by decide +kernel) ?_
  refine ml_arg h (j := 1) (by decide) hi (by decide +kernel) (by decide +kernel) (by decide +kernel) (by decide +kernel) (by decide +kernel) ?_
  refine ml_arg h (j := 2) (by decide) hi (by decide +kernel) (by decide +kernel) (by decide +kernel) (by decide +kernel) (by decide +kernel) ?_
  refine ml_callC h hCE hSE (m := 152) (j := 4147) (idx := 113) (as := [iv (xs (i + 1)).toInt, iv (xs (i + 2)).toInt]) (rest := []) (by decide +kernel) c1 rfl h0 hk0 rfl (List.forall_mem_cons.mpr ⟨asI _, List.forall_mem_cons.mpr ⟨asI _, (fun v hv => by cases hv)⟩⟩) (by decide +kernel) (show (parseMethodDescriptor (gY 152).desc).map (fun d => d.parameters.length) = some 2 by decide +kernel) ⟨by decide +kernel, by decide +kernel⟩ (by decide +kernel) (by simp [ms_v, ms_r, Int32.ofInt_toInt, Int64.ofInt_toInt]) (by simp [Value.category]) ?_
  refine ml_o2 h (by decide +kernel) ?_
  refine ml_arg h (j := 1) (by decide) hi (by decide +kernel) (by decide +kernel) (by decide +kernel) (by decide +kernel) (by decide +kernel) ?_
  refine ml_arg h (j := 2) (by decide) hi (by decide +kernel) (by decide +kernel) (by decide +kernel) (by decide +kernel) (by decide +kernel) ?_
  refine ml_callR h hCE hSE (m := 248) (j := 7190) (idx := 116) (as := [iv (xs (i + 1)).toInt, iv (xs (i + 2)).toInt]) (rest := [.int (Int32.ofInt x)]) (by decide +kernel) c2 rfl h100 hk100 rfl (List.forall_mem_cons.mpr ⟨asI _, List.forall_mem_cons.mpr ⟨asI _, (fun v hv => by cases hv)⟩⟩) (by decide +kernel) (show (parseMethodDescriptor (gY 248).desc).map (fun d => d.parameters.length) = some 2 by decide +kernel) ⟨by decide +kernel, by decide +kernel⟩ (by decide +kernel) (by simp [ms_v, ms_r, Int32.ofInt_toInt, Int64.ofInt_toInt]) (by simp [Value.category]) ?_
  refine ml_eqI (x := Int32.ofInt x) (st0 := []) (off := 582) (tgt := 1429) h (by decide +kernel) (by decide) ?_
  exact kk MC' MR' hR'
set_option maxRecDepth 100000 in
set_option maxHeartbeats 4000000 in
theorem lc_24 (h : lBun p s mid b L xs meth c D ad kd aC wC wR) (hCE : CE ≤ room_1.cells) (hSE : SE ≤ room_1.slots) (h0 : 0 ∈ wC) (hk0 : kd 0 = 10) (h100 : 100 ∈ wR) (hk100 : kd 100 = 11) (hi : i + 6 ≤ L) (hp : ∀ a0 a1 a2 : Int, okI a0 → okI a1 → okI a2 → PureI Rel 154 250 [iv a0, iv a1, iv a2]) (hR : Rel MC MR) (kk : ∀ MC' MR', Rel MC' MR' → ml_W h l e below Q CE SE 1429 (lLv ad b i) [] MC' MR') : ml_W h l e below Q CE SE 852 (lLv ad b i) [] MC MR := by
  obtain ⟨x, MC', MR', c1, c2, hR'⟩ := hp (xs (i + 1)).toInt (xs (i + 2)).toInt (xs (i + 3)).toInt (okI_toInt _) (okI_toInt _) (okI_toInt _) MC MR hR
  refine ml_o1 h (by decide +kernel) ?_
  refine ml_arg h (j := 1) (by decide) hi (by decide +kernel) (by decide +kernel) (by decide +kernel) (by decide +kernel) (by decide +kernel) ?_
  refine ml_arg h (j := 2) (by decide) hi (by decide +kernel) (by decide +kernel) (by decide +kernel) (by decide +kernel) (by decide +kernel) ?_
  refine ml_arg h (j := 3) (by decide) hi (by decide +kernel) (by decide +kernel) (by decide +kernel) (by decide +kernel) (by decide +kernel) ?_
  refine ml_callC h hCE hSE (m := 154) (j := 4166) (idx := 117) (as := [iv (xs (i + 1)).toInt, iv (xs (i + 2)).toInt, iv (xs (i + 3)).toInt]) (rest := []) (by decide +kernel) c1 rfl h0 hk0 rfl (List.forall_mem_cons.mpr ⟨asI _, List.forall_mem_cons.mpr ⟨asI _, List.forall_mem_cons.mpr ⟨asI _, (fun v hv => by cases hv)⟩⟩⟩) (by decide +kernel) (show (parseMethodDescriptor (gY 154).desc).map (fun d => d.parameters.length) = some 3 by decide +kernel) ⟨by decide +kernel, by decide +kernel⟩ (by decide +kernel) (by simp [ms_v, ms_r, Int32.ofInt_toInt, Int64.ofInt_toInt]) (by simp [Value.category]) ?_
  refine ml_o2 h (by decide +kernel) ?_
  refine ml_arg h (j := 1) (by decide) hi (by decide +kernel) (by decide +kernel) (by decide +kernel) (by decide +kernel) (by decide +kernel) ?_
  refine ml_arg h (j := 2) (by decide) hi (by decide +kernel) (by decide +kernel) (by decide +kernel) (by decide +kernel) (by decide +kernel) ?_
  refine ml_arg h (j := 3) (by decide) hi (by decide +kernel) (by decide +kernel) (by decide +kernel) (by decide +kernel) (by decide +kernel) ?_
  refine ml_callR h hCE hSE (m := 250) (j := 7198) (idx := 121) (as := [iv (xs (i + 1)).toInt, iv (xs (i + 2)).toInt, iv (xs (i + 3)).toInt]) (rest := [.int (Int32.ofInt x)]) (by decide +kernel) c2 rfl h100 hk100 rfl (List.forall_mem_cons.mpr ⟨asI _, List.forall_mem_cons.mpr ⟨asI _, List.forall_mem_cons.mpr ⟨asI _, (fun v hv => by cases hv)⟩⟩⟩) (by decide +kernel) (show (parseMethodDescriptor (gY 250).desc).map (fun d => d.parameters.length) = some 3 by decide +kernel) ⟨by decide +kernel, by decide +kernel⟩ (by decide +kernel) (by simp [ms_v, ms_r, Int32.ofInt_toInt, Int64.ofInt_toInt]) (by simp [Value.category]) ?_
  refine ml_eqI (x := Int32.ofInt x) (st0 := []) (off := 539) (tgt := 1429) h (by decide +kernel) (by decide) ?_
  exact kk MC' MR' hR'
set_option maxRecDepth 100000 in
set_option maxHeartbeats 4000000 in
theorem lc_25 (h : lBun p s mid b L xs meth c D ad kd aC wC wR) (hCE : CE ≤ room_1.cells) (hSE : SE ≤ room_1.slots) (h0 : 0 ∈ wC) (hk0 : kd 0 = 10) (h100 : 100 ∈ wR) (hk100 : kd 100 = 11) (hi : i + 6 ≤ L) (hp : ∀ a0 a1 : Int, okI a0 → okI a1 → PureI Rel 155 251 [iv a0, iv a1]) (hR : Rel MC MR) (kk : ∀ MC' MR', Rel MC' MR' → ml_W h l e below Q CE SE 1429 (lLv ad b i) [] MC' MR') : ml_W h l e below Q CE SE 895 (lLv ad b i) [] MC MR := by
  obtain ⟨x, MC', MR', c1, c2, hR'⟩ := hp (xs (i + 1)).toInt (xs (i + 2)).toInt (okI_toInt _) (okI_toInt _) MC MR hR
  refine ml_o1 h (by decide +kernel) ?_
  refine ml_arg h (j := 1) (by decide) hi (by decide +kernel) (by decide +kernel) (by decide +kernel) (by decide +kernel) (by decide +kernel) ?_
  refine ml_arg h (j := 2) (by decide) hi (by decide +kernel) (by decide +kernel) (by decide +kernel) (by decide +kernel) (by decide +kernel) ?_
  refine ml_callC h hCE hSE (m := 155) (j := 4174) (idx := 122) (as := [iv (xs (i + 1)).toInt, iv (xs (i + 2)).toInt]) (rest := []) (by decide +kernel) c1 rfl h0 hk0 rfl (List.forall_mem_cons.mpr ⟨asI _, List.forall_mem_cons.mpr ⟨asI _, (fun v hv => by cases hv)⟩⟩) (by decide +kernel) (show (parseMethodDescriptor (gY 155).desc).map (fun d => d.parameters.length) = some 2 by decide +kernel) ⟨by decide +kernel, by decide +kernel⟩ (by decide +kernel) (by simp [ms_v, ms_r, Int32.ofInt_toInt, Int64.ofInt_toInt]) (by simp [Value.category]) ?_
  refine ml_o2 h (by decide +kernel) ?_
  refine ml_arg h (j := 1) (by decide) hi (by decide +kernel) (by decide +kernel) (by decide +kernel) (by decide +kernel) (by decide +kernel) ?_
  refine ml_arg h (j := 2) (by decide) hi (by decide +kernel) (by decide +kernel) (by decide +kernel) (by decide +kernel) (by decide +kernel) ?_
  refine ml_callR h hCE hSE (m := 251) (j := 7202) (idx := 125) (as := [iv (xs (i + 1)).toInt, iv (xs (i + 2)).toInt]) (rest := [.int (Int32.ofInt x)]) (by decide +kernel) c2 rfl h100 hk100 rfl (List.forall_mem_cons.mpr ⟨asI _, List.forall_mem_cons.mpr ⟨asI _, (fun v hv => by cases hv)⟩⟩) (by decide +kernel) (show (parseMethodDescriptor (gY 251).desc).map (fun d => d.parameters.length) = some 2 by decide +kernel) ⟨by decide +kernel, by decide +kernel⟩ (by decide +kernel) (by simp [ms_v, ms_r, Int32.ofInt_toInt, Int64.ofInt_toInt]) (by simp [Value.category]) ?_
  refine ml_eqI (x := Int32.ofInt x) (st0 := []) (off := 506) (tgt := 1429) h (by decide +kernel) (by decide) ?_
  exact kk MC' MR' hR'
set_option maxRecDepth 100000 in
set_option maxHeartbeats 4000000 in
theorem lc_26 (h : lBun p s mid b L xs meth c D ad kd aC wC wR) (hCE : CE ≤ room_1.cells) (hSE : SE ≤ room_1.slots) (h0 : 0 ∈ wC) (hk0 : kd 0 = 10) (h100 : 100 ∈ wR) (hk100 : kd 100 = 11) (hi : i + 6 ≤ L) (hp : ∀ a0 : Int, okI a0 → PureI Rel 156 252 [iv a0]) (hR : Rel MC MR) (kk : ∀ MC' MR', Rel MC' MR' → ml_W h l e below Q CE SE 1429 (lLv ad b i) [] MC' MR') : ml_W h l e below Q CE SE 928 (lLv ad b i) [] MC MR := by
  obtain ⟨x, MC', MR', c1, c2, hR'⟩ := hp (xs (i + 1)).toInt (okI_toInt _) MC MR hR
  refine ml_o1 h (by decide +kernel) ?_
  refine ml_arg h (j := 1) (by decide) hi (by decide +kernel) (by decide +kernel) (by decide +kernel) (by decide +kernel) (by decide +kernel) ?_
  refine ml_callC h hCE hSE (m := 156) (j := 4178) (idx := 126) (as := [iv (xs (i + 1)).toInt]) (rest := []) (by decide +kernel) c1 rfl h0 hk0 rfl (List.forall_mem_cons.mpr ⟨asI _, (fun v hv => by cases hv)⟩) (by decide +kernel) (show (parseMethodDescriptor (gY 156).desc).map (fun d => d.parameters.length) = some 1 by decide +kernel) ⟨by decide +kernel, by decide +kernel⟩ (by decide +kernel) (by simp [ms_v, ms_r, Int32.ofInt_toInt, Int64.ofInt_toInt]) (by simp [Value.category]) ?_
  refine ml_o2 h (by decide +kernel) ?_
  refine ml_arg h (j := 1) (by decide) hi (by decide +kernel) (by decide +kernel) (by decide +kernel) (by decide +kernel) (by decide +kernel) ?_
  refine ml_callR h hCE hSE (m := 252) (j := 7206) (idx := 129) (as := [iv (xs (i + 1)).toInt]) (rest := [.int (Int32.ofInt x)]) (by decide +kernel) c2 rfl h100 hk100 rfl (List.forall_mem_cons.mpr ⟨asI _, (fun v hv => by cases hv)⟩) (by decide +kernel) (show (parseMethodDescriptor (gY 252).desc).map (fun d => d.parameters.length) = some 1 by decide +kernel) ⟨by decide +kernel, by decide +kernel⟩ (by decide +kernel) (by simp [ms_v, ms_r, Int32.ofInt_toInt, Int64.ofInt_toInt]) (by simp [Value.category]) ?_
  refine ml_eqI (x := Int32.ofInt x) (st0 := []) (off := 483) (tgt := 1429) h (by decide +kernel) (by decide) ?_
  exact kk MC' MR' hR'
set_option maxRecDepth 100000 in
set_option maxHeartbeats 4000000 in
theorem lc_27 (h : lBun p s mid b L xs meth c D ad kd aC wC wR) (hCE : CE ≤ room_1.cells) (hSE : SE ≤ room_1.slots) (h0 : 0 ∈ wC) (hk0 : kd 0 = 10) (h100 : 100 ∈ wR) (hk100 : kd 100 = 11) (hi : i + 6 ≤ L) (hp : ∀ a0 a1 : Int, okI a0 → okI a1 → PureJ Rel 159 253 [iv a0, iv a1]) (hR : Rel MC MR) (kk : ∀ MC' MR', Rel MC' MR' → ml_W h l e below Q CE SE 1429 (lLv ad b i) [] MC' MR') : ml_W h l e below Q CE SE 951 (lLv ad b i) [] MC MR := by
  obtain ⟨x, MC', MR', c1, c2, hR'⟩ := hp (xs (i + 1)).toInt (xs (i + 2)).toInt (okI_toInt _) (okI_toInt _) MC MR hR
  refine ml_o1 h (by decide +kernel) ?_
  refine ml_arg h (j := 1) (by decide) hi (by decide +kernel) (by decide +kernel) (by decide +kernel) (by decide +kernel) (by decide +kernel) ?_
  refine ml_arg h (j := 2) (by decide) hi (by decide +kernel) (by decide +kernel) (by decide +kernel) (by decide +kernel) (by decide +kernel) ?_
  refine ml_callC h hCE hSE (m := 159) (j := 5017) (idx := 130) (as := [iv (xs (i + 1)).toInt, iv (xs (i + 2)).toInt]) (rest := []) (by decide +kernel) c1 rfl h0 hk0 rfl (List.forall_mem_cons.mpr ⟨asI _, List.forall_mem_cons.mpr ⟨asI _, (fun v hv => by cases hv)⟩⟩) (by decide +kernel) (show (parseMethodDescriptor (gY 159).desc).map (fun d => d.parameters.length) = some 2 by decide +kernel) ⟨by decide +kernel, by decide +kernel⟩ (by decide +kernel) (by simp [ms_v, ms_r, Int32.ofInt_toInt, Int64.ofInt_toInt]) (by simp [Value.category]) ?_
  refine ml_o2 h (by decide +kernel) ?_
  refine ml_arg h (j := 1) (by decide) hi (by decide +kernel) (by decide +kernel) (by decide +kernel) (by decide +kernel) (by decide +kernel) ?_
  refine ml_arg h (j := 2) (by decide) hi (by decide +kernel) (by decide +kernel) (by decide +kernel) (by decide +kernel) (by decide +kernel) ?_
  refine ml_callR h hCE hSE (m := 253) (j := 7210) (idx := 134) (as := [iv (xs (i + 1)).toInt, iv (xs (i + 2)).toInt]) (rest := [.long (Int64.ofInt x)]) (by decide +kernel) c2 rfl h100 hk100 rfl (List.forall_mem_cons.mpr ⟨asI _, List.forall_mem_cons.mpr ⟨asI _, (fun v hv => by cases hv)⟩⟩) (by decide +kernel) (show (parseMethodDescriptor (gY 253).desc).map (fun d => d.parameters.length) = some 2 by decide +kernel) ⟨by decide +kernel, by decide +kernel⟩ (by decide +kernel) (by simp [ms_v, ms_r, Int32.ofInt_toInt, Int64.ofInt_toInt]) (by simp [Value.category]) ?_
  refine ml_eqJ (x := Int64.ofInt x) (st0 := []) (off := 449) (tgt := 1429) h (by decide +kernel) (by decide +kernel) (by decide) ?_
  exact kk MC' MR' hR'
set_option maxRecDepth 100000 in
set_option maxHeartbeats 4000000 in
theorem lc_28 (h : lBun p s mid b L xs meth c D ad kd aC wC wR) (hCE : CE ≤ room_1.cells) (hSE : SE ≤ room_1.slots) (h0 : 0 ∈ wC) (hk0 : kd 0 = 10) (h100 : 100 ∈ wR) (hk100 : kd 100 = 11) (hi : i + 6 ≤ L) (hp : ∀ a0 : Int, okI a0 → PureJ Rel 161 255 [iv a0]) (hR : Rel MC MR) (kk : ∀ MC' MR', Rel MC' MR' → ml_W h l e below Q CE SE 1429 (lLv ad b i) [] MC' MR') : ml_W h l e below Q CE SE 985 (lLv ad b i) [] MC MR := by
  obtain ⟨x, MC', MR', c1, c2, hR'⟩ := hp (xs (i + 1)).toInt (okI_toInt _) MC MR hR
  refine ml_o1 h (by decide +kernel) ?_
  refine ml_arg h (j := 1) (by decide) hi (by decide +kernel) (by decide +kernel) (by decide +kernel) (by decide +kernel) (by decide +kernel) ?_
  refine ml_callC h hCE hSE (m := 161) (j := 5031) (idx := 135) (as := [iv (xs (i + 1)).toInt]) (rest := []) (by decide +kernel) c1 rfl h0 hk0 rfl (List.forall_mem_cons.mpr ⟨asI _, (fun v hv => by cases hv)⟩) (by decide +kernel) (show (parseMethodDescriptor (gY 161).desc).map (fun d => d.parameters.length) = some 1 by decide +kernel) ⟨by decide +kernel, by decide +kernel⟩ (by decide +kernel) (by simp [ms_v, ms_r, Int32.ofInt_toInt, Int64.ofInt_toInt]) (by simp [Value.category]) ?_
  refine ml_o2 h (by decide +kernel) ?_
  refine ml_arg h (j := 1) (by decide) hi (by decide +kernel) (by decide +kernel) (by decide +kernel) (by decide +kernel) (by decide +kernel) ?_
  refine ml_callR h hCE hSE (m := 255) (j := 7219) (idx := 139) (as := [iv (xs (i + 1)).toInt]) (rest := [.long (Int64.ofInt x)]) (by decide +kernel) c2 rfl h100 hk100 rfl (List.forall_mem_cons.mpr ⟨asI _, (fun v hv => by cases hv)⟩) (by decide +kernel) (show (parseMethodDescriptor (gY 255).desc).map (fun d => d.parameters.length) = some 1 by decide +kernel) ⟨by decide +kernel, by decide +kernel⟩ (by decide +kernel) (by simp [ms_v, ms_r, Int32.ofInt_toInt, Int64.ofInt_toInt]) (by simp [Value.category]) ?_
  refine ml_eqJ (x := Int64.ofInt x) (st0 := []) (off := 425) (tgt := 1429) h (by decide +kernel) (by decide +kernel) (by decide) ?_
  exact kk MC' MR' hR'
set_option maxRecDepth 100000 in
set_option maxHeartbeats 4000000 in
theorem lc_29 (h : lBun p s mid b L xs meth c D ad kd aC wC wR) (hCE : CE ≤ room_1.cells) (hSE : SE ≤ room_1.slots) (h0 : 0 ∈ wC) (hk0 : kd 0 = 10) (h100 : 100 ∈ wR) (hk100 : kd 100 = 11) (hi : i + 6 ≤ L) (hp : ∀ a0 : Int, okI a0 → PureJ Rel 162 257 [iv a0]) (hR : Rel MC MR) (kk : ∀ MC' MR', Rel MC' MR' → ml_W h l e below Q CE SE 1429 (lLv ad b i) [] MC' MR') : ml_W h l e below Q CE SE 1009 (lLv ad b i) [] MC MR := by
  obtain ⟨x, MC', MR', c1, c2, hR'⟩ := hp (xs (i + 1)).toInt (okI_toInt _) MC MR hR
  refine ml_o1 h (by decide +kernel) ?_
  refine ml_arg h (j := 1) (by decide) hi (by decide +kernel) (by decide +kernel) (by decide +kernel) (by decide +kernel) (by decide +kernel) ?_
  refine ml_callC h hCE hSE (m := 162) (j := 5048) (idx := 140) (as := [iv (xs (i + 1)).toInt]) (rest := []) (by decide +kernel) c1 rfl h0 hk0 rfl (List.forall_mem_cons.mpr ⟨asI _, (fun v hv => by cases hv)⟩) (by decide +kernel) (show (parseMethodDescriptor (gY 162).desc).map (fun d => d.parameters.length) = some 1 by decide +kernel) ⟨by decide +kernel, by decide +kernel⟩ (by decide +kernel) (by simp [ms_v, ms_r, Int32.ofInt_toInt, Int64.ofInt_toInt]) (by simp [Value.category]) ?_
  refine ml_o2 h (by decide +kernel) ?_
  refine ml_arg h (j := 1) (by decide) hi (by decide +kernel) (by decide +kernel) (by decide +kernel) (by decide +kernel) (by decide +kernel) ?_
  refine ml_callR h hCE hSE (m := 257) (j := 7228) (idx := 143) (as := [iv (xs (i + 1)).toInt]) (rest := [.long (Int64.ofInt x)]) (by decide +kernel) c2 rfl h100 hk100 rfl (List.forall_mem_cons.mpr ⟨asI _, (fun v hv => by cases hv)⟩) (by decide +kernel) (show (parseMethodDescriptor (gY 257).desc).map (fun d => d.parameters.length) = some 1 by decide +kernel) ⟨by decide +kernel, by decide +kernel⟩ (by decide +kernel) (by simp [ms_v, ms_r, Int32.ofInt_toInt, Int64.ofInt_toInt]) (by simp [Value.category]) ?_
  refine ml_eqJ (x := Int64.ofInt x) (st0 := []) (off := 401) (tgt := 1429) h (by decide +kernel) (by decide +kernel) (by decide) ?_
  exact kk MC' MR' hR'
set_option maxRecDepth 100000 in
set_option maxHeartbeats 4000000 in
theorem lc_30 (h : lBun p s mid b L xs meth c D ad kd aC wC wR) (hCE : CE ≤ room_1.cells) (hSE : SE ≤ room_1.slots) (h0 : 0 ∈ wC) (hk0 : kd 0 = 10) (h100 : 100 ∈ wR) (hk100 : kd 100 = 11) (hi : i + 6 ≤ L) (hp : ∀ a0 : Int, okI a0 → PureI Rel 163 260 [iv a0]) (hR : Rel MC MR) (kk : ∀ MC' MR', Rel MC' MR' → ml_W h l e below Q CE SE 1429 (lLv ad b i) [] MC' MR') : ml_W h l e below Q CE SE 1033 (lLv ad b i) [] MC MR := by
  obtain ⟨x, MC', MR', c1, c2, hR'⟩ := hp (xs (i + 1)).toInt (okI_toInt _) MC MR hR
  refine ml_o1 h (by decide +kernel) ?_
  refine ml_arg h (j := 1) (by decide) hi (by decide +kernel) (by decide +kernel) (by decide +kernel) (by decide +kernel) (by decide +kernel) ?_
  refine ml_callC h hCE hSE (m := 163) (j := 5062) (idx := 144) (as := [iv (xs (i + 1)).toInt]) (rest := []) (by decide +kernel) c1 rfl h0 hk0 rfl (List.forall_mem_cons.mpr ⟨asI _, (fun v hv => by cases hv)⟩) (by decide +kernel) (show (parseMethodDescriptor (gY 163).desc).map (fun d => d.parameters.length) = some 1 by decide +kernel) ⟨by decide +kernel, by decide +kernel⟩ (by decide +kernel) (by simp [ms_v, ms_r, Int32.ofInt_toInt, Int64.ofInt_toInt]) (by simp [Value.category]) ?_
  refine ml_o2 h (by decide +kernel) ?_
  refine ml_arg h (j := 1) (by decide) hi (by decide +kernel) (by decide +kernel) (by decide +kernel) (by decide +kernel) (by decide +kernel) ?_
  refine ml_callR h hCE hSE (m := 260) (j := 8000) (idx := 147) (as := [iv (xs (i + 1)).toInt]) (rest := [.int (Int32.ofInt x)]) (by decide +kernel) c2 rfl h100 hk100 rfl (List.forall_mem_cons.mpr ⟨asI _, (fun v hv => by cases hv)⟩) (by decide +kernel) (show (parseMethodDescriptor (gY 260).desc).map (fun d => d.parameters.length) = some 1 by decide +kernel) ⟨by decide +kernel, by decide +kernel⟩ (by decide +kernel) (by simp [ms_v, ms_r, Int32.ofInt_toInt, Int64.ofInt_toInt]) (by simp [Value.category]) ?_
  refine ml_eqI (x := Int32.ofInt x) (st0 := []) (off := 378) (tgt := 1429) h (by decide +kernel) (by decide) ?_
  exact kk MC' MR' hR'
set_option maxRecDepth 100000 in
set_option maxHeartbeats 4000000 in
theorem lc_31 (h : lBun p s mid b L xs meth c D ad kd aC wC wR) (hCE : CE ≤ room_1.cells) (hSE : SE ≤ room_1.slots) (h0 : 0 ∈ wC) (hk0 : kd 0 = 10) (h100 : 100 ∈ wR) (hk100 : kd 100 = 11) (hi : i + 6 ≤ L) (hp : ∀ a0 a1 : Int, okI a0 → okI a1 → PureJ Rel 164 262 [iv a0, iv a1]) (hR : Rel MC MR) (kk : ∀ MC' MR', Rel MC' MR' → ml_W h l e below Q CE SE 1429 (lLv ad b i) [] MC' MR') : ml_W h l e below Q CE SE 1056 (lLv ad b i) [] MC MR := by
  obtain ⟨x, MC', MR', c1, c2, hR'⟩ := hp (xs (i + 1)).toInt (xs (i + 2)).toInt (okI_toInt _) (okI_toInt _) MC MR hR
  refine ml_o1 h (by decide +kernel) ?_
  refine ml_arg h (j := 1) (by decide) hi (by decide +kernel) (by decide +kernel) (by decide +kernel) (by decide +kernel) (by decide +kernel) ?_
  refine ml_arg h (j := 2) (by decide) hi (by decide +kernel) (by decide +kernel) (by decide +kernel) (by decide +kernel) (by decide +kernel) ?_
  refine ml_callC h hCE hSE (m := 164) (j := 5072) (idx := 148) (as := [iv (xs (i + 1)).toInt, iv (xs (i + 2)).toInt]) (rest := []) (by decide +kernel) c1 rfl h0 hk0 rfl (List.forall_mem_cons.mpr ⟨asI _, List.forall_mem_cons.mpr ⟨asI _, (fun v hv => by cases hv)⟩⟩) (by decide +kernel) (show (parseMethodDescriptor (gY 164).desc).map (fun d => d.parameters.length) = some 2 by decide +kernel) ⟨by decide +kernel, by decide +kernel⟩ (by decide +kernel) (by simp [ms_v, ms_r, Int32.ofInt_toInt, Int64.ofInt_toInt]) (by simp [Value.category]) ?_
  refine ml_o2 h (by decide +kernel) ?_
  refine ml_arg h (j := 1) (by decide) hi (by decide +kernel) (by decide +kernel) (by decide +kernel) (by decide +kernel) (by decide +kernel) ?_
  refine ml_arg h (j := 2) (by decide) hi (by decide +kernel) (by decide +kernel) (by decide +kernel) (by decide +kernel) (by decide +kernel) ?_
  refine ml_callR h hCE hSE (m := 262) (j := 8008) (idx := 151) (as := [iv (xs (i + 1)).toInt, iv (xs (i + 2)).toInt]) (rest := [.long (Int64.ofInt x)]) (by decide +kernel) c2 rfl h100 hk100 rfl (List.forall_mem_cons.mpr ⟨asI _, List.forall_mem_cons.mpr ⟨asI _, (fun v hv => by cases hv)⟩⟩) (by decide +kernel) (show (parseMethodDescriptor (gY 262).desc).map (fun d => d.parameters.length) = some 2 by decide +kernel) ⟨by decide +kernel, by decide +kernel⟩ (by decide +kernel) (by simp [ms_v, ms_r, Int32.ofInt_toInt, Int64.ofInt_toInt]) (by simp [Value.category]) ?_
  refine ml_eqJ (x := Int64.ofInt x) (st0 := []) (off := 344) (tgt := 1429) h (by decide +kernel) (by decide +kernel) (by decide) ?_
  exact kk MC' MR' hR'
set_option maxRecDepth 100000 in
set_option maxHeartbeats 4000000 in
theorem lc_32 (h : lBun p s mid b L xs meth c D ad kd aC wC wR) (hCE : CE ≤ room_1.cells) (hSE : SE ≤ room_1.slots) (h0 : 0 ∈ wC) (hk0 : kd 0 = 10) (h100 : 100 ∈ wR) (hk100 : kd 100 = 11) (hi : i + 6 ≤ L) (hp : ∀ a0 a1 a2 a3 : Int, okI a0 → okI a1 → okI a2 → okJ a3 → PureI Rel 165 264 [iv a0, iv a1, iv a2, jv a3]) (hR : Rel MC MR) (kk : ∀ MC' MR', Rel MC' MR' → ml_W h l e below Q CE SE 1429 (lLv ad b i) [] MC' MR') : ml_W h l e below Q CE SE 1090 (lLv ad b i) [] MC MR := by
  obtain ⟨x, MC', MR', c1, c2, hR'⟩ := hp (xs (i + 1)).toInt (xs (i + 2)).toInt (xs (i + 3)).toInt (((xs (i + 4)).toInt64 <<< ((32 : Int32).toInt64 &&& 63)) ||| ((xs (i + 5)).toInt64 &&& 4294967295)).toInt (okI_toInt _) (okI_toInt _) (okI_toInt _) (okJ_toInt _) MC MR hR
  refine ml_o1 h (by decide +kernel) ?_
  refine ml_arg h (j := 1) (by decide) hi (by decide +kernel) (by decide +kernel) (by decide +kernel) (by decide +kernel) (by decide +kernel) ?_
  refine ml_arg h (j := 2) (by decide) hi (by decide +kernel) (by decide +kernel) (by decide +kernel) (by decide +kernel) (by decide +kernel) ?_
  refine ml_arg h (j := 3) (by decide) hi (by decide +kernel) (by decide +kernel) (by decide +kernel) (by decide +kernel) (by decide +kernel) ?_
  refine ml_arg h (j := 4) (by decide) hi (by decide +kernel) (by decide +kernel) (by decide +kernel) (by decide +kernel) (by decide +kernel) ?_
  refine ml_i2l h (by decide +kernel) ?_
  refine ml_bipush (n := 32) (x := 32) h (by decide +kernel) rfl ?_
  refine ml_lshl h (by decide +kernel) ?_
  refine ml_arg h (j := 5) (by decide) hi (by decide +kernel) (by decide +kernel) (by decide +kernel) (by decide +kernel) (by decide +kernel) ?_
  refine ml_i2l h (by decide +kernel) ?_
  refine ml_ldc2 (n := 152) (j := 8086) (x := 4294967295) h (by decide +kernel) (by decide +kernel) ?_
  refine ml_land h (by decide +kernel) ?_
  refine ml_lor h (by decide +kernel) ?_
  refine ml_callC h hCE hSE (m := 165) (j := 5078) (idx := 154) (as := [iv (xs (i + 1)).toInt, iv (xs (i + 2)).toInt, iv (xs (i + 3)).toInt, jv (((xs (i + 4)).toInt64 <<< ((32 : Int32).toInt64 &&& 63)) ||| ((xs (i + 5)).toInt64 &&& 4294967295)).toInt]) (rest := []) (by decide +kernel) c1 rfl h0 hk0 rfl (List.forall_mem_cons.mpr ⟨asI _, List.forall_mem_cons.mpr ⟨asI _, List.forall_mem_cons.mpr ⟨asI _, List.forall_mem_cons.mpr ⟨asJ _, (fun v hv => by cases hv)⟩⟩⟩⟩) (by decide +kernel) (show (parseMethodDescriptor (gY 165).desc).map (fun d => d.parameters.length) = some 4 by decide +kernel) ⟨by decide +kernel, by decide +kernel⟩ (by decide +kernel) (by simp [ms_v, ms_r, Int32.ofInt_toInt, Int64.ofInt_toInt]) (by simp [Value.category]) ?_
  refine ml_o2 h (by decide +kernel) ?_
  refine ml_arg h (j := 1) (by decide) hi (by decide +kernel) (by decide +kernel) (by decide +kernel) (by decide +kernel) (by decide +kernel) ?_
  refine ml_arg h (j := 2) (by decide) hi (by decide +kernel) (by decide +kernel) (by decide +kernel) (by decide +kernel) (by decide +kernel) ?_
  refine ml_arg h (j := 3) (by decide) hi (by decide +kernel) (by decide +kernel) (by decide +kernel) (by decide +kernel) (by decide +kernel) ?_
  refine ml_arg h (j := 4) (by decide) hi (by decide +kernel) (by decide +kernel) (by decide +kernel) (by decide +kernel) (by decide +kernel) ?_
  refine ml_i2l h (by decide +kernel) ?_
  refine ml_bipush (n := 32) (x := 32) h (by decide +kernel) rfl ?_
  refine ml_lshl h (by decide +kernel) ?_
  refine ml_arg h (j := 5) (by decide) hi (by decide +kernel) (by decide +kernel) (by decide +kernel) (by decide +kernel) (by decide +kernel) ?_
  refine ml_i2l h (by decide +kernel) ?_
  refine ml_ldc2 (n := 152) (j := 8086) (x := 4294967295) h (by decide +kernel) (by decide +kernel) ?_
  refine ml_land h (by decide +kernel) ?_
  refine ml_lor h (by decide +kernel) ?_
  refine ml_callR h hCE hSE (m := 264) (j := 8018) (idx := 158) (as := [iv (xs (i + 1)).toInt, iv (xs (i + 2)).toInt, iv (xs (i + 3)).toInt, jv (((xs (i + 4)).toInt64 <<< ((32 : Int32).toInt64 &&& 63)) ||| ((xs (i + 5)).toInt64 &&& 4294967295)).toInt]) (rest := [.int (Int32.ofInt x)]) (by decide +kernel) c2 rfl h100 hk100 rfl (List.forall_mem_cons.mpr ⟨asI _, List.forall_mem_cons.mpr ⟨asI _, List.forall_mem_cons.mpr ⟨asI _, List.forall_mem_cons.mpr ⟨asJ _, (fun v hv => by cases hv)⟩⟩⟩⟩) (by decide +kernel) (show (parseMethodDescriptor (gY 264).desc).map (fun d => d.parameters.length) = some 4 by decide +kernel) ⟨by decide +kernel, by decide +kernel⟩ (by decide +kernel) (by simp [ms_v, ms_r, Int32.ofInt_toInt, Int64.ofInt_toInt]) (by simp [Value.category]) ?_
  refine ml_eqI (x := Int32.ofInt x) (st0 := []) (off := 261) (tgt := 1429) h (by decide +kernel) (by decide) ?_
  exact kk MC' MR' hR'
set_option maxRecDepth 100000 in
set_option maxHeartbeats 4000000 in
theorem lc_33 (h : lBun p s mid b L xs meth c D ad kd aC wC wR) (hCE : CE ≤ room_1.cells) (hSE : SE ≤ room_1.slots) (h0 : 0 ∈ wC) (hk0 : kd 0 = 10) (h100 : 100 ∈ wR) (hk100 : kd 100 = 11) (hi : i + 6 ≤ L) (hp : ∀ a0 : Int, (a0 = 0 ∨ a0 = 1) → PureI Rel 166 266 [iv a0]) (hR : Rel MC MR) (kk : ∀ MC' MR', Rel MC' MR' → ml_W h l e below Q CE SE 1429 (lLv ad b i) [] MC' MR') : ml_W h l e below Q CE SE 1173 (lLv ad b i) [] MC MR := by
  obtain ⟨x, MC', MR', c1, c2, hR'⟩ := hp (b01 (xs (i + 1))).toInt (b01_or _) MC MR hR
  refine ml_o1 h (by decide +kernel) ?_
  refine ml_arg h (j := 1) (by decide) hi (by decide +kernel) (by decide +kernel) (by decide +kernel) (by decide +kernel) (by decide +kernel) ?_
  refine ml_bool h (by decide +kernel) (by decide +kernel) (by decide +kernel) (by decide +kernel) ?_
  refine ml_callC h hCE hSE (m := 166) (j := 5095) (idx := 159) (as := [iv (b01 (xs (i + 1))).toInt]) (rest := []) (by decide +kernel) c1 rfl h0 hk0 rfl (List.forall_mem_cons.mpr ⟨asI _, (fun v hv => by cases hv)⟩) (by decide +kernel) (show (parseMethodDescriptor (gY 166).desc).map (fun d => d.parameters.length) = some 1 by decide +kernel) ⟨by decide +kernel, by decide +kernel⟩ (by decide +kernel) (by simp [ms_v, ms_r, Int32.ofInt_toInt, Int64.ofInt_toInt]) (by simp [Value.category]) ?_
  refine ml_o2 h (by decide +kernel) ?_
  refine ml_arg h (j := 1) (by decide) hi (by decide +kernel) (by decide +kernel) (by decide +kernel) (by decide +kernel) (by decide +kernel) ?_
  refine ml_bool h (by decide +kernel) (by decide +kernel) (by decide +kernel) (by decide +kernel) ?_
  refine ml_callR h hCE hSE (m := 266) (j := 8026) (idx := 162) (as := [iv (b01 (xs (i + 1))).toInt]) (rest := [.int (Int32.ofInt x)]) (by decide +kernel) c2 rfl h100 hk100 rfl (List.forall_mem_cons.mpr ⟨asI _, (fun v hv => by cases hv)⟩) (by decide +kernel) (show (parseMethodDescriptor (gY 266).desc).map (fun d => d.parameters.length) = some 1 by decide +kernel) ⟨by decide +kernel, by decide +kernel⟩ (by decide +kernel) (by simp [ms_v, ms_r, Int32.ofInt_toInt, Int64.ofInt_toInt]) (by simp [Value.category]) ?_
  refine ml_eqI (x := Int32.ofInt x) (st0 := []) (off := 222) (tgt := 1429) h (by decide +kernel) (by decide) ?_
  exact kk MC' MR' hR'
set_option maxRecDepth 100000 in
set_option maxHeartbeats 4000000 in
theorem lc_34 (h : lBun p s mid b L xs meth c D ad kd aC wC wR) (hCE : CE ≤ room_1.cells) (hSE : SE ≤ room_1.slots) (h0 : 0 ∈ wC) (hk0 : kd 0 = 10) (h100 : 100 ∈ wR) (hk100 : kd 100 = 11) (hi : i + 6 ≤ L) (hp : ∀ a0 a1 : Int, (a0 = 0 ∨ a0 = 1) → okI a1 → PureI Rel 168 272 [iv a0, iv a1]) (hR : Rel MC MR) (kk : ∀ MC' MR', Rel MC' MR' → ml_W h l e below Q CE SE 1429 (lLv ad b i) [] MC' MR') : ml_W h l e below Q CE SE 1212 (lLv ad b i) [] MC MR := by
  obtain ⟨x, MC', MR', c1, c2, hR'⟩ := hp (b01 (xs (i + 1))).toInt (xs (i + 2)).toInt (b01_or _) (okI_toInt _) MC MR hR
  refine ml_o1 h (by decide +kernel) ?_
  refine ml_arg h (j := 1) (by decide) hi (by decide +kernel) (by decide +kernel) (by decide +kernel) (by decide +kernel) (by decide +kernel) ?_
  refine ml_bool h (by decide +kernel) (by decide +kernel) (by decide +kernel) (by decide +kernel) ?_
  refine ml_arg h (j := 2) (by decide) hi (by decide +kernel) (by decide +kernel) (by decide +kernel) (by decide +kernel) (by decide +kernel) ?_
  refine ml_callC h hCE hSE (m := 168) (j := 5131) (idx := 163) (as := [iv (b01 (xs (i + 1))).toInt, iv (xs (i + 2)).toInt]) (rest := []) (by decide +kernel) c1 rfl h0 hk0 rfl (List.forall_mem_cons.mpr ⟨asI _, List.forall_mem_cons.mpr ⟨asI _, (fun v hv => by cases hv)⟩⟩) (by decide +kernel) (show (parseMethodDescriptor (gY 168).desc).map (fun d => d.parameters.length) = some 2 by decide +kernel) ⟨by decide +kernel, by decide +kernel⟩ (by decide +kernel) (by simp [ms_v, ms_r, Int32.ofInt_toInt, Int64.ofInt_toInt]) (by simp [Value.category]) ?_
  refine ml_o2 h (by decide +kernel) ?_
  refine ml_arg h (j := 1) (by decide) hi (by decide +kernel) (by decide +kernel) (by decide +kernel) (by decide +kernel) (by decide +kernel) ?_
  refine ml_bool h (by decide +kernel) (by decide +kernel) (by decide +kernel) (by decide +kernel) ?_
  refine ml_arg h (j := 2) (by decide) hi (by decide +kernel) (by decide +kernel) (by decide +kernel) (by decide +kernel) (by decide +kernel) ?_
  refine ml_callR h hCE hSE (m := 272) (j := 8050) (idx := 167) (as := [iv (b01 (xs (i + 1))).toInt, iv (xs (i + 2)).toInt]) (rest := [.int (Int32.ofInt x)]) (by decide +kernel) c2 rfl h100 hk100 rfl (List.forall_mem_cons.mpr ⟨asI _, List.forall_mem_cons.mpr ⟨asI _, (fun v hv => by cases hv)⟩⟩) (by decide +kernel) (show (parseMethodDescriptor (gY 272).desc).map (fun d => d.parameters.length) = some 2 by decide +kernel) ⟨by decide +kernel, by decide +kernel⟩ (by decide +kernel) (by simp [ms_v, ms_r, Int32.ofInt_toInt, Int64.ofInt_toInt]) (by simp [Value.category]) ?_
  refine ml_eqI (x := Int32.ofInt x) (st0 := []) (off := 173) (tgt := 1429) h (by decide +kernel) (by decide) ?_
  exact kk MC' MR' hR'
set_option maxRecDepth 100000 in
set_option maxHeartbeats 4000000 in
theorem lc_35 (h : lBun p s mid b L xs meth c D ad kd aC wC wR) (hCE : CE ≤ room_1.cells) (hSE : SE ≤ room_1.slots) (h0 : 0 ∈ wC) (hk0 : kd 0 = 10) (h100 : 100 ∈ wR) (hk100 : kd 100 = 11) (hi : i + 6 ≤ L) (hp : PureI Rel 169 273 []) (hR : Rel MC MR) (kk : ∀ MC' MR', Rel MC' MR' → ml_W h l e below Q CE SE 1429 (lLv ad b i) [] MC' MR') : ml_W h l e below Q CE SE 1261 (lLv ad b i) [] MC MR := by
  obtain ⟨x, MC', MR', c1, c2, hR'⟩ := hp   MC MR hR
  refine ml_o1 h (by decide +kernel) ?_
  refine ml_callC h hCE hSE (m := 169) (j := 5139) (idx := 168) (as := []) (rest := []) (by decide +kernel) c1 rfl h0 hk0 rfl ((fun v hv => by cases hv)) (by decide +kernel) (show (parseMethodDescriptor (gY 169).desc).map (fun d => d.parameters.length) = some 0 by decide +kernel) ⟨by decide +kernel, by decide +kernel⟩ (by decide +kernel) (by simp [ms_v, ms_r, Int32.ofInt_toInt, Int64.ofInt_toInt]) (by simp [Value.category]) ?_
  refine ml_o2 h (by decide +kernel) ?_
  refine ml_callR h hCE hSE (m := 273) (j := 8054) (idx := 171) (as := []) (rest := [.int (Int32.ofInt x)]) (by decide +kernel) c2 rfl h100 hk100 rfl ((fun v hv => by cases hv)) (by decide +kernel) (show (parseMethodDescriptor (gY 273).desc).map (fun d => d.parameters.length) = some 0 by decide +kernel) ⟨by decide +kernel, by decide +kernel⟩ (by decide +kernel) (by simp [ms_v, ms_r, Int32.ofInt_toInt, Int64.ofInt_toInt]) (by simp [Value.category]) ?_
  refine ml_eqI (x := Int32.ofInt x) (st0 := []) (off := 160) (tgt := 1429) h (by decide +kernel) (by decide) ?_
  exact kk MC' MR' hR'
set_option maxRecDepth 100000 in
set_option maxHeartbeats 4000000 in
theorem lc_36 (h : lBun p s mid b L xs meth c D ad kd aC wC wR) (hCE : CE ≤ room_1.cells) (hSE : SE ≤ room_1.slots) (h0 : 0 ∈ wC) (hk0 : kd 0 = 10) (h100 : 100 ∈ wR) (hk100 : kd 100 = 11) (hi : i + 6 ≤ L) (hp : ∀ a0 a1 : Int, okI a0 → okI a1 → PureI Rel 170 274 [iv a0, iv a1]) (hR : Rel MC MR) (kk : ∀ MC' MR', Rel MC' MR' → ml_W h l e below Q CE SE 1429 (lLv ad b i) [] MC' MR') : ml_W h l e below Q CE SE 1274 (lLv ad b i) [] MC MR := by
  obtain ⟨x, MC', MR', c1, c2, hR'⟩ := hp (xs (i + 1)).toInt (xs (i + 2)).toInt (okI_toInt _) (okI_toInt _) MC MR hR
  refine ml_o1 h (by decide +kernel) ?_
  refine ml_arg h (j := 1) (by decide) hi (by decide +kernel) (by decide +kernel) (by decide +kernel) (by decide +kernel) (by decide +kernel) ?_
  refine ml_arg h (j := 2) (by decide) hi (by decide +kernel) (by decide +kernel) (by decide +kernel) (by decide +kernel) (by decide +kernel) ?_
  refine ml_callC h hCE hSE (m := 170) (j := 5151) (idx := 172) (as := [iv (xs (i + 1)).toInt, iv (xs (i + 2)).toInt]) (rest := []) (by decide +kernel) c1 rfl h0 hk0 rfl (List.forall_mem_cons.mpr ⟨asI _, List.forall_mem_cons.mpr ⟨asI _, (fun v hv => by cases hv)⟩⟩) (by decide +kernel) (show (parseMethodDescriptor (gY 170).desc).map (fun d => d.parameters.length) = some 2 by decide +kernel) ⟨by decide +kernel, by decide +kernel⟩ (by decide +kernel) (by simp [ms_v, ms_r, Int32.ofInt_toInt, Int64.ofInt_toInt]) (by simp [Value.category]) ?_
  refine ml_o2 h (by decide +kernel) ?_
  refine ml_arg h (j := 1) (by decide) hi (by decide +kernel) (by decide +kernel) (by decide +kernel) (by decide +kernel) (by decide +kernel) ?_
  refine ml_arg h (j := 2) (by decide) hi (by decide +kernel) (by decide +kernel) (by decide +kernel) (by decide +kernel) (by decide +kernel) ?_
  refine ml_callR h hCE hSE (m := 274) (j := 8058) (idx := 175) (as := [iv (xs (i + 1)).toInt, iv (xs (i + 2)).toInt]) (rest := [.int (Int32.ofInt x)]) (by decide +kernel) c2 rfl h100 hk100 rfl (List.forall_mem_cons.mpr ⟨asI _, List.forall_mem_cons.mpr ⟨asI _, (fun v hv => by cases hv)⟩⟩) (by decide +kernel) (show (parseMethodDescriptor (gY 274).desc).map (fun d => d.parameters.length) = some 2 by decide +kernel) ⟨by decide +kernel, by decide +kernel⟩ (by decide +kernel) (by simp [ms_v, ms_r, Int32.ofInt_toInt, Int64.ofInt_toInt]) (by simp [Value.category]) ?_
  refine ml_eqI (x := Int32.ofInt x) (st0 := []) (off := 127) (tgt := 1429) h (by decide +kernel) (by decide) ?_
  exact kk MC' MR' hR'
set_option maxRecDepth 100000 in
set_option maxHeartbeats 4000000 in
theorem lc_37 (h : lBun p s mid b L xs meth c D ad kd aC wC wR) (hCE : CE ≤ room_1.cells) (hSE : SE ≤ room_1.slots) (h0 : 0 ∈ wC) (hk0 : kd 0 = 10) (h100 : 100 ∈ wR) (hk100 : kd 100 = 11) (hi : i + 6 ≤ L) (hp : ∀ a0 : Int, okI a0 → PureI Rel 171 275 [iv a0]) (hR : Rel MC MR) (kk : ∀ MC' MR', Rel MC' MR' → ml_W h l e below Q CE SE 1429 (lLv ad b i) [] MC' MR') : ml_W h l e below Q CE SE 1307 (lLv ad b i) [] MC MR := by
  obtain ⟨x, MC', MR', c1, c2, hR'⟩ := hp (xs (i + 1)).toInt (okI_toInt _) MC MR hR
  refine ml_o1 h (by decide +kernel) ?_
  refine ml_arg h (j := 1) (by decide) hi (by decide +kernel) (by decide +kernel) (by decide +kernel) (by decide +kernel) (by decide +kernel) ?_
  refine ml_callC h hCE hSE (m := 171) (j := 5161) (idx := 176) (as := [iv (xs (i + 1)).toInt]) (rest := []) (by decide +kernel) c1 rfl h0 hk0 rfl (List.forall_mem_cons.mpr ⟨asI _, (fun v hv => by cases hv)⟩) (by decide +kernel) (show (parseMethodDescriptor (gY 171).desc).map (fun d => d.parameters.length) = some 1 by decide +kernel) ⟨by decide +kernel, by decide +kernel⟩ (by decide +kernel) (by simp [ms_v, ms_r, Int32.ofInt_toInt, Int64.ofInt_toInt]) (by simp [Value.category]) ?_
  refine ml_o2 h (by decide +kernel) ?_
  refine ml_arg h (j := 1) (by decide) hi (by decide +kernel) (by decide +kernel) (by decide +kernel) (by decide +kernel) (by decide +kernel) ?_
  refine ml_callR h hCE hSE (m := 275) (j := 8062) (idx := 179) (as := [iv (xs (i + 1)).toInt]) (rest := [.int (Int32.ofInt x)]) (by decide +kernel) c2 rfl h100 hk100 rfl (List.forall_mem_cons.mpr ⟨asI _, (fun v hv => by cases hv)⟩) (by decide +kernel) (show (parseMethodDescriptor (gY 275).desc).map (fun d => d.parameters.length) = some 1 by decide +kernel) ⟨by decide +kernel, by decide +kernel⟩ (by decide +kernel) (by simp [ms_v, ms_r, Int32.ofInt_toInt, Int64.ofInt_toInt]) (by simp [Value.category]) ?_
  refine ml_eqI (x := Int32.ofInt x) (st0 := []) (off := 104) (tgt := 1429) h (by decide +kernel) (by decide) ?_
  exact kk MC' MR' hR'
set_option maxRecDepth 100000 in
set_option maxHeartbeats 4000000 in
theorem lc_38 (h : lBun p s mid b L xs meth c D ad kd aC wC wR) (hCE : CE ≤ room_1.cells) (hSE : SE ≤ room_1.slots) (h0 : 0 ∈ wC) (hk0 : kd 0 = 10) (h100 : 100 ∈ wR) (hk100 : kd 100 = 11) (hi : i + 6 ≤ L) (hp : ∀ a0 a1 a2 : Int, okI a0 → okI a1 → okI a2 → PureI Rel 172 277 [iv a0, iv a1, iv a2]) (hR : Rel MC MR) (kk : ∀ MC' MR', Rel MC' MR' → ml_W h l e below Q CE SE 1429 (lLv ad b i) [] MC' MR') : ml_W h l e below Q CE SE 1330 (lLv ad b i) [] MC MR := by
  obtain ⟨x, MC', MR', c1, c2, hR'⟩ := hp (xs (i + 1)).toInt (xs (i + 2)).toInt (xs (i + 3)).toInt (okI_toInt _) (okI_toInt _) (okI_toInt _) MC MR hR
  refine ml_o1 h (by decide +kernel) ?_
  refine ml_arg h (j := 1) (by decide) hi (by decide +kernel) (by decide +kernel) (by decide +kernel) (by decide +kernel) (by decide +kernel) ?_
  refine ml_arg h (j := 2) (by decide) hi (by decide +kernel) (by decide +kernel) (by decide +kernel) (by decide +kernel) (by decide +kernel) ?_
  refine ml_arg h (j := 3) (by decide) hi (by decide +kernel) (by decide +kernel) (by decide +kernel) (by decide +kernel) (by decide +kernel) ?_
  refine ml_callC h hCE hSE (m := 172) (j := 5169) (idx := 180) (as := [iv (xs (i + 1)).toInt, iv (xs (i + 2)).toInt, iv (xs (i + 3)).toInt]) (rest := []) (by decide +kernel) c1 rfl h0 hk0 rfl (List.forall_mem_cons.mpr ⟨asI _, List.forall_mem_cons.mpr ⟨asI _, List.forall_mem_cons.mpr ⟨asI _, (fun v hv => by cases hv)⟩⟩⟩) (by decide +kernel) (show (parseMethodDescriptor (gY 172).desc).map (fun d => d.parameters.length) = some 3 by decide +kernel) ⟨by decide +kernel, by decide +kernel⟩ (by decide +kernel) (by simp [ms_v, ms_r, Int32.ofInt_toInt, Int64.ofInt_toInt]) (by simp [Value.category]) ?_
  refine ml_o2 h (by decide +kernel) ?_
  refine ml_arg h (j := 1) (by decide) hi (by decide +kernel) (by decide +kernel) (by decide +kernel) (by decide +kernel) (by decide +kernel) ?_
  refine ml_arg h (j := 2) (by decide) hi (by decide +kernel) (by decide +kernel) (by decide +kernel) (by decide +kernel) (by decide +kernel) ?_
  refine ml_arg h (j := 3) (by decide) hi (by decide +kernel) (by decide +kernel) (by decide +kernel) (by decide +kernel) (by decide +kernel) ?_
  refine ml_callR h hCE hSE (m := 277) (j := 8070) (idx := 183) (as := [iv (xs (i + 1)).toInt, iv (xs (i + 2)).toInt, iv (xs (i + 3)).toInt]) (rest := [.int (Int32.ofInt x)]) (by decide +kernel) c2 rfl h100 hk100 rfl (List.forall_mem_cons.mpr ⟨asI _, List.forall_mem_cons.mpr ⟨asI _, List.forall_mem_cons.mpr ⟨asI _, (fun v hv => by cases hv)⟩⟩⟩) (by decide +kernel) (show (parseMethodDescriptor (gY 277).desc).map (fun d => d.parameters.length) = some 3 by decide +kernel) ⟨by decide +kernel, by decide +kernel⟩ (by decide +kernel) (by simp [ms_v, ms_r, Int32.ofInt_toInt, Int64.ofInt_toInt]) (by simp [Value.category]) ?_
  refine ml_eqI (x := Int32.ofInt x) (st0 := []) (off := 61) (tgt := 1429) h (by decide +kernel) (by decide) ?_
  exact kk MC' MR' hR'
set_option maxRecDepth 100000 in
set_option maxHeartbeats 4000000 in
theorem lc_39 (h : lBun p s mid b L xs meth c D ad kd aC wC wR) (hCE : CE ≤ room_1.cells) (hSE : SE ≤ room_1.slots) (h0 : 0 ∈ wC) (hk0 : kd 0 = 10) (h100 : 100 ∈ wR) (hk100 : kd 100 = 11) (hi : i + 6 ≤ L) (hp : ∀ a0 a1 : Int, okI a0 → okI a1 → PureI Rel 173 279 [iv a0, iv a1]) (hR : Rel MC MR) (kk : ∀ MC' MR', Rel MC' MR' → ml_W h l e below Q CE SE 1429 (lLv ad b i) [] MC' MR') : ml_W h l e below Q CE SE 1373 (lLv ad b i) [] MC MR := by
  obtain ⟨x, MC', MR', c1, c2, hR'⟩ := hp (xs (i + 1)).toInt (xs (i + 2)).toInt (okI_toInt _) (okI_toInt _) MC MR hR
  refine ml_o1 h (by decide +kernel) ?_
  refine ml_arg h (j := 1) (by decide) hi (by decide +kernel) (by decide +kernel) (by decide +kernel) (by decide +kernel) (by decide +kernel) ?_
  refine ml_arg h (j := 2) (by decide) hi (by decide +kernel) (by decide +kernel) (by decide +kernel) (by decide +kernel) (by decide +kernel) ?_
  refine ml_callC h hCE hSE (m := 173) (j := 5191) (idx := 184) (as := [iv (xs (i + 1)).toInt, iv (xs (i + 2)).toInt]) (rest := []) (by decide +kernel) c1 rfl h0 hk0 rfl (List.forall_mem_cons.mpr ⟨asI _, List.forall_mem_cons.mpr ⟨asI _, (fun v hv => by cases hv)⟩⟩) (by decide +kernel) (show (parseMethodDescriptor (gY 173).desc).map (fun d => d.parameters.length) = some 2 by decide +kernel) ⟨by decide +kernel, by decide +kernel⟩ (by decide +kernel) (by simp [ms_v, ms_r, Int32.ofInt_toInt, Int64.ofInt_toInt]) (by simp [Value.category]) ?_
  refine ml_o2 h (by decide +kernel) ?_
  refine ml_arg h (j := 1) (by decide) hi (by decide +kernel) (by decide +kernel) (by decide +kernel) (by decide +kernel) (by decide +kernel) ?_
  refine ml_arg h (j := 2) (by decide) hi (by decide +kernel) (by decide +kernel) (by decide +kernel) (by decide +kernel) (by decide +kernel) ?_
  refine ml_callR h hCE hSE (m := 279) (j := 8078) (idx := 187) (as := [iv (xs (i + 1)).toInt, iv (xs (i + 2)).toInt]) (rest := [.int (Int32.ofInt x)]) (by decide +kernel) c2 rfl h100 hk100 rfl (List.forall_mem_cons.mpr ⟨asI _, List.forall_mem_cons.mpr ⟨asI _, (fun v hv => by cases hv)⟩⟩) (by decide +kernel) (show (parseMethodDescriptor (gY 279).desc).map (fun d => d.parameters.length) = some 2 by decide +kernel) ⟨by decide +kernel, by decide +kernel⟩ (by decide +kernel) (by simp [ms_v, ms_r, Int32.ofInt_toInt, Int64.ofInt_toInt]) (by simp [Value.category]) ?_
  refine ml_eqI (x := Int32.ofInt x) (st0 := []) (off := 28) (tgt := 1429) h (by decide +kernel) (by decide) ?_
  exact kk MC' MR' hR'
set_option maxRecDepth 100000 in
set_option maxHeartbeats 4000000 in
theorem lc_40 (h : lBun p s mid b L xs meth c D ad kd aC wC wR) (hCE : CE ≤ room_1.cells) (hSE : SE ≤ room_1.slots) (h0 : 0 ∈ wC) (hk0 : kd 0 = 10) (h100 : 100 ∈ wR) (hk100 : kd 100 = 11) (hi : i + 6 ≤ L) (hp : ∀ a0 : Int, okI a0 → PureI Rel 174 280 [iv a0]) (hR : Rel MC MR) (kk : ∀ MC' MR', Rel MC' MR' → ml_W h l e below Q CE SE 1429 (lLv ad b i) [] MC' MR') : ml_W h l e below Q CE SE 1406 (lLv ad b i) [] MC MR := by
  obtain ⟨x, MC', MR', c1, c2, hR'⟩ := hp (xs (i + 1)).toInt (okI_toInt _) MC MR hR
  refine ml_o1 h (by decide +kernel) ?_
  refine ml_arg h (j := 1) (by decide) hi (by decide +kernel) (by decide +kernel) (by decide +kernel) (by decide +kernel) (by decide +kernel) ?_
  refine ml_callC h hCE hSE (m := 174) (j := 5199) (idx := 188) (as := [iv (xs (i + 1)).toInt]) (rest := []) (by decide +kernel) c1 rfl h0 hk0 rfl (List.forall_mem_cons.mpr ⟨asI _, (fun v hv => by cases hv)⟩) (by decide +kernel) (show (parseMethodDescriptor (gY 174).desc).map (fun d => d.parameters.length) = some 1 by decide +kernel) ⟨by decide +kernel, by decide +kernel⟩ (by decide +kernel) (by simp [ms_v, ms_r, Int32.ofInt_toInt, Int64.ofInt_toInt]) (by simp [Value.category]) ?_
  refine ml_o2 h (by decide +kernel) ?_
  refine ml_arg h (j := 1) (by decide) hi (by decide +kernel) (by decide +kernel) (by decide +kernel) (by decide +kernel) (by decide +kernel) ?_
  refine ml_callR h hCE hSE (m := 280) (j := 8082) (idx := 191) (as := [iv (xs (i + 1)).toInt]) (rest := [.int (Int32.ofInt x)]) (by decide +kernel) c2 rfl h100 hk100 rfl (List.forall_mem_cons.mpr ⟨asI _, (fun v hv => by cases hv)⟩) (by decide +kernel) (show (parseMethodDescriptor (gY 280).desc).map (fun d => d.parameters.length) = some 1 by decide +kernel) ⟨by decide +kernel, by decide +kernel⟩ (by decide +kernel) (by simp [ms_v, ms_r, Int32.ofInt_toInt, Int64.ofInt_toInt]) (by simp [Value.category]) ?_
  refine ml_eqI (x := Int32.ofInt x) (st0 := []) (off := 5) (tgt := 1429) h (by decide +kernel) (by decide) ?_
  exact kk MC' MR' hR'
end LC
