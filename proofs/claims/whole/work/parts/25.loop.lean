/-! The law's loop. -/
/-- what is owed of the two programs: every call keeps the relation, with one answer -/
def PureAll (Rel : mM → mM → Prop) : Prop :=
  (∀ a0 a1 a2 a3 a4 : Int, okI a0 → okI a1 → okI a2 → okI a3 → okI a4 → PureI Rel 124 177 [iv a0, iv a1, iv a2, iv a3, iv a4]) ∧
  (∀ a0 : Int, okI a0 → PureI Rel 126 179 [iv a0]) ∧
  (PureI Rel 127 180 []) ∧
  (PureI Rel 130 202 []) ∧
  (∀ a0 : Int, okI a0 → PureI Rel 131 203 [iv a0]) ∧
  (∀ a0 a1 : Int, okI a0 → (a1 = 0 ∨ a1 = 1) → PureI Rel 132 205 [iv a0, iv a1]) ∧
  (∀ a0 a1 : Int, okI a0 → (a1 = 0 ∨ a1 = 1) → PureI Rel 133 208 [iv a0, iv a1]) ∧
  (∀ a0 a1 : Int, okI a0 → okI a1 → PureI Rel 134 209 [iv a0, iv a1]) ∧
  (∀ a0 a1 : Int, okI a0 → okI a1 → PureI Rel 135 210 [iv a0, iv a1]) ∧
  (PureI Rel 136 211 []) ∧
  (PureI Rel 137 214 []) ∧
  (∀ a0 : Int, okI a0 → PureI Rel 139 219 [iv a0]) ∧
  (∀ a0 : Int, okI a0 → PureI Rel 140 221 [iv a0]) ∧
  (PureI Rel 141 222 []) ∧
  (∀ a0 : Int, okI a0 → PureI Rel 142 229 [iv a0]) ∧
  (∀ a0 a1 : Int, okI a0 → okI a1 → PureI Rel 144 231 [iv a0, iv a1]) ∧
  (∀ a0 : Int, okI a0 → PureI Rel 145 234 [iv a0]) ∧
  (∀ a0 a1 : Int, okI a0 → okI a1 → PureI Rel 146 236 [iv a0, iv a1]) ∧
  (∀ a0 : Int, okI a0 → PureI Rel 147 238 [iv a0]) ∧
  (∀ a0 : Int, (a0 = 0 ∨ a0 = 1) → PureI Rel 148 242 [iv a0]) ∧
  (PureI Rel 149 244 []) ∧
  (PureI Rel 150 247 []) ∧
  (∀ a0 : Int, okI a0 → PureI Rel 151 240 [iv a0]) ∧
  (∀ a0 a1 : Int, okI a0 → okI a1 → PureI Rel 152 248 [iv a0, iv a1]) ∧
  (∀ a0 a1 a2 : Int, okI a0 → okI a1 → okI a2 → PureI Rel 154 250 [iv a0, iv a1, iv a2]) ∧
  (∀ a0 a1 : Int, okI a0 → okI a1 → PureI Rel 155 251 [iv a0, iv a1]) ∧
  (∀ a0 : Int, okI a0 → PureI Rel 156 252 [iv a0]) ∧
  (∀ a0 a1 : Int, okI a0 → okI a1 → PureJ Rel 159 253 [iv a0, iv a1]) ∧
  (∀ a0 : Int, okI a0 → PureJ Rel 161 255 [iv a0]) ∧
  (∀ a0 : Int, okI a0 → PureJ Rel 162 257 [iv a0]) ∧
  (∀ a0 : Int, okI a0 → PureI Rel 163 260 [iv a0]) ∧
  (∀ a0 a1 : Int, okI a0 → okI a1 → PureJ Rel 164 262 [iv a0, iv a1]) ∧
  (∀ a0 a1 a2 a3 : Int, okI a0 → okI a1 → okI a2 → okJ a3 → PureI Rel 165 264 [iv a0, iv a1, iv a2, jv a3]) ∧
  (∀ a0 : Int, (a0 = 0 ∨ a0 = 1) → PureI Rel 166 266 [iv a0]) ∧
  (∀ a0 a1 : Int, (a0 = 0 ∨ a0 = 1) → okI a1 → PureI Rel 168 272 [iv a0, iv a1]) ∧
  (PureI Rel 169 273 []) ∧
  (∀ a0 a1 : Int, okI a0 → okI a1 → PureI Rel 170 274 [iv a0, iv a1]) ∧
  (∀ a0 : Int, okI a0 → PureI Rel 171 275 [iv a0]) ∧
  (∀ a0 a1 a2 : Int, okI a0 → okI a1 → okI a2 → PureI Rel 172 277 [iv a0, iv a1, iv a2]) ∧
  (∀ a0 a1 : Int, okI a0 → okI a1 → PureI Rel 173 279 [iv a0, iv a1]) ∧
  (∀ a0 : Int, okI a0 → PureI Rel 174 280 [iv a0])
abbrev lOffs : Array Int := #[179, 242, 265, 278, 291, 314, 363, 412, 445, 478, 491, 504, 527, 550, 563, 586, 619, 642, 675, 698, 737, 750, 763, 786, 819, 862, 895, 918, 952, 976, 1000, 1023, 1057, 1140, 1179, 1228, 1241, 1274, 1297, 1340, 1373]
set_option maxRecDepth 100000 in
theorem d_lsw : decode code 33 = .ok (.tableswitch 1396 0 40 lOffs, 179) := by decide +kernel
section LL
variable {p : Program} {l : Launch} {e : Env} {s : State} {mid : MethodId} {b L : Nat} {xs : Nat → Int32} {below : List Frame} {meth : Method} {c : Code} {D : va_G} {ad kd : Nat → Nat} {aC : Nat → ClassId} {wC wR : List Nat} {CE SE i : Nat} {MC MR : mM} {Rel : mM → mM → Prop}
theorem lk_end (h : lBun p s mid b L xs meth c D ad kd aC wC wR) (hr : meth.sig.returnType = ret) (hCE : CE ≤ 600000) (hSE : SE ≤ 7302250) {lv : List (Nat × Value)} : ml_W h l e below (lw_Z below #[Value.ref b] s) CE SE 1435 lv [] MC MR := by
  intro ls H locs hl a1 a2 a3 a4 a5
  refine lv_iconst (n := 1) (v := 1) h.1.1 h.1.2.1 (by decide +kernel) rfl ?_
  refine va_forget a5.2.2 ?_
  refine W.widen hCE hSE ?_
  exact lw_ret h.1.1 h.1.2.1 hr h.2.2.2.2.2.2.2.2.2.2 (by decide +kernel)
set_option maxRecDepth 100000 in
set_option maxHeartbeats 4000000 in
theorem lk_body (h : lBun p s mid b L xs meth c D ad kd aC wC wR) {Q : State → Prop} (hCE : CE ≤ room_1.cells) (hSE : SE ≤ room_1.slots) (h0 : 0 ∈ wC) (hk0 : kd 0 = 10) (h100 : 100 ∈ wR) (hk100 : kd 100 = 11) (hi : i + 6 ≤ L) (hp : PureAll Rel) (hR : Rel MC MR) (kk : ∀ MC' MR', Rel MC' MR' → ml_W h l e below Q CE SE 1429 (lLv ad b i) [] MC' MR') : ml_W h l e below Q CE SE 27 (lLv ad b i) [] MC MR := by
  refine ml_a0 h (by decide +kernel) ?_
  refine ml_sw h hi (by decide +kernel) (by decide +kernel) (by decide +kernel) (by decide +kernel) ?_
  generalize hx : (xs i &&& 63).toInt = t
  intro ls H locs hl a1 a2 a3 a4 a5
  by_cases q0 : t = 0
  · subst q0
    refine lv_tableIn (off := 179) (tgt := 212) h.1.1 h.1.2.1 d_lsw (by rw [hx]; decide) (by rw [hx]; decide) (by rw [hx]; decide +kernel) (by decide) ?_
    exact lc_0 h hCE hSE h0 hk0 h100 hk100 hi hp.1 hR kk ls H locs hl a1 a2 a3 a4 a5
  by_cases q1 : t = 1
  · subst q1
    refine lv_tableIn (off := 242) (tgt := 275) h.1.1 h.1.2.1 d_lsw (by rw [hx]; decide) (by rw [hx]; decide) (by rw [hx]; decide +kernel) (by decide) ?_
    exact lc_1 h hCE hSE h0 hk0 h100 hk100 hi hp.2.1 hR kk ls H locs hl a1 a2 a3 a4 a5
  by_cases q2 : t = 2
  · subst q2
    refine lv_tableIn (off := 265) (tgt := 298) h.1.1 h.1.2.1 d_lsw (by rw [hx]; decide) (by rw [hx]; decide) (by rw [hx]; decide +kernel) (by decide) ?_
    exact lc_2 h hCE hSE h0 hk0 h100 hk100 hi hp.2.2.1 hR kk ls H locs hl a1 a2 a3 a4 a5
  by_cases q3 : t = 3
  · subst q3
    refine lv_tableIn (off := 278) (tgt := 311) h.1.1 h.1.2.1 d_lsw (by rw [hx]; decide) (by rw [hx]; decide) (by rw [hx]; decide +kernel) (by decide) ?_
    exact lc_3 h hCE hSE h0 hk0 h100 hk100 hi hp.2.2.2.1 hR kk ls H locs hl a1 a2 a3 a4 a5
  by_cases q4 : t = 4
  · subst q4
    refine lv_tableIn (off := 291) (tgt := 324) h.1.1 h.1.2.1 d_lsw (by rw [hx]; decide) (by rw [hx]; decide) (by rw [hx]; decide +kernel) (by decide) ?_
    exact lc_4 h hCE hSE h0 hk0 h100 hk100 hi hp.2.2.2.2.1 hR kk ls H locs hl a1 a2 a3 a4 a5
  by_cases q5 : t = 5
  · subst q5
    refine lv_tableIn (off := 314) (tgt := 347) h.1.1 h.1.2.1 d_lsw (by rw [hx]; decide) (by rw [hx]; decide) (by rw [hx]; decide +kernel) (by decide) ?_
    exact lc_5 h hCE hSE h0 hk0 h100 hk100 hi hp.2.2.2.2.2.1 hR kk ls H locs hl a1 a2 a3 a4 a5
  by_cases q6 : t = 6
  · subst q6
    refine lv_tableIn (off := 363) (tgt := 396) h.1.1 h.1.2.1 d_lsw (by rw [hx]; decide) (by rw [hx]; decide) (by rw [hx]; decide +kernel) (by decide) ?_
    exact lc_6 h hCE hSE h0 hk0 h100 hk100 hi hp.2.2.2.2.2.2.1 hR kk ls H locs hl a1 a2 a3 a4 a5
  by_cases q7 : t = 7
  · subst q7
    refine lv_tableIn (off := 412) (tgt := 445) h.1.1 h.1.2.1 d_lsw (by rw [hx]; decide) (by rw [hx]; decide) (by rw [hx]; decide +kernel) (by decide) ?_
    exact lc_7 h hCE hSE h0 hk0 h100 hk100 hi hp.2.2.2.2.2.2.2.1 hR kk ls H locs hl a1 a2 a3 a4 a5
  by_cases q8 : t = 8
  · subst q8
    refine lv_tableIn (off := 445) (tgt := 478) h.1.1 h.1.2.1 d_lsw (by rw [hx]; decide) (by rw [hx]; decide) (by rw [hx]; decide +kernel) (by decide) ?_
    exact lc_8 h hCE hSE h0 hk0 h100 hk100 hi hp.2.2.2.2.2.2.2.2.1 hR kk ls H locs hl a1 a2 a3 a4 a5
  by_cases q9 : t = 9
  · subst q9
    refine lv_tableIn (off := 478) (tgt := 511) h.1.1 h.1.2.1 d_lsw (by rw [hx]; decide) (by rw [hx]; decide) (by rw [hx]; decide +kernel) (by decide) ?_
    exact lc_9 h hCE hSE h0 hk0 h100 hk100 hi hp.2.2.2.2.2.2.2.2.2.1 hR kk ls H locs hl a1 a2 a3 a4 a5
  by_cases q10 : t = 10
  · subst q10
    refine lv_tableIn (off := 491) (tgt := 524) h.1.1 h.1.2.1 d_lsw (by rw [hx]; decide) (by rw [hx]; decide) (by rw [hx]; decide +kernel) (by decide) ?_
    exact lc_10 h hCE hSE h0 hk0 h100 hk100 hi hp.2.2.2.2.2.2.2.2.2.2.1 hR kk ls H locs hl a1 a2 a3 a4 a5
  by_cases q11 : t = 11
  · subst q11
    refine lv_tableIn (off := 504) (tgt := 537) h.1.1 h.1.2.1 d_lsw (by rw [hx]; decide) (by rw [hx]; decide) (by rw [hx]; decide +kernel) (by decide) ?_
    exact lc_11 h hCE hSE h0 hk0 h100 hk100 hi hp.2.2.2.2.2.2.2.2.2.2.2.1 hR kk ls H locs hl a1 a2 a3 a4 a5
  by_cases q12 : t = 12
  · subst q12
    refine lv_tableIn (off := 527) (tgt := 560) h.1.1 h.1.2.1 d_lsw (by rw [hx]; decide) (by rw [hx]; decide) (by rw [hx]; decide +kernel) (by decide) ?_
    exact lc_12 h hCE hSE h0 hk0 h100 hk100 hi hp.2.2.2.2.2.2.2.2.2.2.2.2.1 hR kk ls H locs hl a1 a2 a3 a4 a5
  by_cases q13 : t = 13
  · subst q13
    refine lv_tableIn (off := 550) (tgt := 583) h.1.1 h.1.2.1 d_lsw (by rw [hx]; decide) (by rw [hx]; decide) (by rw [hx]; decide +kernel) (by decide) ?_
    exact lc_13 h hCE hSE h0 hk0 h100 hk100 hi hp.2.2.2.2.2.2.2.2.2.2.2.2.2.1 hR kk ls H locs hl a1 a2 a3 a4 a5
  by_cases q14 : t = 14
  · subst q14
    refine lv_tableIn (off := 563) (tgt := 596) h.1.1 h.1.2.1 d_lsw (by rw [hx]; decide) (by rw [hx]; decide) (by rw [hx]; decide +kernel) (by decide) ?_
    exact lc_14 h hCE hSE h0 hk0 h100 hk100 hi hp.2.2.2.2.2.2.2.2.2.2.2.2.2.2.1 hR kk ls H locs hl a1 a2 a3 a4 a5
  by_cases q15 : t = 15
  · subst q15
    refine lv_tableIn (off := 586) (tgt := 619) h.1.1 h.1.2.1 d_lsw (by rw [hx]; decide) (by rw [hx]; decide) (by rw [hx]; decide +kernel) (by decide) ?_
    exact lc_15 h hCE hSE h0 hk0 h100 hk100 hi hp.2.2.2.2.2.2.2.2.2.2.2.2.2.2.2.1 hR kk ls H locs hl a1 a2 a3 a4 a5
  by_cases q16 : t = 16
  · subst q16
    refine lv_tableIn (off := 619) (tgt := 652) h.1.1 h.1.2.1 d_lsw (by rw [hx]; decide) (by rw [hx]; decide) (by rw [hx]; decide +kernel) (by decide) ?_
    exact lc_16 h hCE hSE h0 hk0 h100 hk100 hi hp.2.2.2.2.2.2.2.2.2.2.2.2.2.2.2.2.1 hR kk ls H locs hl a1 a2 a3 a4 a5
  by_cases q17 : t = 17
  · subst q17
    refine lv_tableIn (off := 642) (tgt := 675) h.1.1 h.1.2.1 d_lsw (by rw [hx]; decide) (by rw [hx]; decide) (by rw [hx]; decide +kernel) (by decide) ?_
    exact lc_17 h hCE hSE h0 hk0 h100 hk100 hi hp.2.2.2.2.2.2.2.2.2.2.2.2.2.2.2.2.2.1 hR kk ls H locs hl a1 a2 a3 a4 a5
  by_cases q18 : t = 18
  · subst q18
    refine lv_tableIn (off := 675) (tgt := 708) h.1.1 h.1.2.1 d_lsw (by rw [hx]; decide) (by rw [hx]; decide) (by rw [hx]; decide +kernel) (by decide) ?_
    exact lc_18 h hCE hSE h0 hk0 h100 hk100 hi hp.2.2.2.2.2.2.2.2.2.2.2.2.2.2.2.2.2.2.1 hR kk ls H locs hl a1 a2 a3 a4 a5
  by_cases q19 : t = 19
  · subst q19
    refine lv_tableIn (off := 698) (tgt := 731) h.1.1 h.1.2.1 d_lsw (by rw [hx]; decide) (by rw [hx]; decide) (by rw [hx]; decide +kernel) (by decide) ?_
    exact lc_19 h hCE hSE h0 hk0 h100 hk100 hi hp.2.2.2.2.2.2.2.2.2.2.2.2.2.2.2.2.2.2.2.1 hR kk ls H locs hl a1 a2 a3 a4 a5
  by_cases q20 : t = 20
  · subst q20
    refine lv_tableIn (off := 737) (tgt := 770) h.1.1 h.1.2.1 d_lsw (by rw [hx]; decide) (by rw [hx]; decide) (by rw [hx]; decide +kernel) (by decide) ?_
    exact lc_20 h hCE hSE h0 hk0 h100 hk100 hi hp.2.2.2.2.2.2.2.2.2.2.2.2.2.2.2.2.2.2.2.2.1 hR kk ls H locs hl a1 a2 a3 a4 a5
  by_cases q21 : t = 21
  · subst q21
    refine lv_tableIn (off := 750) (tgt := 783) h.1.1 h.1.2.1 d_lsw (by rw [hx]; decide) (by rw [hx]; decide) (by rw [hx]; decide +kernel) (by decide) ?_
    exact lc_21 h hCE hSE h0 hk0 h100 hk100 hi hp.2.2.2.2.2.2.2.2.2.2.2.2.2.2.2.2.2.2.2.2.2.1 hR kk ls H locs hl a1 a2 a3 a4 a5
  by_cases q22 : t = 22
  · subst q22
    refine lv_tableIn (off := 763) (tgt := 796) h.1.1 h.1.2.1 d_lsw (by rw [hx]; decide) (by rw [hx]; decide) (by rw [hx]; decide +kernel) (by decide) ?_
    exact lc_22 h hCE hSE h0 hk0 h100 hk100 hi hp.2.2.2.2.2.2.2.2.2.2.2.2.2.2.2.2.2.2.2.2.2.2.1 hR kk ls H locs hl a1 a2 a3 a4 a5
  by_cases q23 : t = 23
  · subst q23
    refine lv_tableIn (off := 786) (tgt := 819) h.1.1 h.1.2.1 d_lsw (by rw [hx]; decide) (by rw [hx]; decide) (by rw [hx]; decide +kernel) (by decide) ?_
    exact lc_23 h hCE hSE h0 hk0 h100 hk100 hi hp.2.2.2.2.2.2.2.2.2.2.2.2.2.2.2.2.2.2.2.2.2.2.2.1 hR kk ls H locs hl a1 a2 a3 a4 a5
  by_cases q24 : t = 24
  · subst q24
    refine lv_tableIn (off := 819) (tgt := 852) h.1.1 h.1.2.1 d_lsw (by rw [hx]; decide) (by rw [hx]; decide) (by rw [hx]; decide +kernel) (by decide) ?_
    exact lc_24 h hCE hSE h0 hk0 h100 hk100 hi hp.2.2.2.2.2.2.2.2.2.2.2.2.2.2.2.2.2.2.2.2.2.2.2.2.1 hR kk ls H locs hl a1 a2 a3 a4 a5
  by_cases q25 : t = 25
  · subst q25
    refine lv_tableIn (off := 862) (tgt := 895) h.1.1 h.1.2.1 d_lsw (by rw [hx]; decide) (by rw [hx]; decide) (by rw [hx]; decide +kernel) (by decide) ?_
    exact lc_25 h hCE hSE h0 hk0 h100 hk100 hi hp.2.2.2.2.2.2.2.2.2.2.2.2.2.2.2.2.2.2.2.2.2.2.2.2.2.1 hR kk ls H locs hl a1 a2 a3 a4 a5
  by_cases q26 : t = 26
  · subst q26
    refine lv_tableIn (off := 895) (tgt := 928) h.1.1 h.1.2.1 d_lsw (by rw [hx]; decide) (by rw [hx]; decide) (by rw [hx]; decide +kernel) (by decide) ?_
    exact lc_26 h hCE hSE h0 hk0 h100 hk100 hi hp.2.2.2.2.2.2.2.2.2.2.2.2.2.2.2.2.2.2.2.2.2.2.2.2.2.2.1 hR kk ls H locs hl a1 a2 a3 a4 a5
  by_cases q27 : t = 27
  · subst q27
    refine lv_tableIn (off := 918) (tgt := 951) h.1.1 h.1.2.1 d_lsw (by rw [hx]; decide) (by rw [hx]; decide) (by rw [hx]; decide +kernel) (by decide) ?_
    exact lc_27 h hCE hSE h0 hk0 h100 hk100 hi hp.2.2.2.2.2.2.2.2.2.2.2.2.2.2.2.2.2.2.2.2.2.2.2.2.2.2.2.1 hR kk ls H locs hl a1 a2 a3 a4 a5
  by_cases q28 : t = 28
  · subst q28
    refine lv_tableIn (off := 952) (tgt := 985) h.1.1 h.1.2.1 d_lsw (by rw [hx]; decide) (by rw [hx]; decide) (by rw [hx]; decide +kernel) (by decide) ?_
    exact lc_28 h hCE hSE h0 hk0 h100 hk100 hi hp.2.2.2.2.2.2.2.2.2.2.2.2.2.2.2.2.2.2.2.2.2.2.2.2.2.2.2.2.1 hR kk ls H locs hl a1 a2 a3 a4 a5
  by_cases q29 : t = 29
  · subst q29
    refine lv_tableIn (off := 976) (tgt := 1009) h.1.1 h.1.2.1 d_lsw (by rw [hx]; decide) (by rw [hx]; decide) (by rw [hx]; decide +kernel) (by decide) ?_
    exact lc_29 h hCE hSE h0 hk0 h100 hk100 hi hp.2.2.2.2.2.2.2.2.2.2.2.2.2.2.2.2.2.2.2.2.2.2.2.2.2.2.2.2.2.1 hR kk ls H locs hl a1 a2 a3 a4 a5
  by_cases q30 : t = 30
  · subst q30
    refine lv_tableIn (off := 1000) (tgt := 1033) h.1.1 h.1.2.1 d_lsw (by rw [hx]; decide) (by rw [hx]; decide) (by rw [hx]; decide +kernel) (by decide) ?_
    exact lc_30 h hCE hSE h0 hk0 h100 hk100 hi hp.2.2.2.2.2.2.2.2.2.2.2.2.2.2.2.2.2.2.2.2.2.2.2.2.2.2.2.2.2.2.1 hR kk ls H locs hl a1 a2 a3 a4 a5
  by_cases q31 : t = 31
  · subst q31
    refine lv_tableIn (off := 1023) (tgt := 1056) h.1.1 h.1.2.1 d_lsw (by rw [hx]; decide) (by rw [hx]; decide) (by rw [hx]; decide +kernel) (by decide) ?_
    exact lc_31 h hCE hSE h0 hk0 h100 hk100 hi hp.2.2.2.2.2.2.2.2.2.2.2.2.2.2.2.2.2.2.2.2.2.2.2.2.2.2.2.2.2.2.2.1 hR kk ls H locs hl a1 a2 a3 a4 a5
  by_cases q32 : t = 32
  · subst q32
    refine lv_tableIn (off := 1057) (tgt := 1090) h.1.1 h.1.2.1 d_lsw (by rw [hx]; decide) (by rw [hx]; decide) (by rw [hx]; decide +kernel) (by decide) ?_
    exact lc_32 h hCE hSE h0 hk0 h100 hk100 hi hp.2.2.2.2.2.2.2.2.2.2.2.2.2.2.2.2.2.2.2.2.2.2.2.2.2.2.2.2.2.2.2.2.1 hR kk ls H locs hl a1 a2 a3 a4 a5
  by_cases q33 : t = 33
  · subst q33
    refine lv_tableIn (off := 1140) (tgt := 1173) h.1.1 h.1.2.1 d_lsw (by rw [hx]; decide) (by rw [hx]; decide) (by rw [hx]; decide +kernel) (by decide) ?_
    exact lc_33 h hCE hSE h0 hk0 h100 hk100 hi hp.2.2.2.2.2.2.2.2.2.2.2.2.2.2.2.2.2.2.2.2.2.2.2.2.2.2.2.2.2.2.2.2.2.1 hR kk ls H locs hl a1 a2 a3 a4 a5
  by_cases q34 : t = 34
  · subst q34
    refine lv_tableIn (off := 1179) (tgt := 1212) h.1.1 h.1.2.1 d_lsw (by rw [hx]; decide) (by rw [hx]; decide) (by rw [hx]; decide +kernel) (by decide) ?_
    exact lc_34 h hCE hSE h0 hk0 h100 hk100 hi hp.2.2.2.2.2.2.2.2.2.2.2.2.2.2.2.2.2.2.2.2.2.2.2.2.2.2.2.2.2.2.2.2.2.2.1 hR kk ls H locs hl a1 a2 a3 a4 a5
  by_cases q35 : t = 35
  · subst q35
    refine lv_tableIn (off := 1228) (tgt := 1261) h.1.1 h.1.2.1 d_lsw (by rw [hx]; decide) (by rw [hx]; decide) (by rw [hx]; decide +kernel) (by decide) ?_
    exact lc_35 h hCE hSE h0 hk0 h100 hk100 hi hp.2.2.2.2.2.2.2.2.2.2.2.2.2.2.2.2.2.2.2.2.2.2.2.2.2.2.2.2.2.2.2.2.2.2.2.1 hR kk ls H locs hl a1 a2 a3 a4 a5
  by_cases q36 : t = 36
  · subst q36
    refine lv_tableIn (off := 1241) (tgt := 1274) h.1.1 h.1.2.1 d_lsw (by rw [hx]; decide) (by rw [hx]; decide) (by rw [hx]; decide +kernel) (by decide) ?_
    exact lc_36 h hCE hSE h0 hk0 h100 hk100 hi hp.2.2.2.2.2.2.2.2.2.2.2.2.2.2.2.2.2.2.2.2.2.2.2.2.2.2.2.2.2.2.2.2.2.2.2.2.1 hR kk ls H locs hl a1 a2 a3 a4 a5
  by_cases q37 : t = 37
  · subst q37
    refine lv_tableIn (off := 1274) (tgt := 1307) h.1.1 h.1.2.1 d_lsw (by rw [hx]; decide) (by rw [hx]; decide) (by rw [hx]; decide +kernel) (by decide) ?_
    exact lc_37 h hCE hSE h0 hk0 h100 hk100 hi hp.2.2.2.2.2.2.2.2.2.2.2.2.2.2.2.2.2.2.2.2.2.2.2.2.2.2.2.2.2.2.2.2.2.2.2.2.2.1 hR kk ls H locs hl a1 a2 a3 a4 a5
  by_cases q38 : t = 38
  · subst q38
    refine lv_tableIn (off := 1297) (tgt := 1330) h.1.1 h.1.2.1 d_lsw (by rw [hx]; decide) (by rw [hx]; decide) (by rw [hx]; decide +kernel) (by decide) ?_
    exact lc_38 h hCE hSE h0 hk0 h100 hk100 hi hp.2.2.2.2.2.2.2.2.2.2.2.2.2.2.2.2.2.2.2.2.2.2.2.2.2.2.2.2.2.2.2.2.2.2.2.2.2.2.1 hR kk ls H locs hl a1 a2 a3 a4 a5
  by_cases q39 : t = 39
  · subst q39
    refine lv_tableIn (off := 1340) (tgt := 1373) h.1.1 h.1.2.1 d_lsw (by rw [hx]; decide) (by rw [hx]; decide) (by rw [hx]; decide +kernel) (by decide) ?_
    exact lc_39 h hCE hSE h0 hk0 h100 hk100 hi hp.2.2.2.2.2.2.2.2.2.2.2.2.2.2.2.2.2.2.2.2.2.2.2.2.2.2.2.2.2.2.2.2.2.2.2.2.2.2.2.1 hR kk ls H locs hl a1 a2 a3 a4 a5
  by_cases q40 : t = 40
  · subst q40
    refine lv_tableIn (off := 1373) (tgt := 1406) h.1.1 h.1.2.1 d_lsw (by rw [hx]; decide) (by rw [hx]; decide) (by rw [hx]; decide +kernel) (by decide) ?_
    exact lc_40 h hCE hSE h0 hk0 h100 hk100 hi hp.2.2.2.2.2.2.2.2.2.2.2.2.2.2.2.2.2.2.2.2.2.2.2.2.2.2.2.2.2.2.2.2.2.2.2.2.2.2.2.2 hR kk ls H locs hl a1 a2 a3 a4 a5
  refine lv_tableOut (tgt := 1429) h.1.1 h.1.2.1 d_lsw (by rw [hx]; omega) (by decide) ?_
  exact kk MC MR hR ls H locs hl a1 a2 a3 a4 a5
set_option maxRecDepth 100000 in
theorem lk_loop (h : lBun p s mid b L xs meth c D ad kd aC wC wR) (hr : meth.sig.returnType = ret) (hCE : CE ≤ 600000) (hSE : SE ≤ 7302250) (h0 : 0 ∈ wC) (hk0 : kd 0 = 10) (h100 : 100 ∈ wR) (hk100 : kd 100 = 11) (hp : PureAll Rel) : ∀ (n i : Nat), i ≤ L → L < i + n → ∀ MC MR, Rel MC MR → ml_W h l e below (lw_Z below #[Value.ref b] s) CE SE 18 (lLv ad b i) [] MC MR := by
  have hL : L ≤ 3072 := h.2.2.2.2.2.2.2.2.2.1
  intro n
  induction n with
  | zero => intro i h1 h2; omega
  | succ n ih =>
    intro i h1 h2 MC MR hR ls H locs hl a1 a2 a3 a4 a5
    obtain ⟨hF, hX, hbl, -⟩ := id h
    refine lv_iload_n (k := 3) (i := 3) hF.1 hF.2.1 (by decide +kernel) rfl (lv_at hl 3 rfl) ?_
    refine lv_aload_n (k := 0) (i := 0) hF.1 hF.2.1 (by decide +kernel) rfl (lv_at hl 0 rfl) ?_
    refine va_slen hF.1 hF.2.1 hX hbl (Nat.not_le.mpr hbl) a5 (show decode code 20 = .ok (.arraylength, 1) by decide +kernel) ?_
    refine lv_bipush (n := 6) (v := 6) hF.1 hF.2.1 (by decide +kernel) rfl ?_
    refine lv_isub hF.1 hF.2.1 (by decide +kernel) ?_
    have e1 : (Int32.ofNat L - 6).toInt = (L : Int) - 6 := by
      rw [show (Int32.ofNat L - 6) = Int32.ofInt ((L : Int) - 6) from by rw [Int32.ofInt_sub]; rfl, toInt_ofInt32 ⟨by omega, by omega⟩]
    have e2 : (Int32.ofNat i).toInt = (i : Int) := Int32.toInt_ofNat_of_lt (by omega)
    refine lv_icmp_gt (off := 1411) (tgt := 1435) hF.1 hF.2.1 (by decide +kernel) (by decide) (fun q => ?_) (fun q => ?_)
    · exact lk_end h hr hCE hSE ls H locs hl a1 a2 a3 a4 a5
    · have hi : i + 6 ≤ L := by
        rcases Nat.lt_or_ge L (i + 6) with z | z
        · exfalso
          apply q
          rw [Int32.lt_iff_toInt_lt, e1, e2]
          omega
        · exact z
      refine lk_body h hCE hSE h0 hk0 h100 hk100 hi hp hR (fun MC' MR' hR' => ?_) ls H locs hl a1 a2 a3 a4 a5
      intro ls H locs hl a1 a2 a3 a4 a5
      refine lv_iinc (i := 3) (n := 6) (k := 3) (v := Int32.ofNat (i + 6)) (lv' := [(3, .int (Int32.ofNat (i + 6))), (0, .ref b), (1, .ref (ad 0)), (2, .ref (ad 100))]) hF.1 hF.2.1 (by decide +kernel) hl rfl (by rw [Int32.ofNat_add]; rfl) (by decide) rfl (fun ls hl => ?_)
      refine lv_goto (off := -1414) (tgt := 18) hF.1 hF.2.1 (by decide +kernel) (by decide) ?_
      exact ih (i + 6) hi (by omega) MC' MR' hR' ls H locs (lv_sub hl [1, 2, 3, 0] rfl) a1 a2 a3 a4 a5
end LL
