/-! Fields, calls and ends, and all instructions together. -/
theorem gALL_good {w : Jvm.Cond} (h : w ∈ gALL) : w ∈ lw_tbl ∧ goodWord w = true := by
  unfold gALL at h
  exact ⟨(List.mem_filter.mp h).1, (List.mem_filter.mp h).2⟩
theorem good_all {Ts ws : List Jvm.Cond} (hT : ∀ w ∈ gALL, w ∈ Ts) (h : ∀ w ∈ ws, w ∈ gALL) : GoodIn Ts ws := fun w hw => ⟨hT w (h w hw), good_of_word (gALL_good (h w hw)).2⟩
/-- what is known of a field's row -/
def gFact (ci k : Nat) (C : String) (T : u_T) (N : Nat) (ty0 : Nat → FieldType) : Prop := vwCl[ci]? = some (C, T, N) ∧ (∀ w ∈ u_ws C T N, w ∈ gALL) ∧ (∀ k, k < N → parseFieldDescriptor (T k).2.2.1 = some (ty0 k)) ∧ (∀ a, a < N → ∀ b, b < N → a ≠ b → (T a).2.1 ≠ (T b).2.1) ∧ k < N ∧ (T k).1 = C ∧ Nat.ble 100 ci = false ∧
  (match gF ci k with
  | (0, _, _) => ty0 k = .int ∧ (T k).2.2.2 = false
  | (1, _, _) => ty0 k = .boolean ∧ (T k).2.2.2 = false
  | (2, _, _) => ty0 k = .long ∧ (T k).2.2.2 = false
  | (3, _, _) => True
  | _ => (∃ n, ty0 k = .object n) ∧ (T k).2.2.2 = false)
/-- what is known of a method's row -/
def gMFact (m : Nat) : Prop := Cond.code (gY m) (gD m).2.1 (gT m).1 (gD m).2.2.1 ∈ gALL ∧ Cond.initialized (gY m).cls ∈ gALL ∧ ((gY m).cls ≠ "java/lang/invoke/MethodHandle" ∧ (gY m).cls ≠ "java/lang/invoke/VarHandle") ∧
  ((gD m).2.2.2.2.1 = true → Cond.static (gY m) ∈ gALL) ∧ ((gD m).2.2.2.2.1 = false → Cond.instanceMethod (gY m) ∈ gALL ∧ Cond.selects (gY m).cls (gY m) (gY m) ∈ gALL ∧ ∃ T N, vwCl[(gD m).2.2.2.2.2.2]? = some ((gY m).cls, T, N) ∧ Nat.ble 100 (gD m).2.2.2.2.2.2 = false)
section SC
variable {p : Program} {l : Launch} {e : Env} {R : Room} {s : State} {mid : MethodId} {args : Array Value} {below : List Frame} {meth : Method} {c : Code} {cc : ByteArray} {nL : Nat} {Ts : List Jvm.Cond} {own : String} {Q : State → Prop} {D : va_G} {A : Nat → Prop} {ad kd : Nat → Nat} {wids : List Nat} {aC : Nat → ClassId}
variable {pc len a nx rf rl rk ow : Nat} {b : Int} {sw : List (Int × Nat)} {L S : List mV} {M : mM} {r : mV} {Mf : mM}
theorem okc_f {t o j : Nat} {x : Int} (hb : Nat.ble 100 t = false) : ms_okc kd wids t o j x ↔ (match gF t j with
    | (0, _, _) => okI x
    | (1, _, _) => okI x
    | (2, _, _) => okJ x
    | (3, d, t') => j < gN t → o + d ∈ wids ∧ kd (o + d) = t'
    | (_, _, t') => x.toNat ∈ wids ∧ kd x.toNat = t') := by
  unfold ms_okc
  rw [hb]
  exact Iff.rfl
theorem sx_get (h : mBun p l e R s mid args below meth c cc nL Ts own Q D A ad kd wids aC) {i : Nat} (hcF : ∀ i ci k, lkF ow i ci k = true → ∃ C T N ty0, gFact ci k C T N ty0 ∧ (Cond.fieldLink own i C (T k).2.1 (T k).2.2.1 ∈ gALL ∨ ∃ host, Cond.fieldLinkNest own i C (T k).2.1 (T k).2.2.1 host ∈ lw_tbl))
    (hc : mchkI ow nL cc rf rl (pc, .getfield i, len, a, b, sw) nx = true) (hE : ms_Eff h r Mf (mone gF gK rk (pc, .getfield i, len, a, b, sw) L S M) nx) : ms_W h pc L S M := by
  simp only [mchkI, mspec, Bool.and_eq_true, decide_eq_true_eq, and_assoc] at hc
  obtain ⟨-, hd, rfl, rfl, hl⟩ := hc
  obtain ⟨C, T, N, ty0, ⟨f1, f2, f3, f4, f5, f6, f7, f8⟩, hk⟩ := hcF _ _ _ hl
  have hk2 : Cond.fieldLink own i C (T b.toNat).2.1 (T b.toNat).2.2.1 ∈ Ts ∨ ∃ host, Cond.fieldLinkNest own i C (T b.toNat).2.1 (T b.toNat).2.2.1 host ∈ lw_tbl := hk.imp (fun q => h.2.2.2.2.1 _ q) id
  delta mone at hE
  dsimp only at hE
  split at hE
  · rename_i t o S0
    cases hb : Nat.beq t a with
    | false => rw [hb] at hE; exact hE.elim
    | true =>
      rw [hb] at hE
      have hta : t = a := Nat.eq_of_beq_eq_true hb
      subst hta
      dsimp only at hE
      split at hE
      · rename_i d t' hg
        refine mi_get h hd f1 f2 f5 f6 hk2 f7 (v := iv (M o b.toNat)) (fun ho hkd hm => ?_) hE
        rw [okc_f f7, hg] at hm
        exact ⟨by simp, hm, by unfold ms_fv; rw [hkd, hg]; rfl⟩
      · rename_i d t' hg
        refine mi_get h hd f1 f2 f5 f6 hk2 f7 (v := iv (M o b.toNat)) (fun ho hkd hm => ?_) hE
        rw [okc_f f7, hg] at hm
        exact ⟨by simp, hm, by unfold ms_fv; rw [hkd, hg]; rfl⟩
      · rename_i d t' hg
        refine mi_get h hd f1 f2 f5 f6 hk2 f7 (v := jv (M o b.toNat)) (fun ho hkd hm => ?_) hE
        rw [okc_f f7, hg] at hm
        exact ⟨by simp, hm, by unfold ms_fv; rw [hkd, hg]; rfl⟩
      · rename_i d t' hg
        refine mi_get h hd f1 f2 f5 f6 hk2 f7 (v := rv t' (o + d)) (fun ho hkd hm => ?_) hE
        rw [okc_f f7, hg] at hm
        exact ⟨by simp, hm (by rw [gN_of f1]; exact f5), by unfold ms_fv; rw [hkd, hg]; rfl⟩
      · rename_i d t' hg
        refine mi_get h hd f1 f2 f5 f6 hk2 f7 (v := rv t' (M o b.toNat).toNat) (fun ho hkd hm => ?_) hE
        rw [okc_f f7, hg] at hm
        exact ⟨by simp, hm, by unfold ms_fv; rw [hkd, hg]; rfl⟩
      · exact hE.elim
  · exact hE.elim
theorem narrow_bool {x : Int} (h : 0 ≤ x ∧ x < 2) : narrow .boolean (.int (Int32.ofInt x)) = .int (Int32.ofInt x) ∧ fits .boolean (.int (Int32.ofInt x)) = true := by
  have : x = 0 ∨ x = 1 := by omega
  rcases this with rfl | rfl <;> exact ⟨rfl, rfl⟩
theorem sx_put (h : mBun p l e R s mid args below meth c cc nL Ts own Q D A ad kd wids aC) {i : Nat} (hcF : ∀ i ci k, lkF ow i ci k = true → ∃ C T N ty0, gFact ci k C T N ty0 ∧ (Cond.fieldLink own i C (T k).2.1 (T k).2.2.1 ∈ gALL ∨ ∃ host, Cond.fieldLinkNest own i C (T k).2.1 (T k).2.2.1 host ∈ lw_tbl))
    (hcP : ∀ i ci k, lkP ow i ci k = true → ∀ C T N, vwCl[ci]? = some (C, T, N) → Cond.fieldLink own i C (T k).2.1 (T k).2.2.1 ∈ gALL)
    (hc : mchkI ow nL cc rf rl (pc, .putfield i, len, a, b, sw) nx = true) (hE : ms_Eff h r Mf (mone gF gK rk (pc, .putfield i, len, a, b, sw) L S M) nx) : ms_W h pc L S M := by
  simp only [mchkI, mspec, Bool.and_eq_true, decide_eq_true_eq, and_assoc] at hc
  obtain ⟨-, hd, rfl, rfl, hl, hl2⟩ := hc
  obtain ⟨C, T, N, ty0, ⟨f1, f2, f3, f4, f5, f6, f7, f8⟩, -⟩ := hcF _ _ _ hl
  have hk2 : Cond.fieldLink own i C (T b.toNat).2.1 (T b.toNat).2.2.1 ∈ Ts := h.2.2.2.2.1 _ (hcP _ _ _ hl2 _ _ _ f1)
  delta mone at hE
  dsimp only at hE
  split at hE
  · rename_i x t o S0
    cases hb : Nat.beq t a with
    | false => rw [hb] at hE; exact hE.elim
    | true =>
      rw [hb] at hE
      have hta : t = a := Nat.eq_of_beq_eq_true hb
      subst hta
      dsimp only at hE
      split at hE
      · rename_i d t' hg
        rw [hg] at f8
        refine mi_put h (v := iv x) hd f1 f2 f3 f4 f5 f6 hk2 f7 f8.2 (by rw [f3 _ f5, f8.1]) rfl rfl (fun hkd hv => ⟨?_, ?_⟩) hE
        · unfold ms_fv; rw [hkd, hg, st_same]; rfl
        · rw [okc_f f7, hg]; exact hv
      · rename_i d t' hg
        rw [hg] at f8
        have hn := narrow_bool hE.1
        refine mi_put h (v := iv x) hd f1 f2 f3 f4 f5 f6 hk2 f7 f8.2 (by rw [f3 _ f5, f8.1]) hn.1 hn.2 (fun hkd hv => ⟨?_, ?_⟩) hE.2
        · unfold ms_fv; rw [hkd, hg, st_same]; rfl
        · rw [okc_f f7, hg]; exact hv
      · exact hE.elim
  · rename_i x t o S0
    cases hb : Nat.beq t a with
    | false => rw [hb] at hE; exact hE.elim
    | true =>
      rw [hb] at hE
      have hta : t = a := Nat.eq_of_beq_eq_true hb
      subst hta
      dsimp only at hE
      split at hE
      · rename_i d t' hg
        rw [hg] at f8
        refine mi_put h (v := jv x) hd f1 f2 f3 f4 f5 f6 hk2 f7 f8.2 (by rw [f3 _ f5, f8.1]) rfl rfl (fun hkd hv => ⟨?_, ?_⟩) hE
        · unfold ms_fv; rw [hkd, hg, st_same]; rfl
        · rw [okc_f f7, hg]; exact hv
      · exact hE.elim
  · rename_i t1 o1 t o S0
    cases hb : Nat.beq t a with
    | false => rw [hb] at hE; exact hE.elim
    | true =>
      rw [hb] at hE
      have hta : t = a := Nat.eq_of_beq_eq_true hb
      subst hta
      dsimp only at hE
      split at hE
      · rename_i d t' hg
        rw [hg] at f8
        obtain ⟨⟨n, f9⟩, f10⟩ := f8
        cases hb1 : Nat.beq t1 t' with
        | false => rw [hb1] at hE; exact hE.elim
        | true =>
          rw [hb1] at hE
          have ht1 : t1 = t' := Nat.eq_of_beq_eq_true hb1
          subst ht1
          refine mi_put h (v := rv t1 o1) hd f1 f2 f3 f4 f5 f6 hk2 f7 f10 (by rw [f3 _ f5, f9]) rfl rfl (fun hkd hv => ⟨?_, ?_⟩) hE
          · unfold ms_fv; rw [hkd, hg, st_same]; rfl
          · rw [okc_f f7, hg]; exact hv
      · exact hE.elim
  · exact hE.elim
theorem ms_apart (hD : va_D A (ms_ws ad kd wids aC (fun _ _ => 0))) (M : mM) : ∀ A' : Nat → Prop, (∀ o ∈ wids, A' (ad o)) → va_D A' (ms_ws ad kd wids aC M) := by
  intro A' hA'
  have h1 := ms_D ad kd wids aC (M' := M) hD
  refine ⟨h1.1, fun k q hq => ?_⟩
  unfold ms_ws at hq
  rw [List.getElem?_map] at hq
  cases hw : wids[k]? with
  | none => rw [hw] at hq; cases hq
  | some o =>
    rw [hw] at hq
    cases hq
    exact hA' o (List.mem_of_getElem? hw)
theorem ms_in (hD : va_D A (ms_ws ad kd wids aC (fun _ _ => 0))) {o : Nat} (ho : o ∈ wids) : A (ad o) := by
  obtain ⟨q0, -, hws⟩ := ms_at ad kd wids aC (M := fun _ _ => 0) ho
  exact hD.2 q0 _ hws
theorem ms_P_blind (as : List mV) (M : mM) (sz : Nat) : FrameBlind (ms_P D ad kd wids aC as M sz) := by
  intro a U g mk q
  obtain ⟨rfl, q1, q2, q3, q4, q5, q6, q7, q8⟩ := q
  exact ⟨rfl, q1, q2, va_K.moved (u := U) (U := U.calling g mk _) (Vm.Alike.refl U.vm) q3, gNest.same (u := U) (U := U.calling g mk _) rfl q4, q5, q6, q7, gStrW.same (u := U) (U := U.calling g mk _) rfl (Vm.Alike.refl U.vm) q8⟩
theorem ms_free (h : mBun p l e R s mid args below meth c cc nL Ts own Q D A ad kd wids aC) {H : Heap} {locs : List Loc} (hA : va_S A s.heap H locs) : ∀ q, va_A (ms_ws ad kd wids aC M) H.size q → A q := by
  intro q hq
  rcases hq with ⟨k, e0, hk⟩ | hq
  · exact (ms_D ad kd wids aC (M' := M) h.2.2.1).2 k _ hk
  · exact h.2.2.2.2.2.2.1 q (Nat.le_trans hA.1 hq)
theorem ms_P_of (h : mBun p l e R s mid args below meth c cc nL Ts own Q D A ad kd wids aC) {as : List mV} {H : Heap} {locs : List Loc} (hA : va_S A s.heap H locs) (hP : va_P D vwCl (ms_ws ad kd wids aC M) H) (hM : ms_M kd wids M) (has : ∀ v ∈ as, v ≠ none ∧ ms_ok kd wids v) :
    ∀ U : State, U.heap = H → s.WarmedH U.vm → ms_P D ad kd wids aC as M H.size (as.map (ms_v ad)).toArray U := fun U hU hW =>
  ⟨rfl, by rw [hU], by rw [hU]; exact hP, va_K.moved hW.alike h.2.1, gNest.warm hW h.2.2.2.2.2.1, ms_apart h.2.2.1 M, hM, has, by rw [hU]; exact gStrW.warm hW hA (ms_free h hA) h.2.2.2.2.2.2.2⟩
theorem cat_le (v : mV) : (ms_v ad v).category ≤ 2 := by
  rcases lv_cat (ms_v ad v) with q | q <;> omega
theorem cat_sum (S : List mV) (h : S.length ≤ 4) : ((S.map (ms_v ad)).map fun v => v.category).sum ≤ 8 := by
  have : ∀ S : List mV, ((S.map (ms_v ad)).map fun v => v.category).sum ≤ 2 * S.length := by
    intro S
    induction S with
    | nil => simp
    | cons v S ih =>
      have := cat_le (ad := ad) v
      simp only [List.map_cons, List.sum_cons, List.length_cons]
      omega
  have := this S
  omega
/-- behind a call -/
theorem mi_behind (h : mBun p l e R s mid args below meth c cc nL Ts own Q D A ad kd wids aC) {r1 : mV} {M1 : mM} {ls : Array Slot} {H : Heap} {locs : List Loc} {st0 : List Value} {a1 : Array Value} (hL : ms_L ad kd wids ls nL L) (hS : ms_S kd wids S) (hA : va_S A s.heap H locs)
    (hr : va_Run p l e R s mid args below meth c H locs 0 0 0 0 (F0 mid pc ls st0) (S.map (ms_v ad)) (ms_Q D ad kd wids aC r1 M1 (va_A (ms_ws ad kd wids aC M) H.size) a1) (va_A (ms_ws ad kd wids aC M) H.size))
    (kk : ms_W h (pc + 3) L (mpush r1 S) M1) : W p l e R s mid args below meth c H locs 0 0 Q (F0 mid pc ls st0) := by
  intro T hT X
  obtain ⟨v, st₀, t, T', L', h0, X', hL', e1, e2, ⟨⟨hv, hrok, hM1, hP1⟩, hF⟩, hst⟩ := hr T hT X
  have hv2 : v = ms_r ad r1 := by cases hv; rfl
  have hAA : ∀ q, va_A (ms_ws ad kd wids aC M) H.size q → A q := by
    intro q hq
    rcases hq with ⟨k, e0, hk⟩ | hq
    · exact (ms_D ad kd wids aC (M' := M) h.2.2.1).2 k _ hk
    · exact h.2.2.2.2.2.2.1 q (Nat.le_trans hA.1 hq)
  have hS2 : ms_S kd wids (mpush r1 S) := by
    cases r1 with
    | none => exact hS
    | some x => exact hS.push (by simp) hrok
  obtain ⟨hF1, hF2⟩ := hF
  rw [h0] at hF1 hF2
  have hA2 : va_S A s.heap T'.heap (locs ++ L') := by
    refine ⟨Nat.le_trans hA.1 (by rw [e1]; exact hF1), fun q h1 h2 => ?_, fun q hq => ?_⟩
    · rw [e1, hF2 q (Nat.lt_of_lt_of_le h1 hA.1) (fun z => h2 (hAA q z))]
      exact hA.2.1 q h1 h2
    · rcases List.mem_append.mp hq with z | z
      · exact hA.2.2 q z
      · exact hAA _ (hL' q z)
  obtain ⟨t2, a1, b1⟩ := kk ls T'.heap (locs ++ L') hL hS2 hM1 (by rw [e1]; exact hP1) hA2 T' rfl X'
  refine ⟨t2, hst t2 ?_, b1⟩
  have e3 : v.toList ++ S.map (ms_v ad) = (mpush r1 S).map (ms_v ad) := by
    rw [hv2]
    cases r1 <;> rfl
  rw [e3]
  exact a1
theorem mpop_eq : ∀ (n : Nat) (acc S as S' : List mV), mpop n acc S = some (as, S') → ∃ bs : List mV, bs.length = n ∧ S = bs ++ S' ∧ as = bs.reverse ++ acc
  | 0, acc, S, as, S', h => by
    cases h
    exact ⟨[], rfl, rfl, rfl⟩
  | n + 1, acc, [], as, S', h => by cases h
  | n + 1, acc, v :: S, as, S', h => by
    obtain ⟨bs, h1, h2, h3⟩ := mpop_eq n (v :: acc) S as S' h
    exact ⟨v :: bs, by simp [h1], by simp [h2], by simp [h3]⟩
theorem mcallB (h : mBun p l e R s mid args below meth c cc nL Ts own Q D A ad kd wids aC) {m i n : Nat} (hf : gMFact m) (hl : Cond.methodLink own i (gY m) ∈ gALL) (hn : (parseMethodDescriptor (gY m).desc).map (fun d => d.parameters.length) = some n) (hR : (gR m).frames + 1 ≤ R.frames ∧ 8 + ((gT m).1 + 11) + (gR m).locals ≤ R.locals) :
    CallB R s args own i (gY m) (gD m).2.1 (gT m).1 (gD m).2.2.1 (gW m) (gR m) 0 0 n :=
  callB_of n h.1.2.2.2.2 (good_all h.2.2.2.2.1 (fun w hw => by
    rcases List.mem_cons.mp hw with q | q
    · rw [q]; exact hf.1
    · exact q)) rfl rfl rfl (h.1.2.2.2.2 _ (h.2.2.2.2.1 _ hf.2.1)) (h.1.2.2.2.2 _ (h.2.2.2.2.1 _ hl)) ⟨hf.2.2.1.1, hf.2.2.1.2, hn⟩ hR
theorem sx_invs0 (h : mBun p l e R s mid args below meth c cc nL Ts own Q D A ad kd wids aC) {i : Nat} (hR : R.frames = rf ∧ R.locals = rl) (hcM : ∀ i m, lkM ow i m = true → m < gNM → gMFact m ∧ (Cond.methodLink own i (gY m) ∈ gALL ∨ ((gD m).2.2.2.2.1 = true ∧ ∃ host, Cond.methodLinkNest own i (gY m) host ∈ lw_tbl)))
    (hc : mchkI ow nL cc rf rl (pc, .invokestatic i, len, a, b, []) nx = true) (hE : ms_Eff h r Mf (mone gF gK rk (pc, .invokestatic i, len, a, b, []) L S M) nx) : ms_W h pc L S M := by
  simp only [mchkI, mspec, Bool.and_eq_true, decide_eq_true_eq, and_assoc] at hc
  obtain ⟨-, hd, rfl, rfl, hl, hst, hn, hr1, hr2, hlt⟩ := hc
  obtain ⟨hf, hlink⟩ := hcM _ _ hl hlt
  delta mone at hE
  dsimp only at hE
  split at hE
  · rename_i as S' hp
    obtain ⟨bs, h1, rfl, rfl⟩ := mpop_eq _ _ _ _ _ hp
    obtain ⟨r1, M1, hMet, hlen, kk⟩ := hE
    intro ls H locs hL hS hM hP hA
    have hS' : ms_S kd wids S' := fun v hv => hS v (List.mem_append_right _ hv)
    have has : ∀ v ∈ bs.reverse ++ [], v ≠ none ∧ ms_ok kd wids v := fun v hv => hS v (List.mem_append_left _ (by simpa using hv))
    have hRR : (gR a).frames + 1 ≤ R.frames ∧ 8 + ((gT a).1 + 11) + (gR a).locals ≤ R.locals := by rw [hR.1, hR.2]; exact ⟨hr1, hr2⟩
    have hstat : (Cond.static (gY a)).before args s = true := h.1.2.2.2.2 _ (h.2.2.2.2.1 _ (hf.2.2.2.1 hst))
    have hPre : PreS s H (ms_P D ad kd wids aC (bs.reverse ++ []) M H.size) ((bs.reverse ++ []).map (ms_v ad)) := ⟨ms_P_blind _ _ _, ms_P_of h hA hP hM has⟩
    have hstk : (F0 mid pc ls ((bs ++ S').map (ms_v ad))).stack = ((bs.reverse ++ []).map (ms_v ad)).reverse ++ S'.map (ms_v ad) := by simp
    have hlen2 : ((bs.reverse ++ []).map (ms_v ad)).length = b.toNat := by simp [h1]
    rcases hlink with hlink | ⟨-, host, hlink⟩
    · have hr := va_runS (rest := S'.map (ms_v ad)) (g := F0 mid pc ls ((bs ++ S').map (ms_v ad))) h.1 (hMet H.size) ⟨mcallB h hf hlink hn hRR, hstat⟩ hPre rfl hlen2 hL.1.1 hstk (lv_room (cat_sum S' hlen)) hd ⟨Nat.zero_le _, Nat.zero_le _⟩ (locs := locs) (below := below) (e := e) (meth := meth) (cells := 0) (slots := 0)
      exact mi_behind h hL hS' hA hr kk
    · have hl2 : va_Nw (.methodLinkNest own i (gY a) host) s := h.2.2.2.2.2.1 _ hlink rfl
      have hG : GoodIn Ts (gW a) := good_all h.2.2.2.2.1 (fun w hw => by
        rcases List.mem_cons.mp hw with q | q
        · rw [q]; exact hf.1
        · exact q)
      have hr := va_runSN (rest := S'.map (ms_v ad)) (g := F0 mid pc ls ((bs ++ S').map (ms_v ad))) h.1 (hMet H.size) ⟨va_cnB b.toNat h.1.2.2.2.2 hG rfl rfl rfl hl2 (h.1.2.2.2.2 _ (h.2.2.2.2.1 _ hf.2.1)) ⟨hf.2.2.1.1, hf.2.2.1.2, hn⟩ hRR, hstat, trivial⟩ hPre rfl hlen2 hL.1.1 hstk (lv_room (cat_sum S' hlen)) hd ⟨Nat.zero_le _, Nat.zero_le _⟩ (locs := locs) (below := below) (e := e) (meth := meth) (cells := 0) (slots := 0)
      exact mi_behind h hL hS' hA hr kk
  · exact hE.elim
theorem abs64_ok {x : Int} (h : okJ x) : okJ (abs64 x) := by
  unfold abs64
  split
  · exact h
  · exact w64_ok _
/-- the words of java/lang/Math -/
def gXname (k : Nat) : MethodName := match k with
  | 0 => Lib.MathLoose.abs_long.x
  | 1 => Lib.Math.min.name
  | _ => Lib.Math.max.name
def gMath : Prop := Cond.initialized "java/lang/Math" ∈ gALL ∧ (Cond.static Lib.MathLoose.abs_long.x ∈ gALL ∧ Cond.code Lib.MathLoose.abs_long.x Lib.MathLoose.abs_long.code 2 (some .long) ∈ gALL) ∧ (Cond.static Lib.Math.min.name ∈ gALL ∧ Cond.code Lib.Math.min.name Lib.Math.min.code 2 (some .int) ∈ gALL) ∧ (Cond.static Lib.Math.max.name ∈ gALL ∧ Cond.code Lib.Math.max.name Lib.Math.max.code 2 (some .int) ∈ gALL)
theorem sx_math (h : mBun p l e R s mid args below meth c cc nL Ts own Q D A ad kd wids aC) {i : Nat} {q : Int × Nat} (hR : R.frames = rf ∧ R.locals = rl) (hG : gMath) (hcX : ∀ i k, lkX ow i k = true → Cond.methodLink own i (gXname k) ∈ gALL)
    (hc : mchkI ow nL cc rf rl (pc, .invokestatic i, len, a, b, q :: sw) nx = true) (hE : ms_Eff h r Mf (mone gF gK rk (pc, .invokestatic i, len, a, b, q :: sw) L S M) nx) : ms_W h pc L S M := by
  simp only [mchkI, mspec, Bool.and_eq_true, decide_eq_true_eq, and_assoc] at hc
  obtain ⟨-, hd, rfl, rfl, hl, hr1, hr2⟩ := hc
  have hlink := hcX _ _ hl
  have T : ∀ w ∈ gALL, w.before args s = true := fun w hw => h.1.2.2.2.2 _ (h.2.2.2.2.1 _ hw)
  obtain ⟨g0, ⟨g1, g2⟩, ⟨g3, g4⟩, ⟨g5, g6⟩⟩ := hG
  delta mone at hE
  dsimp only at hE
  generalize q.2 = k at hE hlink
  split at hE
  · split at hE
    · rename_i x S0
      cases hb : Nat.ble S0.length 4 with
      | false => rw [hb] at hE; exact hE.elim
      | true =>
        rw [hb] at hE
        intro ls H locs hL hS hM hP hA
        have hx : okJ x := hS.hd
        have hk := hE ls H locs hL (hS.tl.pushJ (abs64_ok hx)) hM hP hA
        have hcat := cat_sum (ad := ad) S0 (Nat.ble_eq.mp hb)
        refine va_mabs_long h.1.1 h.1.2.1 (h.1.2.2.1.trans hL.1.1.symm) h.1.2.2.2.1 (T _ hlink) (T _ g1) (T _ g0) (T _ g2) (by rw [hR.1]; exact hr1) (by rw [hR.2]; omega) (Nat.zero_le _) (Nat.zero_le _) hd ?_
        have e1 : (if 0 < Int64.ofInt x then Int64.ofInt x else -Int64.ofInt x) = Int64.ofInt (abs64 x) := by
          have h0 : (0 < Int64.ofInt x) ↔ 0 < x := ofJ_lt (x := 0) ⟨by omega, by omega⟩ hx
          unfold abs64
          by_cases hx0 : 0 < x
          · rw [if_pos (h0.mpr hx0), if_pos hx0]
          · rw [if_neg (fun z => hx0 (h0.mp z)), if_neg hx0, ofInt_w64, Int64.ofInt_neg]
        rw [e1]
        exact hk
    · exact hE.elim
  · split at hE
    · rename_i y x S0
      cases hb : Nat.ble S0.length 4 with
      | false => rw [hb] at hE; exact hE.elim
      | true =>
        rw [hb] at hE
        intro ls H locs hL hS hM hP hA
        have hy : okI y := hS.hd
        have hx : okI x := hS.tl.hd
        have hk := hE ls H locs hL (hS.tl.tl.pushI (by unfold min32; split <;> assumption)) hM hP hA
        have hcat := cat_sum (ad := ad) S0 (Nat.ble_eq.mp hb)
        refine va_mmin h.1.1 h.1.2.1 (h.1.2.2.1.trans hL.1.1.symm) h.1.2.2.2.1 (T _ hlink) (T _ g3) (T _ g0) (T _ g4) (by rw [hR.1]; exact hr1) (by rw [hR.2]; omega) (Nat.zero_le _) (Nat.zero_le _) hd ?_
        have e1 : (if Int32.ofInt y < Int32.ofInt x then Int32.ofInt y else Int32.ofInt x) = Int32.ofInt (min32 x y) := by
          unfold min32
          by_cases hx0 : y < x
          · rw [if_pos ((ofI_lt hy hx).mpr hx0), if_pos hx0]
          · rw [if_neg (fun z => hx0 ((ofI_lt hy hx).mp z)), if_neg hx0]
        rw [e1]
        exact hk
    · exact hE.elim
  · rename_i k0 h0 h1
    have hnm : gXname k = Lib.Math.max.name := by
      unfold gXname
      split
      · exact absurd rfl h0
      · exact absurd rfl h1
      · rfl
    rw [hnm] at hlink
    split at hE
    · rename_i y x S0
      cases hb : Nat.ble S0.length 4 with
      | false => rw [hb] at hE; exact hE.elim
      | true =>
        rw [hb] at hE
        intro ls H locs hL hS hM hP hA
        have hy : okI y := hS.hd
        have hx : okI x := hS.tl.hd
        have hk := hE ls H locs hL (hS.tl.tl.pushI (by unfold max32; split <;> assumption)) hM hP hA
        have hcat := cat_sum (ad := ad) S0 (Nat.ble_eq.mp hb)
        refine va_mmax h.1.1 h.1.2.1 (h.1.2.2.1.trans hL.1.1.symm) h.1.2.2.2.1 (T _ hlink) (T _ g5) (T _ g0) (T _ g6) (by rw [hR.1]; exact hr1) (by rw [hR.2]; omega) (Nat.zero_le _) (Nat.zero_le _) hd ?_
        have e1 : (if Int32.ofInt x < Int32.ofInt y then Int32.ofInt y else Int32.ofInt x) = Int32.ofInt (max32 x y) := by
          unfold max32
          by_cases hx0 : x < y
          · rw [if_pos ((ofI_lt hx hy).mpr hx0), if_pos hx0]
          · rw [if_neg (fun z => hx0 ((ofI_lt hx hy).mp z)), if_neg hx0]
        rw [e1]
        exact hk
    · exact hE.elim
theorem sx_invv (h : mBun p l e R s mid args below meth c cc nL Ts own Q D A ad kd wids aC) {i : Nat} (hR : R.frames = rf ∧ R.locals = rl) (hcM : ∀ i m, lkM ow i m = true → m < gNM → gMFact m ∧ (Cond.methodLink own i (gY m) ∈ gALL ∨ ((gD m).2.2.2.2.1 = true ∧ ∃ host, Cond.methodLinkNest own i (gY m) host ∈ lw_tbl)))
    (hc : mchkI ow nL cc rf rl (pc, .invokevirtual i, len, a, b, sw) nx = true) (hE : ms_Eff h r Mf (mone gF gK rk (pc, .invokevirtual i, len, a, b, sw) L S M) nx) : ms_W h pc L S M := by
  simp only [mchkI, mspec, Bool.and_eq_true, decide_eq_true_eq, and_assoc] at hc
  obtain ⟨-, hd, rfl, rfl, hl, hst, hn, hr1, hr2, hsw, hlt⟩ := hc
  obtain ⟨hf, hlink⟩ := hcM _ _ hl hlt
  have hlink : Cond.methodLink own i (gY a) ∈ gALL := hlink.elim id (fun q => by rw [hst] at q; cases q.1)
  obtain ⟨g1, g2, T0, N0, g3, g4⟩ := hf.2.2.2.2 hst
  delta mone at hE
  dsimp only at hE
  split at hE
  · rename_i t o as S' hp
    split at hE
    · rename_i q
      cases hb : Nat.beq t q.2 with
      | false => rw [hb] at hE; exact hE.elim
      | true =>
        rw [hb] at hE
        have hq : q.2 = (gD a).2.2.2.2.2.2 := by simpa using hsw
        have ht : t = (gD a).2.2.2.2.2.2 := (Nat.eq_of_beq_eq_true hb).trans hq
        obtain ⟨bs, h1, rfl, h3⟩ := mpop_eq _ _ _ _ _ hp
        obtain ⟨r1, M1, hMet, hlen, kk⟩ := hE
        intro ls H locs hL hS hM hP hA
        have hS' : ms_S kd wids S' := fun v hv => hS v (List.mem_append_right _ hv)
        have has : ∀ v ∈ rv t o :: as, v ≠ none ∧ ms_ok kd wids v := fun v hv => hS v (List.mem_append_left _ (by rw [h3] at hv; simpa using hv))
        have hRR : (gR a).frames + 1 ≤ R.frames ∧ 8 + ((gT a).1 + 11) + (gR a).locals ≤ R.locals := by rw [hR.1, hR.2]; exact ⟨hr1, hr2⟩
        have hinst : (Cond.instanceMethod (gY a)).before args s = true := h.1.2.2.2.2 _ (h.2.2.2.2.1 _ g1)
        have hsel : (Cond.selects (gY a).cls (gY a) (gY a)).before args s = true := h.1.2.2.2.2 _ (h.2.2.2.2.1 _ g2)
        obtain ⟨ho, hko⟩ : o ∈ wids ∧ kd o = t := (has (rv t o) List.mem_cons_self).2
        obtain ⟨q0, -, hws⟩ := ms_at ad kd wids aC (M := M) ho
        rw [ms_e_obj (by rw [ht]; exact g4) hko] at hws
        have hrecv := va_recv (q := ((gY a).cls, T0, N0)) h.2.1 hP (by rw [ht]; exact g3) hws
        have hPre : PreV s H (gY a).cls (ad o) (ms_P D ad kd wids aC (rv t o :: as) M H.size) (as.map (ms_v ad)) := ⟨ms_P_blind _ _ _, hrecv, ms_P_of h hA hP hM has⟩
        have hlen0 : as.length + 1 = b.toNat := by
          have := congrArg List.length h3
          simp [h1] at this
          omega
        have hbs : bs = as.reverse ++ [rv t o] := by
          have := congrArg List.reverse h3
          simpa using this.symm
        have hstk : (F0 mid pc ls ((bs ++ S').map (ms_v ad))).stack = (as.map (ms_v ad)).reverse ++ Value.ref (ad o) :: S'.map (ms_v ad) := by
          rw [hbs]
          simp [ms_v]
        have hn2 : (parseMethodDescriptor (gY a).desc).map (fun d => d.parameters.length) = some as.length := by
          cases hpd : parseMethodDescriptor (gY a).desc with
          | none => rw [show (gD a).1.desc = (gY a).desc from rfl, hpd] at hn; cases hn
          | some d =>
            rw [show (gD a).1.desc = (gY a).desc from rfl, hpd] at hn
            simp only [Option.map_some, Option.some.injEq] at hn ⊢
            omega
        have hr := va_runV (rest := S'.map (ms_v ad)) (g := F0 mid pc ls ((bs ++ S').map (ms_v ad))) h.1 (hMet H.size) ⟨mcallB h hf hlink hn2 hRR, hinst, hsel⟩ hPre rfl (by simp) hL.1.1 hstk (lv_room (cat_sum S' hlen)) hd ⟨Nat.zero_le _, Nat.zero_le _⟩ (locs := locs) (below := below) (e := e) (meth := meth) (cells := 0) (slots := 0)
        exact mi_behind h hL hS' hA hr kk
    · exact hE.elim
  · exact hE.elim
end SC
