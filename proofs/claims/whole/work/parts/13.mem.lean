/-! Fields and arrays. -/
theorem narB {x : Int} (h : okI x) : vp_nar .byte (Int32.ofInt x) = Int32.ofInt (w8 x) := i2b_w8 h
theorem narZ {x : Int} (h : okI x) : vp_nar .boolean (Int32.ofInt x) = Int32.ofInt (x % 2) := by
  show Int32.ofInt x &&& 1 = Int32.ofInt (x % 2)
  have h1 : ∀ b : BitVec 32, b &&& 1#32 = BitVec.ofNat 32 (b.toNat % 2) := by
    intro b
    apply BitVec.eq_of_toNat_eq
    rw [BitVec.toNat_and, BitVec.toNat_ofNat, BitVec.toNat_ofNat]
    have := Nat.and_one_is_mod b.toNat
    rw [show (1 % 2 ^ 32) = 1 from rfl, this, Nat.mod_eq_of_lt (a := b.toNat % 2) (by omega)]
  apply Int32.toBitVec_inj.mp
  rw [Int32.toBitVec_and, show (1 : Int32).toBitVec = 1#32 from rfl, h1]
  show BitVec.ofNat 32 ((BitVec.ofInt 32 x).toNat % 2) = BitVec.ofInt 32 (x % 2)
  apply BitVec.eq_of_toNat_eq
  rw [BitVec.toNat_ofNat, BitVec.toNat_ofInt, BitVec.toNat_ofInt]
  unfold okI at h
  omega
section MM
variable {p : Program} {l : Launch} {e : Env} {R : Room} {s : State} {mid : MethodId} {args : Array Value} {below : List Frame} {meth : Method} {c : Code} {cc : ByteArray} {nL : Nat} {Ts : List Jvm.Cond} {own : String} {Q : State → Prop} {D : va_G} {A : Nat → Prop} {ad kd : Nat → Nat} {wids : List Nat} {aC : Nat → ClassId}
variable {pc : Nat} {L S : List mV} {M : mM}
theorem gN_of {C : String} {T : u_T} {N ci : Nat} (hc : vwCl[ci]? = some (C, T, N)) : gN ci = N := by unfold gN; rw [hc]; rfl
theorem ms_e_obj {ci o : Nat} (hb : Nat.ble 100 ci = false) (hk : kd o = ci) : ms_e ad kd aC M o = .inr (ci, (List.range (gN ci)).map (ms_fv ad kd M o)) := by
  unfold ms_e
  rw [hk, hb]
theorem mi_get (h : mBun p l e R s mid args below meth c cc nL Ts own Q D A ad kd wids aC) {C : String} {T : u_T} {N ci k idx o : Nat} {v : mV} (hd : decode cc pc = .ok (.getfield idx, 3)) (hc : vwCl[ci]? = some (C, T, N)) (hW : ∀ w ∈ u_ws C T N, w ∈ gALL) (hk : k < N) (hT1 : (T k).1 = C)
    (hl : Cond.fieldLink own idx C (T k).2.1 (T k).2.2.1 ∈ Ts ∨ ∃ host, Cond.fieldLinkNest own idx C (T k).2.1 (T k).2.2.1 host ∈ lw_tbl) (hb : Nat.ble 100 ci = false)
    (hv : o ∈ wids → kd o = ci → ms_okc kd wids ci o k (M o k) → v ≠ none ∧ ms_ok kd wids v ∧ ms_v ad v = ms_fv ad kd M o k) (kk : ms_W h (pc + 3) L (v :: S) M) : ms_W h pc L (rv ci o :: S) M := by
  intro ls H locs hL hS hM hP hA
  obtain ⟨ho, hkd⟩ : o ∈ wids ∧ kd o = ci := hS.hd
  obtain ⟨q0, -, hws⟩ := ms_at ad kd wids aC (M := M) ho
  rw [ms_e_obj hb hkd, gN_of hc] at hws
  have hm := hM o ho k
  rw [hkd] at hm
  obtain ⟨v0, v1, v2⟩ := hv ho hkd hm
  have hf : ((List.range N).map (ms_fv ad kd M o))[k]? = some (ms_v ad v) := by rw [List.getElem?_map, List.getElem?_range hk, v2]; rfl
  have kk := kk ls H locs hL (hS.tl.push v0 v1) hM hP hA
  rcases hl with hl | ⟨host, hl⟩
  · exact va_get h.1.1 h.1.2.1 h.1.2.2.2.2 (fun w hw => h.2.2.2.2.1 w (hW w hw)) h.1.2.2.2.1 h.2.1 hP q0 hws hc k hk (h.1.2.2.2.2 _ hl) (fun x hx => by rw [hT1] at hx; exact hx) hf hd kk
  · exact va_getN h.1.1 h.1.2.1 h.1.2.2.2.2 (fun w hw => h.2.2.2.2.1 w (hW w hw)) h.1.2.2.2.1 h.2.1 hP q0 hws hc k hk (va_Nw.use rfl (h.2.2.2.2.2.1 _ hl rfl)) (fun x hx => by rw [hT1] at hx; exact hx) hf hd kk
theorem mi_put (h : mBun p l e R s mid args below meth c cc nL Ts own Q D A ad kd wids aC) {C : String} {T : u_T} {N ci k idx o : Nat} {v : mV} {x : Int} {ty : FieldType} {ty0 : Nat → FieldType} (hd : decode cc pc = .ok (.putfield idx, 3)) (hc : vwCl[ci]? = some (C, T, N)) (hW : ∀ w ∈ u_ws C T N, w ∈ gALL)
    (hty0 : ∀ k, k < N → parseFieldDescriptor (T k).2.2.1 = some (ty0 k)) (hnm : ∀ a, a < N → ∀ b, b < N → a ≠ b → (T a).2.1 ≠ (T b).2.1) (hk : k < N) (hT1 : (T k).1 = C) (hl : Cond.fieldLink own idx C (T k).2.1 (T k).2.2.1 ∈ Ts) (hb : Nat.ble 100 ci = false) (hfin : (T k).2.2.2 = false)
    (hty : parseFieldDescriptor (T k).2.2.1 = some ty) (hn : narrow ty (ms_v ad v) = ms_v ad v) (hfit : fits ty (ms_v ad v) = true) (hv : kd o = ci → ms_ok kd wids v → ms_fv ad kd (st M o k x) o k = ms_v ad v ∧ ms_okc kd wids ci o k x)
    (kk : ms_W h (pc + 3) L S (st M o k x)) : ms_W h pc L (v :: rv ci o :: S) M := by
  intro ls H locs hL hS hM hP hA
  obtain ⟨ho, hkd⟩ : o ∈ wids ∧ kd o = ci := hS.tl.hd
  obtain ⟨q0, hq, hws⟩ := ms_at ad kd wids aC (M := M) ho
  have hkb : Nat.ble 100 (kd o) = false := by rw [hkd]; exact hb
  rw [ms_e_obj hb hkd] at hws
  obtain ⟨v1, v2⟩ := hv hkd hS.hd
  have hk1 : k < gN (kd o) := by rw [hkd, gN_of hc]; exact hk
  refine va_put h.1.1 h.1.2.1 h.1.2.2.2.2 (fun w hw => h.2.2.2.2.1 w (hW w hw)) ty0 hty0 hnm h.1.2.2.2.1 h.2.1 hP (ms_D ad kd wids aC h.2.2.1) hA q0 hws hc k hk (h.1.2.2.2.2 _ hl) (fun x hx => by rw [hT1] at hx; exact hx) hfin hty hn hfit (by simpa [gN_of hc] using hk) hd (fun H1 locs1 hP1 _ hA1 => ?_)
  have e1 := ms_e_fld ad kd wids aC (M := M) (x := x) hkb hk1 v1 q0 h.2.2.2.1 hq
  rw [hkd] at e1
  rw [e1] at hP1
  exact kk ls H1 locs1 hL hS.tl.tl (hM.st kd wids (by rw [hkd]; exact v2)) hP1 hA1
theorem ms_e_ari {o t : Nat} (hb : Nat.ble 100 t = true) (hk : kd o = t) (ht : (t - 100) % 4 ≠ 1) : ms_e ad kd aC M o = .inl (aC ((t - 100) % 4), (t - 100) / 4, .inl (fun j => Int32.ofInt (M o j))) := by
  unfold ms_e
  rw [hk, hb]
  dsimp only
  split
  · rename_i q; exact absurd q ht
  · rfl
theorem ms_e_arj {o t : Nat} (hb : Nat.ble 100 t = true) (hk : kd o = t) (ht : (t - 100) % 4 = 1) : ms_e ad kd aC M o = .inl (aC 1, (t - 100) / 4, .inr (.inl (fun j => Int64.ofInt (M o j)))) := by
  unfold ms_e
  rw [hk, hb, ht]
  rfl
theorem ble_of {t : Nat} {i : Int} (h : 0 ≤ i ∧ i < ((t - 100) / 4 : Nat)) : Nat.ble 100 t = true := by
  apply Nat.ble_eq.mpr
  omega
theorem okc_i {t o j : Nat} {x : Int} (hb : Nat.ble 100 t = true) (ht : (t - 100) % 4 ≠ 1) : ms_okc kd wids t o j x ↔ okI x := by
  unfold ms_okc
  rw [hb]
  dsimp only
  split
  · rename_i q; exact absurd q ht
  · exact Iff.rfl
theorem okc_j {t o j : Nat} {x : Int} (hb : Nat.ble 100 t = true) (ht : (t - 100) % 4 = 1) : ms_okc kd wids t o j x ↔ okJ x := by
  unfold ms_okc
  rw [hb, ht]
  exact Iff.rfl
theorem len_lt {t : Nat} {n : Nat} (h : (t - 100) / 4 ≤ n) : True := trivial
theorem mi_iald (h : mBun p l e R s mid args below meth c cc nL Ts own Q D A ad kd wids aC) {t o : Nat} {i : Int} (hd : decode cc pc = .ok (.iaload, 1)) (ht : (t - 100) % 4 = 0) (hg : 0 ≤ i ∧ i < ((t - 100) / 4 : Nat)) (kk : ms_W h (pc + 1) L (iv (M o i.toNat) :: S) M) : ms_W h pc L (iv i :: rv t o :: S) M := by
  intro ls H locs hL hS hM hP hA
  obtain ⟨ho, hkd⟩ : o ∈ wids ∧ kd o = t := hS.tl.hd
  have hi : okI i := hS.hd
  obtain ⟨q0, hq, hws⟩ := ms_at ad kd wids aC (M := M) ho
  rw [ms_e_ari (ble_of hg) hkd (by omega), ht] at hws
  have hm := hM o ho i.toNat
  rw [hkd] at hm
  have hm := (okc_i (ble_of hg) (by omega)).mp hm
  have kk := kk ls H locs hL (hS.tl.tl.pushI hm) hM hP hA
  rw [← ofI_nat hg.1 hi.2] at kk
  exact va_iald h.1.1 h.1.2.1 h.2.1 hP q0 0 hws rfl (ofI_in hi hg.1 hg.2) hd kk
theorem mi_lald (h : mBun p l e R s mid args below meth c cc nL Ts own Q D A ad kd wids aC) {t o : Nat} {i : Int} (hd : decode cc pc = .ok (.laload, 1)) (ht : (t - 100) % 4 = 1) (hg : 0 ≤ i ∧ i < ((t - 100) / 4 : Nat)) (kk : ms_W h (pc + 1) L (jv (M o i.toNat) :: S) M) : ms_W h pc L (iv i :: rv t o :: S) M := by
  intro ls H locs hL hS hM hP hA
  obtain ⟨ho, hkd⟩ : o ∈ wids ∧ kd o = t := hS.tl.hd
  have hi : okI i := hS.hd
  obtain ⟨q0, hq, hws⟩ := ms_at ad kd wids aC (M := M) ho
  rw [ms_e_arj (ble_of hg) hkd ht] at hws
  have hm := hM o ho i.toNat
  rw [hkd] at hm
  have hm := (okc_j (ble_of hg) ht).mp hm
  have kk := kk ls H locs hL (hS.tl.tl.pushJ hm) hM hP hA
  rw [← ofI_nat hg.1 hi.2] at kk
  exact va_lald h.1.1 h.1.2.1 h.2.1 hP q0 1 hws rfl (ofI_in hi hg.1 hg.2) hd kk
theorem mi_bald (h : mBun p l e R s mid args below meth c cc nL Ts own Q D A ad kd wids aC) {t o : Nat} {i : Int} (hd : decode cc pc = .ok (.baload, 1)) (ht : (t - 100) % 4 = 2) (hg : 0 ≤ i ∧ i < ((t - 100) / 4 : Nat)) (kk : ms_W h (pc + 1) L (iv (M o i.toNat) :: S) M) : ms_W h pc L (iv i :: rv t o :: S) M := by
  intro ls H locs hL hS hM hP hA
  obtain ⟨ho, hkd⟩ : o ∈ wids ∧ kd o = t := hS.tl.hd
  have hi : okI i := hS.hd
  obtain ⟨q0, hq, hws⟩ := ms_at ad kd wids aC (M := M) ho
  rw [ms_e_ari (ble_of hg) hkd (by omega), ht] at hws
  have hm := hM o ho i.toNat
  rw [hkd] at hm
  have hm := (okc_i (ble_of hg) (by omega)).mp hm
  have kk := kk ls H locs hL (hS.tl.tl.pushI hm) hM hP hA
  rw [← ofI_nat hg.1 hi.2] at kk
  exact va_bald h.1.1 h.1.2.1 h.2.1 hP q0 2 hws rfl (ofI_in hi hg.1 hg.2) hd kk
theorem mi_zald (h : mBun p l e R s mid args below meth c cc nL Ts own Q D A ad kd wids aC) {t o : Nat} {i : Int} (hd : decode cc pc = .ok (.baload, 1)) (ht : (t - 100) % 4 = 3) (hg : 0 ≤ i ∧ i < ((t - 100) / 4 : Nat)) (kk : ms_W h (pc + 1) L (iv (M o i.toNat) :: S) M) : ms_W h pc L (iv i :: rv t o :: S) M := by
  intro ls H locs hL hS hM hP hA
  obtain ⟨ho, hkd⟩ : o ∈ wids ∧ kd o = t := hS.tl.hd
  have hi : okI i := hS.hd
  obtain ⟨q0, hq, hws⟩ := ms_at ad kd wids aC (M := M) ho
  rw [ms_e_ari (ble_of hg) hkd (by omega), ht] at hws
  have hm := hM o ho i.toNat
  rw [hkd] at hm
  have hm := (okc_i (ble_of hg) (by omega)).mp hm
  have kk := kk ls H locs hL (hS.tl.tl.pushI hm) hM hP hA
  rw [← ofI_nat hg.1 hi.2] at kk
  exact va_zald h.1.1 h.1.2.1 h.2.1 hP q0 3 hws rfl (ofI_in hi hg.1 hg.2) hd kk
theorem mi_iast (h : mBun p l e R s mid args below meth c cc nL Ts own Q D A ad kd wids aC) {t o : Nat} {i x : Int} (hd : decode cc pc = .ok (.iastore, 1)) (ht : (t - 100) % 4 = 0) (hg : 0 ≤ i ∧ i < ((t - 100) / 4 : Nat)) (kk : ms_W h (pc + 1) L S (st M o i.toNat x)) : ms_W h pc L (iv x :: iv i :: rv t o :: S) M := by
  intro ls H locs hL hS hM hP hA
  obtain ⟨ho, hkd⟩ : o ∈ wids ∧ kd o = t := hS.tl.tl.hd
  have hx : okI x := hS.hd
  have hi : okI i := hS.tl.hd
  obtain ⟨q0, hq, hws⟩ := ms_at ad kd wids aC (M := M) ho
  rw [ms_e_ari (ble_of hg) hkd (by omega), ht] at hws
  refine va_iast h.1.1 h.1.2.1 h.2.1 hP (ms_D ad kd wids aC h.2.2.1) hA q0 0 hws rfl (ofI_in hi hg.1 hg.2) hd (fun H1 locs1 hP1 _ hA1 => ?_)
  rw [ofI_nat hg.1 hi.2] at hP1
  have hb2 : Nat.ble 100 (kd o) = true := by rw [hkd]; exact ble_of hg
  have ht2 : (kd o - 100) % 4 = 0 := by rw [hkd]; exact ht
  have e1 := ms_e_arI ad kd wids aC (M := M) (k := i.toNat) (x := x) hb2 ht2 (by omega) rfl q0 h.2.2.2.1 hq
  rw [hkd] at e1
  rw [e1] at hP1
  exact kk ls H1 locs1 hL hS.tl.tl.tl (hM.st kd wids (by rw [hkd]; exact (okc_i (ble_of hg) (by omega)).mpr hx)) hP1 hA1
theorem mi_last (h : mBun p l e R s mid args below meth c cc nL Ts own Q D A ad kd wids aC) {t o : Nat} {i x : Int} (hd : decode cc pc = .ok (.lastore, 1)) (ht : (t - 100) % 4 = 1) (hg : 0 ≤ i ∧ i < ((t - 100) / 4 : Nat)) (kk : ms_W h (pc + 1) L S (st M o i.toNat x)) : ms_W h pc L (jv x :: iv i :: rv t o :: S) M := by
  intro ls H locs hL hS hM hP hA
  obtain ⟨ho, hkd⟩ : o ∈ wids ∧ kd o = t := hS.tl.tl.hd
  have hx : okJ x := hS.hd
  have hi : okI i := hS.tl.hd
  obtain ⟨q0, hq, hws⟩ := ms_at ad kd wids aC (M := M) ho
  rw [ms_e_arj (ble_of hg) hkd ht] at hws
  refine va_last h.1.1 h.1.2.1 h.2.1 hP (ms_D ad kd wids aC h.2.2.1) hA q0 1 hws rfl (ofI_in hi hg.1 hg.2) hd (fun H1 locs1 hP1 _ hA1 => ?_)
  rw [ofI_nat hg.1 hi.2] at hP1
  have hb2 : Nat.ble 100 (kd o) = true := by rw [hkd]; exact ble_of hg
  have ht2 : (kd o - 100) % 4 = 1 := by rw [hkd]; exact ht
  have e1 := ms_e_arJ ad kd wids aC (M := M) (k := i.toNat) (x := x) hb2 ht2 q0 h.2.2.2.1 hq
  rw [hkd] at e1
  rw [e1] at hP1
  exact kk ls H1 locs1 hL hS.tl.tl.tl (hM.st kd wids (by rw [hkd]; exact (okc_j (ble_of hg) ht).mpr hx)) hP1 hA1
theorem mi_bast (h : mBun p l e R s mid args below meth c cc nL Ts own Q D A ad kd wids aC) {t o : Nat} {i x : Int} (hd : decode cc pc = .ok (.bastore, 1)) (ht : (t - 100) % 4 = 2) (hg : 0 ≤ i ∧ i < ((t - 100) / 4 : Nat)) (kk : ms_W h (pc + 1) L S (st M o i.toNat (w8 x))) : ms_W h pc L (iv x :: iv i :: rv t o :: S) M := by
  intro ls H locs hL hS hM hP hA
  obtain ⟨ho, hkd⟩ : o ∈ wids ∧ kd o = t := hS.tl.tl.hd
  have hx : okI x := hS.hd
  have hi : okI i := hS.tl.hd
  obtain ⟨q0, hq, hws⟩ := ms_at ad kd wids aC (M := M) ho
  rw [ms_e_ari (ble_of hg) hkd (by omega), ht] at hws
  refine va_bast h.1.1 h.1.2.1 h.2.1 hP (ms_D ad kd wids aC h.2.2.1) hA q0 2 hws rfl (ofI_in hi hg.1 hg.2) hd (fun H1 locs1 hP1 _ hA1 => ?_)
  rw [ofI_nat hg.1 hi.2] at hP1
  have hb2 : Nat.ble 100 (kd o) = true := by rw [hkd]; exact ble_of hg
  have ht2 : (kd o - 100) % 4 = 2 := by rw [hkd]; exact ht
  have e1 := ms_e_arI ad kd wids aC (M := M) (k := i.toNat) (x := (w8 x)) hb2 ht2 (by omega) (narB hx).symm q0 h.2.2.2.1 hq
  rw [hkd] at e1
  rw [e1] at hP1
  exact kk ls H1 locs1 hL hS.tl.tl.tl (hM.st kd wids (by rw [hkd]; exact (okc_i (ble_of hg) (by omega)).mpr (w8_ok _))) hP1 hA1
theorem mi_zast (h : mBun p l e R s mid args below meth c cc nL Ts own Q D A ad kd wids aC) {t o : Nat} {i x : Int} (hd : decode cc pc = .ok (.bastore, 1)) (ht : (t - 100) % 4 = 3) (hg : 0 ≤ i ∧ i < ((t - 100) / 4 : Nat)) (kk : ms_W h (pc + 1) L S (st M o i.toNat (x % 2))) : ms_W h pc L (iv x :: iv i :: rv t o :: S) M := by
  intro ls H locs hL hS hM hP hA
  obtain ⟨ho, hkd⟩ : o ∈ wids ∧ kd o = t := hS.tl.tl.hd
  have hx : okI x := hS.hd
  have hi : okI i := hS.tl.hd
  obtain ⟨q0, hq, hws⟩ := ms_at ad kd wids aC (M := M) ho
  rw [ms_e_ari (ble_of hg) hkd (by omega), ht] at hws
  refine va_zast h.1.1 h.1.2.1 h.2.1 hP (ms_D ad kd wids aC h.2.2.1) hA q0 3 hws rfl (ofI_in hi hg.1 hg.2) hd (fun H1 locs1 hP1 _ hA1 => ?_)
  rw [ofI_nat hg.1 hi.2] at hP1
  have hb2 : Nat.ble 100 (kd o) = true := by rw [hkd]; exact ble_of hg
  have ht2 : (kd o - 100) % 4 = 3 := by rw [hkd]; exact ht
  have e1 := ms_e_arI ad kd wids aC (M := M) (k := i.toNat) (x := (x % 2)) hb2 ht2 (by omega) (narZ hx).symm q0 h.2.2.2.1 hq
  rw [hkd] at e1
  rw [e1] at hP1
  exact kk ls H1 locs1 hL hS.tl.tl.tl (hM.st kd wids (by rw [hkd]; exact (okc_i (ble_of hg) (by omega)).mpr (by unfold okI; omega))) hP1 hA1
theorem mi_alen (h : mBun p l e R s mid args below meth c cc nL Ts own Q D A ad kd wids aC) {t o : Nat} (hd : decode cc pc = .ok (.arraylength, 1)) (hb : Nat.ble 100 t = true) (hn : (t - 100) / 4 < 2147483648) (kk : ms_W h (pc + 1) L (iv (((t - 100) / 4 : Nat) : Int) :: S) M) : ms_W h pc L (rv t o :: S) M := by
  intro ls H locs hL hS hM hP hA
  obtain ⟨ho, hkd⟩ : o ∈ wids ∧ kd o = t := hS.hd
  obtain ⟨q0, hq, hws⟩ := ms_at ad kd wids aC (M := M) ho
  have kk := kk ls H locs hL (hS.tl.pushI ⟨by omega, by omega⟩) hM hP hA
  have hv : Int32.ofNat ((t - 100) / 4) = Int32.ofInt (((t - 100) / 4 : Nat) : Int) := rfl
  by_cases ht : (t - 100) % 4 = 1
  · rw [ms_e_arj hb hkd ht] at hws
    exact va_alen (ty := .long) h.1.1 h.1.2.1 h.2.1 hP q0 1 hws rfl hv hd kk
  · rw [ms_e_ari hb hkd ht] at hws
    have h3 : (t - 100) % 4 = 0 ∨ (t - 100) % 4 = 2 ∨ (t - 100) % 4 = 3 := by omega
    rcases h3 with h3 | h3 | h3 <;> rw [h3] at hws
    · exact va_alen (ty := .int) h.1.1 h.1.2.1 h.2.1 hP q0 0 hws rfl hv hd kk
    · exact va_alen (ty := .byte) h.1.1 h.1.2.1 h.2.1 hP q0 2 hws rfl hv hd kk
    · exact va_alen (ty := .boolean) h.1.1 h.1.2.1 h.2.1 hP q0 3 hws rfl hv hd kk
def msel (x : Int) : Nat → List (Int × Nat) → Nat
  | n, [] => n
  | n, q :: qs => if x = q.1 then q.2 else msel x n qs
theorem mswt_sel (j : Nat → Option mR) (x : Int) (n : Nat) : ∀ sw : List (Int × Nat), mswt j x n sw = j (msel x n sw)
  | [] => rfl
  | q :: qs => by
    unfold mswt msel
    split
    · rfl
    · exact mswt_sel j x n qs
/-- the table of a tableswitch -/
def mtsw (pc : Nat) : Int → List Int → List (Int × Nat)
  | _, [] => []
  | lo, o :: os => (lo, ((pc : Int) + o).toNat) :: mtsw pc (lo + 1) os
theorem mtsw_in {pc n : Nat} {x : Int} : ∀ (os : List Int) (lo : Int), (∀ o ∈ os, 0 ≤ (pc : Int) + o) → (∃ o, os[(x - lo).toNat]? = some o ∧ lo ≤ x ∧ (pc : Int) + o = (msel x n (mtsw pc lo os) : Nat)) ∨ ((x < lo ∨ lo + os.length ≤ x) ∧ msel x n (mtsw pc lo os) = n)
  | [], lo, _ => Or.inr ⟨by simp; omega, rfl⟩
  | o :: os, lo, h => by
    unfold mtsw msel
    by_cases hx : x = lo
    · subst hx
      left
      have := h o List.mem_cons_self
      exact ⟨o, by simp, by omega, by simp; omega⟩
    · simp only [if_neg hx]
      rcases mtsw_in os (lo + 1) (fun o ho => h o (List.mem_cons_of_mem _ ho)) with ⟨o', h1, h2, h3⟩ | ⟨h1, h2⟩
      · left
        refine ⟨o', ?_, by omega, h3⟩
        rw [show (x - lo).toNat = (x - (lo + 1)).toNat + 1 from by omega]
        simpa using h1
      · right
        refine ⟨?_, h2⟩
        simp only [List.length_cons]
        omega
theorem mi_tsw (h : mBun p l e R s mid args below meth c cc nL Ts own Q D A ad kd wids aC) {dflt lo hi : Int} {offs : Array Int} {len n : Nat} {x : Int} (hd : decode cc pc = .ok (.tableswitch dflt lo hi offs, len)) (hn : (pc : Int) + dflt = (n : Int)) (hh : hi = lo + offs.toList.length - 1) (ho : ∀ o ∈ offs.toList, 0 ≤ (pc : Int) + o)
    (kk : ms_W h (msel x n (mtsw pc lo offs.toList)) L S M) : ms_W h pc L (iv x :: S) M := by
  intro ls H locs hL hS hM hP hA
  have hx : okI x := hS.hd
  have kk := kk ls H locs hL hS.tl hM hP hA
  rcases mtsw_in (pc := pc) (n := n) (x := x) offs.toList lo ho with ⟨o, h1, h2, h3⟩ | ⟨h1, h2⟩
  · have hlt : (x - lo).toNat < offs.toList.length := (List.getElem?_eq_some_iff.mp h1).1
    exact lv_tableIn h.1.1 h.1.2.1 hd (by rw [toInt_ofInt32 hx]; omega) (by rw [toInt_ofInt32 hx]; omega) (by rw [toInt_ofInt32 hx, ← Array.getElem?_toList]; exact h1) h3 kk
  · rw [h2] at kk
    exact lv_tableOut h.1.1 h.1.2.1 hd (by rw [toInt_ofInt32 hx]; omega) hn kk
def mlsw (pc : Nat) : List (Int × Int) → List (Int × Nat)
  | [] => []
  | q :: qs => (q.1, ((pc : Int) + q.2).toNat) :: mlsw pc qs
theorem mlsw_off {pc n : Nat} {x dflt : Int} (hn : (pc : Int) + dflt = (n : Int)) : ∀ (ps : List (Int × Int)), (∀ q ∈ ps, 0 ≤ (pc : Int) + q.2) → (pc : Int) + Op.lookupswitch.offset ps dflt x = (msel x n (mlsw pc ps) : Nat)
  | [], _ => hn
  | (a, o) :: ps, h => by
    have ih := mlsw_off (x := x) hn ps (fun q hq => h q (List.mem_cons_of_mem _ hq))
    have h0 := h (a, o) List.mem_cons_self
    unfold mlsw msel
    by_cases hx : x = a
    · subst hx
      simp [Op.lookupswitch.offset]
      omega
    · simp only [Op.lookupswitch.offset, if_neg hx] at ih ⊢
      rw [if_neg (fun q => hx q.symm)]
      exact ih
theorem mi_lsw (h : mBun p l e R s mid args below meth c cc nL Ts own Q D A ad kd wids aC) {dflt : Int} {ps : Array (Int × Int)} {len n : Nat} {x : Int} (hd : decode cc pc = .ok (.lookupswitch dflt ps, len)) (hn : (pc : Int) + dflt = (n : Int)) (hp : (ps.toList.zip (ps.toList.drop 1)).all (fun (a, next) => a.1 < next.1) = true) (ho : ∀ q ∈ ps.toList, 0 ≤ (pc : Int) + q.2)
    (kk : ms_W h (msel x n (mlsw pc ps.toList)) L S M) : ms_W h pc L (iv x :: S) M := by
  intro ls H locs hL hS hM hP hA
  have hx : okI x := hS.hd
  have kk := kk ls H locs hL hS.tl hM hP hA
  exact lv_lookup h.1.1 h.1.2.1 hd hp rfl (by rw [toInt_ofInt32 hx]; exact mlsw_off hn ps.toList ho) kk
end MM
