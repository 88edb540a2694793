/-! The soundness of the whole machine. -/
theorem gT_out (m : Nat) (h : ¬ m < gNM) : (gT m).2.2.2 = [] := by
  have h1 : ∀ k, k < 288 → ¬ k < gNM → (gT k).2.2.2.isEmpty = true := by decide +kernel
  by_cases hm : m < 288
  · exact List.isEmpty_iff.mp (h1 m hm h)
  · have e : gT m = gT_none := by
      unfold gT gTc
      split <;> first | omega | rfl
    rw [e]
    rfl
section WH
variable {l : Launch} {D : va_G} {ad kd : Nat → Nat} {wids : List Nat} {aC : Nat → ClassId}
def ms_At (l : Launch) (D : va_G) (ad kd : Nat → Nat) (wids : List Nat) (aC : Nat → ClassId) (f : Nat) : Prop := ∀ (p : Program) (e : Env) (s : State) (mid : MethodId) (args : Array Value) (below : List Frame) (meth : Method) (c : Code) (A : Nat → Prop) (r : mV) (Mf : mM) (m : Nat) (_ : m < gNM)
  (h : mBun p l e (gR m) s mid args below meth c (gD m).2.1 (gT m).1 (gW m) (gY m).cls (MQ below (ms_Q D ad kd wids aC r Mf A) args s 0 0 A) D A ad kd wids aC) (_ : meth.sig.returnType = (gD m).2.2.1) (_ : meth.locks = false) (pc : Nat) (L S : List mV) (M : mM), mrun gF gT f m pc L S M = some (r, Mf) → ms_W h pc L S M
theorem ms_Met_of (hn : wids.Nodup) (hC : ∀ m, m < gNM → gCode m) {f : Nat} (hf : ms_At l D ad kd wids aC f) {m : Nat} {as : List mV} {M : mM} {r : mV} {M1 : mM} (hm : m < gNM) (hlen : (mlay as).length ≤ (gT m).1) (hrun : mrun gF gT f m 0 (mpad (gT m).1 (mlay as)) [] M = some (r, M1)) : ms_Met l D ad kd wids aC m as M r M1 := by
  intro sz
  obtain ⟨-, -, -, hpl⟩ := hC m hm
  refine Met.ofW (cc := (gD m).2.1) (maxL := (gT m).1) (ret := (gD m).2.2.1) hpl rfl ?_
  intro p e s mid args below meth c s₁ B hml hv
  obtain ⟨rfl, hsz, hP, hK, hN, hap, hM, has, hStr⟩ := hv
  subst hsz
  have hts := atoms_spec (ws := gW m) B.pre
  have hin : ∀ o ∈ wids, va_A (ms_ws ad kd wids aC M) s.heap.size (ad o) := by
    intro o ho
    obtain ⟨q0, -, hws⟩ := ms_at ad kd wids aC (M := M) ho
    exact va_A.in hws
  have hD : va_D (va_A (ms_ws ad kd wids aC M) s.heap.size) (ms_ws ad kd wids aC (fun _ _ => 0)) := ms_D ad kd wids aC (hap _ hin)
  have h : mBun p l e (gR m) s mid (as.map (ms_v ad)).toArray below meth c (gD m).2.1 (gT m).1 (gW m) (gY m).cls (MQ below (ms_Q D ad kd wids aC r M1 (va_A (ms_ws ad kd wids aC M) s.heap.size)) (as.map (ms_v ad)).toArray s 0 0 (va_A (ms_ws ad kd wids aC M) s.heap.size)) D (va_A (ms_ws ad kd wids aC M) s.heap.size) ad kd wids aC :=
    ⟨⟨B.exec, B.bytes, hml, findClass_of_methodNamed B.named, hts⟩, hK, hD, hn, fun w hw => List.mem_cons_of_mem _ hw, hN, fun q hq => Or.inr hq, hStr⟩
  have k := hf p e s mid _ below meth c _ r M1 m hm h B.returns B.notSynchronized 0 _ _ _ hrun
  rw [lg_entry_eq]
  exact k _ s.heap [] (ms_entry has hlen) (fun v hv => by cases hv) hM hP va_S.rf
theorem ms_all (hNO : gNameOf l) (hG : gMath) (hn : wids.Nodup) (hkl : ∀ o t, o ∈ wids ∧ kd o = t → (t - 100) / 4 < 2147483648) (hC : ∀ m, m < gNM → gCode m) (hO : ∀ m, m < gNM → gOwn (gD m).2.2.2.2.2.2 (gcls (gD m).2.2.2.2.2.2)) : ∀ f, ms_At l D ad kd wids aC f := by
  intro f
  induction f with
  | zero =>
    intro p e s mid args below meth c A r Mf m hm h hr hlocks pc L S M hrun
    cases hrun
  | succ f ih =>
    intro p e s mid args below meth c A r Mf m hm h hr hlocks pc L S M hrun
    obtain ⟨hc1, hc2, hc3, -⟩ := hC m hm
    unfold mrun at hrun
    have hfr := mchk_from pc hc1
    cases hfm : mfrom pc (gT m).2.2.2 with
    | nil => rw [hfm] at hrun; cases hrun
    | cons E0 es =>
      rw [hfm] at hrun hfr
      have hpc := mfrom_hd pc hfm
      rw [← hpc]
      refine ms_list hNO h hG hc3 (by rw [hc3]; exact hO m hm) ⟨rfl, rfl⟩ hkl (by rw [hr]; exact hc2) hlocks (fun m' as M' r1 M1 q => ?_) (fun n L S M q => ?_) es E0 L S M hfr hrun
      · revert q
        cases hb : Nat.ble (mlay as).length (gT m').1 with
        | false => intro q; cases q
        | true =>
          intro q
          by_cases hm' : m' < gNM
          · exact ms_Met_of hn hC ih hm' (Nat.ble_eq.mp hb) q
          · exfalso
            cases f with
            | zero => cases q
            | succ f =>
              have q : mrun gF gT (f + 1) m' 0 (mpad (gT m').1 (mlay as)) [] M' = some (r1, M1) := q
              unfold mrun at q
              rw [gT_out m' hm'] at q
              cases q
      · exact ms_W.forget h _ (ih p e s mid args below meth c A r Mf m hm h hr hlocks n _ _ _ q)
/-- a method's contract out of its answer in my machine -/
theorem ms_sound (hNO : gNameOf l) (hG : gMath) (hn : wids.Nodup) (hkl : ∀ o t, o ∈ wids ∧ kd o = t → (t - 100) / 4 < 2147483648) (hC : ∀ m, m < gNM → gCode m) (hO : ∀ m, m < gNM → gOwn (gD m).2.2.2.2.2.2 (gcls (gD m).2.2.2.2.2.2)) {m : Nat} {as : List mV} {M : mM} {r : mV} {M1 : mM} (hm : m < gNM) (h : gC m as M = some (r, M1)) : ms_Met l D ad kd wids aC m as M r M1 := by
  obtain ⟨f, hf⟩ := (mcl_iff gF gT).mp h
  unfold mrc at hf
  split at hf
  · rename_i hb
    exact ms_Met_of hn hC (ms_all hNO hG hn hkl hC hO f) hm (Nat.ble_eq.mp hb) hf
  · cases hf
end WH
