/-! The contract of every method out of its answer in my machine: no hypothesis left. -/
theorem gSound {l : Launch} {D : va_G} {ad kd : Nat → Nat} {wids : List Nat} {aC : Nat → ClassId} (hn : wids.Nodup) (hkl : ∀ o t, o ∈ wids ∧ kd o = t → (t - 100) / 4 < 2147483648) {m : Nat} {as : List mV} {M : mM} {r : mV} {M1 : mM} (hm : m < gNM) (h : gC m as M = some (r, M1)) : ms_Met l D ad kd wids aC m as M r M1 :=
  ms_sound (gNameOf_ok l) gMath_ok hn hkl gCode_all gOwn_all hm h
