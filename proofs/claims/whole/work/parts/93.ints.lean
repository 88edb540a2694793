/-! INTS; numbers of rows; what a GAUGE may have. -/
section ZI
variable {T : TKS} {w2 : Nat} {M0 M D : mM} {t : Nat} {ks : Int × Int}
theorem z_intWithin (h : CCp T w2 M0 (t + 1) ks M) (hok : TKok T) (ht : t ≤ tm T) (hk : tK T t = 3) (a b : Int) : ∃ M', gC 50 [rv 4 2, iv a, iv b] M = some (iv (if (tV T t : Int) < a ∨ b < (tV T t : Int) then a else (tV T t : Int)), M') ∧ CCp T w2 M0 (t + 1) (if (tV T t : Int) < a ∨ b < (tV T t : Int) then keepA ks 5 (tP T t : Int) else ks) M' ∧ (∀ o, o ≠ 2 → M' o = M o) ∧ M' 2 10 = M 2 10 := by
  have h4 := hok.1
  have hv := hok.2.2.2.2.2.2 t ht hk
  obtain ⟨MK, m1, m2, m3, m4⟩ := z_keep h hok ht 5
  rw [e_Parser_intWithin, z_at1 h hok ht, z_intAt h.1 hok ht hk, bJ_some, z_at1 h hok ht]
  by_cases y : (tV T t : Int) < a
  · rw [if_pos (lcmp_lt.mpr y), if_pos (Or.inl y), if_pos (Or.inl y), m1, bV_none]
    exact ⟨MK, rfl, m2, m3, m4⟩
  · rw [if_neg (fun q => y (lcmp_lt.mp q))]
    by_cases x : (tV T t : Int) ≤ b
    · have no : ¬ ((tV T t : Int) < a ∨ b < (tV T t : Int)) := by omega
      rw [if_pos (lcmp_le.mpr x), if_neg no, if_neg no, pu_w32 (by omega) (by omega)]
      exact ⟨M, rfl, h, fun _ _ => rfl, rfl⟩
    · have yes : (tV T t : Int) < a ∨ b < (tV T t : Int) := by omega
      rw [if_neg (fun q => x (lcmp_le.mp q)), if_pos yes, if_pos yes, m1, bV_none]
      exact ⟨MK, rfl, m2, m3, m4⟩
theorem z_addNumber (hW : CW w2 D M) (h8 : ∀ r, r < 14 → D 8 r = (wH D r : Int) ∧ wH D r < 128) {r u : Nat} (hr : r < 14) (hu : u < 7) (v : Int) : gC 106 [rv 9 w2, iv (r : Int), iv (u : Int), iv v] M = some (none, st (st M (w2 + 1) (r * 7 + u) v) (w2 + 8) r ((wH D r ||| 2 ^ u : Nat) : Int)) := by
  have e : w32 (w32 ((r : Int) * 7) + (u : Int)) = ((r * 7 + u : Nat) : Int) := by
    rw [pu_w32 (x := (r : Int) * 7) (by omega) (by omega), pu_w32 (by omega) (by omega)]
    omega
  have i98 : 0 ≤ ((r * 7 + u : Nat) : Int) ∧ ((r * 7 + u : Nat) : Int) < 98 := by omega
  have n1 : ¬ (r : Int) < 0 := by omega
  have n2 : ¬ (14 : Int) ≤ (r : Int) := by omega
  have n3 : ¬ (u : Int) < 0 := by omega
  have n4 : ¬ (7 : Int) ≤ (u : Int) := by omega
  have n5 : 0 ≤ (r : Int) ∧ (r : Int) < 14 := by omega
  have hb := (h8 r hr).2
  have hb2 : wH D r < 2147483648 := by omega
  have hu31 : u < 31 := by omega
  rw [e_Works_addNumber, if_neg n1, if_neg n2, if_neg n3, if_neg n4, e, if_pos i98, if_pos n5, if_pos n5, pu_nn, pu_nn, st_ob (show w2 + 8 ≠ w2 + 1 by omega), hW.2 8 (by omega), (h8 r hr).1, or1 hb2 hu31]
theorem z_hasOf (hW : CW w2 D M) (h8 : ∀ r, r < 14 → D 8 r = (wH D r : Int) ∧ wH D r < 128) {r : Nat} (hr : r < 14) : gC 105 [rv 9 w2, iv (r : Int)] M = some (iv (wH D r : Int), M) := by
  rw [e_Works_hasOf, if_neg (by omega), if_neg (by omega), if_pos (by omega), pu_nn, hW.2 8 (by omega), (h8 r hr).1]
end ZI
theorem num_cases (N : NMS) (n : Nat) (w : List Nat) (s : Nat) : numC N n w s = -1 ∨ ∃ k : Nat, k < n ∧ (N k).1 = w ∧ (N k).2.1 = s ∧ numC N n w s = (((N k).2.2 : Nat) : Int) := by
  unfold numC
  rcases fdx_cases N n w with ⟨a, b⟩ | ⟨k, a, b, c, d⟩
  · rw [a, if_pos rfl]
    exact Or.inl rfl
  · rw [b, if_neg (by omega), pu_nn]
    by_cases z : (N k).2.1 = s
    · rw [if_pos z]
      exact Or.inr ⟨k, a, c, z, rfl⟩
    · rw [if_neg z]
      exact Or.inl rfl
/-- the ends of the reference's GAUGE -/
noncomputable def gFin (c3 : Int) (M : mM) : Option mR := bV (gC 193 [rv 11 100, iv 4] M) fun M8 =>
if (M8 100 13) ≤ 0 then
if 0 ≤ (M8 100 19) ∧ (M8 100 19) < 2 then
bV (gC 195 [rv 11 100, iv c3, iv 2, iv (M8 115 (M8 100 19).toNat)] M8) fun M9 =>
if 0 ≤ (M9 100 19) ∧ (M9 100 19) < 2 then
if 0 ≤ (M9 100 19) ∧ (M9 100 19) < 2 then
some (none, st M9 115 (M9 100 19).toNat (w32 ((M9 115 (M9 100 19).toNat) + 1)))
else none
else none
else none
else
some (none, M8)
noncomputable def gCost (i c3 : Int) (M : mM) : Option mR := bI (gC 187 [rv 11 100, iv 27] M) fun c7 M7 =>
if c7 = 0 then
gFin c3 M7
else
bV (gC 191 [rv 11 100] M7) fun M10 =>
bI (gC 197 [rv 11 100, iv 1, iv 100] M10) fun c11 M11 =>
if 0 ≤ i ∧ i < 12 then
gFin c3 (st M11 118 i.toNat c11)
else none
noncomputable def gNoise (i c3 : Int) (M : mM) : Option mR := bI (gC 187 [rv 11 100, iv 26] M) fun c6 M6 =>
if c6 = 0 then
gCost i c3 M6
else
bV (gC 191 [rv 11 100] M6) fun M14 =>
bI (gC 197 [rv 11 100, iv 0, iv 3] M14) fun c15 M15 =>
if 0 ≤ i ∧ i < 12 then
gCost i c3 (st M15 117 i.toNat c15)
else none
theorem e_tellGauge (M : mM) : gC 200 [rv 11 100] M =
if 0 ≤ (M 100 19) ∧ (M 100 19) < 2 then
bI (gC 187 [rv 11 100, iv 24] M) fun c1 M1 =>
if 0 ≤ (w32 ((w32 (6 * (M 100 19))) + (M 115 (M 100 19).toNat))) ∧ (w32 ((w32 (6 * (M 100 19))) + (M 115 (M 100 19).toNat))) < 12 then
bV (gC 191 [rv 11 100] (st M1 119 (w32 ((w32 (6 * (M 100 19))) + (M 115 (M 100 19).toNat))).toNat (c1 % 2))) fun M2 =>
bI (gC 192 [rv 11 100] M2) fun c3 M3 =>
bV (gC 193 [rv 11 100, iv 25] M3) fun M4 =>
if (M4 100 13) ≤ 0 then
bI (gC 199 [rv 11 100, iv 0, iv 0] M4) fun c5 M5 =>
if ¬ c5 = (-1) then
if 0 ≤ c5 ∧ c5 < 40 then
if 0 ≤ (w32 ((w32 (6 * (M 100 19))) + (M 115 (M 100 19).toNat))) ∧ (w32 ((w32 (6 * (M 100 19))) + (M 115 (M 100 19).toNat))) < 12 then
if 0 ≤ (w32 ((w32 (6 * (M 100 19))) + (M 115 (M 100 19).toNat))) ∧ (w32 ((w32 (6 * (M 100 19))) + (M 115 (M 100 19).toNat))) < 12 then
if 0 ≤ (w32 ((w32 (6 * (M 100 19))) + (M 115 (M 100 19).toNat))) ∧ (w32 ((w32 (6 * (M 100 19))) + (M 115 (M 100 19).toNat))) < 12 then
gNoise (w32 ((w32 (6 * (M 100 19))) + (M 115 (M 100 19).toNat))) c3 (st (st (st M5 116 (w32 ((w32 (6 * (M 100 19))) + (M 115 (M 100 19).toNat))).toNat (M5 110 (c5).toNat)) 117 (w32 ((w32 (6 * (M 100 19))) + (M 115 (M 100 19).toNat))).toNat 0) 118 (w32 ((w32 (6 * (M 100 19))) + (M 115 (M 100 19).toNat))).toNat 1)
else none
else none
else none
else none
else
if 0 ≤ (w32 ((w32 (6 * (M 100 19))) + (M 115 (M 100 19).toNat))) ∧ (w32 ((w32 (6 * (M 100 19))) + (M 115 (M 100 19).toNat))) < 12 then
if 0 ≤ (w32 ((w32 (6 * (M 100 19))) + (M 115 (M 100 19).toNat))) ∧ (w32 ((w32 (6 * (M 100 19))) + (M 115 (M 100 19).toNat))) < 12 then
if 0 ≤ (w32 ((w32 (6 * (M 100 19))) + (M 115 (M 100 19).toNat))) ∧ (w32 ((w32 (6 * (M 100 19))) + (M 115 (M 100 19).toNat))) < 12 then
gNoise (w32 ((w32 (6 * (M 100 19))) + (M 115 (M 100 19).toNat))) c3 (st (st (st M5 116 (w32 ((w32 (6 * (M 100 19))) + (M 115 (M 100 19).toNat))).toNat 0) 117 (w32 ((w32 (6 * (M 100 19))) + (M 115 (M 100 19).toNat))).toNat 0) 118 (w32 ((w32 (6 * (M 100 19))) + (M 115 (M 100 19).toNat))).toNat 1)
else none
else none
else none
else
if 0 ≤ (w32 ((w32 (6 * (M 100 19))) + (M 115 (M 100 19).toNat))) ∧ (w32 ((w32 (6 * (M 100 19))) + (M 115 (M 100 19).toNat))) < 12 then
if 0 ≤ (w32 ((w32 (6 * (M 100 19))) + (M 115 (M 100 19).toNat))) ∧ (w32 ((w32 (6 * (M 100 19))) + (M 115 (M 100 19).toNat))) < 12 then
if 0 ≤ (w32 ((w32 (6 * (M 100 19))) + (M 115 (M 100 19).toNat))) ∧ (w32 ((w32 (6 * (M 100 19))) + (M 115 (M 100 19).toNat))) < 12 then
gNoise (w32 ((w32 (6 * (M 100 19))) + (M 115 (M 100 19).toNat))) c3 (st (st (st M4 116 (w32 ((w32 (6 * (M 100 19))) + (M 115 (M 100 19).toNat))).toNat 0) 117 (w32 ((w32 (6 * (M 100 19))) + (M 115 (M 100 19).toNat))).toNat 0) 118 (w32 ((w32 (6 * (M 100 19))) + (M 115 (M 100 19).toNat))).toNat 1)
else none
else none
else none
else none
else none := e_GaugeNetModel_tellGauge M
section GP
variable {T : TKS} {w2 lv sd : Nat} {M0C M0R MC MR M D : mM} {t : Nat} {ks f : Int × Int} {N' : NMS} {n' : Nat}
theorem gFin_f (h : RFp lv sd M0R f M) (c3 : Int) : gFin c3 M = some (none, M) := by
  unfold gFin
  rw [y_must_f h, bV_none, if_neg (RFp_le h)]
theorem gCost_f (h : RFp lv sd M0R f M) (i c3 : Int) : gCost i c3 M = some (none, M) := by
  unfold gCost
  rw [y_is_f (RFp_ne h), bI_some, if_pos rfl, gFin_f h]
theorem gNoise_f (h : RFp lv sd M0R f M) (i c3 : Int) : gNoise i c3 M = some (none, M) := by
  unfold gNoise
  rw [y_is_f (RFp_ne h), bI_some, if_pos rfl, gCost_f h]
theorem noisePart (hC : CCp T w2 M0C t ks MC) (hW : CW w2 D MC) (hN : NCk N' n' MC) (hR : RCp T lv sd M0R t ks MR) (hok : TKok T) (ht : t ≤ tm T) (hks : KOs T t ks) {g i : Nat} (hg : g < 6) (hi : i < 12) (hnk : ¬ kpR lv 117 i) (c3 : Int) : (∃ t' ks' v vR MC' MR', (t ≤ t' ∧ t' ≤ tm T ∧ KOs T t' ks') ∧ gC 55 [rv 4 2, iv (g : Int)] MC = some (iv 1, MC') ∧ gNoise (i : Int) c3 MR = gCost (i : Int) c3 MR' ∧ (CCp T w2 M0C t' ks' MC' ∧ CW w2 (st D 4 g v) MC' ∧ NCk N' n' MC') ∧ (RCp T lv sd M0R t' ks' MR' ∧ (∀ o, o ≠ 100 → o ≠ 117 → MR' o = MR o) ∧ (∀ k, MR' 117 k = if k = i then vR else MR 117 k) ∧ MR' 100 20 = MR 100 20) ∧ (ks'.1 = 0 → ks.1 = 0 ∧ ((v = D 4 g ∧ vR = MR 117 i) ∨ ∃ n : Nat, n ≤ 3 ∧ v = (n : Int) ∧ vR = (n : Int)))) ∨ ∃ f MC' MR', gC 55 [rv 4 2, iv (g : Int)] MC = some (iv 0, MC') ∧ CFp w2 M0C f MC' ∧ gNoise (i : Int) c3 MR = some (none, MR') ∧ RFp lv sd M0R f MR' := by
  have hw2 := hC.2.2.2
  have ri : 0 ≤ (i : Int) ∧ (i : Int) < 12 := by omega
  have rg : 0 ≤ (g : Int) ∧ (g : Int) < 6 := by omega
  rw [e_Parser_parseNoise, z_kind hC hok ht, bI_some]
  unfold gNoise
  rw [y_is hR hok ht (k := 10) (by omega) (x := 26) rfl, bI_some]
  by_cases z : tK T t = 10
  · rw [if_pos (show (tK T t : Int) = 10 by omega), if_pos z, if_neg (show ¬ (1 : Int) = 0 by omega)]
    rcases z_accept hC hok ht 10 (x := 10) rfl with ⟨a1, a2, a3⟩ | ⟨f, M3, a1, a2, a3⟩
    · have t1 := ac_next hok ht a1 (by omega)
      rcases y_goesOn hR hok ht with ⟨_, b2, b3⟩ | ⟨f, A3, b1, _⟩
      · generalize hB1 : st MC 2 2 ((t + 1 : Nat) : Int) = B1 at a2 a3
        generalize hA1 : st MR 100 11 ((t + 1 : Nat) : Int) = A1 at b2 b3
        have hWB : CW w2 D B1 := CW_k hW (fun o ho => by rw [← hB1, st_ob (by omega)])
        have hNB : NCk N' n' B1 := NCk_s hN (fun o _ _ => by rw [← hB1, st_ob (by omega)]) (by rw [← hB1, st_nk (by omega)])
        have hks1 := KO_up hok hks (show t ≤ t + 1 by omega) t1
        rw [a2, bI_some, if_neg (show ¬ (1 : Int) = 0 by omega), b2, bV_none]
        rcases z_accept a3 hok t1 3 (x := 3) rfl with ⟨c1, c2, c3'⟩ | ⟨f, M3, c1, c2, c3'⟩
        · have t2 := ac_next hok t1 c1 (by omega)
          have k3 := (ac_none c1).1
          rcases y_toldInt b3 hok t1 hks1 0 3 with ⟨_, A2, g1, g2, g3, g5⟩ | ⟨f, v, A2, g0, _⟩
          · generalize hB2 : st B1 2 2 ((t + 1 + 1 : Nat) : Int) = B2 at c2 c3'
            have hWB2 : CW w2 D B2 := CW_k hWB (fun o ho => by rw [← hB2, st_ob (by omega)])
            have hNB2 : NCk N' n' B2 := NCk_s hNB (fun o _ _ => by rw [← hB2, st_ob (by omega)]) (by rw [← hB2, st_nk (by omega)])
            obtain ⟨B3, m1, m2, m3, m4⟩ := z_intWithin c3' hok t1 k3 0 3
            rw [c2, bI_some, if_pos (show ¬ (1 : Int) = 0 by omega), m1, bI_some, put_noise rg, bV_none, pu_nn, c3'.2.1.1, pu_nn, g1, bI_some, if_pos ri, pu_nn]
            have hWB3 : CW w2 D B3 := CW_k hWB2 (fun o ho => m3 o (by omega))
            have hNB3 : NCk N' n' B3 := NCk_s hNB2 (fun o _ _ => m3 o (by omega)) m4
            refine Or.inl ⟨t + 1 + 1, _, _, (tV T (t + 1) : Int), _, _, ⟨by omega, t2, ?_⟩, rfl, rfl, ⟨CCp_o m2 (by omega) _ _, CW_st hWB3 4 g _, NCk_s hNB3 (fun o _ _ => st_ob (by omega)) (by rw [st_ob (by omega)])⟩, ⟨RCp_o g2 (by omega) hnk _, fun o h1 h2 => ?_, fun k => ?_, ?_⟩, fun q => ?_⟩
            · split
              · exact KO_keep hok (KO_up hok hks1 (by omega) t2) (by omega) t2 _
              · exact KO_up hok hks1 (by omega) t2
            · rw [st_ob h2, g3 o h1, ← hA1, st_ob h1]
            · rw [st_if, g3 117 (by omega), ← hA1, st_ob (by omega)]
            · rw [st_ob (by omega), g5 20 (by omega) (by omega) (by omega), ← hA1, st_nk (by omega)]
            · by_cases y : (tV T (t + 1) : Int) < 0 ∨ 3 < (tV T (t + 1) : Int)
              · rw [if_pos y] at q
                exact absurd q (keepA_ne ks (by decide) _)
              · rw [if_neg y] at q
                rw [if_neg y]
                exact ⟨q, Or.inr ⟨tV T (t + 1), by omega, rfl, rfl⟩⟩
          · rw [c1] at g0
            cases g0
        · rcases y_toldInt b3 hok t1 hks1 0 3 with ⟨g0, _⟩ | ⟨f', v, A2, g0, g1, g2, g3⟩
          · rw [c1] at g0
            cases g0
          · rw [c1] at g0
            cases g0
            have hf := RFp_o g2 (o := 117) (k := i) (by omega) hnk v
            rw [c2, bI_some, if_neg (show ¬ ¬ (0 : Int) = 0 from fun q => q rfl), g1, bI_some, if_pos ri, pu_nn, gCost_f hf]
            exact Or.inr ⟨f, _, _, rfl, c3', rfl, hf⟩
      · rw [z, a1] at b1
        cases b1
    · rcases y_goesOn hR hok ht with ⟨b1, _⟩ | ⟨f', A3, b1, b2, b3, b4⟩
      · rw [z, a1] at b1
        cases b1
      · rw [z, a1] at b1
        cases b1
        have hf := RFp_o b3 (o := 117) (k := i) (by omega) hnk 0
        rw [a2, bI_some, if_pos rfl, b2, bV_none, y_toldInt_f b3, bI_some, if_pos ri, pu_nn, gCost_f hf]
        exact Or.inr ⟨f, _, _, rfl, a3, rfl, hf⟩
  · rw [if_neg (show ¬ (tK T t : Int) = 10 by omega), if_neg z, if_pos rfl]
    refine Or.inl ⟨t, ks, D 4 g, MR 117 i, MC, MR, ⟨Nat.le_refl _, ht, hks⟩, rfl, rfl, ⟨hC, by rw [st_self]; exact hW, hN⟩, ⟨hR, fun _ _ _ => rfl, fun k => ?_, rfl⟩, fun q => ⟨q, Or.inl ⟨rfl, rfl⟩⟩⟩
    by_cases e : k = i
    · rw [if_pos e, e]
    · rw [if_neg e]
theorem costPart (hC : CCp T w2 M0C t ks MC) (hW : CW w2 D MC) (hN : NCk N' n' MC) (hR : RCp T lv sd M0R t ks MR) (hok : TKok T) (ht : t ≤ tm T) (hks : KOs T t ks) {g i : Nat} (hg : g < 6) (hi : i < 12) (hnk : ¬ kpR lv 118 i) (c3 : Int) : (∃ t' ks' v vR MC' MR', (t ≤ t' ∧ t' ≤ tm T ∧ KOs T t' ks') ∧ gC 56 [rv 4 2, iv (g : Int)] MC = some (iv 1, MC') ∧ gCost (i : Int) c3 MR = gFin c3 MR' ∧ (CCp T w2 M0C t' ks' MC' ∧ CW w2 (st D 5 g v) MC' ∧ NCk N' n' MC') ∧ (RCp T lv sd M0R t' ks' MR' ∧ (∀ o, o ≠ 100 → o ≠ 118 → MR' o = MR o) ∧ (∀ k, MR' 118 k = if k = i then vR else MR 118 k) ∧ MR' 100 20 = MR 100 20) ∧ (ks'.1 = 0 → ks.1 = 0 ∧ ((v = D 5 g ∧ vR = MR 118 i) ∨ ∃ n : Nat, n ≤ 100 ∧ v = (n : Int) ∧ vR = (n : Int)))) ∨ ∃ f MC' MR', gC 56 [rv 4 2, iv (g : Int)] MC = some (iv 0, MC') ∧ CFp w2 M0C f MC' ∧ gCost (i : Int) c3 MR = some (none, MR') ∧ RFp lv sd M0R f MR' := by
  have hw2 := hC.2.2.2
  have ri : 0 ≤ (i : Int) ∧ (i : Int) < 12 := by omega
  have rg : 0 ≤ (g : Int) ∧ (g : Int) < 6 := by omega
  rw [e_Parser_parseCost, z_kind hC hok ht, bI_some]
  unfold gCost
  rw [y_is hR hok ht (k := 11) (by omega) (x := 27) rfl, bI_some]
  by_cases z : tK T t = 11
  · rw [if_pos (show (tK T t : Int) = 11 by omega), if_pos z, if_neg (show ¬ (1 : Int) = 0 by omega)]
    rcases z_accept hC hok ht 11 (x := 11) rfl with ⟨a1, a2, a3⟩ | ⟨f, M3, a1, a2, a3⟩
    · have t1 := ac_next hok ht a1 (by omega)
      rcases y_goesOn hR hok ht with ⟨_, b2, b3⟩ | ⟨f, A3, b1, _⟩
      · generalize hB1 : st MC 2 2 ((t + 1 : Nat) : Int) = B1 at a2 a3
        generalize hA1 : st MR 100 11 ((t + 1 : Nat) : Int) = A1 at b2 b3
        have hWB : CW w2 D B1 := CW_k hW (fun o ho => by rw [← hB1, st_ob (by omega)])
        have hNB : NCk N' n' B1 := NCk_s hN (fun o _ _ => by rw [← hB1, st_ob (by omega)]) (by rw [← hB1, st_nk (by omega)])
        have hks1 := KO_up hok hks (show t ≤ t + 1 by omega) t1
        rw [a2, bI_some, if_neg (show ¬ (1 : Int) = 0 by omega), b2, bV_none]
        rcases z_accept a3 hok t1 3 (x := 3) rfl with ⟨c1, c2, c3'⟩ | ⟨f, M3, c1, c2, c3'⟩
        · have t2 := ac_next hok t1 c1 (by omega)
          have k3 := (ac_none c1).1
          rcases y_toldInt b3 hok t1 hks1 1 100 with ⟨_, A2, g1, g2, g3, g5⟩ | ⟨f, v, A2, g0, _⟩
          · generalize hB2 : st B1 2 2 ((t + 1 + 1 : Nat) : Int) = B2 at c2 c3'
            have hWB2 : CW w2 D B2 := CW_k hWB (fun o ho => by rw [← hB2, st_ob (by omega)])
            have hNB2 : NCk N' n' B2 := NCk_s hNB (fun o _ _ => by rw [← hB2, st_ob (by omega)]) (by rw [← hB2, st_nk (by omega)])
            obtain ⟨B3, m1, m2, m3, m4⟩ := z_intWithin c3' hok t1 k3 1 100
            rw [c2, bI_some, if_pos (show ¬ (1 : Int) = 0 by omega), m1, bI_some, put_cost rg, bV_none, pu_nn, c3'.2.1.1, pu_nn, g1, bI_some, if_pos ri, pu_nn]
            have hWB3 : CW w2 D B3 := CW_k hWB2 (fun o ho => m3 o (by omega))
            have hNB3 : NCk N' n' B3 := NCk_s hNB2 (fun o _ _ => m3 o (by omega)) m4
            refine Or.inl ⟨t + 1 + 1, _, _, (tV T (t + 1) : Int), _, _, ⟨by omega, t2, ?_⟩, rfl, rfl, ⟨CCp_o m2 (by omega) _ _, CW_st hWB3 5 g _, NCk_s hNB3 (fun o _ _ => st_ob (by omega)) (by rw [st_ob (by omega)])⟩, ⟨RCp_o g2 (by omega) hnk _, fun o h1 h2 => ?_, fun k => ?_, ?_⟩, fun q => ?_⟩
            · split
              · exact KO_keep hok (KO_up hok hks1 (by omega) t2) (by omega) t2 _
              · exact KO_up hok hks1 (by omega) t2
            · rw [st_ob h2, g3 o h1, ← hA1, st_ob h1]
            · rw [st_if, g3 118 (by omega), ← hA1, st_ob (by omega)]
            · rw [st_ob (by omega), g5 20 (by omega) (by omega) (by omega), ← hA1, st_nk (by omega)]
            · by_cases y : (tV T (t + 1) : Int) < 1 ∨ 100 < (tV T (t + 1) : Int)
              · rw [if_pos y] at q
                exact absurd q (keepA_ne ks (by decide) _)
              · rw [if_neg y] at q
                rw [if_neg y]
                exact ⟨q, Or.inr ⟨tV T (t + 1), by omega, rfl, rfl⟩⟩
          · rw [c1] at g0
            cases g0
        · rcases y_toldInt b3 hok t1 hks1 1 100 with ⟨g0, _⟩ | ⟨f', v, A2, g0, g1, g2, g3⟩
          · rw [c1] at g0
            cases g0
          · rw [c1] at g0
            cases g0
            have hf := RFp_o g2 (o := 118) (k := i) (by omega) hnk v
            rw [c2, bI_some, if_neg (show ¬ ¬ (0 : Int) = 0 from fun q => q rfl), g1, bI_some, if_pos ri, pu_nn, gFin_f hf]
            exact Or.inr ⟨f, _, _, rfl, c3', rfl, hf⟩
      · rw [z, a1] at b1
        cases b1
    · rcases y_goesOn hR hok ht with ⟨b1, _⟩ | ⟨f', A3, b1, b2, b3, b4⟩
      · rw [z, a1] at b1
        cases b1
      · rw [z, a1] at b1
        cases b1
        have hf := RFp_o b3 (o := 118) (k := i) (by omega) hnk 0
        rw [a2, bI_some, if_pos rfl, b2, bV_none, y_toldInt_f b3, bI_some, if_pos ri, pu_nn, gFin_f hf]
        exact Or.inr ⟨f, _, _, rfl, a3, rfl, hf⟩
  · rw [if_neg (show ¬ (tK T t : Int) = 11 by omega), if_neg z, if_pos rfl]
    refine Or.inl ⟨t, ks, D 5 g, MR 118 i, MC, MR, ⟨Nat.le_refl _, ht, hks⟩, rfl, rfl, ⟨hC, by rw [st_self]; exact hW, hN⟩, ⟨hR, fun _ _ _ => rfl, fun k => ?_, rfl⟩, fun q => ⟨q, Or.inl ⟨rfl, rfl⟩⟩⟩
    by_cases e : k = i
    · rw [if_pos e, e]
    · rw [if_neg e]
end GP
