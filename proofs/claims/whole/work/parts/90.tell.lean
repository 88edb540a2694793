/-! What holds of both parsers between TELLS. -/
def KOs (T : TKS) (t : Nat) (ks : Int × Int) : Prop := ks.1 ≠ 0 → ks.2 < (tP T t : Int)
theorem KO_up {T : TKS} (hok : TKok T) {t t' : Nat} {ks : Int × Int} (h : KOs T t ks) (h1 : t ≤ t') (h2 : t' ≤ tm T) : KOs T t' ks := fun q => by
  have := h q
  rcases Nat.lt_or_ge t t' with z | z
  · have := hok.2.2.2.2.1 t t' z h2
    omega
  · rw [show t' = t by omega]
    exact h q
theorem keepA_ne (ks : Int × Int) {n : Int} (hn : n ≠ 0) (p : Int) : (keepA ks n p).1 ≠ 0 := by
  unfold keepA
  by_cases z : ks.1 = 0
  · rw [if_pos z]
    exact hn
  · rw [if_neg z]
    exact z
theorem KO_keep {T : TKS} (hok : TKok T) {t' i : Nat} {ks : Int × Int} (h : KOs T t' ks) (h1 : i < t') (h2 : t' ≤ tm T) (n : Int) : KOs T t' (keepA ks n (tP T i : Int)) := fun q => by
  unfold keepA at q ⊢
  by_cases z : ks.1 = 0
  · rw [if_pos z]
    have := hok.2.2.2.2.1 i t' h1 h2
    show (tP T i : Int) < (tP T t' : Int)
    omega
  · rw [if_neg z]
    exact h z
theorem hdK_0 {T : TKS} {N : NMS} {nn t : Nat} {ks : Int × Int} (h : (hdK T N nn t ks).1 = 0) : ks.1 = 0 ∧ fdx N nn (tW T (t + 1)) = -1 ∧ hdK T N nn t ks = ks := by
  unfold hdK at h ⊢
  by_cases z : fdx N nn (tW T (t + 1)) = -1
  · rw [if_pos z] at h
    rw [if_pos z]
    exact ⟨h, z, rfl⟩
  · rw [if_neg z] at h
    exact absurd h (keepA_ne ks (by decide) _)
theorem KO_hd {T : TKS} (hok : TKok T) {N : NMS} {nn t : Nat} {ks : Int × Int} (h : KOs T t ks) (h2 : t + 2 ≤ tm T) : KOs T (t + 2) (hdK T N nn t ks) := by
  unfold hdK
  by_cases z : fdx N nn (tW T (t + 1)) = -1
  · rw [if_pos z]
    exact KO_up hok h (by omega) h2
  · rw [if_neg z]
    exact KO_keep hok (KO_up hok h (by omega) h2) (by omega) h2 _
def ND (N : NMS) (nn : Nat) : Prop := ∀ i j, i < j → j < nn → (N i).1 ≠ (N j).1
theorem ND_add {N : NMS} {nn : Nat} (h : ND N nn) {e : List Nat × Nat × Nat} (he : fdx N nn e.1 = -1) : ND (nadd N nn e) (nn + 1) := by
  intro i j hij hj
  unfold nadd
  rw [if_neg (show ¬ i = nn by omega)]
  by_cases z : j = nn
  · rw [if_pos z]
    rcases fdx_cases N nn e.1 with ⟨a, b⟩ | ⟨k, a, b, c, d⟩
    · exact b i (by omega)
    · rw [b] at he
      omega
  · rw [if_neg z]
    exact h i j hij (by omega)
theorem nadd_lt {N : NMS} {nn i : Nat} {e : List Nat × Nat × Nat} (h : i < nn) : nadd N nn e i = N i := by
  unfold nadd
  rw [if_neg (by omega)]
theorem nadd_eq {N : NMS} {nn : Nat} {e : List Nat × Nat × Nat} : nadd N nn e nn = e := by
  unfold nadd
  rw [if_pos rfl]
theorem kn_char (N : NMS) (nn : Nat) (w : List Nat) (a b : Nat) : (knI N nn w a b = -1 ∧ ∀ i, i < nn → (N i).1 = w → (N i).2.1 ≠ a ∧ (N i).2.1 ≠ b) ∨ ∃ k : Nat, k < nn ∧ knI N nn w a b = (k : Int) ∧ (N k).1 = w ∧ ((N k).2.1 = a ∨ (N k).2.1 = b) := by
  unfold knI
  rcases fstI_spec (fun i => decide ((N i).1 = w) && (decide ((N i).2.1 = a) || decide ((N i).2.1 = b))) nn (-1) with ⟨k, b1, b2, b3, b4⟩ | ⟨b1, b4⟩
  · have b2 : (decide ((N k).1 = w) && (decide ((N k).2.1 = a) || decide ((N k).2.1 = b))) = true := b2
    rw [Bool.and_eq_true, Bool.or_eq_true, decide_eq_true_iff, decide_eq_true_iff, decide_eq_true_iff] at b2
    exact Or.inr ⟨k, b1, b4, b2.1, b2.2⟩
  · refine Or.inl ⟨b4, fun i hi hw => ?_⟩
    have hp : (decide ((N i).1 = w) && (decide ((N i).2.1 = a) || decide ((N i).2.1 = b))) = false := b1 i hi
    rw [decide_eq_true hw, Bool.true_and, Bool.or_eq_false_iff, decide_eq_false_iff_not, decide_eq_false_iff_not] at hp
    exact hp
theorem num_at {N : NMS} {n : Nat} (h : ND N n) {w : List Nat} {k : Nat} (hk : k < n) (hw : (N k).1 = w) (s : Nat) : numC N n w s = if (N k).2.1 = s then (((N k).2.2 : Nat) : Int) else -1 := by
  unfold numC
  rcases fdx_cases N n w with ⟨a, b⟩ | ⟨j, a, b, c, d⟩
  · exact absurd hw (b k hk)
  · have e : j = k := by
      rcases Nat.lt_trichotomy j k with z | z | z
      · exact absurd (c.trans hw.symm) (h j k z hk)
      · exact z
      · exact absurd hw (d k z)
    rw [b, if_neg (by omega), pu_nn, e]
theorem num_no {N : NMS} {n : Nat} {w : List Nat} (h : ∀ k, k < n → (N k).1 ≠ w) (s : Nat) : numC N n w s = -1 := by
  unfold numC
  rcases fdx_cases N n w with ⟨a, b⟩ | ⟨j, a, b, c, d⟩
  · rw [a, if_pos rfl]
  · exact absurd c (h j a)
/-- with the name being told, which is of another sort -/
theorem num_none {N : NMS} {nn : Nat} {e : List Nat × Nat × Nat} (h : ND (nadd N nn e) (nn + 1)) {w : List Nat} {s : Nat} (hs : e.2.1 ≠ s) (hn : ∀ i, i < nn → (N i).1 = w → (N i).2.1 ≠ s) : numC (nadd N nn e) (nn + 1) w s = -1 := by
  rcases fdx_cases (nadd N nn e) (nn + 1) w with ⟨a, b⟩ | ⟨j, a, b, c, d⟩
  · exact num_no b s
  · rw [num_at h a c]
    by_cases z : j = nn
    · rw [z, nadd_eq, if_neg hs]
    · rw [nadd_lt (by omega)] at c ⊢
      rw [if_neg (hn j (by omega) c)]
theorem num_some {N : NMS} {nn : Nat} {e : List Nat × Nat × Nat} (h : ND (nadd N nn e) (nn + 1)) {w : List Nat} {k : Nat} (hk : k < nn) (hw : (N k).1 = w) (s : Nat) : numC (nadd N nn e) (nn + 1) w s = if (N k).2.1 = s then (((N k).2.2 : Nat) : Int) else -1 := by
  have h2 := num_at h (w := w) (k := k) (by omega) (by rw [nadd_lt hk]; exact hw) s
  rw [nadd_lt hk] at h2
  exact h2
/-! Data. -/
def DW0 (D : mM) : Prop := ((D 0 0 = (wU D : Int) ∧ wU D ≤ 7) ∧ (D 0 1 = (wE D : Int) ∧ wE D ≤ 8) ∧ (D 0 2 = (wG D : Int) ∧ wG D ≤ 6) ∧ (D 0 3 = (wF D : Int) ∧ wF D ≤ 8)) ∧ (D 0 5 = (wI D : Int) ∧ wI D < 64) ∧ ∀ r, r < 14 → D 8 r = (wH D r : Int) ∧ wH D r < 128
def CNT (sd : Nat) (D M : mM) : Prop := M 111 sd = D 0 0 ∧ M 112 sd = D 0 1 ∧ M 115 sd = D 0 2 ∧ M 120 sd = D 0 3
def NB (N : NMS) (nn : Nat) (D : mM) : Prop := nn = wU D + wE D + wG D + wF D ∧ ∀ i, i < nn → ((N i).2.1 = 0 → (N i).2.2 < wU D) ∧ ((N i).2.1 = 1 → (N i).2.2 < wE D) ∧ ((N i).2.1 = 2 → (N i).2.2 < wG D)
def RDe (sd : Nat) (D M : mM) (e : Nat) : Prop := (∀ u, u < 7 → M 113 (9 * (8 * sd + e) + u) = D 1 (e * 7 + u)) ∧ M 113 (9 * (8 * sd + e) + 8) = D 2 e ∧ M 114 (8 * sd + e) = D 3 e
def RDg (sd : Nat) (D M : mM) (g : Nat) : Prop := (∃ k : Nat, k < wU D ∧ M 116 (6 * sd + g) = (k : Int) ∧ ∀ u, u < 7 → D 1 ((8 + g) * 7 + u) = if u = k then 1 else 0) ∧ M 117 (6 * sd + g) = D 4 g ∧ M 118 (6 * sd + g) = D 5 g ∧ (M 119 (6 * sd + g) = 0 ↔ (wI D).testBit g = true)
/-- what is not told yet -/
def FRd (D : mM) : Prop := (∀ e, wE D ≤ e → e < 8 → (∀ u, u < 7 → D 1 (e * 7 + u) = 0) ∧ D 2 e = 0) ∧ (∀ g, wG D ≤ g → g < 6 → (∀ u, u < 7 → D 1 ((8 + g) * 7 + u) = 0) ∧ D 4 g = 0 ∧ D 5 g = 1) ∧ (D 0 4 = 0 ∧ D 0 6 = 0) ∧ (∀ g, g < 6 → D 6 g = 0) ∧ ∀ e, wE D ≤ e → e < 8 → D 3 e = 0
def GDd (sd t : Nat) (D M : mM) : Prop := WF D ∧ FRd D ∧ (∀ e, e < 8 → (D 2 e).natAbs ≤ 999 * t) ∧ (∀ e, e < wE D → RDe sd D M e) ∧ (∀ g, g < wG D → RDg sd D M g) ∧ ∀ f, f < wF D → M 121 (8 * sd + f) = D 7 f
def SB (T : TKS) (w2 : Nat) (M0C : mM) (lv sd : Nat) (M0R : mM) (t : Nat) (MC MR : mM) : Prop := ∃ ks N nn D, (t ≤ tm T ∧ KOs T t ks) ∧ (CCp T w2 M0C t ks MC ∧ CW w2 D MC ∧ NCk N nn MC) ∧ (RCp T lv sd M0R t ks MR ∧ NRk N nn MR ∧ CNT sd D MR) ∧ (DW0 D ∧ NOKk N nn ∧ NB N nn D) ∧ (ks.1 = 0 → ND N nn ∧ GDd sd t D MR)
def OUT (T : TKS) (w2 : Nat) (M0C : mM) (lv sd : Nat) (M0R : mM) (t : Nat) (MC MR : mM) : Prop := (∃ t', t < t' ∧ SB T w2 M0C lv sd M0R t' MC MR) ∨ ∃ f, CFp w2 M0C f MC ∧ RFp lv sd M0R f MR
theorem CNT_s {sd : Nat} {D M M' : mM} (h : CNT sd D M) (k : M' 111 = M 111 ∧ M' 112 = M 112 ∧ M' 115 = M 115 ∧ M' 120 = M 120) : CNT sd D M' := by
  unfold CNT
  rw [k.1, k.2.1, k.2.2.1, k.2.2.2]
  exact h
theorem CW_2 {w2 : Nat} {D M M' : mM} (h : CW w2 D M) (k : ∀ o, 9 < o → M' o = M o) : CW w2 D M' := CW_k h (fun o ho => k o (by omega))
section TL
variable {T : TKS} {w2 lv sd : Nat} {M0C M0R MC MR : mM} {t : Nat}
/-- the head of a TELL in the reference -/
theorem y_head {N : NMS} {nn : Nat} {ks : Int × Int} {M : mM} (h : RCp T lv sd M0R t ks M) (hok : TKok T) (ht : t ≤ tm T) (hK0 : tK T t ≠ 0) (hN : NRk N nn M) (hNk : NOKk N nn) (h29 : nn ≤ 29) (hks : KOs T t ks) {c most : Nat} (hc : c < most) : (hdF T t c most = none ∧ t + 2 ≤ tm T ∧ tK T (t + 1) = 2 ∧ ∃ M1 M', gC 191 [rv 11 100] M = some (none, M1) ∧ gC 192 [rv 11 100] M1 = some (iv ((t + 1 : Nat) : Int), M') ∧ RCp T lv sd M0R (t + 2) (hdK T N nn t ks) M' ∧ (∀ o, o ≠ 100 → M' o = M o) ∧ ∀ k, k ≠ 11 → k ≠ 15 → k ≠ 16 → M' 100 k = M 100 k) ∨ ∃ f M1 x M', hdF T t c most = some f ∧ gC 191 [rv 11 100] M = some (none, M1) ∧ gC 192 [rv 11 100] M1 = some (iv x, M') ∧ RFp lv sd M0R f M' ∧ ∀ o, o ≠ 100 → M' o = M o := by
  unfold hdF
  rw [if_pos hc]
  rcases y_goesOn h hok ht with ⟨a1, a2, a3⟩ | ⟨f, M1, a1, a2, a3, a4⟩
  · have ht1 := ac_next hok ht a1 hK0
    rw [a1]
    dsimp only
    have hN1 : NRk N nn (st M 100 11 ((t + 1 : Nat) : Int)) := NRk_s hN (fun o _ _ => st_ob (by omega)) (st_nk (by omega))
    rcases y_named a3 hok ht1 hN1 hNk h29 (KO_up hok hks (by omega) ht1) with ⟨b1, M2, b2, b3, b4, b5⟩ | ⟨f, M2, b1, b2, b3, b4⟩
    · exact Or.inl ⟨b1, ac_next hok ht1 b1 (by omega), (ac_none b1).1, _, M2, a2, b2, b3, fun o ho => by rw [b4 o ho, st_ob ho], fun k k1 k2 k3 => by rw [b5 k k1 k2 k3, st_nk k1]⟩
    · exact Or.inr ⟨f, _, _, M2, b1, a2, b2, b3, fun o ho => by rw [b4 o ho, st_ob ho]⟩
  · rw [a1]
    exact Or.inr ⟨f, M1, _, M1, rfl, a2, y_named_f a3, a3, a4⟩
/-- the reference's first look at a TELL -/
theorem y_kindIs {ks : Int × Int} {M : mM} (h : RCp T lv sd M0R t ks M) (hok : TKok T) (ht : t ≤ tm T) : M 103 (M 100 11).toNat = ((rkd (tK T t) : Nat) : Int) ∧ (0 ≤ M 100 11 ∧ M 100 11 < 403) ∧ (0 ≤ M 100 19 ∧ M 100 19 < 2) ∧ (M 100 19).toNat = sd := by
  have h4 := hok.1
  have h8 := h.2.2.2
  rw [h.2.1.1, h.2.1.2.2.2.2, pu_nn, pu_nn]
  exact ⟨(h.1 t ht).1, by omega, by omega, rfl⟩
/-- both stop at a TELL with no room for it -/
theorem noRoom (hok : TKok T) {ks : Int × Int} (ht : t ≤ tm T) {MC MR MC' : mM} {c most : Nat} (hcm : ¬ c < most) {f : Int × Int} (hf : hdF T t c most = some f) (hC : CFp w2 M0C f MC') (hR : RCp T lv sd M0R t ks MR) : gC 189 [rv 11 100, iv 2] MR = some (none, st (st MR 100 13 2) 100 14 (tP T t : Int)) ∧ RFp lv sd M0R f (st (st MR 100 13 2) 100 14 (tP T t : Int)) := by
  unfold hdF at hf
  rw [if_neg hcm] at hf
  cases hf
  exact ⟨y_fail hR hok ht 2, RFp_of hR (f := (2, (tP T t : Int))) (by decide : (0 : Int) < 2)⟩
end TL
