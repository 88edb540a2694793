/-! The decisions. -/
set_option maxRecDepth 100000 in
theorem chkM_0 : (List.range 8).all (fun k => chkM (0 + k)) = true := by decide +kernel
set_option maxRecDepth 100000 in
theorem chkM_8 : (List.range 8).all (fun k => chkM (8 + k)) = true := by decide +kernel
set_option maxRecDepth 100000 in
theorem chkM_16 : (List.range 8).all (fun k => chkM (16 + k)) = true := by decide +kernel
set_option maxRecDepth 100000 in
theorem chkM_24 : (List.range 8).all (fun k => chkM (24 + k)) = true := by decide +kernel
set_option maxRecDepth 100000 in
theorem chkM_32 : (List.range 8).all (fun k => chkM (32 + k)) = true := by decide +kernel
set_option maxRecDepth 100000 in
theorem chkM_40 : (List.range 8).all (fun k => chkM (40 + k)) = true := by decide +kernel
set_option maxRecDepth 100000 in
theorem chkM_48 : (List.range 8).all (fun k => chkM (48 + k)) = true := by decide +kernel
set_option maxRecDepth 100000 in
theorem chkM_56 : (List.range 8).all (fun k => chkM (56 + k)) = true := by decide +kernel
set_option maxRecDepth 100000 in
theorem chkM_64 : (List.range 8).all (fun k => chkM (64 + k)) = true := by decide +kernel
set_option maxRecDepth 100000 in
theorem chkM_72 : (List.range 8).all (fun k => chkM (72 + k)) = true := by decide +kernel
set_option maxRecDepth 100000 in
theorem chkM_80 : (List.range 8).all (fun k => chkM (80 + k)) = true := by decide +kernel
set_option maxRecDepth 100000 in
theorem chkM_88 : (List.range 8).all (fun k => chkM (88 + k)) = true := by decide +kernel
set_option maxRecDepth 100000 in
theorem chkM_96 : (List.range 8).all (fun k => chkM (96 + k)) = true := by decide +kernel
set_option maxRecDepth 100000 in
theorem chkM_104 : (List.range 8).all (fun k => chkM (104 + k)) = true := by decide +kernel
set_option maxRecDepth 100000 in
theorem chkM_112 : (List.range 8).all (fun k => chkM (112 + k)) = true := by decide +kernel
set_option maxRecDepth 100000 in
theorem chkM_120 : (List.range 8).all (fun k => chkM (120 + k)) = true := by decide +kernel
set_option maxRecDepth 100000 in
theorem chkM_128 : (List.range 8).all (fun k => chkM (128 + k)) = true := by decide +kernel
set_option maxRecDepth 100000 in
theorem chkM_136 : (List.range 8).all (fun k => chkM (136 + k)) = true := by decide +kernel
set_option maxRecDepth 100000 in
theorem chkM_144 : (List.range 8).all (fun k => chkM (144 + k)) = true := by decide +kernel
set_option maxRecDepth 100000 in
theorem chkM_152 : (List.range 8).all (fun k => chkM (152 + k)) = true := by decide +kernel
set_option maxRecDepth 100000 in
theorem chkM_160 : (List.range 8).all (fun k => chkM (160 + k)) = true := by decide +kernel
set_option maxRecDepth 100000 in
theorem chkM_168 : (List.range 8).all (fun k => chkM (168 + k)) = true := by decide +kernel
set_option maxRecDepth 100000 in
theorem chkM_176 : (List.range 8).all (fun k => chkM (176 + k)) = true := by decide +kernel
set_option maxRecDepth 100000 in
theorem chkM_184 : (List.range 8).all (fun k => chkM (184 + k)) = true := by decide +kernel
set_option maxRecDepth 100000 in
theorem chkM_192 : (List.range 8).all (fun k => chkM (192 + k)) = true := by decide +kernel
set_option maxRecDepth 100000 in
theorem chkM_200 : (List.range 8).all (fun k => chkM (200 + k)) = true := by decide +kernel
set_option maxRecDepth 100000 in
theorem chkM_208 : (List.range 8).all (fun k => chkM (208 + k)) = true := by decide +kernel
set_option maxRecDepth 100000 in
theorem chkM_216 : (List.range 8).all (fun k => chkM (216 + k)) = true := by decide +kernel
set_option maxRecDepth 100000 in
theorem chkM_224 : (List.range 8).all (fun k => chkM (224 + k)) = true := by decide +kernel
set_option maxRecDepth 100000 in
theorem chkM_232 : (List.range 8).all (fun k => chkM (232 + k)) = true := by decide +kernel
set_option maxRecDepth 100000 in
theorem chkM_240 : (List.range 8).all (fun k => chkM (240 + k)) = true := by decide +kernel
set_option maxRecDepth 100000 in
theorem chkM_248 : (List.range 8).all (fun k => chkM (248 + k)) = true := by decide +kernel
set_option maxRecDepth 100000 in
theorem chkM_256 : (List.range 8).all (fun k => chkM (256 + k)) = true := by decide +kernel
set_option maxRecDepth 100000 in
theorem chkM_264 : (List.range 8).all (fun k => chkM (264 + k)) = true := by decide +kernel
set_option maxRecDepth 100000 in
theorem chkM_272 : (List.range 8).all (fun k => chkM (272 + k)) = true := by decide +kernel
set_option maxRecDepth 100000 in
theorem chkM_280 : (List.range 1).all (fun k => chkM (280 + k)) = true := by decide +kernel
theorem chkM_all : ∀ m, m < gNM → gMFact m := fun m h => by
  have h : m < 281 := h
  by_cases h0 : m < 8
  · have h1 := List.all_eq_true.mp chkM_0 (m - 0) (List.mem_range.mpr (by omega))
    rw [show 0 + (m - 0) = m from by omega] at h1
    exact gMFact_of h1
  by_cases h8 : m < 16
  · have h1 := List.all_eq_true.mp chkM_8 (m - 8) (List.mem_range.mpr (by omega))
    rw [show 8 + (m - 8) = m from by omega] at h1
    exact gMFact_of h1
  by_cases h16 : m < 24
  · have h1 := List.all_eq_true.mp chkM_16 (m - 16) (List.mem_range.mpr (by omega))
    rw [show 16 + (m - 16) = m from by omega] at h1
    exact gMFact_of h1
  by_cases h24 : m < 32
  · have h1 := List.all_eq_true.mp chkM_24 (m - 24) (List.mem_range.mpr (by omega))
    rw [show 24 + (m - 24) = m from by omega] at h1
    exact gMFact_of h1
  by_cases h32 : m < 40
  · have h1 := List.all_eq_true.mp chkM_32 (m - 32) (List.mem_range.mpr (by omega))
    rw [show 32 + (m - 32) = m from by omega] at h1
    exact gMFact_of h1
  by_cases h40 : m < 48
  · have h1 := List.all_eq_true.mp chkM_40 (m - 40) (List.mem_range.mpr (by omega))
    rw [show 40 + (m - 40) = m from by omega] at h1
    exact gMFact_of h1
  by_cases h48 : m < 56
  · have h1 := List.all_eq_true.mp chkM_48 (m - 48) (List.mem_range.mpr (by omega))
    rw [show 48 + (m - 48) = m from by omega] at h1
    exact gMFact_of h1
  by_cases h56 : m < 64
  · have h1 := List.all_eq_true.mp chkM_56 (m - 56) (List.mem_range.mpr (by omega))
    rw [show 56 + (m - 56) = m from by omega] at h1
    exact gMFact_of h1
  by_cases h64 : m < 72
  · have h1 := List.all_eq_true.mp chkM_64 (m - 64) (List.mem_range.mpr (by omega))
    rw [show 64 + (m - 64) = m from by omega] at h1
    exact gMFact_of h1
  by_cases h72 : m < 80
  · have h1 := List.all_eq_true.mp chkM_72 (m - 72) (List.mem_range.mpr (by omega))
    rw [show 72 + (m - 72) = m from by omega] at h1
    exact gMFact_of h1
  by_cases h80 : m < 88
  · have h1 := List.all_eq_true.mp chkM_80 (m - 80) (List.mem_range.mpr (by omega))
    rw [show 80 + (m - 80) = m from by omega] at h1
    exact gMFact_of h1
  by_cases h88 : m < 96
  · have h1 := List.all_eq_true.mp chkM_88 (m - 88) (List.mem_range.mpr (by omega))
    rw [show 88 + (m - 88) = m from by omega] at h1
    exact gMFact_of h1
  by_cases h96 : m < 104
  · have h1 := List.all_eq_true.mp chkM_96 (m - 96) (List.mem_range.mpr (by omega))
    rw [show 96 + (m - 96) = m from by omega] at h1
    exact gMFact_of h1
  by_cases h104 : m < 112
  · have h1 := List.all_eq_true.mp chkM_104 (m - 104) (List.mem_range.mpr (by omega))
    rw [show 104 + (m - 104) = m from by omega] at h1
    exact gMFact_of h1
  by_cases h112 : m < 120
  · have h1 := List.all_eq_true.mp chkM_112 (m - 112) (List.mem_range.mpr (by omega))
    rw [show 112 + (m - 112) = m from by omega] at h1
    exact gMFact_of h1
  by_cases h120 : m < 128
  · have h1 := List.all_eq_true.mp chkM_120 (m - 120) (List.mem_range.mpr (by omega))
    rw [show 120 + (m - 120) = m from by omega] at h1
    exact gMFact_of h1
  by_cases h128 : m < 136
  · have h1 := List.all_eq_true.mp chkM_128 (m - 128) (List.mem_range.mpr (by omega))
    rw [show 128 + (m - 128) = m from by omega] at h1
    exact gMFact_of h1
  by_cases h136 : m < 144
  · have h1 := List.all_eq_true.mp chkM_136 (m - 136) (List.mem_range.mpr (by omega))
    rw [show 136 + (m - 136) = m from by omega] at h1
    exact gMFact_of h1
  by_cases h144 : m < 152
  · have h1 := List.all_eq_true.mp chkM_144 (m - 144) (List.mem_range.mpr (by omega))
    rw [show 144 + (m - 144) = m from by omega] at h1
    exact gMFact_of h1
  by_cases h152 : m < 160
  · have h1 := List.all_eq_true.mp chkM_152 (m - 152) (List.mem_range.mpr (by omega))
    rw [show 152 + (m - 152) = m from by omega] at h1
    exact gMFact_of h1
  by_cases h160 : m < 168
  · have h1 := List.all_eq_true.mp chkM_160 (m - 160) (List.mem_range.mpr (by omega))
    rw [show 160 + (m - 160) = m from by omega] at h1
    exact gMFact_of h1
  by_cases h168 : m < 176
  · have h1 := List.all_eq_true.mp chkM_168 (m - 168) (List.mem_range.mpr (by omega))
    rw [show 168 + (m - 168) = m from by omega] at h1
    exact gMFact_of h1
  by_cases h176 : m < 184
  · have h1 := List.all_eq_true.mp chkM_176 (m - 176) (List.mem_range.mpr (by omega))
    rw [show 176 + (m - 176) = m from by omega] at h1
    exact gMFact_of h1
  by_cases h184 : m < 192
  · have h1 := List.all_eq_true.mp chkM_184 (m - 184) (List.mem_range.mpr (by omega))
    rw [show 184 + (m - 184) = m from by omega] at h1
    exact gMFact_of h1
  by_cases h192 : m < 200
  · have h1 := List.all_eq_true.mp chkM_192 (m - 192) (List.mem_range.mpr (by omega))
    rw [show 192 + (m - 192) = m from by omega] at h1
    exact gMFact_of h1
  by_cases h200 : m < 208
  · have h1 := List.all_eq_true.mp chkM_200 (m - 200) (List.mem_range.mpr (by omega))
    rw [show 200 + (m - 200) = m from by omega] at h1
    exact gMFact_of h1
  by_cases h208 : m < 216
  · have h1 := List.all_eq_true.mp chkM_208 (m - 208) (List.mem_range.mpr (by omega))
    rw [show 208 + (m - 208) = m from by omega] at h1
    exact gMFact_of h1
  by_cases h216 : m < 224
  · have h1 := List.all_eq_true.mp chkM_216 (m - 216) (List.mem_range.mpr (by omega))
    rw [show 216 + (m - 216) = m from by omega] at h1
    exact gMFact_of h1
  by_cases h224 : m < 232
  · have h1 := List.all_eq_true.mp chkM_224 (m - 224) (List.mem_range.mpr (by omega))
    rw [show 224 + (m - 224) = m from by omega] at h1
    exact gMFact_of h1
  by_cases h232 : m < 240
  · have h1 := List.all_eq_true.mp chkM_232 (m - 232) (List.mem_range.mpr (by omega))
    rw [show 232 + (m - 232) = m from by omega] at h1
    exact gMFact_of h1
  by_cases h240 : m < 248
  · have h1 := List.all_eq_true.mp chkM_240 (m - 240) (List.mem_range.mpr (by omega))
    rw [show 240 + (m - 240) = m from by omega] at h1
    exact gMFact_of h1
  by_cases h248 : m < 256
  · have h1 := List.all_eq_true.mp chkM_248 (m - 248) (List.mem_range.mpr (by omega))
    rw [show 248 + (m - 248) = m from by omega] at h1
    exact gMFact_of h1
  by_cases h256 : m < 264
  · have h1 := List.all_eq_true.mp chkM_256 (m - 256) (List.mem_range.mpr (by omega))
    rw [show 256 + (m - 256) = m from by omega] at h1
    exact gMFact_of h1
  by_cases h264 : m < 272
  · have h1 := List.all_eq_true.mp chkM_264 (m - 264) (List.mem_range.mpr (by omega))
    rw [show 264 + (m - 264) = m from by omega] at h1
    exact gMFact_of h1
  by_cases h272 : m < 280
  · have h1 := List.all_eq_true.mp chkM_272 (m - 272) (List.mem_range.mpr (by omega))
    rw [show 272 + (m - 272) = m from by omega] at h1
    exact gMFact_of h1
  by_cases h280 : m < 281
  · have h1 := List.all_eq_true.mp chkM_280 (m - 280) (List.mem_range.mpr (by omega))
    rw [show 280 + (m - 280) = m from by omega] at h1
    exact gMFact_of h1
  exact absurd h (by omega)
set_option maxRecDepth 100000 in
theorem gOwn_0 : gOwn 0 (gcls 0) := gOwn_of (by decide +kernel) (by decide +kernel) (by decide +kernel) (by decide +kernel) (by decide +kernel) chkM_all
set_option maxRecDepth 100000 in
theorem gOwn_1 : gOwn 1 (gcls 1) := gOwn_of (by decide +kernel) (by decide +kernel) (by decide +kernel) (by decide +kernel) (by decide +kernel) chkM_all
set_option maxRecDepth 100000 in
theorem gOwn_2 : gOwn 2 (gcls 2) := gOwn_of (by decide +kernel) (by decide +kernel) (by decide +kernel) (by decide +kernel) (by decide +kernel) chkM_all
set_option maxRecDepth 100000 in
theorem gOwn_3 : gOwn 3 (gcls 3) := gOwn_of (by decide +kernel) (by decide +kernel) (by decide +kernel) (by decide +kernel) (by decide +kernel) chkM_all
set_option maxRecDepth 100000 in
theorem gOwn_4 : gOwn 4 (gcls 4) := gOwn_of (by decide +kernel) (by decide +kernel) (by decide +kernel) (by decide +kernel) (by decide +kernel) chkM_all
set_option maxRecDepth 100000 in
theorem gOwn_5 : gOwn 5 (gcls 5) := gOwn_of (by decide +kernel) (by decide +kernel) (by decide +kernel) (by decide +kernel) (by decide +kernel) chkM_all
set_option maxRecDepth 100000 in
theorem gOwn_6 : gOwn 6 (gcls 6) := gOwn_of (by decide +kernel) (by decide +kernel) (by decide +kernel) (by decide +kernel) (by decide +kernel) chkM_all
set_option maxRecDepth 100000 in
theorem gOwn_7 : gOwn 7 (gcls 7) := gOwn_of (by decide +kernel) (by decide +kernel) (by decide +kernel) (by decide +kernel) (by decide +kernel) chkM_all
set_option maxRecDepth 100000 in
theorem gOwn_8 : gOwn 8 (gcls 8) := gOwn_of (by decide +kernel) (by decide +kernel) (by decide +kernel) (by decide +kernel) (by decide +kernel) chkM_all
set_option maxRecDepth 100000 in
theorem gOwn_9 : gOwn 9 (gcls 9) := gOwn_of (by decide +kernel) (by decide +kernel) (by decide +kernel) (by decide +kernel) (by decide +kernel) chkM_all
set_option maxRecDepth 100000 in
theorem gOwn_10 : gOwn 10 (gcls 10) := gOwn_of (by decide +kernel) (by decide +kernel) (by decide +kernel) (by decide +kernel) (by decide +kernel) chkM_all
set_option maxRecDepth 100000 in
theorem gOwn_11 : gOwn 11 (gcls 11) := gOwn_of (by decide +kernel) (by decide +kernel) (by decide +kernel) (by decide +kernel) (by decide +kernel) chkM_all
set_option maxRecDepth 100000 in
theorem gOwn_12 : gOwn 12 (gcls 12) := gOwn_of (by decide +kernel) (by decide +kernel) (by decide +kernel) (by decide +kernel) (by decide +kernel) chkM_all
set_option maxRecDepth 100000 in
theorem gOwn_13 : gOwn 13 (gcls 13) := gOwn_of (by decide +kernel) (by decide +kernel) (by decide +kernel) (by decide +kernel) (by decide +kernel) chkM_all
theorem gOwn_all : ∀ m, m < gNM → gOwn (gD m).2.2.2.2.2.2 (gcls (gD m).2.2.2.2.2.2) := fun m h => by
  have h1 : ∀ k, k < gNM → Nat.ble (gD k).2.2.2.2.2.2 13 = true := by decide +kernel
  have h2 := Nat.ble_eq.mp (h1 m h)
  generalize (gD m).2.2.2.2.2.2 = w at h2 ⊢
  match w, h2 with
  | 0, _ => exact gOwn_0
  | 1, _ => exact gOwn_1
  | 2, _ => exact gOwn_2
  | 3, _ => exact gOwn_3
  | 4, _ => exact gOwn_4
  | 5, _ => exact gOwn_5
  | 6, _ => exact gOwn_6
  | 7, _ => exact gOwn_7
  | 8, _ => exact gOwn_8
  | 9, _ => exact gOwn_9
  | 10, _ => exact gOwn_10
  | 11, _ => exact gOwn_11
  | 12, _ => exact gOwn_12
  | 13, _ => exact gOwn_13
  | w + 14, h2 => exact absurd h2 (by omega)
set_option maxRecDepth 100000 in
theorem gMath_ok : gMath := ⟨in_all (i := 1018) (by decide +kernel) rfl, ⟨in_all (i := 5010) (by decide +kernel) rfl, in_all (i := 5011) (by decide +kernel) rfl⟩, ⟨in_all (i := 3189) (by decide +kernel) rfl, in_all (i := 3190) (by decide +kernel) rfl⟩, ⟨in_all (i := 5149) (by decide +kernel) rfl, in_all (i := 5150) (by decide +kernel) rfl⟩⟩
