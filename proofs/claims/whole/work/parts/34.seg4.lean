/-! What each method does from each place on: by program, checked by unfolding. -/
set_option maxRecDepth 20000 in
theorem e_GaugeNetModel_isGauge (x1 : Int) (M : mM) : gC 206 [rv 11 100, iv x1] M =
if 0 ≤ (M 100 18) ∧ (M 100 18) < 2 then
bI (gC 204 [iv x1, iv 0, iv (w32 ((M 115 (M 100 18).toNat) - 1))] M) fun c1 M1 =>
if 0 ≤ c1 ∧ c1 < 2 then some (iv c1, M1) else none
else none :=
  mat_unf gF gT [] 60 206 0 [rv 11 100, iv x1] [] M
set_option maxRecDepth 20000 in
theorem e_GaugeNetModel_with (x0 : Int) (x1 : Int) (x2 : Int) (M : mM) : gC 207 [iv x0, iv x1, iv x2] M =
if x2 = 0 then
some (iv (and32 x0 (xor32 (shl32 1 x1) (-1))), M)
else
some (iv (or32 x0 (shl32 1 x1)), M) :=
  mat_unf gF gT [] 60 207 0 [iv x0, iv x1, iv x2] [] M
set_option maxRecDepth 20000 in
theorem e_GaugeNetModel_dead (x1 : Int) (x2 : Int) (M : mM) : gC 208 [rv 11 100, iv x1, iv x2] M =
bI (gC 206 [rv 11 100, iv x1] M) fun c1 M1 =>
if ¬ c1 = 0 then
bI (gC 207 [iv (M1 100 37), iv x1, iv x2] M1) fun c2 M2 =>
some (iv 1, st (st M2 100 37 c2) 100 44 0)
else
some (iv 0, M1) :=
  mat_unf gF gT [] 60 208 0 [rv 11 100, iv x1, iv x2] [] M
set_option maxRecDepth 20000 in
theorem e_GaugeNetModel_reading (x1 : Int) (x2 : Int) (M : mM) : gC 209 [rv 11 100, iv x1, iv x2] M =
bI (gC 206 [rv 11 100, iv x1] M) fun c1 M1 =>
if c1 = 0 then
some (iv 0, M1)
else
bI (gC 204 [iv x2, iv (-9999), iv 9999] M1) fun c2 M2 =>
if ¬ c2 = 0 then
if 0 ≤ x1 ∧ x1 < 6 then
some (iv 1, st M2 122 (x1).toNat x2)
else none
else
some (iv 0, M2) :=
  mat_unf gF gT [] 60 209 0 [rv 11 100, iv x1, iv x2] [] M
set_option maxRecDepth 20000 in
theorem e_GaugeNetModel_number (x1 : Int) (x2 : Int) (M : mM) : gC 210 [rv 11 100, iv x1, iv x2] M =
if 0 ≤ (M 100 18) ∧ (M 100 18) < 2 then
bI (gC 204 [iv x1, iv 0, iv (w32 ((M 112 (M 100 18).toNat) - 1))] M) fun c1 M1 =>
if c1 = 0 then
some (iv (-10000), M1)
else
if x2 = (-1) then
if ¬ x2 = (-1) then
if 0 ≤ (w32 ((w32 (9 * (w32 ((w32 (8 * (M1 100 18))) + x1)))) + x2)) ∧ (w32 ((w32 (9 * (w32 ((w32 (8 * (M1 100 18))) + x1)))) + x2)) < 144 then
some (iv (M1 113 (w32 ((w32 (9 * (w32 ((w32 (8 * (M1 100 18))) + x1)))) + x2)).toNat), M1)
else none
else
if 0 ≤ (w32 ((w32 (9 * (w32 ((w32 (8 * (M1 100 18))) + x1)))) + 8)) ∧ (w32 ((w32 (9 * (w32 ((w32 (8 * (M1 100 18))) + x1)))) + 8)) < 144 then
some (iv (M1 113 (w32 ((w32 (9 * (w32 ((w32 (8 * (M1 100 18))) + x1)))) + 8)).toNat), M1)
else none
else
if 0 ≤ (M1 100 18) ∧ (M1 100 18) < 2 then
bI (gC 204 [iv x2, iv 0, iv (w32 ((M1 111 (M1 100 18).toNat) - 1))] M1) fun c2 M2 =>
if ¬ c2 = 0 then
if ¬ x2 = (-1) then
if 0 ≤ (w32 ((w32 (9 * (w32 ((w32 (8 * (M2 100 18))) + x1)))) + x2)) ∧ (w32 ((w32 (9 * (w32 ((w32 (8 * (M2 100 18))) + x1)))) + x2)) < 144 then
some (iv (M2 113 (w32 ((w32 (9 * (w32 ((w32 (8 * (M2 100 18))) + x1)))) + x2)).toNat), M2)
else none
else
if 0 ≤ (w32 ((w32 (9 * (w32 ((w32 (8 * (M2 100 18))) + x1)))) + 8)) ∧ (w32 ((w32 (9 * (w32 ((w32 (8 * (M2 100 18))) + x1)))) + 8)) < 144 then
some (iv (M2 113 (w32 ((w32 (9 * (w32 ((w32 (8 * (M2 100 18))) + x1)))) + 8)).toNat), M2)
else none
else
some (iv (-10000), M2)
else none
else none :=
  mat_unf gF gT [] 60 210 0 [rv 11 100, iv x1, iv x2] [] M
set_option maxRecDepth 20000 in
theorem e_GaugeNetModel_net  (M : mM) : gC 211 [rv 11 100] M =
bI (gC 212 [rv 11 100] M) fun c1 M1 =>
some (iv c1, M1) :=
  mat_unf gF gT [] 60 211 0 [rv 11 100] [] M
set_option maxRecDepth 20000 in
theorem e_GaugeNetModel_netNow  (M : mM) : gC 212 [rv 11 100] M =
bI (gC 213 [rv 11 100, iv (M 100 35), iv (M 100 36), iv (M 100 37)] M) fun c1 M1 =>
some (iv c1, M1) :=
  mat_unf gF gT [] 60 212 0 [rv 11 100] [] M
set_option maxRecDepth 20000 in
theorem e_GaugeNetModel_netOf (x1 : Int) (x2 : Int) (x3 : Int) (M : mM) : gC 213 [rv 11 100, iv x1, iv x2, iv x3] M =
gA 213 6 [rv 11 100, iv x1, iv x2, iv x3, iv 0, iv 0] [] M :=
  mat_unf gF gT [6] 60 213 0 [rv 11 100, iv x1, iv x2, iv x3, none, none] [] M
set_option maxRecDepth 20000 in
theorem s_GaugeNetModel_netOf_6 (x1 : Int) (x2 : Int) (x3 : Int) (x4 : Int) (x5 : Int) (M : mM) : gA 213 6 [rv 11 100, iv x1, iv x2, iv x3, iv x4, iv x5] [] M =
if 0 ≤ (M 100 18) ∧ (M 100 18) < 2 then
if (M 112 (M 100 18).toNat) ≤ x5 then
some (iv (or32 x4 (shl32 (and32 x2 (xor32 x3 (-1))) 8)), M)
else
if 0 ≤ (w32 ((w32 (8 * (M 100 18))) + x5)) ∧ (w32 ((w32 (8 * (M 100 18))) + x5)) < 16 then
if ¬ (and32 (shr32 (M 114 (w32 ((w32 (8 * (M 100 18))) + x5)).toNat) x1) 1) = 1 then
gA 213 6 [rv 11 100, iv x1, iv x2, iv x3, iv x4, iv (w32 (x5 + 1))] [] M
else
gA 213 6 [rv 11 100, iv x1, iv x2, iv x3, iv (or32 x4 (shl32 1 x5)), iv (w32 (x5 + 1))] [] M
else none
else none :=
  mat_unf gF gT [6] 60 213 6 [rv 11 100, iv x1, iv x2, iv x3, iv x4, iv x5] [] M
set_option maxRecDepth 20000 in
theorem e_GaugeNetModel_pairs  (M : mM) : gC 214 [rv 11 100] M =
bI (gC 212 [rv 11 100] M) fun c1 M1 =>
bI (gC 215 [rv 11 100, iv c1, iv (-1)] M1) fun c2 M2 =>
some (iv c2, M2) :=
  mat_unf gF gT [] 60 214 0 [rv 11 100] [] M
set_option maxRecDepth 20000 in
theorem e_GaugeNetModel_pairsOf (x1 : Int) (x2 : Int) (M : mM) : gC 215 [rv 11 100, iv x1, iv x2] M =
gA 215 2 [rv 11 100, iv x1, iv x2, iv 0, none] [] M :=
  mat_unf gF gT [2, 26] 60 215 0 [rv 11 100, iv x1, iv x2, none, none] [] M
set_option maxRecDepth 20000 in
theorem s_GaugeNetModel_pairsOf_2 (x1 : Int) (x2 : Int) (x3 : Int) (M : mM) : gA 215 2 [rv 11 100, iv x1, iv x2, iv x3, none] [] M =
if 8 ≤ x3 then
gA 215 26 [rv 11 100, iv x1, iv x2, iv 0, iv 0] [] M
else
if 0 ≤ x3 ∧ x3 < 8 then
gA 215 2 [rv 11 100, iv x1, iv x2, iv (w32 (x3 + 1)), none] [] (st M 123 (x3).toNat (-1))
else none :=
  mat_unf gF gT [2, 26] 60 215 2 [rv 11 100, iv x1, iv x2, iv x3, none] [] M
set_option maxRecDepth 20000 in
theorem s_GaugeNetModel_pairsOf_26 (x1 : Int) (x2 : Int) (x3 : Int) (x4 : Int) (M : mM) : gA 215 26 [rv 11 100, iv x1, iv x2, iv x3, iv x4] [] M =
if 14 ≤ x4 then
some (iv x3, M)
else
if ¬ (and32 (shr32 x1 x4) 1) = 1 then
gA 215 26 [rv 11 100, iv x1, iv x2, iv x3, iv (w32 (x4 + 1))] [] M
else
bI (gC 216 [rv 11 100, iv x4, iv x2] M) fun c1 M1 =>
if c1 = 0 then
gA 215 26 [rv 11 100, iv x1, iv x2, iv x3, iv (w32 (x4 + 1))] [] M1
else
gA 215 26 [rv 11 100, iv x1, iv x2, iv (w32 (x3 + 1)), iv (w32 (x4 + 1))] [] M1 :=
  mat_unf gF gT [2, 26] 60 215 26 [rv 11 100, iv x1, iv x2, iv x3, iv x4] [] M
set_option maxRecDepth 20000 in
theorem e_GaugeNetModel_finds (x1 : Int) (x2 : Int) (M : mM) : gC 216 [rv 11 100, iv x1, iv x2] M =
gA 216 2 [rv 11 100, iv x1, iv x2, iv 0, none, none] [] M :=
  mat_unf gF gT [2, 46, 138] 60 216 0 [rv 11 100, iv x1, iv x2, none, none, none] [] M
set_option maxRecDepth 20000 in
theorem s_GaugeNetModel_finds_2 (x1 : Int) (x2 : Int) (x3 : Int) (M : mM) : gA 216 2 [rv 11 100, iv x1, iv x2, iv x3, none, none] [] M =
if 8 ≤ x3 then
gA 216 46 [rv 11 100, none, none, iv 0, none, none] [] (st (st M 125 0 x1) 126 0 (-1))
else
if ¬ x3 = x2 then
if 0 ≤ x3 ∧ x3 < 8 then
gA 216 2 [rv 11 100, iv x1, iv x2, iv (w32 (x3 + 1)), none, none] [] (st M 124 (x3).toNat 0)
else none
else
if 0 ≤ x3 ∧ x3 < 8 then
gA 216 2 [rv 11 100, iv x1, iv x2, iv (w32 (x3 + 1)), none, none] [] (st M 124 (x3).toNat 1)
else none :=
  mat_unf gF gT [2, 46, 138] 60 216 2 [rv 11 100, iv x1, iv x2, iv x3, none, none] [] M
set_option maxRecDepth 20000 in
theorem s_GaugeNetModel_finds_46 (x3 : Int) (M : mM) : gA 216 46 [rv 11 100, none, none, iv x3, none, none] [] M =
if x3 < 0 then
some (iv 0, M)
else
if 0 ≤ x3 ∧ x3 < 16 then
if 0 ≤ x3 ∧ x3 < 16 then
if 0 ≤ x3 ∧ x3 < 16 then
if 0 ≤ ((st M 126 (x3).toNat (w32 ((M 126 (x3).toNat) + 1))) 100 18) ∧ ((st M 126 (x3).toNat (w32 ((M 126 (x3).toNat) + 1))) 100 18) < 2 then
if ¬ ((st M 126 (x3).toNat (w32 ((M 126 (x3).toNat) + 1))) 126 (x3).toNat) = ((st M 126 (x3).toNat (w32 ((M 126 (x3).toNat) + 1))) 111 ((st M 126 (x3).toNat (w32 ((M 126 (x3).toNat) + 1))) 100 18).toNat) then
if 0 ≤ ((st M 126 (x3).toNat (w32 ((M 126 (x3).toNat) + 1))) 126 (x3).toNat) ∧ ((st M 126 (x3).toNat (w32 ((M 126 (x3).toNat) + 1))) 126 (x3).toNat) < 8 then
if ¬ ((st M 126 (x3).toNat (w32 ((M 126 (x3).toNat) + 1))) 124 ((st M 126 (x3).toNat (w32 ((M 126 (x3).toNat) + 1))) 126 (x3).toNat).toNat) = 0 then
gA 216 46 [rv 11 100, none, none, iv x3, none, none] [] (st M 126 (x3).toNat (w32 ((M 126 (x3).toNat) + 1)))
else
if 0 ≤ x3 ∧ x3 < 16 then
bI (gC 217 [rv 11 100, iv ((st M 126 (x3).toNat (w32 ((M 126 (x3).toNat) + 1))) 125 (x3).toNat), iv ((st M 126 (x3).toNat (w32 ((M 126 (x3).toNat) + 1))) 126 (x3).toNat)] (st M 126 (x3).toNat (w32 ((M 126 (x3).toNat) + 1)))) fun c1 M1 =>
if ¬ c1 = 0 then
if 0 ≤ ((st M 126 (x3).toNat (w32 ((M 126 (x3).toNat) + 1))) 126 (x3).toNat) ∧ ((st M 126 (x3).toNat (w32 ((M 126 (x3).toNat) + 1))) 126 (x3).toNat) < 8 then
if 0 ≤ ((st M 126 (x3).toNat (w32 ((M 126 (x3).toNat) + 1))) 126 (x3).toNat) ∧ ((st M 126 (x3).toNat (w32 ((M 126 (x3).toNat) + 1))) 126 (x3).toNat) < 8 then
if ¬ ((st M1 124 ((st M 126 (x3).toNat (w32 ((M 126 (x3).toNat) + 1))) 126 (x3).toNat).toNat 1) 123 ((st M 126 (x3).toNat (w32 ((M 126 (x3).toNat) + 1))) 126 (x3).toNat).toNat) = (-1) then
if 0 ≤ ((st M 126 (x3).toNat (w32 ((M 126 (x3).toNat) + 1))) 126 (x3).toNat) ∧ ((st M 126 (x3).toNat (w32 ((M 126 (x3).toNat) + 1))) 126 (x3).toNat) < 8 then
if 0 ≤ (w32 (x3 + 1)) ∧ (w32 (x3 + 1)) < 16 then
if 0 ≤ (w32 (x3 + 1)) ∧ (w32 (x3 + 1)) < 16 then
gA 216 46 [rv 11 100, none, none, iv (w32 (x3 + 1)), none, none] [] (st (st (st M1 124 ((st M 126 (x3).toNat (w32 ((M 126 (x3).toNat) + 1))) 126 (x3).toNat).toNat 1) 125 (w32 (x3 + 1)).toNat ((st M1 124 ((st M 126 (x3).toNat (w32 ((M 126 (x3).toNat) + 1))) 126 (x3).toNat).toNat 1) 123 ((st M 126 (x3).toNat (w32 ((M 126 (x3).toNat) + 1))) 126 (x3).toNat).toNat)) 126 (w32 (x3 + 1)).toNat (-1))
else none
else none
else none
else
gA 216 138 [rv 11 100, none, none, none, none, iv x3] [] (st M1 124 ((st M 126 (x3).toNat (w32 ((M 126 (x3).toNat) + 1))) 126 (x3).toNat).toNat 1)
else none
else none
else
gA 216 46 [rv 11 100, none, none, iv x3, none, none] [] M1
else none
else none
else
gA 216 46 [rv 11 100, none, none, iv (w32 (x3 + (-1))), none, none] [] (st M 126 (x3).toNat (w32 ((M 126 (x3).toNat) + 1)))
else none
else none
else none
else none :=
  mat_unf gF gT [2, 46, 138] 60 216 46 [rv 11 100, none, none, iv x3, none, none] [] M
set_option maxRecDepth 20000 in
theorem s_GaugeNetModel_finds_138 (x5 : Int) (M : mM) : gA 216 138 [rv 11 100, none, none, none, none, iv x5] [] M =
if x5 < 0 then
some (iv 1, M)
else
if 0 ≤ x5 ∧ x5 < 16 then
if 0 ≤ x5 ∧ x5 < 16 then
if 0 ≤ (M 126 (x5).toNat) ∧ (M 126 (x5).toNat) < 8 then
gA 216 138 [rv 11 100, none, none, none, none, iv (w32 (x5 + (-1)))] [] (st M 123 (M 126 (x5).toNat).toNat (M 125 (x5).toNat))
else none
else none
else none :=
  mat_unf gF gT [2, 46, 138] 60 216 138 [rv 11 100, none, none, none, none, iv x5] [] M
set_option maxRecDepth 20000 in
theorem e_GaugeNetModel_has (x1 : Int) (x2 : Int) (M : mM) : gC 217 [rv 11 100, iv x1, iv x2] M =
bI (gC 218 [rv 11 100, iv x1, iv x2] M) fun c1 M1 =>
if c1 = 0 then
some (iv 0, M1)
else
some (iv 1, M1) :=
  mat_unf gF gT [] 60 217 0 [rv 11 100, iv x1, iv x2] [] M
set_option maxRecDepth 20000 in
theorem e_GaugeNetModel_numberOf (x1 : Int) (x2 : Int) (M : mM) : gC 218 [rv 11 100, iv x1, iv x2] M =
if 8 ≤ x1 then
if 0 ≤ (w32 ((w32 ((w32 (6 * (M 100 18))) + x1)) - 8)) ∧ (w32 ((w32 ((w32 (6 * (M 100 18))) + x1)) - 8)) < 12 then
if ¬ (M 116 (w32 ((w32 ((w32 (6 * (M 100 18))) + x1)) - 8)).toNat) = x2 then
some (iv 0, M)
else
some (iv 1, M)
else none
else
if 0 ≤ (w32 ((w32 (9 * (w32 ((w32 (8 * (M 100 18))) + x1)))) + x2)) ∧ (w32 ((w32 (9 * (w32 ((w32 (8 * (M 100 18))) + x1)))) + x2)) < 144 then
some (iv (M 113 (w32 ((w32 (9 * (w32 ((w32 (8 * (M 100 18))) + x1)))) + x2)).toNat), M)
else none :=
  mat_unf gF gT [] 60 218 0 [rv 11 100, iv x1, iv x2] [] M
set_option maxRecDepth 20000 in
theorem e_GaugeNetModel_row (x1 : Int) (M : mM) : gC 219 [rv 11 100, iv x1] M =
bI (gC 212 [rv 11 100] M) fun c1 M1 =>
bI (gC 204 [iv x1, iv 0, iv 13] M1) fun c2 M2 =>
if c2 = 0 then
some (iv (-1), M2)
else
if ¬ (and32 (shr32 c1 x1) 1) = 0 then
bI (gC 220 [rv 11 100, iv x1, iv c1] M2) fun c3 M3 =>
if c3 = 0 then
bI (gC 215 [rv 11 100, iv c1, iv (-1)] M3) fun c4 M4 =>
gA 219 46 [rv 11 100, iv x1, iv c1, iv c4, iv 0] [] M4
else
some (iv 2, M3)
else
some (iv (-1), M2) :=
  mat_unf gF gT [46] 60 219 0 [rv 11 100, iv x1, none, none, none] [] M
set_option maxRecDepth 20000 in
theorem s_GaugeNetModel_row_46 (x1 : Int) (x2 : Int) (x3 : Int) (x4 : Int) (M : mM) : gA 219 46 [rv 11 100, iv x1, iv x2, iv x3, iv x4] [] M =
if 0 ≤ (M 100 18) ∧ (M 100 18) < 2 then
if (M 111 (M 100 18).toNat) ≤ x4 then
some (iv 1, M)
else
bI (gC 217 [rv 11 100, iv x1, iv x4] M) fun c1 M1 =>
if c1 = 0 then
gA 219 46 [rv 11 100, iv x1, iv x2, iv x3, iv (w32 (x4 + 1))] [] M1
else
bI (gC 215 [rv 11 100, iv x2, iv x4] M1) fun c2 M2 =>
if ¬ c2 = x3 then
gA 219 46 [rv 11 100, iv x1, iv x2, iv x3, iv (w32 (x4 + 1))] [] M2
else
some (iv 0, M2)
else none :=
  mat_unf gF gT [46] 60 219 46 [rv 11 100, iv x1, iv x2, iv x3, iv x4] [] M
set_option maxRecDepth 20000 in
theorem e_GaugeNetModel_isMoreIn (x1 : Int) (x2 : Int) (M : mM) : gC 220 [rv 11 100, iv x1, iv x2] M =
if ¬ (and32 (shr32 x2 x1) 1) = 1 then
some (iv 0, M)
else
bI (gC 215 [rv 11 100, iv (and32 x2 (xor32 (shl32 1 x1) (-1))), iv (-1)] M) fun c1 M1 =>
bI (gC 215 [rv 11 100, iv x2, iv (-1)] M1) fun c2 M2 =>
if ¬ c1 = c2 then
some (iv 0, M2)
else
some (iv 1, M2) :=
  mat_unf gF gT [] 60 220 0 [rv 11 100, iv x1, iv x2] [] M
set_option maxRecDepth 20000 in
theorem e_GaugeNetModel_unknown (x1 : Int) (M : mM) : gC 221 [rv 11 100, iv x1] M =
if 0 ≤ (M 100 18) ∧ (M 100 18) < 2 then
bI (gC 204 [iv x1, iv 0, iv (w32 ((M 111 (M 100 18).toNat) - 1))] M) fun c1 M1 =>
if ¬ c1 = 0 then
bI (gC 212 [rv 11 100] M1) fun c2 M2 =>
gA 221 28 [rv 11 100, iv x1, iv c2, iv 0] [] M2
else
some (iv (-1), M1)
else none :=
  mat_unf gF gT [28] 60 221 0 [rv 11 100, iv x1, none, none] [] M
set_option maxRecDepth 20000 in
theorem s_GaugeNetModel_unknown_28 (x1 : Int) (x2 : Int) (x3 : Int) (M : mM) : gA 221 28 [rv 11 100, iv x1, iv x2, iv x3] [] M =
if 14 ≤ x3 then
bI (gC 215 [rv 11 100, iv x2, iv x1] M) fun c1 M1 =>
bI (gC 215 [rv 11 100, iv x2, iv (-1)] M1) fun c2 M2 =>
if ¬ c1 = c2 then
some (iv 1, M2)
else
some (iv 0, M2)
else
if ¬ (and32 (shr32 x2 x3) 1) = 1 then
gA 221 28 [rv 11 100, iv x1, iv x2, iv (w32 (x3 + 1))] [] M
else
bI (gC 217 [rv 11 100, iv x3, iv x1] M) fun c3 M3 =>
if c3 = 0 then
gA 221 28 [rv 11 100, iv x1, iv x2, iv (w32 (x3 + 1))] [] M3
else
bI (gC 220 [rv 11 100, iv x3, iv x2] M3) fun c4 M4 =>
if c4 = 0 then
gA 221 28 [rv 11 100, iv x1, iv x2, iv (w32 (x3 + 1))] [] M4
else
some (iv 2, M4) :=
  mat_unf gF gT [28] 60 221 28 [rv 11 100, iv x1, iv x2, iv x3] [] M
set_option maxRecDepth 20000 in
theorem e_GaugeNetModel_tests  (M : mM) : gC 222 [rv 11 100] M =
bV (gC 223 [rv 11 100] M) fun M1 =>
some (iv (M1 100 45), M1) :=
  mat_unf gF gT [] 60 222 0 [rv 11 100] [] M
set_option maxRecDepth 20000 in
theorem e_GaugeNetModel_seeks  (M : mM) : gC 223 [rv 11 100] M =
if (M 100 44) = 0 then
bI (gC 212 [rv 11 100] (st (st M 100 44 1) 100 45 0)) fun c1 M1 =>
gA 223 25 [rv 11 100, iv c1, iv 0, none, none, none] [] M1
else
some (none, M) :=
  mat_unf gF gT [25, 47, 55, 87] 60 223 0 [rv 11 100, none, none, none, none, none] [] M
set_option maxRecDepth 20000 in
theorem s_GaugeNetModel_seeks_25 (x1 : Int) (x2 : Int) (M : mM) : gA 223 25 [rv 11 100, iv x1, iv x2, none, none, none] [] M =
if 16384 ≤ x2 then
gA 223 47 [rv 11 100, iv x1, iv 1, none, none, none] [] M
else
if 0 ≤ x2 ∧ x2 < 16384 then
gA 223 25 [rv 11 100, iv x1, iv (w32 (x2 + 1)), none, none, none] [] (st M 130 (x2).toNat 0)
else none :=
  mat_unf gF gT [25, 47, 55, 87] 60 223 25 [rv 11 100, iv x1, iv x2, none, none, none] [] M
set_option maxRecDepth 20000 in
theorem s_GaugeNetModel_seeks_47 (x1 : Int) (x2 : Int) (M : mM) : gA 223 47 [rv 11 100, iv x1, iv x2, none, none, none] [] M =
if 9 < x2 then
some (none, M)
else
gA 223 55 [rv 11 100, iv x1, iv x2, iv 0, none, none] [] M :=
  mat_unf gF gT [25, 47, 55, 87] 60 223 47 [rv 11 100, iv x1, iv x2, none, none, none] [] M
set_option maxRecDepth 20000 in
theorem s_GaugeNetModel_seeks_55 (x1 : Int) (x2 : Int) (x3 : Int) (M : mM) : gA 223 55 [rv 11 100, iv x1, iv x2, iv x3, none, none] [] M =
if 16384 ≤ x3 then
gA 223 47 [rv 11 100, iv x1, iv (w32 (x2 + 1)), none, none, none] [] M
else
if ¬ (and32 x3 (xor32 x1 (-1))) = 0 then
gA 223 55 [rv 11 100, iv x1, iv x2, iv (w32 (x3 + 1)), none, none] [] M
else
bI (gC 224 [iv x3] M) fun c1 M1 =>
if c1 = x2 then
gA 223 87 [rv 11 100, iv x1, iv x2, iv x3, iv 0, iv 0] [] M1
else
gA 223 55 [rv 11 100, iv x1, iv x2, iv (w32 (x3 + 1)), none, none] [] M1 :=
  mat_unf gF gT [25, 47, 55, 87] 60 223 55 [rv 11 100, iv x1, iv x2, iv x3, none, none] [] M
set_option maxRecDepth 20000 in
theorem s_GaugeNetModel_seeks_87 (x1 : Int) (x2 : Int) (x3 : Int) (x4 : Int) (x5 : Int) (M : mM) : gA 223 87 [rv 11 100, iv x1, iv x2, iv x3, iv x4, iv x5] [] M =
if 14 ≤ x5 then
if 0 ≤ x3 ∧ x3 < 16384 then
if ¬ x4 = 0 then
gA 223 55 [rv 11 100, iv x1, iv x2, iv (w32 (x3 + 1)), none, none] [] (st M 130 (x3).toNat (x4 % 2))
else
bI (gC 225 [rv 11 100, iv x3] (st M 130 (x3).toNat (x4 % 2))) fun c1 M1 =>
bI (gC 224 [iv c1] M1) fun c2 M2 =>
if c2 < x2 then
if 0 ≤ x3 ∧ x3 < 16384 then
if 0 ≤ ((st M2 130 (x3).toNat 1) 100 45) ∧ ((st M2 130 (x3).toNat 1) 100 45) < 16384 then
bI (gC 226 [rv 11 100, iv ((st (st M2 130 (x3).toNat 1) 127 ((st M2 130 (x3).toNat 1) 100 45).toNat x3) 100 45), iv x3] (st (st M2 130 (x3).toNat 1) 127 ((st M2 130 (x3).toNat 1) 100 45).toNat x3)) fun c3 M3 =>
if 0 ≤ ((st (st M2 130 (x3).toNat 1) 127 ((st M2 130 (x3).toNat 1) 100 45).toNat x3) 100 45) ∧ ((st (st M2 130 (x3).toNat 1) 127 ((st M2 130 (x3).toNat 1) 100 45).toNat x3) 100 45) < 4096 then
gA 223 55 [rv 11 100, iv x1, iv x2, iv (w32 (x3 + 1)), none, none] [] (st (st M3 129 ((st (st M2 130 (x3).toNat 1) 127 ((st M2 130 (x3).toNat 1) 100 45).toNat x3) 100 45).toNat (c3 % 2)) 100 45 (w32 (((st M3 129 ((st (st M2 130 (x3).toNat 1) 127 ((st M2 130 (x3).toNat 1) 100 45).toNat x3) 100 45).toNat (c3 % 2)) 100 45) + 1)))
else none
else none
else none
else
gA 223 55 [rv 11 100, iv x1, iv x2, iv (w32 (x3 + 1)), none, none] [] M2
else none
else
if ¬ x4 = 0 then
gA 223 87 [rv 11 100, iv x1, iv x2, iv x3, iv 1, iv (w32 (x5 + 1))] [] M
else
if ¬ (and32 (shr32 x3 x5) 1) = 1 then
gA 223 87 [rv 11 100, iv x1, iv x2, iv x3, iv 0, iv (w32 (x5 + 1))] [] M
else
if 0 ≤ (and32 x3 (xor32 (shl32 1 x5) (-1))) ∧ (and32 x3 (xor32 (shl32 1 x5) (-1))) < 16384 then
if (M 130 (and32 x3 (xor32 (shl32 1 x5) (-1))).toNat) = 0 then
gA 223 87 [rv 11 100, iv x1, iv x2, iv x3, iv 0, iv (w32 (x5 + 1))] [] M
else
gA 223 87 [rv 11 100, iv x1, iv x2, iv x3, iv 1, iv (w32 (x5 + 1))] [] M
else none :=
  mat_unf gF gT [25, 47, 55, 87] 60 223 87 [rv 11 100, iv x1, iv x2, iv x3, iv x4, iv x5] [] M
set_option maxRecDepth 20000 in
theorem e_GaugeNetModel_bits (x0 : Int) (M : mM) : gC 224 [iv x0] M =
gA 224 4 [iv x0, iv 0, iv 0] [] M :=
  mat_unf gF gT [4] 60 224 0 [iv x0, none, none] [] M
set_option maxRecDepth 20000 in
theorem s_GaugeNetModel_bits_4 (x0 : Int) (x1 : Int) (x2 : Int) (M : mM) : gA 224 4 [iv x0, iv x1, iv x2] [] M =
if 20 ≤ x2 then
some (iv x1, M)
else
gA 224 4 [iv x0, iv (w32 (x1 + (and32 (shr32 x0 x2) 1))), iv (w32 (x2 + 1))] [] M :=
  mat_unf gF gT [4] 60 224 4 [iv x0, iv x1, iv x2] [] M
set_option maxRecDepth 20000 in
theorem e_GaugeNetModel_unknownsOf (x1 : Int) (M : mM) : gC 225 [rv 11 100, iv x1] M =
gA 225 4 [rv 11 100, iv x1, iv 0, iv 0, none] [] M :=
  mat_unf gF gT [4, 24] 60 225 0 [rv 11 100, iv x1, none, none, none] [] M
set_option maxRecDepth 20000 in
theorem s_GaugeNetModel_unknownsOf_4 (x1 : Int) (x2 : Int) (x3 : Int) (M : mM) : gA 225 4 [rv 11 100, iv x1, iv x2, iv x3, none] [] M =
if 14 ≤ x3 then
some (iv x2, M)
else
if ¬ (and32 (shr32 x1 x3) 1) = 0 then
gA 225 24 [rv 11 100, iv x1, iv x2, iv x3, iv 0] [] M
else
gA 225 4 [rv 11 100, iv x1, iv x2, iv (w32 (x3 + 1)), none] [] M :=
  mat_unf gF gT [4, 24] 60 225 4 [rv 11 100, iv x1, iv x2, iv x3, none] [] M
set_option maxRecDepth 20000 in
theorem s_GaugeNetModel_unknownsOf_24 (x1 : Int) (x2 : Int) (x3 : Int) (x4 : Int) (M : mM) : gA 225 24 [rv 11 100, iv x1, iv x2, iv x3, iv x4] [] M =
if 0 ≤ (M 100 18) ∧ (M 100 18) < 2 then
if (M 111 (M 100 18).toNat) ≤ x4 then
gA 225 4 [rv 11 100, iv x1, iv x2, iv (w32 (x3 + 1)), none] [] M
else
bI (gC 217 [rv 11 100, iv x3, iv x4] M) fun c1 M1 =>
if c1 = 0 then
gA 225 24 [rv 11 100, iv x1, iv x2, iv x3, iv (w32 (x4 + 1))] [] M1
else
gA 225 24 [rv 11 100, iv x1, iv (or32 x2 (shl32 1 x4)), iv x3, iv (w32 (x4 + 1))] [] M1
else none :=
  mat_unf gF gT [4, 24] 60 225 24 [rv 11 100, iv x1, iv x2, iv x3, iv x4] [] M
set_option maxRecDepth 20000 in
theorem e_GaugeNetModel_weighs (x1 : Int) (x2 : Int) (M : mM) : gC 226 [rv 11 100, iv x1, iv x2] M =
bI (gC 225 [rv 11 100, iv x2] M) fun c1 M1 =>
gA 226 15 [rv 11 100, iv x1, iv x2, iv 0, iv c1, iv 0, iv 0, none, none, none, none, none] [] M1 :=
  mat_unf gF gT [15, 67, 111, 191] 60 226 0 [rv 11 100, iv x1, iv x2, none, none, none, none, none, none, none, none, none] [] M
set_option maxRecDepth 20000 in
theorem s_GaugeNetModel_weighs_15 (x1 : Int) (x2 : Int) (x3 : Int) (x4 : Int) (x5 : Int) (x6 : Int) (M : mM) : gA 226 15 [rv 11 100, iv x1, iv x2, iv x3, iv x4, iv x5, iv x6, none, none, none, none, none] [] M =
if 14 ≤ x6 then
gA 226 67 [rv 11 100, iv x1, none, iv x3, iv x4, iv x5, iv 0, none, none, none, none, none] [] M
else
if 0 ≤ (w32 ((w32 (14 * x1)) + x6)) ∧ (w32 ((w32 (14 * x1)) + x6)) < 57344 then
if ¬ (and32 (shr32 x2 x6) 1) = 0 then
if 0 ≤ x3 ∧ x3 < 16 then
gA 226 15 [rv 11 100, iv x1, iv x2, iv (w32 (x3 + 1)), iv x4, iv x5, iv (w32 (x6 + 1)), none, none, none, none, none] [] (st (st M 128 (w32 ((w32 (14 * x1)) + x6)).toNat 0) 131 (x3).toNat x6)
else none
else
gA 226 15 [rv 11 100, iv x1, iv x2, iv x3, iv x4, iv x5, iv (w32 (x6 + 1)), none, none, none, none, none] [] (st M 128 (w32 ((w32 (14 * x1)) + x6)).toNat 0)
else none :=
  mat_unf gF gT [15, 67, 111, 191] 60 226 15 [rv 11 100, iv x1, iv x2, iv x3, iv x4, iv x5, iv x6, none, none, none, none, none] [] M
set_option maxRecDepth 20000 in
theorem s_GaugeNetModel_weighs_67 (x1 : Int) (x3 : Int) (x4 : Int) (x5 : Int) (x6 : Int) (M : mM) : gA 226 67 [rv 11 100, iv x1, none, iv x3, iv x4, iv x5, iv x6, none, none, none, none, none] [] M =
if 8 ≤ x6 then
gA 226 111 [rv 11 100, iv x1, none, iv x3, none, none, jv 0, none, iv 0, none, none, none] [] M
else
if ¬ (and32 (shr32 x4 x6) 1) = 0 then
if 0 ≤ x5 ∧ x5 < 8 then
gA 226 67 [rv 11 100, iv x1, none, iv x3, iv x4, iv (w32 (x5 + 1)), iv (w32 (x6 + 1)), none, none, none, none, none] [] (st M 132 (x5).toNat x6)
else none
else
gA 226 67 [rv 11 100, iv x1, none, iv x3, iv x4, iv x5, iv (w32 (x6 + 1)), none, none, none, none, none] [] M :=
  mat_unf gF gT [15, 67, 111, 191] 60 226 67 [rv 11 100, iv x1, none, iv x3, iv x4, iv x5, iv x6, none, none, none, none, none] [] M
set_option maxRecDepth 20000 in
theorem s_GaugeNetModel_weighs_111 (x1 : Int) (x3 : Int) (x6 : Int) (x8 : Int) (M : mM) : gA 226 111 [rv 11 100, iv x1, none, iv x3, none, none, jv x6, none, iv x8, none, none, none] [] M =
if x3 ≤ x8 then
if ¬ (lcmp x6 0) = 0 then
gA 226 191 [rv 11 100, iv x1, none, iv x3, none, none, jv x6, none, iv 0, iv 1, iv 0, none] [] M
else
some (iv 0, M)
else
bJ (gC 227 [rv 11 100, iv x3, iv x8] M) fun c1 M1 =>
if 0 ≤ x8 ∧ x8 < 16 then
if ¬ ((x8).tmod 2) = 0 then
if 0 ≤ (w32 ((w32 (14 * x1)) + (M1 131 (x8).toNat))) ∧ (w32 ((w32 (14 * x1)) + (M1 131 (x8).toNat))) < 57344 then
bJ (gC 228 [jv x6, jv c1] (st M1 128 (w32 ((w32 (14 * x1)) + (M1 131 (x8).toNat))).toNat (w64 (-c1)))) fun c2 M2 =>
gA 226 111 [rv 11 100, iv x1, none, iv x3, none, none, jv c2, none, iv (w32 (x8 + 1)), none, none, none] [] M2
else none
else
if 0 ≤ (w32 ((w32 (14 * x1)) + (M1 131 (x8).toNat))) ∧ (w32 ((w32 (14 * x1)) + (M1 131 (x8).toNat))) < 57344 then
bJ (gC 228 [jv x6, jv c1] (st M1 128 (w32 ((w32 (14 * x1)) + (M1 131 (x8).toNat))).toNat c1)) fun c3 M3 =>
gA 226 111 [rv 11 100, iv x1, none, iv x3, none, none, jv c3, none, iv (w32 (x8 + 1)), none, none, none] [] M3
else none
else none :=
  mat_unf gF gT [15, 67, 111, 191] 60 226 111 [rv 11 100, iv x1, none, iv x3, none, none, jv x6, none, iv x8, none, none, none] [] M
set_option maxRecDepth 20000 in
theorem s_GaugeNetModel_weighs_191 (x1 : Int) (x3 : Int) (x6 : Int) (x8 : Int) (x9 : Int) (x10 : Int) (M : mM) : gA 226 191 [rv 11 100, iv x1, none, iv x3, none, none, jv x6, none, iv x8, iv x9, iv x10, none] [] M =
if x3 ≤ x10 then
some (iv 1, M)
else
if 0 ≤ x10 ∧ x10 < 16 then
if 0 ≤ (w32 ((w32 (14 * x1)) + (M 131 (x10).toNat))) ∧ (w32 ((w32 (14 * x1)) + (M 131 (x10).toNat))) < 57344 then
if x6 = 0 then none else
if 0 ≤ (w32 ((w32 (14 * x1)) + (M 131 (x10).toNat))) ∧ (w32 ((w32 (14 * x1)) + (M 131 (x10).toNat))) < 57344 then
if x9 = 0 then
if x8 = 0 then
gA 226 191 [rv 11 100, iv x1, none, iv x3, none, none, jv x6, none, iv x8, iv x9, iv (w32 (x10 + 1)), none] [] (st M 128 (w32 ((w32 (14 * x1)) + (M 131 (x10).toNat))).toNat (w64 ((M 128 (w32 ((w32 (14 * x1)) + (M 131 (x10).toNat))).toNat).tdiv x6)))
else
if 0 ≤ (w32 ((w32 (14 * x1)) + (M 131 (x10).toNat))) ∧ (w32 ((w32 (14 * x1)) + (M 131 (x10).toNat))) < 57344 then
if 0 ≤ (w32 ((w32 (14 * x1)) + (M 131 (x10).toNat))) ∧ (w32 ((w32 (14 * x1)) + (M 131 (x10).toNat))) < 57344 then
gA 226 191 [rv 11 100, iv x1, none, iv x3, none, none, jv x6, none, iv x8, iv x9, iv (w32 (x10 + 1)), none] [] (st (st M 128 (w32 ((w32 (14 * x1)) + (M 131 (x10).toNat))).toNat (w64 ((M 128 (w32 ((w32 (14 * x1)) + (M 131 (x10).toNat))).toNat).tdiv x6))) 128 (w32 ((w32 (14 * x1)) + (M 131 (x10).toNat))).toNat (w64 (-((st M 128 (w32 ((w32 (14 * x1)) + (M 131 (x10).toNat))).toNat (w64 ((M 128 (w32 ((w32 (14 * x1)) + (M 131 (x10).toNat))).toNat).tdiv x6))) 128 (w32 ((w32 (14 * x1)) + (M 131 (x10).toNat))).toNat))))
else none
else none
else
if 0 ≤ (w32 ((w32 (14 * x1)) + (M 131 (x10).toNat))) ∧ (w32 ((w32 (14 * x1)) + (M 131 (x10).toNat))) < 57344 then
if (lcmp ((st M 128 (w32 ((w32 (14 * x1)) + (M 131 (x10).toNat))).toNat (w64 ((M 128 (w32 ((w32 (14 * x1)) + (M 131 (x10).toNat))).toNat).tdiv x6))) 128 (w32 ((w32 (14 * x1)) + (M 131 (x10).toNat))).toNat) 0) = 0 then
if x8 = 0 then
gA 226 191 [rv 11 100, iv x1, none, iv x3, none, none, jv x6, none, iv x8, iv x9, iv (w32 (x10 + 1)), none] [] (st M 128 (w32 ((w32 (14 * x1)) + (M 131 (x10).toNat))).toNat (w64 ((M 128 (w32 ((w32 (14 * x1)) + (M 131 (x10).toNat))).toNat).tdiv x6)))
else
if 0 ≤ (w32 ((w32 (14 * x1)) + (M 131 (x10).toNat))) ∧ (w32 ((w32 (14 * x1)) + (M 131 (x10).toNat))) < 57344 then
if 0 ≤ (w32 ((w32 (14 * x1)) + (M 131 (x10).toNat))) ∧ (w32 ((w32 (14 * x1)) + (M 131 (x10).toNat))) < 57344 then
gA 226 191 [rv 11 100, iv x1, none, iv x3, none, none, jv x6, none, iv x8, iv x9, iv (w32 (x10 + 1)), none] [] (st (st M 128 (w32 ((w32 (14 * x1)) + (M 131 (x10).toNat))).toNat (w64 ((M 128 (w32 ((w32 (14 * x1)) + (M 131 (x10).toNat))).toNat).tdiv x6))) 128 (w32 ((w32 (14 * x1)) + (M 131 (x10).toNat))).toNat (w64 (-((st M 128 (w32 ((w32 (14 * x1)) + (M 131 (x10).toNat))).toNat (w64 ((M 128 (w32 ((w32 (14 * x1)) + (M 131 (x10).toNat))).toNat).tdiv x6))) 128 (w32 ((w32 (14 * x1)) + (M 131 (x10).toNat))).toNat))))
else none
else none
else
if 0 ≤ (w32 ((w32 (14 * x1)) + (M 131 (x10).toNat))) ∧ (w32 ((w32 (14 * x1)) + (M 131 (x10).toNat))) < 57344 then
if 0 ≤ (lcmp ((st M 128 (w32 ((w32 (14 * x1)) + (M 131 (x10).toNat))).toNat (w64 ((M 128 (w32 ((w32 (14 * x1)) + (M 131 (x10).toNat))).toNat).tdiv x6))) 128 (w32 ((w32 (14 * x1)) + (M 131 (x10).toNat))).toNat) 0) then
gA 226 191 [rv 11 100, iv x1, none, iv x3, none, none, jv x6, none, iv 0, iv 0, iv (w32 (x10 + 1)), none] [] (st M 128 (w32 ((w32 (14 * x1)) + (M 131 (x10).toNat))).toNat (w64 ((M 128 (w32 ((w32 (14 * x1)) + (M 131 (x10).toNat))).toNat).tdiv x6)))
else
if 0 ≤ (w32 ((w32 (14 * x1)) + (M 131 (x10).toNat))) ∧ (w32 ((w32 (14 * x1)) + (M 131 (x10).toNat))) < 57344 then
if 0 ≤ (w32 ((w32 (14 * x1)) + (M 131 (x10).toNat))) ∧ (w32 ((w32 (14 * x1)) + (M 131 (x10).toNat))) < 57344 then
gA 226 191 [rv 11 100, iv x1, none, iv x3, none, none, jv x6, none, iv 1, iv 0, iv (w32 (x10 + 1)), none] [] (st (st M 128 (w32 ((w32 (14 * x1)) + (M 131 (x10).toNat))).toNat (w64 ((M 128 (w32 ((w32 (14 * x1)) + (M 131 (x10).toNat))).toNat).tdiv x6))) 128 (w32 ((w32 (14 * x1)) + (M 131 (x10).toNat))).toNat (w64 (-((st M 128 (w32 ((w32 (14 * x1)) + (M 131 (x10).toNat))).toNat (w64 ((M 128 (w32 ((w32 (14 * x1)) + (M 131 (x10).toNat))).toNat).tdiv x6))) 128 (w32 ((w32 (14 * x1)) + (M 131 (x10).toNat))).toNat))))
else none
else none
else none
else none
else none
else none
else none :=
  mat_unf gF gT [15, 67, 111, 191] 60 226 191 [rv 11 100, iv x1, none, iv x3, none, none, jv x6, none, iv x8, iv x9, iv x10, none] [] M
set_option maxRecDepth 20000 in
theorem e_GaugeNetModel_minorWithout (x1 : Int) (x2 : Int) (M : mM) : gC 227 [rv 11 100, iv x1, iv x2] M =
gA 227 7 [rv 11 100, none, iv x2, iv (w32 (x1 - 1)), iv 0, none, none, none, none, none, none] [] M :=
  mat_unf gF gT [7, 41, 104] 60 227 0 [rv 11 100, iv x1, iv x2, none, none, none, none, none, none, none, none] [] M
set_option maxRecDepth 20000 in
theorem s_GaugeNetModel_minorWithout_7 (x2 : Int) (x3 : Int) (x4 : Int) (M : mM) : gA 227 7 [rv 11 100, none, iv x2, iv x3, iv x4, none, none, none, none, none, none] [] M =
if (shl32 1 x3) ≤ x4 then
gA 227 41 [rv 11 100, none, iv x2, iv x3, iv 1, none, none, none, none, none, none] [] M
else
if ¬ x4 = 0 then
if 0 ≤ x4 ∧ x4 < 256 then
gA 227 7 [rv 11 100, none, iv x2, iv x3, iv (w32 (x4 + 1)), none, none, none, none, none, none] [] (st M 133 (x4).toNat 0)
else none
else
if 0 ≤ x4 ∧ x4 < 256 then
gA 227 7 [rv 11 100, none, iv x2, iv x3, iv (w32 (x4 + 1)), none, none, none, none, none, none] [] (st M 133 (x4).toNat 1)
else none :=
  mat_unf gF gT [7, 41, 104] 60 227 7 [rv 11 100, none, iv x2, iv x3, iv x4, none, none, none, none, none, none] [] M
set_option maxRecDepth 20000 in
theorem s_GaugeNetModel_minorWithout_41 (x2 : Int) (x3 : Int) (x4 : Int) (M : mM) : gA 227 41 [rv 11 100, none, iv x2, iv x3, iv x4, none, none, none, none, none, none] [] M =
if (shl32 1 x3) ≤ x4 then
if 0 ≤ (w32 ((shl32 1 x3) - 1)) ∧ (w32 ((shl32 1 x3) - 1)) < 256 then
some (jv (M 133 (w32 ((shl32 1 x3) - 1)).toNat), M)
else none
else
bI (gC 224 [iv x4] M) fun c1 M1 =>
if x2 ≤ (w32 (c1 - 1)) then
if 0 ≤ (w32 ((w32 (c1 - 1)) + 1)) ∧ (w32 ((w32 (c1 - 1)) + 1)) < 16 then
bI (gC 224 [iv x4] M1) fun c2 M2 =>
if ¬ ((c2).tmod 2) = 1 then
gA 227 104 [rv 11 100, none, iv x2, iv x3, iv x4, none, iv (M1 131 (w32 ((w32 (c1 - 1)) + 1)).toNat), iv (-1), jv 0, none, iv 0] [] M2
else
gA 227 104 [rv 11 100, none, iv x2, iv x3, iv x4, none, iv (M1 131 (w32 ((w32 (c1 - 1)) + 1)).toNat), iv 1, jv 0, none, iv 0] [] M2
else none
else
if 0 ≤ (w32 (c1 - 1)) ∧ (w32 (c1 - 1)) < 16 then
bI (gC 224 [iv x4] M1) fun c3 M3 =>
if ¬ ((c3).tmod 2) = 1 then
gA 227 104 [rv 11 100, none, iv x2, iv x3, iv x4, none, iv (M1 131 (w32 (c1 - 1)).toNat), iv (-1), jv 0, none, iv 0] [] M3
else
gA 227 104 [rv 11 100, none, iv x2, iv x3, iv x4, none, iv (M1 131 (w32 (c1 - 1)).toNat), iv 1, jv 0, none, iv 0] [] M3
else none :=
  mat_unf gF gT [7, 41, 104] 60 227 41 [rv 11 100, none, iv x2, iv x3, iv x4, none, none, none, none, none, none] [] M
set_option maxRecDepth 20000 in
theorem s_GaugeNetModel_minorWithout_104 (x2 : Int) (x3 : Int) (x4 : Int) (x6 : Int) (x7 : Int) (x8 : Int) (x10 : Int) (M : mM) : gA 227 104 [rv 11 100, none, iv x2, iv x3, iv x4, none, iv x6, iv x7, jv x8, none, iv x10] [] M =
if x3 ≤ x10 then
if 0 ≤ x4 ∧ x4 < 256 then
gA 227 41 [rv 11 100, none, iv x2, iv x3, iv (w32 (x4 + 1)), none, none, none, none, none, none] [] (st M 133 (x4).toNat x8)
else none
else
if ¬ (and32 (shr32 x4 x10) 1) = 0 then
if 0 ≤ x10 ∧ x10 < 8 then
bI (gC 218 [rv 11 100, iv x6, iv (M 132 (x10).toNat)] M) fun c1 M1 =>
if 0 ≤ (and32 x4 (xor32 (shl32 1 x10) (-1))) ∧ (and32 x4 (xor32 (shl32 1 x10) (-1))) < 256 then
gA 227 104 [rv 11 100, none, iv x2, iv x3, iv x4, none, iv x6, iv (w32 (-x7)), jv (w64 (x8 + (w64 ((w32 (x7 * c1)) * (M1 133 (and32 x4 (xor32 (shl32 1 x10) (-1))).toNat))))), none, iv (w32 (x10 + 1))] [] M1
else none
else none
else
gA 227 104 [rv 11 100, none, iv x2, iv x3, iv x4, none, iv x6, iv x7, jv x8, none, iv (w32 (x10 + 1))] [] M :=
  mat_unf gF gT [7, 41, 104] 60 227 104 [rv 11 100, none, iv x2, iv x3, iv x4, none, iv x6, iv x7, jv x8, none, iv x10] [] M
set_option maxRecDepth 20000 in
theorem e_GaugeNetModel_common (x0 : Int) (x2 : Int) (M : mM) : gC 228 [jv x0, jv x2] M =
if 0 ≤ (lcmp x0 0) then
if 0 ≤ (lcmp x2 0) then
gA 228 28 [none, none, none, none, jv x0, none, jv x2, none, none, none] [] M
else
gA 228 28 [none, none, none, none, jv x0, none, jv (w64 (-x2)), none, none, none] [] M
else
if 0 ≤ (lcmp x2 0) then
gA 228 28 [none, none, none, none, jv (w64 (-x0)), none, jv x2, none, none, none] [] M
else
gA 228 28 [none, none, none, none, jv (w64 (-x0)), none, jv (w64 (-x2)), none, none, none] [] M :=
  mat_unf gF gT [28] 60 228 0 [jv x0, none, jv x2, none, none, none, none, none, none, none] [] M
set_option maxRecDepth 20000 in
theorem s_GaugeNetModel_common_28 (x4 : Int) (x6 : Int) (M : mM) : gA 228 28 [none, none, none, none, jv x4, none, jv x6, none, none, none] [] M =
if (lcmp x6 0) = 0 then
some (jv x4, M)
else
if x6 = 0 then none else
gA 228 28 [none, none, none, none, jv x6, none, jv ((x4).tmod x6), none, none, none] [] M :=
  mat_unf gF gT [28] 60 228 28 [none, none, none, none, jv x4, none, jv x6, none, none, none] [] M
set_option maxRecDepth 20000 in
theorem e_GaugeNetModel_test (x1 : Int) (M : mM) : gC 229 [rv 11 100, iv x1] M =
bI (gC 230 [rv 11 100, iv x1] M) fun c1 M1 =>
if c1 = 0 then
some (iv (-1), M1)
else
if 0 ≤ x1 ∧ x1 < 16384 then
some (iv (M1 127 (x1).toNat), M1)
else none :=
  mat_unf gF gT [] 60 229 0 [rv 11 100, iv x1] [] M
set_option maxRecDepth 20000 in
theorem e_GaugeNetModel_isTest (x1 : Int) (M : mM) : gC 230 [rv 11 100, iv x1] M =
bV (gC 223 [rv 11 100] M) fun M1 =>
if x1 < 0 then
some (iv 0, M1)
else
if (M1 100 45) ≤ x1 then
some (iv 0, M1)
else
some (iv 1, M1) :=
  mat_unf gF gT [] 60 230 0 [rv 11 100, iv x1] [] M
set_option maxRecDepth 20000 in
theorem e_GaugeNetModel_parts (x1 : Int) (x2 : Int) (M : mM) : gC 231 [rv 11 100, iv x1, iv x2] M =
bI (gC 232 [rv 11 100, iv x1] M) fun c1 M1 =>
if c1 = 0 then
some (iv (-1), M1)
else
bI (gC 232 [rv 11 100, iv x2] M1) fun c2 M2 =>
if ¬ c2 = 0 then
bV (gC 223 [rv 11 100] M2) fun M3 =>
gA 231 24 [rv 11 100, iv x1, iv x2, iv 0] [] M3
else
some (iv (-1), M2) :=
  mat_unf gF gT [24] 60 231 0 [rv 11 100, iv x1, iv x2, none] [] M
set_option maxRecDepth 20000 in
theorem s_GaugeNetModel_parts_24 (x1 : Int) (x2 : Int) (x3 : Int) (M : mM) : gA 231 24 [rv 11 100, iv x1, iv x2, iv x3] [] M =
if (M 100 45) ≤ x3 then
some (iv (-2), M)
else
if 0 ≤ x3 ∧ x3 < 16384 then
bI (gC 233 [rv 11 100, iv x1] M) fun c1 M1 =>
if ¬ (and32 (shr32 (M 127 (x3).toNat) c1) 1) = 1 then
gA 231 24 [rv 11 100, iv x1, iv x2, iv (w32 (x3 + 1))] [] M1
else
if 0 ≤ x3 ∧ x3 < 16384 then
bI (gC 233 [rv 11 100, iv x2] M1) fun c2 M2 =>
if ¬ (and32 (shr32 (M1 127 (x3).toNat) c2) 1) = 0 then
gA 231 24 [rv 11 100, iv x1, iv x2, iv (w32 (x3 + 1))] [] M2
else
some (iv x3, M2)
else none
else none :=
  mat_unf gF gT [24] 60 231 24 [rv 11 100, iv x1, iv x2, iv x3] [] M
set_option maxRecDepth 20000 in
theorem e_GaugeNetModel_isFault (x1 : Int) (M : mM) : gC 232 [rv 11 100, iv x1] M =
if 0 ≤ (M 100 18) ∧ (M 100 18) < 2 then
bI (gC 204 [iv x1, iv 0, iv (w32 ((M 120 (M 100 18).toNat) - 1))] M) fun c1 M1 =>
if 0 ≤ c1 ∧ c1 < 2 then some (iv c1, M1) else none
else none :=
  mat_unf gF gT [] 60 232 0 [rv 11 100, iv x1] [] M
set_option maxRecDepth 20000 in
theorem e_GaugeNetModel_faultRow (x1 : Int) (M : mM) : gC 233 [rv 11 100, iv x1] M =
if 0 ≤ (w32 ((w32 (8 * (M 100 18))) + x1)) ∧ (w32 ((w32 (8 * (M 100 18))) + x1)) < 16 then
some (iv (M 121 (w32 ((w32 (8 * (M 100 18))) + x1)).toNat), M)
else none :=
  mat_unf gF gT [] 60 233 0 [rv 11 100, iv x1] [] M
set_option maxRecDepth 20000 in
theorem e_GaugeNetModel_seen (x1 : Int) (M : mM) : gC 234 [rv 11 100, iv x1] M =
bI (gC 232 [rv 11 100, iv x1] M) fun c1 M1 =>
if ¬ c1 = 0 then
bI (gC 212 [rv 11 100] M1) fun c2 M2 =>
bI (gC 235 [rv 11 100, iv x1, iv c2] M2) fun c3 M3 =>
if c3 = 0 then
some (iv 0, M3)
else
some (iv 1, M3)
else
some (iv (-1), M1) :=
  mat_unf gF gT [] 60 234 0 [rv 11 100, iv x1] [] M
set_option maxRecDepth 20000 in
theorem e_GaugeNetModel_isSeenIn (x1 : Int) (x2 : Int) (M : mM) : gC 235 [rv 11 100, iv x1, iv x2] M =
bI (gC 233 [rv 11 100, iv x1] M) fun c1 M1 =>
bI (gC 220 [rv 11 100, iv c1, iv x2] M1) fun c2 M2 =>
if 0 ≤ c2 ∧ c2 < 2 then some (iv c2, M2) else none :=
  mat_unf gF gT [] 60 235 0 [rv 11 100, iv x1, iv x2] [] M
set_option maxRecDepth 20000 in
theorem e_GaugeNetModel_parted (x1 : Int) (x2 : Int) (M : mM) : gC 236 [rv 11 100, iv x1, iv x2] M =
bI (gC 232 [rv 11 100, iv x1] M) fun c1 M1 =>
if c1 = 0 then
some (iv (-1), M1)
else
bI (gC 232 [rv 11 100, iv x2] M1) fun c2 M2 =>
if c2 = 0 then
some (iv (-1), M2)
else
if ¬ x1 = x2 then
bI (gC 212 [rv 11 100] M2) fun c3 M3 =>
bI (gC 237 [rv 11 100, iv x1, iv x2, iv c3] M3) fun c4 M4 =>
if c4 = 0 then
some (iv 0, M4)
else
some (iv 1, M4)
else
some (iv (-1), M2) :=
  mat_unf gF gT [] 60 236 0 [rv 11 100, iv x1, iv x2] [] M
set_option maxRecDepth 20000 in
theorem e_GaugeNetModel_isPartedIn (x1 : Int) (x2 : Int) (x3 : Int) (M : mM) : gC 237 [rv 11 100, iv x1, iv x2, iv x3] M =
bI (gC 233 [rv 11 100, iv x1] M) fun c1 M1 =>
bI (gC 233 [rv 11 100, iv x2] M1) fun c2 M2 =>
bI (gC 220 [rv 11 100, iv c1, iv (and32 x3 (xor32 (shl32 1 c2) (-1)))] M2) fun c3 M3 =>
if 0 ≤ c3 ∧ c3 < 2 then some (iv c3, M3) else none :=
  mat_unf gF gT [] 60 237 0 [rv 11 100, iv x1, iv x2, iv x3] [] M
set_option maxRecDepth 20000 in
theorem e_GaugeNetModel_told (x1 : Int) (M : mM) : gC 238 [rv 11 100, iv x1] M =
bI (gC 204 [iv x1, iv 1, iv 15] M) fun c1 M1 =>
if ¬ c1 = 0 then
bI (gC 239 [rv 11 100, iv x1, iv (M1 100 36), iv (M1 100 37), iv (-1)] M1) fun c2 M2 =>
if c2 = 0 then
some (iv 0, M2)
else
some (iv 1, M2)
else
some (iv (-1), M1) :=
  mat_unf gF gT [] 60 238 0 [rv 11 100, iv x1] [] M
set_option maxRecDepth 20000 in
theorem e_GaugeNetModel_isAllTold (x1 : Int) (x2 : Int) (x3 : Int) (x4 : Int) (M : mM) : gC 239 [rv 11 100, iv x1, iv x2, iv x3, iv x4] M =
gA 239 3 [rv 11 100, iv x1, iv x2, iv x3, iv x4, iv 0, none, none, none, none] [] M :=
  mat_unf gF gT [3, 37, 98, 139] 60 239 0 [rv 11 100, iv x1, iv x2, iv x3, iv x4, none, none, none, none, none] [] M
set_option maxRecDepth 20000 in
theorem s_GaugeNetModel_isAllTold_3 (x1 : Int) (x2 : Int) (x3 : Int) (x4 : Int) (x5 : Int) (M : mM) : gA 239 3 [rv 11 100, iv x1, iv x2, iv x3, iv x4, iv x5, none, none, none, none] [] M =
if 0 ≤ (M 100 18) ∧ (M 100 18) < 2 then
if (M 120 (M 100 18).toNat) ≤ x5 then
some (iv 1, M)
else
bI (gC 233 [rv 11 100, iv x5] M) fun c1 M1 =>
if ¬ c1 = x4 then
gA 239 37 [rv 11 100, iv x1, iv x2, iv x3, iv x4, iv x5, iv 0, iv 0, none, none] [] M1
else
gA 239 3 [rv 11 100, iv x1, iv x2, iv x3, iv x4, iv (w32 (x5 + 1)), none, none, none, none] [] M1
else none :=
  mat_unf gF gT [3, 37, 98, 139] 60 239 3 [rv 11 100, iv x1, iv x2, iv x3, iv x4, iv x5, none, none, none, none] [] M
set_option maxRecDepth 20000 in
theorem s_GaugeNetModel_isAllTold_37 (x1 : Int) (x2 : Int) (x3 : Int) (x4 : Int) (x5 : Int) (x6 : Int) (x7 : Int) (M : mM) : gA 239 37 [rv 11 100, iv x1, iv x2, iv x3, iv x4, iv x5, iv x6, iv x7, none, none] [] M =
if 4 ≤ x7 then
if ¬ x6 = 0 then
gA 239 98 [rv 11 100, iv x1, iv x2, iv x3, iv x4, iv x5, none, iv 0, none, none] [] M
else
some (iv 0, M)
else
if ¬ x6 = 0 then
gA 239 37 [rv 11 100, iv x1, iv x2, iv x3, iv x4, iv x5, iv 1, iv (w32 (x7 + 1)), none, none] [] M
else
if ¬ (and32 (shr32 x1 x7) 1) = 1 then
gA 239 37 [rv 11 100, iv x1, iv x2, iv x3, iv x4, iv x5, iv 0, iv (w32 (x7 + 1)), none, none] [] M
else
bI (gC 213 [rv 11 100, iv x7, iv x2, iv x3] M) fun c1 M1 =>
bI (gC 235 [rv 11 100, iv x5, iv c1] M1) fun c2 M2 =>
if c2 = 0 then
gA 239 37 [rv 11 100, iv x1, iv x2, iv x3, iv x4, iv x5, iv 0, iv (w32 (x7 + 1)), none, none] [] M2
else
gA 239 37 [rv 11 100, iv x1, iv x2, iv x3, iv x4, iv x5, iv 1, iv (w32 (x7 + 1)), none, none] [] M2 :=
  mat_unf gF gT [3, 37, 98, 139] 60 239 37 [rv 11 100, iv x1, iv x2, iv x3, iv x4, iv x5, iv x6, iv x7, none, none] [] M
set_option maxRecDepth 20000 in
theorem s_GaugeNetModel_isAllTold_98 (x1 : Int) (x2 : Int) (x3 : Int) (x4 : Int) (x5 : Int) (x7 : Int) (M : mM) : gA 239 98 [rv 11 100, iv x1, iv x2, iv x3, iv x4, iv x5, none, iv x7, none, none] [] M =
if 0 ≤ (M 100 18) ∧ (M 100 18) < 2 then
if (M 120 (M 100 18).toNat) ≤ x7 then
gA 239 3 [rv 11 100, iv x1, iv x2, iv x3, iv x4, iv (w32 (x5 + 1)), none, none, none, none] [] M
else
if x7 = x5 then
gA 239 98 [rv 11 100, iv x1, iv x2, iv x3, iv x4, iv x5, none, iv (w32 (x7 + 1)), none, none] [] M
else
bI (gC 233 [rv 11 100, iv x7] M) fun c1 M1 =>
if ¬ c1 = x4 then
gA 239 139 [rv 11 100, iv x1, iv x2, iv x3, iv x4, iv x5, none, iv x7, iv 0, iv 0] [] M1
else
gA 239 98 [rv 11 100, iv x1, iv x2, iv x3, iv x4, iv x5, none, iv (w32 (x7 + 1)), none, none] [] M1
else none :=
  mat_unf gF gT [3, 37, 98, 139] 60 239 98 [rv 11 100, iv x1, iv x2, iv x3, iv x4, iv x5, none, iv x7, none, none] [] M
set_option maxRecDepth 20000 in
theorem s_GaugeNetModel_isAllTold_139 (x1 : Int) (x2 : Int) (x3 : Int) (x4 : Int) (x5 : Int) (x7 : Int) (x8 : Int) (x9 : Int) (M : mM) : gA 239 139 [rv 11 100, iv x1, iv x2, iv x3, iv x4, iv x5, none, iv x7, iv x8, iv x9] [] M =
if 4 ≤ x9 then
if ¬ x8 = 0 then
gA 239 98 [rv 11 100, iv x1, iv x2, iv x3, iv x4, iv x5, none, iv (w32 (x7 + 1)), none, none] [] M
else
some (iv 0, M)
else
if ¬ x8 = 0 then
gA 239 139 [rv 11 100, iv x1, iv x2, iv x3, iv x4, iv x5, none, iv x7, iv 1, iv (w32 (x9 + 1))] [] M
else
if ¬ (and32 (shr32 x1 x9) 1) = 1 then
gA 239 139 [rv 11 100, iv x1, iv x2, iv x3, iv x4, iv x5, none, iv x7, iv 0, iv (w32 (x9 + 1))] [] M
else
bI (gC 213 [rv 11 100, iv x9, iv x2, iv x3] M) fun c1 M1 =>
bI (gC 237 [rv 11 100, iv x5, iv x7, iv c1] M1) fun c2 M2 =>
if c2 = 0 then
gA 239 139 [rv 11 100, iv x1, iv x2, iv x3, iv x4, iv x5, none, iv x7, iv 0, iv (w32 (x9 + 1))] [] M2
else
gA 239 139 [rv 11 100, iv x1, iv x2, iv x3, iv x4, iv x5, none, iv x7, iv 1, iv (w32 (x9 + 1))] [] M2 :=
  mat_unf gF gT [3, 37, 98, 139] 60 239 139 [rv 11 100, iv x1, iv x2, iv x3, iv x4, iv x5, none, iv x7, iv x8, iv x9] [] M
set_option maxRecDepth 20000 in
theorem e_GaugeNetModel_cost (x1 : Int) (M : mM) : gC 240 [rv 11 100, iv x1] M =
if x1 < 0 then
some (iv (-1), M)
else
if 0 ≤ (M 100 18) ∧ (M 100 18) < 2 then
if x1 < (shl32 1 (M 115 (M 100 18).toNat)) then
bI (gC 241 [rv 11 100, iv x1] M) fun c1 M1 =>
some (iv c1, M1)
else
some (iv (-1), M)
else none :=
  mat_unf gF gT [] 60 240 0 [rv 11 100, iv x1] [] M
set_option maxRecDepth 20000 in
theorem e_GaugeNetModel_costBy (x1 : Int) (M : mM) : gC 241 [rv 11 100, iv x1] M =
gA 241 4 [rv 11 100, iv x1, iv 0, iv 0] [] M :=
  mat_unf gF gT [4] 60 241 0 [rv 11 100, iv x1, none, none] [] M
set_option maxRecDepth 20000 in
theorem s_GaugeNetModel_costBy_4 (x1 : Int) (x2 : Int) (x3 : Int) (M : mM) : gA 241 4 [rv 11 100, iv x1, iv x2, iv x3] [] M =
if 6 ≤ x3 then
some (iv x2, M)
else
if ¬ (and32 (shr32 x1 x3) 1) = 1 then
gA 241 4 [rv 11 100, iv x1, iv x2, iv (w32 (x3 + 1))] [] M
else
if 0 ≤ (w32 ((w32 (6 * (M 100 18))) + x3)) ∧ (w32 ((w32 (6 * (M 100 18))) + x3)) < 12 then
gA 241 4 [rv 11 100, iv x1, iv (w32 (x2 + (M 118 (w32 ((w32 (6 * (M 100 18))) + x3)).toNat))), iv (w32 (x3 + 1))] [] M
else none :=
  mat_unf gF gT [4] 60 241 4 [rv 11 100, iv x1, iv x2, iv x3] [] M
set_option maxRecDepth 20000 in
theorem e_GaugeNetModel_adding (x1 : Int) (M : mM) : gC 242 [rv 11 100, iv x1] M =
gA 242 5 [rv 11 100, iv x1, iv (-2), iv 0] [] M :=
  mat_unf gF gT [5] 60 242 0 [rv 11 100, iv x1, none, none] [] M
set_option maxRecDepth 20000 in
theorem s_GaugeNetModel_adding_5 (x1 : Int) (x2 : Int) (x3 : Int) (M : mM) : gA 242 5 [rv 11 100, iv x1, iv x2, iv x3] [] M =
if 0 ≤ (M 100 18) ∧ (M 100 18) < 2 then
if (shl32 1 (M 115 (M 100 18).toNat)) ≤ x3 then
some (iv x2, M)
else
if ¬ (and32 x3 (or32 (M 100 36) (M 100 37))) = 0 then
gA 242 5 [rv 11 100, iv x1, iv x2, iv (w32 (x3 + 1))] [] M
else
if x2 = (-2) then
bI (gC 243 [rv 11 100, iv x3, iv x1] M) fun c1 M1 =>
if c1 = 0 then
gA 242 5 [rv 11 100, iv x1, iv x2, iv (w32 (x3 + 1))] [] M1
else
gA 242 5 [rv 11 100, iv x1, iv x3, iv (w32 (x3 + 1))] [] M1
else
bI (gC 241 [rv 11 100, iv x3] M) fun c2 M2 =>
bI (gC 241 [rv 11 100, iv x2] M2) fun c3 M3 =>
if c2 < c3 then
bI (gC 243 [rv 11 100, iv x3, iv x1] M3) fun c4 M4 =>
if c4 = 0 then
gA 242 5 [rv 11 100, iv x1, iv x2, iv (w32 (x3 + 1))] [] M4
else
gA 242 5 [rv 11 100, iv x1, iv x3, iv (w32 (x3 + 1))] [] M4
else
gA 242 5 [rv 11 100, iv x1, iv x2, iv (w32 (x3 + 1))] [] M3
else none :=
  mat_unf gF gT [5] 60 242 5 [rv 11 100, iv x1, iv x2, iv x3] [] M
set_option maxRecDepth 20000 in
theorem e_GaugeNetModel_does (x1 : Int) (x2 : Int) (M : mM) : gC 243 [rv 11 100, iv x1, iv x2] M =
bI (gC 239 [rv 11 100, iv (shl32 1 (M 100 35)), iv (or32 (M 100 36) x1), iv (M 100 37), iv (-1)] M) fun c1 M1 =>
if ¬ c1 = 0 then
gA 243 31 [rv 11 100, none, iv x2, iv (or32 (M 100 36) x1), iv 0] [] M1
else
some (iv 0, M1) :=
  mat_unf gF gT [31] 60 243 0 [rv 11 100, iv x1, iv x2, none, none] [] M
set_option maxRecDepth 20000 in
theorem s_GaugeNetModel_does_31 (x2 : Int) (x3 : Int) (x4 : Int) (M : mM) : gA 243 31 [rv 11 100, none, iv x2, iv x3, iv x4] [] M =
if 0 ≤ (M 100 18) ∧ (M 100 18) < 2 then
if (M 115 (M 100 18).toNat) ≤ x4 then
some (iv 1, M)
else
if x2 = 0 then
some (iv 1, M)
else
if ¬ (and32 (shr32 (and32 x3 (xor32 (M 100 37) (-1))) x4) 1) = 1 then
gA 243 31 [rv 11 100, none, iv x2, iv x3, iv (w32 (x4 + 1))] [] M
else
bI (gC 239 [rv 11 100, iv (shl32 1 (M 100 35)), iv x3, iv (or32 (M 100 37) (shl32 1 x4)), iv (w32 (8 + x4))] M) fun c1 M1 =>
if ¬ c1 = 0 then
gA 243 31 [rv 11 100, none, iv x2, iv x3, iv (w32 (x4 + 1))] [] M1
else
some (iv 0, M1)
else none :=
  mat_unf gF gT [31] 60 243 31 [rv 11 100, none, iv x2, iv x3, iv x4] [] M
set_option maxRecDepth 20000 in
theorem e_GaugeNetModel_taking  (M : mM) : gC 244 [rv 11 100] M =
gA 244 4 [rv 11 100, iv 0, iv 1] [] M :=
  mat_unf gF gT [4] 60 244 0 [rv 11 100, none, none] [] M
set_option maxRecDepth 20000 in
theorem s_GaugeNetModel_taking_4 (x1 : Int) (x2 : Int) (M : mM) : gA 244 4 [rv 11 100, iv x1, iv x2] [] M =
if 0 ≤ (M 100 18) ∧ (M 100 18) < 2 then
if (shl32 1 (M 115 (M 100 18).toNat)) ≤ x2 then
some (iv x1, M)
else
if ¬ (and32 x2 (xor32 (and32 (M 100 36) (xor32 (M 100 37) (-1))) (-1))) = 0 then
gA 244 4 [rv 11 100, iv x1, iv (w32 (x2 + 1))] [] M
else
bI (gC 241 [rv 11 100, iv x2] M) fun c1 M1 =>
bI (gC 241 [rv 11 100, iv x1] M1) fun c2 M2 =>
if c1 ≤ c2 then
gA 244 4 [rv 11 100, iv x1, iv (w32 (x2 + 1))] [] M2
else
bI (gC 245 [rv 11 100, iv x2] M2) fun c3 M3 =>
if c3 = 0 then
gA 244 4 [rv 11 100, iv x1, iv (w32 (x2 + 1))] [] M3
else
gA 244 4 [rv 11 100, iv x2, iv (w32 (x2 + 1))] [] M3
else none :=
  mat_unf gF gT [4] 60 244 4 [rv 11 100, iv x1, iv x2] [] M
set_option maxRecDepth 20000 in
theorem e_GaugeNetModel_staysWithout (x1 : Int) (M : mM) : gC 245 [rv 11 100, iv x1] M =
bI (gC 212 [rv 11 100] M) fun c1 M1 =>
gA 245 17 [rv 11 100, iv x1, iv c1, iv (and32 c1 (xor32 (shl32 x1 8) (-1))), iv 0, none] [] M1 :=
  mat_unf gF gT [17, 69] 60 245 0 [rv 11 100, iv x1, none, none, none, none] [] M
set_option maxRecDepth 20000 in
theorem s_GaugeNetModel_staysWithout_17 (x1 : Int) (x2 : Int) (x3 : Int) (x4 : Int) (M : mM) : gA 245 17 [rv 11 100, iv x1, iv x2, iv x3, iv x4, none] [] M =
if 0 ≤ (M 100 18) ∧ (M 100 18) < 2 then
if (M 120 (M 100 18).toNat) ≤ x4 then
some (iv 1, M)
else
bI (gC 246 [rv 11 100, iv x4, iv x1] M) fun c1 M1 =>
if c1 = 0 then
bI (gC 235 [rv 11 100, iv x4, iv x2] M1) fun c2 M2 =>
if c2 = 0 then
gA 245 69 [rv 11 100, iv x1, iv x2, iv x3, iv x4, iv 0] [] M2
else
bI (gC 235 [rv 11 100, iv x4, iv x3] M2) fun c3 M3 =>
if ¬ c3 = 0 then
gA 245 69 [rv 11 100, iv x1, iv x2, iv x3, iv x4, iv 0] [] M3
else
some (iv 0, M3)
else
gA 245 17 [rv 11 100, iv x1, iv x2, iv x3, iv (w32 (x4 + 1)), none] [] M1
else none :=
  mat_unf gF gT [17, 69] 60 245 17 [rv 11 100, iv x1, iv x2, iv x3, iv x4, none] [] M
set_option maxRecDepth 20000 in
theorem s_GaugeNetModel_staysWithout_69 (x1 : Int) (x2 : Int) (x3 : Int) (x4 : Int) (x5 : Int) (M : mM) : gA 245 69 [rv 11 100, iv x1, iv x2, iv x3, iv x4, iv x5] [] M =
if 0 ≤ (M 100 18) ∧ (M 100 18) < 2 then
if (M 120 (M 100 18).toNat) ≤ x5 then
gA 245 17 [rv 11 100, iv x1, iv x2, iv x3, iv (w32 (x4 + 1)), none] [] M
else
if x5 = x4 then
gA 245 69 [rv 11 100, iv x1, iv x2, iv x3, iv x4, iv (w32 (x5 + 1))] [] M
else
bI (gC 246 [rv 11 100, iv x5, iv x1] M) fun c1 M1 =>
if ¬ c1 = 0 then
gA 245 69 [rv 11 100, iv x1, iv x2, iv x3, iv x4, iv (w32 (x5 + 1))] [] M1
else
bI (gC 237 [rv 11 100, iv x4, iv x5, iv x2] M1) fun c2 M2 =>
if c2 = 0 then
gA 245 69 [rv 11 100, iv x1, iv x2, iv x3, iv x4, iv (w32 (x5 + 1))] [] M2
else
bI (gC 237 [rv 11 100, iv x4, iv x5, iv x3] M2) fun c3 M3 =>
if ¬ c3 = 0 then
gA 245 69 [rv 11 100, iv x1, iv x2, iv x3, iv x4, iv (w32 (x5 + 1))] [] M3
else
some (iv 0, M3)
else none :=
  mat_unf gF gT [17, 69] 60 245 69 [rv 11 100, iv x1, iv x2, iv x3, iv x4, iv x5] [] M
set_option maxRecDepth 20000 in
theorem e_GaugeNetModel_isTaken (x1 : Int) (x2 : Int) (M : mM) : gC 246 [rv 11 100, iv x1, iv x2] M =
bI (gC 233 [rv 11 100, iv x1] M) fun c1 M1 =>
if c1 < 8 then
some (iv 0, M1)
else
bI (gC 233 [rv 11 100, iv x1] M1) fun c2 M2 =>
if ¬ (and32 (shr32 x2 (w32 (c2 - 8))) 1) = 1 then
some (iv 0, M2)
else
some (iv 1, M2) :=
  mat_unf gF gT [] 60 246 0 [rv 11 100, iv x1, iv x2] [] M
set_option maxRecDepth 20000 in
theorem e_GaugeNetModel_positions  (M : mM) : gC 247 [rv 11 100] M =
gA 247 2 [rv 11 100, iv 1, none] [] M :=
  mat_unf gF gT [2, 9] 60 247 0 [rv 11 100, none, none] [] M
set_option maxRecDepth 20000 in
theorem s_GaugeNetModel_positions_2 (x1 : Int) (M : mM) : gA 247 2 [rv 11 100, iv x1, none] [] M =
if 5 ≤ x1 then
some (iv (-2), M)
else
gA 247 9 [rv 11 100, iv x1, iv 1] [] M :=
  mat_unf gF gT [2, 9] 60 247 2 [rv 11 100, iv x1, none] [] M
set_option maxRecDepth 20000 in
theorem s_GaugeNetModel_positions_9 (x1 : Int) (x2 : Int) (M : mM) : gA 247 9 [rv 11 100, iv x1, iv x2] [] M =
if 16 ≤ x2 then
gA 247 2 [rv 11 100, iv (w32 (x1 + 1)), none] [] M
else
bI (gC 224 [iv x2] M) fun c1 M1 =>
if ¬ c1 = x1 then
gA 247 9 [rv 11 100, iv x1, iv (w32 (x2 + 1))] [] M1
else
bI (gC 239 [rv 11 100, iv x2, iv (M1 100 36), iv (M1 100 37), iv (-1)] M1) fun c2 M2 =>
if c2 = 0 then
gA 247 9 [rv 11 100, iv x1, iv (w32 (x2 + 1))] [] M2
else
some (iv x2, M2) :=
  mat_unf gF gT [2, 9] 60 247 9 [rv 11 100, iv x1, iv x2] [] M
set_option maxRecDepth 20000 in
theorem e_GaugeNetModel_uses (x1 : Int) (x2 : Int) (M : mM) : gC 248 [rv 11 100, iv x1, iv x2] M =
bI (gC 249 [rv 11 100, iv x1, iv x2] M) fun c1 M1 =>
if ¬ c1 = (-1) then
some (iv (M1 100 53), M1)
else
some (iv (-1), M1) :=
  mat_unf gF gT [] 60 248 0 [rv 11 100, iv x1, iv x2] [] M
set_option maxRecDepth 20000 in
theorem e_GaugeNetModel_routine (x1 : Int) (x2 : Int) (M : mM) : gC 249 [rv 11 100, iv x1, iv x2] M =
bI (gC 230 [rv 11 100, iv x1] (st M 100 53 0)) fun c1 M1 =>
if c1 = 0 then
some (iv (-1), M1)
else
bI (gC 204 [iv x2, iv 0, iv 13] M1) fun c2 M2 =>
if c2 = 0 then
some (iv (-1), M2)
else
if 0 ≤ x1 ∧ x1 < 16384 then
if ¬ (and32 (shr32 (M2 127 (x1).toNat) x2) 1) = 0 then
if 0 ≤ x1 ∧ x1 < 16384 then
gA 249 57 [rv 11 100, none, none, iv (and32 (M2 127 (x1).toNat) (xor32 (shl32 1 x2) (-1))), iv 0, iv 1, none, none] [] M2
else none
else
some (iv (-1), M2)
else none :=
  mat_unf gF gT [57, 68] 60 249 0 [rv 11 100, iv x1, iv x2, none, none, none, none, none] [] M
set_option maxRecDepth 20000 in
theorem s_GaugeNetModel_routine_57 (x3 : Int) (x4 : Int) (x5 : Int) (M : mM) : gA 249 57 [rv 11 100, none, none, iv x3, iv x4, iv x5, none, none] [] M =
if x5 = 0 then
some (iv x3, M)
else
gA 249 68 [rv 11 100, none, none, iv x3, iv x4, iv 0, iv 0, none] [] M :=
  mat_unf gF gT [57, 68] 60 249 57 [rv 11 100, none, none, iv x3, iv x4, iv x5, none, none] [] M
set_option maxRecDepth 20000 in
theorem s_GaugeNetModel_routine_68 (x3 : Int) (x4 : Int) (x5 : Int) (x6 : Int) (M : mM) : gA 249 68 [rv 11 100, none, none, iv x3, iv x4, iv x5, iv x6, none] [] M =
if 14 ≤ x6 then
gA 249 57 [rv 11 100, none, none, iv x3, iv x4, iv x5, none, none] [] M
else
if ¬ x5 = 0 then
gA 249 57 [rv 11 100, none, none, iv x3, iv x4, iv x5, none, none] [] M
else
if ¬ (and32 (shr32 x3 x6) 1) = 0 then
bI (gC 225 [rv 11 100, iv (shl32 1 x6)] M) fun c1 M1 =>
bI (gC 224 [iv (and32 c1 (xor32 x4 (-1)))] M1) fun c2 M2 =>
if c2 = 1 then
if 0 ≤ (M2 100 53) ∧ (M2 100 53) < 16 then
gA 249 68 [rv 11 100, none, none, iv (and32 x3 (xor32 (shl32 1 x6) (-1))), iv (or32 x4 (and32 c1 (xor32 x4 (-1)))), iv 1, iv (w32 (x6 + 1)), none] [] (st (st M2 134 (M2 100 53).toNat x6) 100 53 (w32 (((st M2 134 (M2 100 53).toNat x6) 100 53) + 1)))
else none
else
gA 249 68 [rv 11 100, none, none, iv x3, iv x4, iv x5, iv (w32 (x6 + 1)), none] [] M2
else
gA 249 68 [rv 11 100, none, none, iv x3, iv x4, iv x5, iv (w32 (x6 + 1)), none] [] M :=
  mat_unf gF gT [57, 68] 60 249 68 [rv 11 100, none, none, iv x3, iv x4, iv x5, iv x6, none] [] M
set_option maxRecDepth 20000 in
theorem e_GaugeNetModel_use (x1 : Int) (x2 : Int) (x3 : Int) (M : mM) : gC 250 [rv 11 100, iv x1, iv x2, iv x3] M =
bI (gC 249 [rv 11 100, iv x1, iv x2] M) fun c1 M1 =>
if c1 = (-1) then
some (iv (-1), M1)
else
if x3 < 0 then
some (iv (-1), M1)
else
if x3 < (M1 100 53) then
if 0 ≤ x3 ∧ x3 < 16 then
some (iv (M1 134 (x3).toNat), M1)
else none
else
some (iv (-1), M1) :=
  mat_unf gF gT [] 60 250 0 [rv 11 100, iv x1, iv x2, iv x3] [] M
set_option maxRecDepth 20000 in
theorem e_GaugeNetModel_ring (x1 : Int) (x2 : Int) (M : mM) : gC 251 [rv 11 100, iv x1, iv x2] M =
bI (gC 249 [rv 11 100, iv x1, iv x2] M) fun c1 M1 =>
some (iv c1, M1) :=
  mat_unf gF gT [] 60 251 0 [rv 11 100, iv x1, iv x2] [] M
set_option maxRecDepth 20000 in
theorem e_GaugeNetModel_runs (x1 : Int) (M : mM) : gC 252 [rv 11 100, iv x1] M =
bI (gC 230 [rv 11 100, iv x1] M) fun c1 M1 =>
if ¬ c1 = 0 then
if 0 ≤ x1 ∧ x1 < 4096 then
if (M1 129 (x1).toNat) = 0 then
some (iv 0, M1)
else
some (iv 1, M1)
else none
else
some (iv (-1), M1) :=
  mat_unf gF gT [] 60 252 0 [rv 11 100, iv x1] [] M
set_option maxRecDepth 20000 in
theorem e_GaugeNetModel_weight (x1 : Int) (x2 : Int) (M : mM) : gC 253 [rv 11 100, iv x1, iv x2] M =
bI (gC 254 [rv 11 100, iv x1] M) fun c1 M1 =>
if c1 = 0 then
some (jv (-1000000000000), M1)
else
bI (gC 204 [iv x2, iv 0, iv 13] M1) fun c2 M2 =>
if c2 = 0 then
some (jv (-1000000000000), M2)
else
if 0 ≤ x1 ∧ x1 < 16384 then
if ¬ (and32 (shr32 (M2 127 (x1).toNat) x2) 1) = 0 then
if 0 ≤ (w32 ((w32 (14 * x1)) + x2)) ∧ (w32 ((w32 (14 * x1)) + x2)) < 57344 then
some (jv (M2 128 (w32 ((w32 (14 * x1)) + x2)).toNat), M2)
else none
else
some (jv (-1000000000000), M2)
else none :=
  mat_unf gF gT [] 60 253 0 [rv 11 100, iv x1, iv x2] [] M
set_option maxRecDepth 20000 in
theorem e_GaugeNetModel_isRun (x1 : Int) (M : mM) : gC 254 [rv 11 100, iv x1] M =
bI (gC 230 [rv 11 100, iv x1] M) fun c1 M1 =>
if c1 = 0 then
some (iv 0, M1)
else
if 0 ≤ x1 ∧ x1 < 4096 then
if (M1 129 (x1).toNat) = 0 then
some (iv 0, M1)
else
some (iv 1, M1)
else none :=
  mat_unf gF gT [] 60 254 0 [rv 11 100, iv x1] [] M
set_option maxRecDepth 20000 in
theorem e_GaugeNetModel_nought (x1 : Int) (M : mM) : gC 255 [rv 11 100, iv x1] M =
bI (gC 254 [rv 11 100, iv x1] M) fun c1 M1 =>
if c1 = 0 then
some (jv (-1000000000000000), M1)
else
bJ (gC 256 [rv 11 100, iv x1] M1) fun c2 M2 =>
some (jv c2, M2) :=
  mat_unf gF gT [] 60 255 0 [rv 11 100, iv x1] [] M
set_option maxRecDepth 20000 in
theorem e_GaugeNetModel_noughtOf (x1 : Int) (M : mM) : gC 256 [rv 11 100, iv x1] M =
gA 256 5 [rv 11 100, iv x1, jv 0, none, iv 0, none, none] [] M :=
  mat_unf gF gT [5] 60 256 0 [rv 11 100, iv x1, none, none, none, none, none] [] M
set_option maxRecDepth 20000 in
theorem s_GaugeNetModel_noughtOf_5 (x1 : Int) (x2 : Int) (x4 : Int) (M : mM) : gA 256 5 [rv 11 100, iv x1, jv x2, none, iv x4, none, none] [] M =
if 14 ≤ x4 then
some (jv x2, M)
else
if 0 ≤ x1 ∧ x1 < 16384 then
if ¬ (and32 (shr32 (M 127 (x1).toNat) x4) 1) = 0 then
if 8 ≤ x4 then
if 0 ≤ (w32 (x4 - 8)) ∧ (w32 (x4 - 8)) < 6 then
if 0 ≤ (w32 ((w32 (14 * x1)) + x4)) ∧ (w32 ((w32 (14 * x1)) + x4)) < 57344 then
gA 256 5 [rv 11 100, iv x1, jv (w64 (x2 + (w64 ((M 128 (w32 ((w32 (14 * x1)) + x4)).toNat) * (w32 (-(M 122 (w32 (x4 - 8)).toNat))))))), none, iv (w32 (x4 + 1)), none, none] [] M
else none
else none
else
if 0 ≤ (w32 ((w32 (9 * (w32 ((w32 (8 * (M 100 18))) + x4)))) + 8)) ∧ (w32 ((w32 (9 * (w32 ((w32 (8 * (M 100 18))) + x4)))) + 8)) < 144 then
if 0 ≤ (w32 ((w32 (14 * x1)) + x4)) ∧ (w32 ((w32 (14 * x1)) + x4)) < 57344 then
gA 256 5 [rv 11 100, iv x1, jv (w64 (x2 + (w64 ((M 128 (w32 ((w32 (14 * x1)) + x4)).toNat) * (M 113 (w32 ((w32 (9 * (w32 ((w32 (8 * (M 100 18))) + x4)))) + 8)).toNat))))), none, iv (w32 (x4 + 1)), none, none] [] M
else none
else none
else
gA 256 5 [rv 11 100, iv x1, jv x2, none, iv (w32 (x4 + 1)), none, none] [] M
else none :=
  mat_unf gF gT [5] 60 256 5 [rv 11 100, iv x1, jv x2, none, iv x4, none, none] [] M
set_option maxRecDepth 20000 in
theorem e_GaugeNetModel_bound (x1 : Int) (M : mM) : gC 257 [rv 11 100, iv x1] M =
bI (gC 254 [rv 11 100, iv x1] M) fun c1 M1 =>
if c1 = 0 then
some (jv (-1), M1)
else
bJ (gC 258 [rv 11 100, iv x1] M1) fun c2 M2 =>
some (jv c2, M2) :=
  mat_unf gF gT [] 60 257 0 [rv 11 100, iv x1] [] M
set_option maxRecDepth 20000 in
theorem e_GaugeNetModel_boundOf (x1 : Int) (M : mM) : gC 258 [rv 11 100, iv x1] M =
gA 258 5 [rv 11 100, iv x1, jv 0, none, iv 0] [] M :=
  mat_unf gF gT [5] 60 258 0 [rv 11 100, iv x1, none, none, none] [] M
set_option maxRecDepth 20000 in
theorem s_GaugeNetModel_boundOf_5 (x1 : Int) (x2 : Int) (x4 : Int) (M : mM) : gA 258 5 [rv 11 100, iv x1, jv x2, none, iv x4] [] M =
if 6 ≤ x4 then
some (jv x2, M)
else
if 0 ≤ x1 ∧ x1 < 16384 then
if ¬ (and32 (shr32 (M 127 (x1).toNat) (w32 (8 + x4))) 1) = 1 then
gA 258 5 [rv 11 100, iv x1, jv x2, none, iv (w32 (x4 + 1))] [] M
else
if 0 ≤ (w32 ((w32 ((w32 (14 * x1)) + 8)) + x4)) ∧ (w32 ((w32 ((w32 (14 * x1)) + 8)) + x4)) < 57344 then
bJ (gC 259 [jv (M 128 (w32 ((w32 ((w32 (14 * x1)) + 8)) + x4)).toNat)] M) fun c1 M1 =>
if 0 ≤ (w32 ((w32 (6 * (M1 100 18))) + x4)) ∧ (w32 ((w32 (6 * (M1 100 18))) + x4)) < 12 then
gA 258 5 [rv 11 100, iv x1, jv (w64 (x2 + (w64 (c1 * (M1 117 (w32 ((w32 (6 * (M1 100 18))) + x4)).toNat))))), none, iv (w32 (x4 + 1))] [] M1
else none
else none
else none :=
  mat_unf gF gT [5] 60 258 5 [rv 11 100, iv x1, jv x2, none, iv x4] [] M
set_option maxRecDepth 20000 in
theorem e_GaugeNetModel_size (x0 : Int) (M : mM) : gC 259 [jv x0] M =
if 0 ≤ (lcmp x0 0) then
some (jv x0, M)
else
some (jv (w64 (-x0)), M) :=
  mat_unf gF gT [] 60 259 0 [jv x0, none] [] M
set_option maxRecDepth 20000 in
theorem e_GaugeNetModel_rings (x1 : Int) (M : mM) : gC 260 [rv 11 100, iv x1] M =
bI (gC 254 [rv 11 100, iv x1] M) fun c1 M1 =>
if ¬ c1 = 0 then
bI (gC 261 [rv 11 100, iv x1] M1) fun c2 M2 =>
if c2 = 0 then
some (iv 0, M2)
else
some (iv 1, M2)
else
some (iv (-1), M1) :=
  mat_unf gF gT [] 60 260 0 [rv 11 100, iv x1] [] M
set_option maxRecDepth 20000 in
theorem e_GaugeNetModel_isRinging (x1 : Int) (M : mM) : gC 261 [rv 11 100, iv x1] M =
bJ (gC 256 [rv 11 100, iv x1] M) fun c1 M1 =>
bJ (gC 259 [jv c1] M1) fun c2 M2 =>
bJ (gC 258 [rv 11 100, iv x1] M2) fun c3 M3 =>
if (lcmp c2 c3) ≤ 0 then
some (iv 0, M3)
else
some (iv 1, M3) :=
  mat_unf gF gT [] 60 261 0 [rv 11 100, iv x1] [] M
set_option maxRecDepth 20000 in
theorem e_GaugeNetModel_from (x1 : Int) (x2 : Int) (M : mM) : gC 262 [rv 11 100, iv x1, iv x2] M =
bI (gC 254 [rv 11 100, iv x1] M) fun c1 M1 =>
if c1 = 0 then
some (jv (-1), M1)
else
bI (gC 232 [rv 11 100, iv x2] M1) fun c2 M2 =>
if ¬ c2 = 0 then
bJ (gC 263 [rv 11 100, iv x1, iv x2] M2) fun c3 M3 =>
bJ (gC 259 [jv c3] M3) fun c4 M4 =>
if ¬ (lcmp c4 0) = 0 then
bJ (gC 258 [rv 11 100, iv x1] M4) fun c5 M5 =>
if c4 = 0 then none else
some (jv (w64 ((w64 ((w64 (2 * c5)).tdiv c4)) + 1)), M5)
else
some (jv (-2), M4)
else
some (jv (-1), M2) :=
  mat_unf gF gT [] 60 262 0 [rv 11 100, iv x1, iv x2, none, none] [] M
set_option maxRecDepth 20000 in
theorem e_GaugeNetModel_weightIn (x1 : Int) (x2 : Int) (M : mM) : gC 263 [rv 11 100, iv x1, iv x2] M =
if 0 ≤ x1 ∧ x1 < 16384 then
bI (gC 233 [rv 11 100, iv x2] M) fun c1 M1 =>
if ¬ (and32 (shr32 (M 127 (x1).toNat) c1) 1) = 1 then
some (jv 0, M1)
else
bI (gC 233 [rv 11 100, iv x2] M1) fun c2 M2 =>
if 0 ≤ (w32 ((w32 (14 * x1)) + c2)) ∧ (w32 ((w32 (14 * x1)) + c2)) < 57344 then
some (jv (M2 128 (w32 ((w32 (14 * x1)) + c2)).toNat), M2)
else none
else none :=
  mat_unf gF gT [] 60 263 0 [rv 11 100, iv x1, iv x2] [] M
set_option maxRecDepth 20000 in
theorem e_GaugeNetModel_odds (x1 : Int) (x2 : Int) (x3 : Int) (x4 : Int) (M : mM) : gC 264 [rv 11 100, iv x1, iv x2, iv x3, jv x4] M =
bI (gC 254 [rv 11 100, iv x1] M) fun c1 M1 =>
if c1 = 0 then
some (iv (-1), M1)
else
if x2 = (-1) then
bI (gC 204 [iv x3, iv (-9999), iv 9999] M1) fun c2 M2 =>
if c2 = 0 then
some (iv (-1), M2)
else
if 0 ≤ (lcmp x4 (-1)) then
if ¬ x2 = (-1) then
bJ (gC 263 [rv 11 100, iv x1, iv x2] M2) fun c3 M3 =>
gA 264 68 [rv 11 100, iv x1, none, none, jv x4, none, jv (w64 (c3 * x3)), none, iv 0, none, none, none, none] [] M3
else
gA 264 68 [rv 11 100, iv x1, none, none, jv x4, none, jv 0, none, iv 0, none, none, none, none] [] M2
else
some (iv (-1), M2)
else
bI (gC 232 [rv 11 100, iv x2] M1) fun c4 M4 =>
if c4 = 0 then
some (iv (-1), M4)
else
bI (gC 204 [iv x3, iv (-9999), iv 9999] M4) fun c5 M5 =>
if c5 = 0 then
some (iv (-1), M5)
else
if 0 ≤ (lcmp x4 (-1)) then
if ¬ x2 = (-1) then
bJ (gC 263 [rv 11 100, iv x1, iv x2] M5) fun c6 M6 =>
gA 264 68 [rv 11 100, iv x1, none, none, jv x4, none, jv (w64 (c6 * x3)), none, iv 0, none, none, none, none] [] M6
else
gA 264 68 [rv 11 100, iv x1, none, none, jv x4, none, jv 0, none, iv 0, none, none, none, none] [] M5
else
some (iv (-1), M5) :=
  mat_unf gF gT [68, 102, 116, 193] 60 264 0 [rv 11 100, iv x1, iv x2, iv x3, jv x4, none, none, none, none, none, none, none, none] [] M
set_option maxRecDepth 20000 in
theorem s_GaugeNetModel_odds_68 (x1 : Int) (x4 : Int) (x6 : Int) (x8 : Int) (M : mM) : gA 264 68 [rv 11 100, iv x1, none, none, jv x4, none, jv x6, none, iv x8, none, none, none, none] [] M =
if 6 ≤ x8 then
gA 264 102 [rv 11 100, iv x1, none, none, jv x4, none, jv x6, none, iv 0, iv 0, none, none, none] [] M
else
bI (gC 265 [rv 11 100, iv x1, iv x8] M) fun c1 M1 =>
if 0 ≤ x8 ∧ x8 < 6 then
gA 264 68 [rv 11 100, iv x1, none, none, jv x4, none, jv x6, none, iv (w32 (x8 + 1)), none, none, none, none] [] (st M1 135 (x8).toNat (w32 (-c1)))
else none :=
  mat_unf gF gT [68, 102, 116, 193] 60 264 68 [rv 11 100, iv x1, none, none, jv x4, none, jv x6, none, iv x8, none, none, none, none] [] M
set_option maxRecDepth 20000 in
theorem s_GaugeNetModel_odds_102 (x1 : Int) (x4 : Int) (x6 : Int) (x8 : Int) (x9 : Int) (M : mM) : gA 264 102 [rv 11 100, iv x1, none, none, jv x4, none, jv x6, none, iv x8, iv x9, none, none, none] [] M =
if 6 ≤ x9 then
some (iv x8, M)
else
gA 264 116 [rv 11 100, iv x1, none, none, jv x4, none, jv x6, none, iv x8, none, jv x6, none, iv 0] [] M :=
  mat_unf gF gT [68, 102, 116, 193] 60 264 102 [rv 11 100, iv x1, none, none, jv x4, none, jv x6, none, iv x8, iv x9, none, none, none] [] M
set_option maxRecDepth 20000 in
theorem s_GaugeNetModel_odds_116 (x1 : Int) (x4 : Int) (x6 : Int) (x8 : Int) (x10 : Int) (x12 : Int) (M : mM) : gA 264 116 [rv 11 100, iv x1, none, none, jv x4, none, jv x6, none, iv x8, none, jv x10, none, iv x12] [] M =
if 6 ≤ x12 then
bJ (gC 259 [jv x10] M) fun c1 M1 =>
if (lcmp c1 x4) ≤ 0 then
gA 264 193 [rv 11 100, iv x1, none, none, jv x4, none, jv x6, none, iv x8, iv 0, none, none, none] [] M1
else
gA 264 193 [rv 11 100, iv x1, none, none, jv x4, none, jv x6, none, iv (w32 (x8 + 1)), iv 0, none, none, none] [] M1
else
if 0 ≤ x1 ∧ x1 < 16384 then
if ¬ (and32 (shr32 (M 127 (x1).toNat) (w32 (8 + x12))) 1) = 1 then
gA 264 116 [rv 11 100, iv x1, none, none, jv x4, none, jv x6, none, iv x8, none, jv x10, none, iv (w32 (x12 + 1))] [] M
else
if 0 ≤ (w32 ((w32 ((w32 (14 * x1)) + 8)) + x12)) ∧ (w32 ((w32 ((w32 (14 * x1)) + 8)) + x12)) < 57344 then
if 0 ≤ x12 ∧ x12 < 6 then
gA 264 116 [rv 11 100, iv x1, none, none, jv x4, none, jv x6, none, iv x8, none, jv (w64 (x10 + (w64 ((M 128 (w32 ((w32 ((w32 (14 * x1)) + 8)) + x12)).toNat) * (M 135 (x12).toNat))))), none, iv (w32 (x12 + 1))] [] M
else none
else none
else none :=
  mat_unf gF gT [68, 102, 116, 193] 60 264 116 [rv 11 100, iv x1, none, none, jv x4, none, jv x6, none, iv x8, none, jv x10, none, iv x12] [] M
set_option maxRecDepth 20000 in
theorem s_GaugeNetModel_odds_193 (x1 : Int) (x4 : Int) (x6 : Int) (x8 : Int) (x9 : Int) (M : mM) : gA 264 193 [rv 11 100, iv x1, none, none, jv x4, none, jv x6, none, iv x8, iv x9, none, none, none] [] M =
if 6 ≤ x9 then
if 6 ≤ x9 then
gA 264 102 [rv 11 100, iv x1, none, none, jv x4, none, jv x6, none, iv x8, iv x9, none, none, none] [] M
else
if 0 ≤ x9 ∧ x9 < 6 then
if 0 ≤ x9 ∧ x9 < 6 then
gA 264 102 [rv 11 100, iv x1, none, none, jv x4, none, jv x6, none, iv x8, iv x9, none, none, none] [] (st M 135 (x9).toNat (w32 ((M 135 (x9).toNat) + 1)))
else none
else none
else
if 0 ≤ x9 ∧ x9 < 6 then
bI (gC 265 [rv 11 100, iv x1, iv x9] M) fun c1 M1 =>
if ¬ (M 135 (x9).toNat) = c1 then
if 6 ≤ x9 then
gA 264 102 [rv 11 100, iv x1, none, none, jv x4, none, jv x6, none, iv x8, iv x9, none, none, none] [] M1
else
if 0 ≤ x9 ∧ x9 < 6 then
if 0 ≤ x9 ∧ x9 < 6 then
gA 264 102 [rv 11 100, iv x1, none, none, jv x4, none, jv x6, none, iv x8, iv x9, none, none, none] [] (st M1 135 (x9).toNat (w32 ((M1 135 (x9).toNat) + 1)))
else none
else none
else
bI (gC 265 [rv 11 100, iv x1, iv x9] M1) fun c2 M2 =>
if 0 ≤ x9 ∧ x9 < 6 then
gA 264 193 [rv 11 100, iv x1, none, none, jv x4, none, jv x6, none, iv x8, iv (w32 (x9 + 1)), none, none, none] [] (st M2 135 (x9).toNat (w32 (-c2)))
else none
else none :=
  mat_unf gF gT [68, 102, 116, 193] 60 264 193 [rv 11 100, iv x1, none, none, jv x4, none, jv x6, none, iv x8, iv x9, none, none, none] [] M
set_option maxRecDepth 20000 in
theorem e_GaugeNetModel_noise (x1 : Int) (x2 : Int) (M : mM) : gC 265 [rv 11 100, iv x1, iv x2] M =
if 0 ≤ x1 ∧ x1 < 16384 then
if ¬ (and32 (shr32 (M 127 (x1).toNat) (w32 (8 + x2))) 1) = 1 then
some (iv 0, M)
else
if 0 ≤ (w32 ((w32 (6 * (M 100 18))) + x2)) ∧ (w32 ((w32 (6 * (M 100 18))) + x2)) < 12 then
some (iv (M 117 (w32 ((w32 (6 * (M 100 18))) + x2)).toNat), M)
else none
else none :=
  mat_unf gF gT [] 60 265 0 [rv 11 100, iv x1, iv x2] [] M
set_option maxRecDepth 20000 in
theorem e_GaugeNetModel_sets (x1 : Int) (M : mM) : gC 266 [rv 11 100, iv x1] M =
bV (gC 267 [rv 11 100] M) fun M1 =>
bV (gC 268 [rv 11 100, iv x1] M1) fun M2 =>
some (iv (M2 100 57), M2) :=
  mat_unf gF gT [] 60 266 0 [rv 11 100, iv x1] [] M
set_option maxRecDepth 20000 in
theorem e_GaugeNetModel_hears  (M : mM) : gC 267 [rv 11 100] M =
bV (gC 223 [rv 11 100] M) fun M1 =>
gA 267 6 [rv 11 100, iv 0] [] M1 :=
  mat_unf gF gT [6] 60 267 0 [rv 11 100, none] [] M
set_option maxRecDepth 20000 in
theorem s_GaugeNetModel_hears_6 (x1 : Int) (M : mM) : gA 267 6 [rv 11 100, iv x1] [] M =
if (M 100 45) ≤ x1 then
some (none, M)
else
if 0 ≤ x1 ∧ x1 < 4096 then
if (M 129 (x1).toNat) = 0 then
if 0 ≤ x1 ∧ x1 < 4096 then
gA 267 6 [rv 11 100, iv (w32 (x1 + 1))] [] (st M 136 (x1).toNat 0)
else none
else
bI (gC 261 [rv 11 100, iv x1] M) fun c1 M1 =>
if c1 = 0 then
if 0 ≤ x1 ∧ x1 < 4096 then
gA 267 6 [rv 11 100, iv (w32 (x1 + 1))] [] (st M1 136 (x1).toNat 0)
else none
else
if 0 ≤ x1 ∧ x1 < 4096 then
gA 267 6 [rv 11 100, iv (w32 (x1 + 1))] [] (st M1 136 (x1).toNat 1)
else none
else none :=
  mat_unf gF gT [6] 60 267 6 [rv 11 100, iv x1] [] M
set_option maxRecDepth 20000 in
theorem e_GaugeNetModel_hits (x1 : Int) (M : mM) : gC 268 [rv 11 100, iv x1] M =
gA 268 7 [rv 11 100, iv x1, iv 0, none, none, none] [] (st M 100 57 0) :=
  mat_unf gF gT [7, 14, 54] 60 268 0 [rv 11 100, iv x1, none, none, none, none] [] M
set_option maxRecDepth 20000 in
theorem s_GaugeNetModel_hits_7 (x1 : Int) (x2 : Int) (M : mM) : gA 268 7 [rv 11 100, iv x1, iv x2, none, none, none] [] M =
if 4 ≤ x2 then
some (none, M)
else
gA 268 14 [rv 11 100, iv x1, iv x2, iv 0, none, none] [] M :=
  mat_unf gF gT [7, 14, 54] 60 268 7 [rv 11 100, iv x1, iv x2, none, none, none] [] M
set_option maxRecDepth 20000 in
theorem s_GaugeNetModel_hits_14 (x1 : Int) (x2 : Int) (x3 : Int) (M : mM) : gA 268 14 [rv 11 100, iv x1, iv x2, iv x3, none, none] [] M =
if 0 ≤ (M 100 18) ∧ (M 100 18) < 2 then
if (shl32 1 (M 120 (M 100 18).toNat)) ≤ x3 then
gA 268 7 [rv 11 100, iv x1, iv (w32 (x2 + 1)), none, none, none] [] M
else
bI (gC 224 [iv x3] M) fun c1 M1 =>
if ¬ c1 = x2 then
gA 268 14 [rv 11 100, iv x1, iv x2, iv (w32 (x3 + 1)), none, none] [] M1
else
bI (gC 269 [rv 11 100, iv x3] M1) fun c2 M2 =>
if ¬ c2 = 0 then
gA 268 54 [rv 11 100, iv x1, iv x2, iv x3, iv 1, iv 0] [] M2
else
gA 268 14 [rv 11 100, iv x1, iv x2, iv (w32 (x3 + 1)), none, none] [] M2
else none :=
  mat_unf gF gT [7, 14, 54] 60 268 14 [rv 11 100, iv x1, iv x2, iv x3, none, none] [] M
set_option maxRecDepth 20000 in
theorem s_GaugeNetModel_hits_54 (x1 : Int) (x2 : Int) (x3 : Int) (x4 : Int) (x5 : Int) (M : mM) : gA 268 54 [rv 11 100, iv x1, iv x2, iv x3, iv x4, iv x5] [] M =
if 0 ≤ (M 100 18) ∧ (M 100 18) < 2 then
if (M 120 (M 100 18).toNat) ≤ x5 then
if x4 = 0 then
gA 268 14 [rv 11 100, iv x1, iv x2, iv (w32 (x3 + 1)), none, none] [] M
else
if x1 = 0 then
if 0 ≤ (M 100 57) ∧ (M 100 57) < 100 then
gA 268 14 [rv 11 100, iv x1, iv x2, iv (w32 (x3 + 1)), none, none] [] (st (st M 137 (M 100 57).toNat x3) 100 57 (w32 (((st M 137 (M 100 57).toNat x3) 100 57) + 1)))
else none
else
bI (gC 271 [rv 11 100, iv x3] M) fun c1 M1 =>
if ¬ c1 = 0 then
if 0 ≤ (M1 100 57) ∧ (M1 100 57) < 100 then
gA 268 14 [rv 11 100, iv x1, iv x2, iv (w32 (x3 + 1)), none, none] [] (st (st M1 137 (M1 100 57).toNat x3) 100 57 (w32 (((st M1 137 (M1 100 57).toNat x3) 100 57) + 1)))
else none
else
gA 268 14 [rv 11 100, iv x1, iv x2, iv (w32 (x3 + 1)), none, none] [] M1
else
if ¬ (and32 (shr32 x3 x5) 1) = 1 then
gA 268 54 [rv 11 100, iv x1, iv x2, iv x3, iv x4, iv (w32 (x5 + 1))] [] M
else
bI (gC 269 [rv 11 100, iv (and32 x3 (xor32 (shl32 1 x5) (-1)))] M) fun c2 M2 =>
if c2 = 0 then
gA 268 54 [rv 11 100, iv x1, iv x2, iv x3, iv x4, iv (w32 (x5 + 1))] [] M2
else
gA 268 54 [rv 11 100, iv x1, iv x2, iv x3, iv 0, iv (w32 (x5 + 1))] [] M2
else none :=
  mat_unf gF gT [7, 14, 54] 60 268 54 [rv 11 100, iv x1, iv x2, iv x3, iv x4, iv x5] [] M
set_option maxRecDepth 20000 in
theorem e_GaugeNetModel_isHit (x1 : Int) (M : mM) : gC 269 [rv 11 100, iv x1] M =
bI (gC 270 [rv 11 100, iv x1] M) fun c1 M1 =>
gA 269 8 [rv 11 100, none, iv c1, iv 0] [] M1 :=
  mat_unf gF gT [8] 60 269 0 [rv 11 100, iv x1, none, none] [] M
set_option maxRecDepth 20000 in
theorem s_GaugeNetModel_isHit_8 (x2 : Int) (x3 : Int) (M : mM) : gA 269 8 [rv 11 100, none, iv x2, iv x3] [] M =
if (M 100 45) ≤ x3 then
some (iv 1, M)
else
if 0 ≤ x3 ∧ x3 < 4096 then
if (M 136 (x3).toNat) = 0 then
gA 269 8 [rv 11 100, none, iv x2, iv (w32 (x3 + 1))] [] M
else
if 0 ≤ x3 ∧ x3 < 16384 then
if ¬ (and32 (M 127 (x3).toNat) x2) = 0 then
gA 269 8 [rv 11 100, none, iv x2, iv (w32 (x3 + 1))] [] M
else
some (iv 0, M)
else none
else none :=
  mat_unf gF gT [8] 60 269 8 [rv 11 100, none, iv x2, iv x3] [] M
set_option maxRecDepth 20000 in
theorem e_GaugeNetModel_rowsOf (x1 : Int) (M : mM) : gC 270 [rv 11 100, iv x1] M =
gA 270 4 [rv 11 100, iv x1, iv 0, iv 0] [] M :=
  mat_unf gF gT [4] 60 270 0 [rv 11 100, iv x1, none, none] [] M
set_option maxRecDepth 20000 in
theorem s_GaugeNetModel_rowsOf_4 (x1 : Int) (x2 : Int) (x3 : Int) (M : mM) : gA 270 4 [rv 11 100, iv x1, iv x2, iv x3] [] M =
if 0 ≤ (M 100 18) ∧ (M 100 18) < 2 then
if (M 120 (M 100 18).toNat) ≤ x3 then
some (iv x2, M)
else
if ¬ (and32 (shr32 x1 x3) 1) = 1 then
gA 270 4 [rv 11 100, iv x1, iv x2, iv (w32 (x3 + 1))] [] M
else
bI (gC 233 [rv 11 100, iv x3] M) fun c1 M1 =>
gA 270 4 [rv 11 100, iv x1, iv (or32 x2 (shl32 1 c1)), iv (w32 (x3 + 1))] [] M1
else none :=
  mat_unf gF gT [4] 60 270 4 [rv 11 100, iv x1, iv x2, iv x3] [] M
set_option maxRecDepth 20000 in
theorem e_GaugeNetModel_isQuiet (x1 : Int) (M : mM) : gC 271 [rv 11 100, iv x1] M =
bI (gC 270 [rv 11 100, iv x1] M) fun c1 M1 =>
gA 271 8 [rv 11 100, none, iv c1, iv 0] [] M1 :=
  mat_unf gF gT [8] 60 271 0 [rv 11 100, iv x1, none, none] [] M
set_option maxRecDepth 20000 in
theorem s_GaugeNetModel_isQuiet_8 (x2 : Int) (x3 : Int) (M : mM) : gA 271 8 [rv 11 100, none, iv x2, iv x3] [] M =
if (M 100 45) ≤ x3 then
some (iv 1, M)
else
if 0 ≤ x3 ∧ x3 < 4096 then
if (M 129 (x3).toNat) = 0 then
gA 271 8 [rv 11 100, none, iv x2, iv (w32 (x3 + 1))] [] M
else
if 0 ≤ x3 ∧ x3 < 4096 then
if ¬ (M 136 (x3).toNat) = 0 then
gA 271 8 [rv 11 100, none, iv x2, iv (w32 (x3 + 1))] [] M
else
if 0 ≤ x3 ∧ x3 < 16384 then
if (and32 (M 127 (x3).toNat) x2) = 0 then
gA 271 8 [rv 11 100, none, iv x2, iv (w32 (x3 + 1))] [] M
else
some (iv 0, M)
else none
else none
else none :=
  mat_unf gF gT [8] 60 271 8 [rv 11 100, none, iv x2, iv x3] [] M
set_option maxRecDepth 20000 in
theorem e_GaugeNetModel_set (x1 : Int) (x2 : Int) (M : mM) : gC 272 [rv 11 100, iv x1, iv x2] M =
bV (gC 267 [rv 11 100] M) fun M1 =>
bV (gC 268 [rv 11 100, iv x1] M1) fun M2 =>
if x2 < 0 then
some (iv (-1), M2)
else
if (M2 100 57) ≤ x2 then
some (iv (-1), M2)
else
if 0 ≤ x2 ∧ x2 < 100 then
some (iv (M2 137 (x2).toNat), M2)
else none :=
  mat_unf gF gT [] 60 272 0 [rv 11 100, iv x1, iv x2] [] M
set_option maxRecDepth 20000 in
theorem e_GaugeNetModel_look  (M : mM) : gC 273 [rv 11 100] M =
if 0 ≤ (M 100 18) ∧ (M 100 18) < 2 then
if ¬ (M 120 (M 100 18).toNat) = 0 then
bV (gC 267 [rv 11 100] M) fun M1 =>
bV (gC 268 [rv 11 100, iv 0] M1) fun M2 =>
gA 273 30 [rv 11 100, iv (-1), iv 0, iv 0, none, none] [] M2
else
some (iv (-2), M)
else none :=
  mat_unf gF gT [30, 49] 60 273 0 [rv 11 100, none, none, none, none, none] [] M
set_option maxRecDepth 20000 in
theorem s_GaugeNetModel_look_30 (x1 : Int) (x2 : Int) (x3 : Int) (M : mM) : gA 273 30 [rv 11 100, iv x1, iv x2, iv x3, none, none] [] M =
if 0 ≤ (M 100 18) ∧ (M 100 18) < 2 then
if (M 120 (M 100 18).toNat) ≤ x3 then
some (iv x1, M)
else
gA 273 49 [rv 11 100, iv x1, iv x2, iv x3, iv 0, iv 0] [] M
else none :=
  mat_unf gF gT [30, 49] 60 273 30 [rv 11 100, iv x1, iv x2, iv x3, none, none] [] M
set_option maxRecDepth 20000 in
theorem s_GaugeNetModel_look_49 (x1 : Int) (x2 : Int) (x3 : Int) (x4 : Int) (x5 : Int) (M : mM) : gA 273 49 [rv 11 100, iv x1, iv x2, iv x3, iv x4, iv x5] [] M =
if (M 100 57) ≤ x5 then
if x4 ≤ (w32 ((M 100 57) - x4)) then
if x1 = (-1) then
gA 273 30 [rv 11 100, iv x3, iv (w32 ((M 100 57) - x4)), iv (w32 (x3 + 1)), none, none] [] M
else
if (w32 ((M 100 57) - x4)) < x2 then
gA 273 30 [rv 11 100, iv x3, iv (w32 ((M 100 57) - x4)), iv (w32 (x3 + 1)), none, none] [] M
else
gA 273 30 [rv 11 100, iv x1, iv x2, iv (w32 (x3 + 1)), none, none] [] M
else
if x1 = (-1) then
gA 273 30 [rv 11 100, iv x3, iv x4, iv (w32 (x3 + 1)), none, none] [] M
else
if x4 < x2 then
gA 273 30 [rv 11 100, iv x3, iv x4, iv (w32 (x3 + 1)), none, none] [] M
else
gA 273 30 [rv 11 100, iv x1, iv x2, iv (w32 (x3 + 1)), none, none] [] M
else
if 0 ≤ x5 ∧ x5 < 100 then
gA 273 49 [rv 11 100, iv x1, iv x2, iv x3, iv (w32 (x4 + (and32 (shr32 (M 137 (x5).toNat) x3) 1))), iv (w32 (x5 + 1))] [] M
else none :=
  mat_unf gF gT [30, 49] 60 273 49 [rv 11 100, iv x1, iv x2, iv x3, iv x4, iv x5] [] M
set_option maxRecDepth 20000 in
theorem e_GaugeNetModel_hide (x1 : Int) (x2 : Int) (M : mM) : gC 274 [rv 11 100, iv x1, iv x2] M =
bI (gC 232 [rv 11 100, iv x1] M) fun c1 M1 =>
if c1 = 0 then
some (iv (-1), M1)
else
bI (gC 232 [rv 11 100, iv x2] M1) fun c2 M2 =>
if c2 = 0 then
some (iv (-1), M2)
else
if ¬ x1 = x2 then
bI (gC 233 [rv 11 100, iv x1] M2) fun c3 M3 =>
bI (gC 233 [rv 11 100, iv x2] M3) fun c4 M4 =>
if ¬ c3 = c4 then
bV (gC 223 [rv 11 100] M4) fun M5 =>
gA 274 50 [rv 11 100, iv x1, iv x2, jv 0, none, jv 0, none, iv 0, none, none, none, none, none, none] [] M5
else
some (iv 0, M4)
else
some (iv (-1), M2) :=
  mat_unf gF gT [50] 60 274 0 [rv 11 100, iv x1, iv x2, none, none, none, none, none, none, none, none, none, none, none] [] M
set_option maxRecDepth 20000 in
theorem s_GaugeNetModel_hide_50 (x1 : Int) (x2 : Int) (x3 : Int) (x5 : Int) (x7 : Int) (M : mM) : gA 274 50 [rv 11 100, iv x1, iv x2, jv x3, none, jv x5, none, iv x7, none, none, none, none, none, none] [] M =
if (M 100 45) ≤ x7 then
if ¬ (lcmp x3 0) = 0 then
some (iv 1, M)
else
some (iv 0, M)
else
if 0 ≤ x7 ∧ x7 < 4096 then
if ¬ (M 129 (x7).toNat) = 0 then
bJ (gC 263 [rv 11 100, iv x7, iv x1] M) fun c1 M1 =>
bJ (gC 263 [rv 11 100, iv x7, iv x2] M1) fun c2 M2 =>
if ¬ (lcmp c1 0) = 0 then
if (lcmp c1 0) = 0 then
some (iv 0, M2)
else
if ¬ (lcmp c2 0) = 0 then
bJ (gC 228 [jv c1, jv c2] M2) fun c3 M3 =>
if 0 ≤ (lcmp c1 0) then
if (lcmp x3 0) = 0 then
if c3 = 0 then none else
if c3 = 0 then none else
gA 274 50 [rv 11 100, iv x1, iv x2, jv (w64 ((c1).tdiv c3)), none, jv (w64 ((c2).tdiv c3)), none, iv (w32 (x7 + 1)), none, none, none, none, none, none] [] M3
else
if c3 = 0 then none else
if ¬ (lcmp (w64 ((c1).tdiv c3)) x3) = 0 then
some (iv 0, M3)
else
if c3 = 0 then none else
if (lcmp (w64 ((c2).tdiv c3)) x5) = 0 then
if c3 = 0 then none else
if c3 = 0 then none else
gA 274 50 [rv 11 100, iv x1, iv x2, jv (w64 ((c1).tdiv c3)), none, jv (w64 ((c2).tdiv c3)), none, iv (w32 (x7 + 1)), none, none, none, none, none, none] [] M3
else
some (iv 0, M3)
else
if (lcmp x3 0) = 0 then
if (w64 (-c3)) = 0 then none else
if (w64 (-c3)) = 0 then none else
gA 274 50 [rv 11 100, iv x1, iv x2, jv (w64 ((c1).tdiv (w64 (-c3)))), none, jv (w64 ((c2).tdiv (w64 (-c3)))), none, iv (w32 (x7 + 1)), none, none, none, none, none, none] [] M3
else
if (w64 (-c3)) = 0 then none else
if ¬ (lcmp (w64 ((c1).tdiv (w64 (-c3)))) x3) = 0 then
some (iv 0, M3)
else
if (w64 (-c3)) = 0 then none else
if (lcmp (w64 ((c2).tdiv (w64 (-c3)))) x5) = 0 then
if (w64 (-c3)) = 0 then none else
if (w64 (-c3)) = 0 then none else
gA 274 50 [rv 11 100, iv x1, iv x2, jv (w64 ((c1).tdiv (w64 (-c3)))), none, jv (w64 ((c2).tdiv (w64 (-c3)))), none, iv (w32 (x7 + 1)), none, none, none, none, none, none] [] M3
else
some (iv 0, M3)
else
some (iv 0, M2)
else
if ¬ (lcmp c2 0) = 0 then
if (lcmp c1 0) = 0 then
some (iv 0, M2)
else
if ¬ (lcmp c2 0) = 0 then
bJ (gC 228 [jv c1, jv c2] M2) fun c4 M4 =>
if 0 ≤ (lcmp c1 0) then
if (lcmp x3 0) = 0 then
if c4 = 0 then none else
if c4 = 0 then none else
gA 274 50 [rv 11 100, iv x1, iv x2, jv (w64 ((c1).tdiv c4)), none, jv (w64 ((c2).tdiv c4)), none, iv (w32 (x7 + 1)), none, none, none, none, none, none] [] M4
else
if c4 = 0 then none else
if ¬ (lcmp (w64 ((c1).tdiv c4)) x3) = 0 then
some (iv 0, M4)
else
if c4 = 0 then none else
if (lcmp (w64 ((c2).tdiv c4)) x5) = 0 then
if c4 = 0 then none else
if c4 = 0 then none else
gA 274 50 [rv 11 100, iv x1, iv x2, jv (w64 ((c1).tdiv c4)), none, jv (w64 ((c2).tdiv c4)), none, iv (w32 (x7 + 1)), none, none, none, none, none, none] [] M4
else
some (iv 0, M4)
else
if (lcmp x3 0) = 0 then
if (w64 (-c4)) = 0 then none else
if (w64 (-c4)) = 0 then none else
gA 274 50 [rv 11 100, iv x1, iv x2, jv (w64 ((c1).tdiv (w64 (-c4)))), none, jv (w64 ((c2).tdiv (w64 (-c4)))), none, iv (w32 (x7 + 1)), none, none, none, none, none, none] [] M4
else
if (w64 (-c4)) = 0 then none else
if ¬ (lcmp (w64 ((c1).tdiv (w64 (-c4)))) x3) = 0 then
some (iv 0, M4)
else
if (w64 (-c4)) = 0 then none else
if (lcmp (w64 ((c2).tdiv (w64 (-c4)))) x5) = 0 then
if (w64 (-c4)) = 0 then none else
if (w64 (-c4)) = 0 then none else
gA 274 50 [rv 11 100, iv x1, iv x2, jv (w64 ((c1).tdiv (w64 (-c4)))), none, jv (w64 ((c2).tdiv (w64 (-c4)))), none, iv (w32 (x7 + 1)), none, none, none, none, none, none] [] M4
else
some (iv 0, M4)
else
some (iv 0, M2)
else
gA 274 50 [rv 11 100, iv x1, iv x2, jv x3, none, jv x5, none, iv (w32 (x7 + 1)), none, none, none, none, none, none] [] M2
else
gA 274 50 [rv 11 100, iv x1, iv x2, jv x3, none, jv x5, none, iv (w32 (x7 + 1)), none, none, none, none, none, none] [] M
else none :=
  mat_unf gF gT [50] 60 274 50 [rv 11 100, iv x1, iv x2, jv x3, none, jv x5, none, iv x7, none, none, none, none, none, none] [] M
set_option maxRecDepth 20000 in
theorem e_GaugeNetModel_still (x1 : Int) (M : mM) : gC 275 [rv 11 100, iv x1] M =
if x1 < 0 then
some (iv (-1), M)
else
bI (gC 276 [rv 11 100, iv x1] M) fun c1 M1 =>
if ¬ c1 = 0 then
bV (gC 223 [rv 11 100] M1) fun M2 =>
gA 275 22 [rv 11 100, iv x1, iv 0, iv 0] [] M2
else
some (iv (-1), M1) :=
  mat_unf gF gT [22] 60 275 0 [rv 11 100, iv x1, none, none] [] M
set_option maxRecDepth 20000 in
theorem s_GaugeNetModel_still_22 (x1 : Int) (x2 : Int) (x3 : Int) (M : mM) : gA 275 22 [rv 11 100, iv x1, iv x2, iv x3] [] M =
if (M 100 45) ≤ x3 then
some (iv x2, M)
else
if 0 ≤ x3 ∧ x3 < 16384 then
if ¬ (and32 (shr32 (M 127 (x3).toNat) x1) 1) = 0 then
gA 275 22 [rv 11 100, iv x1, iv x2, iv (w32 (x3 + 1))] [] M
else
gA 275 22 [rv 11 100, iv x1, iv (w32 (x2 + 1)), iv (w32 (x3 + 1))] [] M
else none :=
  mat_unf gF gT [22] 60 275 22 [rv 11 100, iv x1, iv x2, iv x3] [] M
set_option maxRecDepth 20000 in
theorem e_GaugeNetModel_isRow (x1 : Int) (M : mM) : gC 276 [rv 11 100, iv x1] M =
if 8 ≤ x1 then
bI (gC 206 [rv 11 100, iv (w32 (x1 - 8))] M) fun c1 M1 =>
if 0 ≤ c1 ∧ c1 < 2 then some (iv c1, M1) else none
else
if 0 ≤ (M 100 18) ∧ (M 100 18) < 2 then
bI (gC 204 [iv x1, iv 0, iv (w32 ((M 112 (M 100 18).toNat) - 1))] M) fun c2 M2 =>
if 0 ≤ c2 ∧ c2 < 2 then some (iv c2, M2) else none
else none :=
  mat_unf gF gT [] 60 276 0 [rv 11 100, iv x1] [] M
set_option maxRecDepth 20000 in
theorem e_GaugeNetModel_judged (x1 : Int) (x2 : Int) (x3 : Int) (M : mM) : gC 277 [rv 11 100, iv x1, iv x2, iv x3] M =
bI (gC 232 [rv 11 100, iv x1] M) fun c1 M1 =>
if c1 = 0 then
some (iv (-1), M1)
else
bI (gC 204 [iv x2, iv 1, iv 200] M1) fun c2 M2 =>
if c2 = 0 then
some (iv (-1), M2)
else
bI (gC 204 [iv x3, iv 0, iv 2] M2) fun c3 M3 =>
if ¬ c3 = 0 then
bV (gC 223 [rv 11 100] M3) fun M4 =>
gA 277 40 [rv 11 100, iv x1, iv x2, iv x3, iv 0, iv 1, none, none] [] M4
else
some (iv (-1), M3) :=
  mat_unf gF gT [40] 60 277 0 [rv 11 100, iv x1, iv x2, iv x3, none, none, none, none] [] M
set_option maxRecDepth 20000 in
theorem s_GaugeNetModel_judged_40 (x1 : Int) (x2 : Int) (x3 : Int) (x4 : Int) (x5 : Int) (M : mM) : gA 277 40 [rv 11 100, iv x1, iv x2, iv x3, iv x4, iv x5, none, none] [] M =
if x2 < x5 then
some (iv x4, M)
else
bI (gC 278 [rv 11 100, iv x1, iv x5] M) fun c1 M1 =>
if ¬ c1 = 0 then
if ¬ c1 = (shl32 1 x1) then
if ¬ 2 = x3 then
gA 277 40 [rv 11 100, iv x1, iv x2, iv x3, iv x4, iv (w32 (x5 + 1)), none, none] [] M1
else
gA 277 40 [rv 11 100, iv x1, iv x2, iv x3, iv (w32 (x4 + 1)), iv (w32 (x5 + 1)), none, none] [] M1
else
if ¬ 0 = x3 then
gA 277 40 [rv 11 100, iv x1, iv x2, iv x3, iv x4, iv (w32 (x5 + 1)), none, none] [] M1
else
gA 277 40 [rv 11 100, iv x1, iv x2, iv x3, iv (w32 (x4 + 1)), iv (w32 (x5 + 1)), none, none] [] M1
else
if ¬ 1 = x3 then
gA 277 40 [rv 11 100, iv x1, iv x2, iv x3, iv x4, iv (w32 (x5 + 1)), none, none] [] M1
else
gA 277 40 [rv 11 100, iv x1, iv x2, iv x3, iv (w32 (x4 + 1)), iv (w32 (x5 + 1)), none, none] [] M1 :=
  mat_unf gF gT [40] 60 277 40 [rv 11 100, iv x1, iv x2, iv x3, iv x4, iv x5, none, none] [] M
set_option maxRecDepth 20000 in
theorem e_GaugeNetModel_firstSet (x1 : Int) (x2 : Int) (M : mM) : gC 278 [rv 11 100, iv x1, iv x2] M =
gA 278 5 [rv 11 100, iv x1, iv x2, iv 0, iv 0, none, none] [] M :=
  mat_unf gF gT [5] 60 278 0 [rv 11 100, iv x1, iv x2, none, none, none, none] [] M
set_option maxRecDepth 20000 in
theorem s_GaugeNetModel_firstSet_5 (x1 : Int) (x2 : Int) (x3 : Int) (x4 : Int) (M : mM) : gA 278 5 [rv 11 100, iv x1, iv x2, iv x3, iv x4, none, none] [] M =
if (M 100 45) ≤ x4 then
if ¬ x3 = 0 then
bV (gC 268 [rv 11 100, iv 0] M) fun M1 =>
if ¬ (M1 100 57) = 0 then
some (iv (M1 137 0), M1)
else
some (iv (-2), M1)
else
some (iv 0, M)
else
if 0 ≤ x4 ∧ x4 < 4096 then
if (M 129 (x4).toNat) = 0 then
if (lcmp 0 0) = 0 then
if 0 ≤ x4 ∧ x4 < 4096 then
if ¬ x3 = 0 then
gA 278 5 [rv 11 100, iv x1, iv x2, iv 1, iv (w32 (x4 + 1)), none, none] [] (st M 136 (x4).toNat 0)
else
if 0 ≤ x4 ∧ x4 < 4096 then
if ((st M 136 (x4).toNat 0) 136 (x4).toNat) = 0 then
gA 278 5 [rv 11 100, iv x1, iv x2, iv 0, iv (w32 (x4 + 1)), none, none] [] (st M 136 (x4).toNat 0)
else
gA 278 5 [rv 11 100, iv x1, iv x2, iv 1, iv (w32 (x4 + 1)), none, none] [] (st M 136 (x4).toNat 0)
else none
else none
else
bJ (gC 258 [rv 11 100, iv x4] M) fun c2 M2 =>
if 0 = 0 then none else
if (lcmp x2 (w64 ((c2).tdiv 0))) ≤ 0 then
if 0 ≤ x4 ∧ x4 < 4096 then
if ¬ x3 = 0 then
gA 278 5 [rv 11 100, iv x1, iv x2, iv 1, iv (w32 (x4 + 1)), none, none] [] (st M2 136 (x4).toNat 0)
else
if 0 ≤ x4 ∧ x4 < 4096 then
if ((st M2 136 (x4).toNat 0) 136 (x4).toNat) = 0 then
gA 278 5 [rv 11 100, iv x1, iv x2, iv 0, iv (w32 (x4 + 1)), none, none] [] (st M2 136 (x4).toNat 0)
else
gA 278 5 [rv 11 100, iv x1, iv x2, iv 1, iv (w32 (x4 + 1)), none, none] [] (st M2 136 (x4).toNat 0)
else none
else none
else
if 0 ≤ x4 ∧ x4 < 4096 then
if ¬ x3 = 0 then
gA 278 5 [rv 11 100, iv x1, iv x2, iv 1, iv (w32 (x4 + 1)), none, none] [] (st M2 136 (x4).toNat 1)
else
if 0 ≤ x4 ∧ x4 < 4096 then
if ((st M2 136 (x4).toNat 1) 136 (x4).toNat) = 0 then
gA 278 5 [rv 11 100, iv x1, iv x2, iv 0, iv (w32 (x4 + 1)), none, none] [] (st M2 136 (x4).toNat 1)
else
gA 278 5 [rv 11 100, iv x1, iv x2, iv 1, iv (w32 (x4 + 1)), none, none] [] (st M2 136 (x4).toNat 1)
else none
else none
else
bJ (gC 263 [rv 11 100, iv x4, iv x1] M) fun c3 M3 =>
bJ (gC 259 [jv c3] M3) fun c4 M4 =>
if (lcmp c4 0) = 0 then
if 0 ≤ x4 ∧ x4 < 4096 then
if ¬ x3 = 0 then
gA 278 5 [rv 11 100, iv x1, iv x2, iv 1, iv (w32 (x4 + 1)), none, none] [] (st M4 136 (x4).toNat 0)
else
if 0 ≤ x4 ∧ x4 < 4096 then
if ((st M4 136 (x4).toNat 0) 136 (x4).toNat) = 0 then
gA 278 5 [rv 11 100, iv x1, iv x2, iv 0, iv (w32 (x4 + 1)), none, none] [] (st M4 136 (x4).toNat 0)
else
gA 278 5 [rv 11 100, iv x1, iv x2, iv 1, iv (w32 (x4 + 1)), none, none] [] (st M4 136 (x4).toNat 0)
else none
else none
else
bJ (gC 258 [rv 11 100, iv x4] M4) fun c5 M5 =>
if c4 = 0 then none else
if (lcmp x2 (w64 ((c5).tdiv c4))) ≤ 0 then
if 0 ≤ x4 ∧ x4 < 4096 then
if ¬ x3 = 0 then
gA 278 5 [rv 11 100, iv x1, iv x2, iv 1, iv (w32 (x4 + 1)), none, none] [] (st M5 136 (x4).toNat 0)
else
if 0 ≤ x4 ∧ x4 < 4096 then
if ((st M5 136 (x4).toNat 0) 136 (x4).toNat) = 0 then
gA 278 5 [rv 11 100, iv x1, iv x2, iv 0, iv (w32 (x4 + 1)), none, none] [] (st M5 136 (x4).toNat 0)
else
gA 278 5 [rv 11 100, iv x1, iv x2, iv 1, iv (w32 (x4 + 1)), none, none] [] (st M5 136 (x4).toNat 0)
else none
else none
else
if 0 ≤ x4 ∧ x4 < 4096 then
if ¬ x3 = 0 then
gA 278 5 [rv 11 100, iv x1, iv x2, iv 1, iv (w32 (x4 + 1)), none, none] [] (st M5 136 (x4).toNat 1)
else
if 0 ≤ x4 ∧ x4 < 4096 then
if ((st M5 136 (x4).toNat 1) 136 (x4).toNat) = 0 then
gA 278 5 [rv 11 100, iv x1, iv x2, iv 0, iv (w32 (x4 + 1)), none, none] [] (st M5 136 (x4).toNat 1)
else
gA 278 5 [rv 11 100, iv x1, iv x2, iv 1, iv (w32 (x4 + 1)), none, none] [] (st M5 136 (x4).toNat 1)
else none
else none
else none :=
  mat_unf gF gT [5] 60 278 5 [rv 11 100, iv x1, iv x2, iv x3, iv x4, none, none] [] M
set_option maxRecDepth 20000 in
theorem e_GaugeNetModel_mistaken (x1 : Int) (x2 : Int) (M : mM) : gC 279 [rv 11 100, iv x1, iv x2] M =
bI (gC 232 [rv 11 100, iv x1] M) fun c1 M1 =>
if c1 = 0 then
some (iv (-1), M1)
else
bI (gC 204 [iv x2, iv 1, iv 9999] M1) fun c2 M2 =>
if ¬ c2 = 0 then
bV (gC 223 [rv 11 100] M2) fun M3 =>
bI (gC 278 [rv 11 100, iv x1, iv x2] M3) fun c4 M4 =>
if ¬ c4 = (shl32 1 x1) then
some (iv c4, M4)
else
some (iv 0, M4)
else
some (iv (-1), M2) :=
  mat_unf gF gT [] 60 279 0 [rv 11 100, iv x1, iv x2, none] [] M
set_option maxRecDepth 20000 in
theorem e_GaugeNetModel_count (x1 : Int) (M : mM) : gC 280 [rv 11 100, iv x1] M =
if x1 = 0 then
if 0 ≤ (M 100 18) ∧ (M 100 18) < 2 then
some (iv (M 111 (M 100 18).toNat), M)
else none
else if x1 = 1 then
if 0 ≤ (M 100 18) ∧ (M 100 18) < 2 then
some (iv (M 112 (M 100 18).toNat), M)
else none
else if x1 = 2 then
if 0 ≤ (M 100 18) ∧ (M 100 18) < 2 then
some (iv (M 115 (M 100 18).toNat), M)
else none
else if x1 = 3 then
if 0 ≤ (M 100 18) ∧ (M 100 18) < 2 then
some (iv (M 120 (M 100 18).toNat), M)
else none
else if x1 = 4 then
some (iv (M 100 35), M)
else if x1 = 5 then
some (iv (M 100 36), M)
else if x1 = 6 then
some (iv (M 100 37), M)
else if x1 = 7 then
some (iv (M 100 2), M)
else 
bI (gC 232 [rv 11 100, iv (w32 (x1 - 10))] M) fun c1 M1 =>
if c1 = 0 then
some (iv (-1), M1)
else
bI (gC 233 [rv 11 100, iv (w32 (x1 - 10))] M1) fun c2 M2 =>
some (iv c2, M2) :=
  mat_unf gF gT [] 60 280 0 [rv 11 100, iv x1] [] M
