/-! What each method does from each place on: by program, checked by unfolding. -/
set_option maxRecDepth 20000 in
theorem e_GaugeNetModel_word (x0 : Int) (x1 : Int) (x2 : Int) (x3 : Int) (x4 : Int) (x5 : Int) (x6 : Int) (M : mM) : gC 175 [iv x0, iv x1, iv x2, iv x3, iv x4, iv x5, iv x6] M =
bJ (gC 176 [jv 0, iv x0] M) fun c1 M1 =>
bJ (gC 176 [jv c1, iv x1] M1) fun c2 M2 =>
bJ (gC 176 [jv c2, iv x2] M2) fun c3 M3 =>
bJ (gC 176 [jv c3, iv x3] M3) fun c4 M4 =>
bJ (gC 176 [jv c4, iv x4] M4) fun c5 M5 =>
bJ (gC 176 [jv c5, iv x5] M5) fun c6 M6 =>
bJ (gC 176 [jv c6, iv x6] M6) fun c7 M7 =>
some (jv c7, M7) :=
  mat_unf gF gT [] 60 175 0 [iv x0, iv x1, iv x2, iv x3, iv x4, iv x5, iv x6] [] M
set_option maxRecDepth 20000 in
theorem e_GaugeNetModel_appends (x0 : Int) (x2 : Int) (M : mM) : gC 176 [jv x0, iv x2] M =
if ¬ x2 = 0 then
some (jv (w64 ((w64 (27 * x0)) + (w32 ((w32 (x2 - 97)) + 1)))), M)
else
some (jv x0, M) :=
  mat_unf gF gT [] 60 176 0 [jv x0, none, iv x2] [] M
set_option maxRecDepth 20000 in
theorem e_GaugeNetModel_feed (x1 : Int) (x2 : Int) (x3 : Int) (x4 : Int) (x5 : Int) (M : mM) : gC 177 [rv 11 100, iv x1, iv x2, iv x3, iv x4, iv x5] M =
if (w32 ((M 100 2) + 20)) ≤ 2000 then
bV (gC 178 [rv 11 100, iv x1] M) fun M1 =>
bV (gC 178 [rv 11 100, iv x2] M1) fun M2 =>
bV (gC 178 [rv 11 100, iv x3] M2) fun M3 =>
bV (gC 178 [rv 11 100, iv x4] M3) fun M4 =>
bV (gC 178 [rv 11 100, iv x5] M4) fun M5 =>
some (iv (M5 100 2), M5)
else
some (iv (-1), M) :=
  mat_unf gF gT [] 60 177 0 [rv 11 100, iv x1, iv x2, iv x3, iv x4, iv x5] [] M
set_option maxRecDepth 20000 in
theorem e_GaugeNetModel_put (x1 : Int) (M : mM) : gC 178 [rv 11 100, iv x1] M =
gA 178 3 [rv 11 100, iv x1, iv 24] [] M :=
  mat_unf gF gT [3] 60 178 0 [rv 11 100, iv x1, none] [] M
set_option maxRecDepth 20000 in
theorem s_GaugeNetModel_put_3 (x1 : Int) (x2 : Int) (M : mM) : gA 178 3 [rv 11 100, iv x1, iv x2] [] M =
if x2 < 0 then
some (none, M)
else
if 0 ≤ (M 100 2) ∧ (M 100 2) < 2000 then
gA 178 3 [rv 11 100, iv x1, iv (w32 (x2 + (-8)))] [] (st (st M 101 (M 100 2).toNat (w8 (w8 (shr32 x1 x2)))) 100 2 (w32 (((st M 101 (M 100 2).toNat (w8 (w8 (shr32 x1 x2)))) 100 2) + 1)))
else none :=
  mat_unf gF gT [3] 60 178 3 [rv 11 100, iv x1, iv x2] [] M
set_option maxRecDepth 20000 in
theorem e_GaugeNetModel_back (x1 : Int) (M : mM) : gC 179 [rv 11 100, iv x1] M =
if x1 < 0 then
some (iv (-1), M)
else
if x1 ≤ (M 100 2) then
some (iv ((st M 100 2 (w32 ((M 100 2) - x1))) 100 2), st M 100 2 (w32 ((M 100 2) - x1)))
else
some (iv (-1), M) :=
  mat_unf gF gT [] 60 179 0 [rv 11 100, iv x1] [] M
set_option maxRecDepth 20000 in
theorem e_GaugeNetModel_read  (M : mM) : gC 180 [rv 11 100] M =
gA 180 10 [rv 11 100, iv 0] [] (st M 100 4 (M 100 2)) :=
  mat_unf gF gT [10, 115, 219] 60 180 0 [rv 11 100, none] [] M
set_option maxRecDepth 20000 in
theorem s_GaugeNetModel_read_10 (x1 : Int) (M : mM) : gA 180 10 [rv 11 100, iv x1] [] M =
if (M 100 4) ≤ x1 then
bV (gC 181 [rv 11 100] (st M 100 2 0)) fun M1 =>
if 0 ≤ ((st (st (st (st (st M1 100 11 0) 100 13 0) 100 15 0) 100 19 (w32 (1 - ((st (st (st M1 100 11 0) 100 13 0) 100 15 0) 100 18)))) 100 20 0) 100 19) ∧ ((st (st (st (st (st M1 100 11 0) 100 13 0) 100 15 0) 100 19 (w32 (1 - ((st (st (st M1 100 11 0) 100 13 0) 100 15 0) 100 18)))) 100 20 0) 100 19) < 2 then
if 0 ≤ ((st (st (st (st (st (st M1 100 11 0) 100 13 0) 100 15 0) 100 19 (w32 (1 - ((st (st (st M1 100 11 0) 100 13 0) 100 15 0) 100 18)))) 100 20 0) 111 ((st (st (st (st (st M1 100 11 0) 100 13 0) 100 15 0) 100 19 (w32 (1 - ((st (st (st M1 100 11 0) 100 13 0) 100 15 0) 100 18)))) 100 20 0) 100 19).toNat 0) 100 19) ∧ ((st (st (st (st (st (st M1 100 11 0) 100 13 0) 100 15 0) 100 19 (w32 (1 - ((st (st (st M1 100 11 0) 100 13 0) 100 15 0) 100 18)))) 100 20 0) 111 ((st (st (st (st (st M1 100 11 0) 100 13 0) 100 15 0) 100 19 (w32 (1 - ((st (st (st M1 100 11 0) 100 13 0) 100 15 0) 100 18)))) 100 20 0) 100 19).toNat 0) 100 19) < 2 then
if 0 ≤ ((st (st (st (st (st (st (st M1 100 11 0) 100 13 0) 100 15 0) 100 19 (w32 (1 - ((st (st (st M1 100 11 0) 100 13 0) 100 15 0) 100 18)))) 100 20 0) 111 ((st (st (st (st (st M1 100 11 0) 100 13 0) 100 15 0) 100 19 (w32 (1 - ((st (st (st M1 100 11 0) 100 13 0) 100 15 0) 100 18)))) 100 20 0) 100 19).toNat 0) 112 ((st (st (st (st (st (st M1 100 11 0) 100 13 0) 100 15 0) 100 19 (w32 (1 - ((st (st (st M1 100 11 0) 100 13 0) 100 15 0) 100 18)))) 100 20 0) 111 ((st (st (st (st (st M1 100 11 0) 100 13 0) 100 15 0) 100 19 (w32 (1 - ((st (st (st M1 100 11 0) 100 13 0) 100 15 0) 100 18)))) 100 20 0) 100 19).toNat 0) 100 19).toNat 0) 100 19) ∧ ((st (st (st (st (st (st (st M1 100 11 0) 100 13 0) 100 15 0) 100 19 (w32 (1 - ((st (st (st M1 100 11 0) 100 13 0) 100 15 0) 100 18)))) 100 20 0) 111 ((st (st (st (st (st M1 100 11 0) 100 13 0) 100 15 0) 100 19 (w32 (1 - ((st (st (st M1 100 11 0) 100 13 0) 100 15 0) 100 18)))) 100 20 0) 100 19).toNat 0) 112 ((st (st (st (st (st (st M1 100 11 0) 100 13 0) 100 15 0) 100 19 (w32 (1 - ((st (st (st M1 100 11 0) 100 13 0) 100 15 0) 100 18)))) 100 20 0) 111 ((st (st (st (st (st M1 100 11 0) 100 13 0) 100 15 0) 100 19 (w32 (1 - ((st (st (st M1 100 11 0) 100 13 0) 100 15 0) 100 18)))) 100 20 0) 100 19).toNat 0) 100 19).toNat 0) 100 19) < 2 then
if 0 ≤ ((st (st (st (st (st (st (st (st M1 100 11 0) 100 13 0) 100 15 0) 100 19 (w32 (1 - ((st (st (st M1 100 11 0) 100 13 0) 100 15 0) 100 18)))) 100 20 0) 111 ((st (st (st (st (st M1 100 11 0) 100 13 0) 100 15 0) 100 19 (w32 (1 - ((st (st (st M1 100 11 0) 100 13 0) 100 15 0) 100 18)))) 100 20 0) 100 19).toNat 0) 112 ((st (st (st (st (st (st M1 100 11 0) 100 13 0) 100 15 0) 100 19 (w32 (1 - ((st (st (st M1 100 11 0) 100 13 0) 100 15 0) 100 18)))) 100 20 0) 111 ((st (st (st (st (st M1 100 11 0) 100 13 0) 100 15 0) 100 19 (w32 (1 - ((st (st (st M1 100 11 0) 100 13 0) 100 15 0) 100 18)))) 100 20 0) 100 19).toNat 0) 100 19).toNat 0) 115 ((st (st (st (st (st (st (st M1 100 11 0) 100 13 0) 100 15 0) 100 19 (w32 (1 - ((st (st (st M1 100 11 0) 100 13 0) 100 15 0) 100 18)))) 100 20 0) 111 ((st (st (st (st (st M1 100 11 0) 100 13 0) 100 15 0) 100 19 (w32 (1 - ((st (st (st M1 100 11 0) 100 13 0) 100 15 0) 100 18)))) 100 20 0) 100 19).toNat 0) 112 ((st (st (st (st (st (st M1 100 11 0) 100 13 0) 100 15 0) 100 19 (w32 (1 - ((st (st (st M1 100 11 0) 100 13 0) 100 15 0) 100 18)))) 100 20 0) 111 ((st (st (st (st (st M1 100 11 0) 100 13 0) 100 15 0) 100 19 (w32 (1 - ((st (st (st M1 100 11 0) 100 13 0) 100 15 0) 100 18)))) 100 20 0) 100 19).toNat 0) 100 19).toNat 0) 100 19).toNat 0) 100 19) ∧ ((st (st (st (st (st (st (st (st M1 100 11 0) 100 13 0) 100 15 0) 100 19 (w32 (1 - ((st (st (st M1 100 11 0) 100 13 0) 100 15 0) 100 18)))) 100 20 0) 111 ((st (st (st (st (st M1 100 11 0) 100 13 0) 100 15 0) 100 19 (w32 (1 - ((st (st (st M1 100 11 0) 100 13 0) 100 15 0) 100 18)))) 100 20 0) 100 19).toNat 0) 112 ((st (st (st (st (st (st M1 100 11 0) 100 13 0) 100 15 0) 100 19 (w32 (1 - ((st (st (st M1 100 11 0) 100 13 0) 100 15 0) 100 18)))) 100 20 0) 111 ((st (st (st (st (st M1 100 11 0) 100 13 0) 100 15 0) 100 19 (w32 (1 - ((st (st (st M1 100 11 0) 100 13 0) 100 15 0) 100 18)))) 100 20 0) 100 19).toNat 0) 100 19).toNat 0) 115 ((st (st (st (st (st (st (st M1 100 11 0) 100 13 0) 100 15 0) 100 19 (w32 (1 - ((st (st (st M1 100 11 0) 100 13 0) 100 15 0) 100 18)))) 100 20 0) 111 ((st (st (st (st (st M1 100 11 0) 100 13 0) 100 15 0) 100 19 (w32 (1 - ((st (st (st M1 100 11 0) 100 13 0) 100 15 0) 100 18)))) 100 20 0) 100 19).toNat 0) 112 ((st (st (st (st (st (st M1 100 11 0) 100 13 0) 100 15 0) 100 19 (w32 (1 - ((st (st (st M1 100 11 0) 100 13 0) 100 15 0) 100 18)))) 100 20 0) 111 ((st (st (st (st (st M1 100 11 0) 100 13 0) 100 15 0) 100 19 (w32 (1 - ((st (st (st M1 100 11 0) 100 13 0) 100 15 0) 100 18)))) 100 20 0) 100 19).toNat 0) 100 19).toNat 0) 100 19).toNat 0) 100 19) < 2 then
gA 180 115 [rv 11 100, none] [] (st (st (st (st (st (st (st (st (st M1 100 11 0) 100 13 0) 100 15 0) 100 19 (w32 (1 - ((st (st (st M1 100 11 0) 100 13 0) 100 15 0) 100 18)))) 100 20 0) 111 ((st (st (st (st (st M1 100 11 0) 100 13 0) 100 15 0) 100 19 (w32 (1 - ((st (st (st M1 100 11 0) 100 13 0) 100 15 0) 100 18)))) 100 20 0) 100 19).toNat 0) 112 ((st (st (st (st (st (st M1 100 11 0) 100 13 0) 100 15 0) 100 19 (w32 (1 - ((st (st (st M1 100 11 0) 100 13 0) 100 15 0) 100 18)))) 100 20 0) 111 ((st (st (st (st (st M1 100 11 0) 100 13 0) 100 15 0) 100 19 (w32 (1 - ((st (st (st M1 100 11 0) 100 13 0) 100 15 0) 100 18)))) 100 20 0) 100 19).toNat 0) 100 19).toNat 0) 115 ((st (st (st (st (st (st (st M1 100 11 0) 100 13 0) 100 15 0) 100 19 (w32 (1 - ((st (st (st M1 100 11 0) 100 13 0) 100 15 0) 100 18)))) 100 20 0) 111 ((st (st (st (st (st M1 100 11 0) 100 13 0) 100 15 0) 100 19 (w32 (1 - ((st (st (st M1 100 11 0) 100 13 0) 100 15 0) 100 18)))) 100 20 0) 100 19).toNat 0) 112 ((st (st (st (st (st (st M1 100 11 0) 100 13 0) 100 15 0) 100 19 (w32 (1 - ((st (st (st M1 100 11 0) 100 13 0) 100 15 0) 100 18)))) 100 20 0) 111 ((st (st (st (st (st M1 100 11 0) 100 13 0) 100 15 0) 100 19 (w32 (1 - ((st (st (st M1 100 11 0) 100 13 0) 100 15 0) 100 18)))) 100 20 0) 100 19).toNat 0) 100 19).toNat 0) 100 19).toNat 0) 120 ((st (st (st (st (st (st (st (st M1 100 11 0) 100 13 0) 100 15 0) 100 19 (w32 (1 - ((st (st (st M1 100 11 0) 100 13 0) 100 15 0) 100 18)))) 100 20 0) 111 ((st (st (st (st (st M1 100 11 0) 100 13 0) 100 15 0) 100 19 (w32 (1 - ((st (st (st M1 100 11 0) 100 13 0) 100 15 0) 100 18)))) 100 20 0) 100 19).toNat 0) 112 ((st (st (st (st (st (st M1 100 11 0) 100 13 0) 100 15 0) 100 19 (w32 (1 - ((st (st (st M1 100 11 0) 100 13 0) 100 15 0) 100 18)))) 100 20 0) 111 ((st (st (st (st (st M1 100 11 0) 100 13 0) 100 15 0) 100 19 (w32 (1 - ((st (st (st M1 100 11 0) 100 13 0) 100 15 0) 100 18)))) 100 20 0) 100 19).toNat 0) 100 19).toNat 0) 115 ((st (st (st (st (st (st (st M1 100 11 0) 100 13 0) 100 15 0) 100 19 (w32 (1 - ((st (st (st M1 100 11 0) 100 13 0) 100 15 0) 100 18)))) 100 20 0) 111 ((st (st (st (st (st M1 100 11 0) 100 13 0) 100 15 0) 100 19 (w32 (1 - ((st (st (st M1 100 11 0) 100 13 0) 100 15 0) 100 18)))) 100 20 0) 100 19).toNat 0) 112 ((st (st (st (st (st (st M1 100 11 0) 100 13 0) 100 15 0) 100 19 (w32 (1 - ((st (st (st M1 100 11 0) 100 13 0) 100 15 0) 100 18)))) 100 20 0) 111 ((st (st (st (st (st M1 100 11 0) 100 13 0) 100 15 0) 100 19 (w32 (1 - ((st (st (st M1 100 11 0) 100 13 0) 100 15 0) 100 18)))) 100 20 0) 100 19).toNat 0) 100 19).toNat 0) 100 19).toNat 0) 100 19).toNat 0)
else none
else none
else none
else none
else
if 0 ≤ x1 ∧ x1 < 2000 then
if 0 ≤ x1 ∧ x1 < 2000 then
gA 180 10 [rv 11 100, iv (w32 (x1 + 1))] [] (st M 102 (x1).toNat (w8 (M 101 (x1).toNat)))
else none
else none :=
  mat_unf gF gT [10, 115, 219] 60 180 10 [rv 11 100, iv x1] [] M
set_option maxRecDepth 20000 in
theorem s_GaugeNetModel_read_115  (M : mM) : gA 180 115 [rv 11 100, none] [] M =
if ¬ (M 100 13) = 0 then
if (M 100 13) ≤ 0 then
if (M 100 15) ≤ 0 then
if ((st M 100 17 (-1)) 100 13) ≤ 0 then
if ((st M 100 17 (-1)) 100 15) ≤ 0 then
gA 180 219 [rv 11 100, iv 0] [] (st (st (st (st (st M 100 17 (-1)) 100 18 ((st M 100 17 (-1)) 100 19)) 100 35 0) 100 36 0) 100 37 0)
else
some (iv ((st M 100 17 (-1)) 100 15), st M 100 17 (-1))
else
some (iv ((st M 100 17 (-1)) 100 13), st M 100 17 (-1))
else
if ((st M 100 17 (M 100 16)) 100 13) ≤ 0 then
if ((st M 100 17 (M 100 16)) 100 15) ≤ 0 then
gA 180 219 [rv 11 100, iv 0] [] (st (st (st (st (st M 100 17 (M 100 16)) 100 18 ((st M 100 17 (M 100 16)) 100 19)) 100 35 0) 100 36 0) 100 37 0)
else
some (iv ((st M 100 17 (M 100 16)) 100 15), st M 100 17 (M 100 16))
else
some (iv ((st M 100 17 (M 100 16)) 100 13), st M 100 17 (M 100 16))
else
if ((st M 100 17 (M 100 14)) 100 13) ≤ 0 then
if ((st M 100 17 (M 100 14)) 100 15) ≤ 0 then
gA 180 219 [rv 11 100, iv 0] [] (st (st (st (st (st M 100 17 (M 100 14)) 100 18 ((st M 100 17 (M 100 14)) 100 19)) 100 35 0) 100 36 0) 100 37 0)
else
some (iv ((st M 100 17 (M 100 14)) 100 15), st M 100 17 (M 100 14))
else
some (iv ((st M 100 17 (M 100 14)) 100 13), st M 100 17 (M 100 14))
else
bI (gC 187 [rv 11 100, iv 0] M) fun c1 M1 =>
if ¬ c1 = 0 then
if (M1 100 13) ≤ 0 then
if (M1 100 15) ≤ 0 then
if ((st M1 100 17 (-1)) 100 13) ≤ 0 then
if ((st M1 100 17 (-1)) 100 15) ≤ 0 then
gA 180 219 [rv 11 100, iv 0] [] (st (st (st (st (st M1 100 17 (-1)) 100 18 ((st M1 100 17 (-1)) 100 19)) 100 35 0) 100 36 0) 100 37 0)
else
some (iv ((st M1 100 17 (-1)) 100 15), st M1 100 17 (-1))
else
some (iv ((st M1 100 17 (-1)) 100 13), st M1 100 17 (-1))
else
if ((st M1 100 17 (M1 100 16)) 100 13) ≤ 0 then
if ((st M1 100 17 (M1 100 16)) 100 15) ≤ 0 then
gA 180 219 [rv 11 100, iv 0] [] (st (st (st (st (st M1 100 17 (M1 100 16)) 100 18 ((st M1 100 17 (M1 100 16)) 100 19)) 100 35 0) 100 36 0) 100 37 0)
else
some (iv ((st M1 100 17 (M1 100 16)) 100 15), st M1 100 17 (M1 100 16))
else
some (iv ((st M1 100 17 (M1 100 16)) 100 13), st M1 100 17 (M1 100 16))
else
if ((st M1 100 17 (M1 100 14)) 100 13) ≤ 0 then
if ((st M1 100 17 (M1 100 14)) 100 15) ≤ 0 then
gA 180 219 [rv 11 100, iv 0] [] (st (st (st (st (st M1 100 17 (M1 100 14)) 100 18 ((st M1 100 17 (M1 100 14)) 100 19)) 100 35 0) 100 36 0) 100 37 0)
else
some (iv ((st M1 100 17 (M1 100 14)) 100 15), st M1 100 17 (M1 100 14))
else
some (iv ((st M1 100 17 (M1 100 14)) 100 13), st M1 100 17 (M1 100 14))
else
bV (gC 188 [rv 11 100] M1) fun M2 =>
gA 180 115 [rv 11 100, none] [] M2 :=
  mat_unf gF gT [10, 115, 219] 60 180 115 [rv 11 100, none] [] M
set_option maxRecDepth 20000 in
theorem s_GaugeNetModel_read_219 (x1 : Int) (M : mM) : gA 180 219 [rv 11 100, iv x1] [] M =
if 6 ≤ x1 then
some (iv 0, st M 100 44 0)
else
if 0 ≤ x1 ∧ x1 < 6 then
if 0 ≤ ((st M 122 (x1).toNat 0) 100 18) ∧ ((st M 122 (x1).toNat 0) 100 18) < 2 then
if ((st M 122 (x1).toNat 0) 115 ((st M 122 (x1).toNat 0) 100 18).toNat) ≤ x1 then
gA 180 219 [rv 11 100, iv (w32 (x1 + 1))] [] (st M 122 (x1).toNat 0)
else
if 0 ≤ (w32 ((w32 (6 * ((st M 122 (x1).toNat 0) 100 18))) + x1)) ∧ (w32 ((w32 (6 * ((st M 122 (x1).toNat 0) 100 18))) + x1)) < 12 then
if ¬ ((st M 122 (x1).toNat 0) 119 (w32 ((w32 (6 * ((st M 122 (x1).toNat 0) 100 18))) + x1)).toNat) = 0 then
gA 180 219 [rv 11 100, iv (w32 (x1 + 1))] [] (st M 122 (x1).toNat 0)
else
gA 180 219 [rv 11 100, iv (w32 (x1 + 1))] [] (st (st M 122 (x1).toNat 0) 100 36 (or32 ((st M 122 (x1).toNat 0) 100 36) (shl32 1 x1)))
else none
else none
else none :=
  mat_unf gF gT [10, 115, 219] 60 180 219 [rv 11 100, iv x1] [] M
set_option maxRecDepth 20000 in
theorem e_GaugeNetModel_cut  (M : mM) : gC 181 [rv 11 100] M =
gA 181 7 [rv 11 100, iv 0, none, none, none, none, none, none] [] (st M 100 10 0) :=
  mat_unf gF gT [7, 85, 146, 208] 60 181 0 [rv 11 100, none, none, none, none, none, none, none] [] M
set_option maxRecDepth 20000 in
theorem s_GaugeNetModel_cut_7 (x1 : Int) (M : mM) : gA 181 7 [rv 11 100, iv x1, none, none, none, none, none, none] [] M =
if 400 < (M 100 10) then
some (none, M)
else
bI (gC 182 [rv 11 100, iv x1] M) fun c1 M1 =>
if x1 < (M1 100 4) then
if c1 = 9 then
gA 181 7 [rv 11 100, iv (w32 (x1 + 1)), none, none, none, none, none, none] [] M1
else
if c1 = 10 then
gA 181 7 [rv 11 100, iv (w32 (x1 + 1)), none, none, none, none, none, none] [] M1
else
if c1 = 13 then
gA 181 7 [rv 11 100, iv (w32 (x1 + 1)), none, none, none, none, none, none] [] M1
else
if ¬ c1 = 32 then
bI (gC 184 [iv c1] M1) fun c2 M2 =>
if c2 = 0 then
bI (gC 185 [iv c1] M2) fun c3 M3 =>
if c3 = 0 then
bI (gC 186 [iv c1] M3) fun c4 M4 =>
bV (gC 183 [rv 11 100, iv c4, iv x1, iv 0, jv 0] M4) fun M5 =>
gA 181 7 [rv 11 100, iv (w32 (x1 + 1)), none, none, none, none, none, none] [] M5
else
gA 181 208 [rv 11 100, iv x1, none, iv 0, iv 0, none, none, none] [] M3
else
gA 181 85 [rv 11 100, iv x1, none, iv 0, jv 0, none, none, none] [] M2
else
gA 181 7 [rv 11 100, iv (w32 (x1 + 1)), none, none, none, none, none, none] [] M1
else
bV (gC 183 [rv 11 100, iv 0, iv (M1 100 4), iv 0, jv 0] M1) fun M6 =>
some (none, M6) :=
  mat_unf gF gT [7, 85, 146, 208] 60 181 7 [rv 11 100, iv x1, none, none, none, none, none, none] [] M
set_option maxRecDepth 20000 in
theorem s_GaugeNetModel_cut_208 (x1 : Int) (x3 : Int) (x4 : Int) (M : mM) : gA 181 208 [rv 11 100, iv x1, none, iv x3, iv x4, none, none, none] [] M =
bI (gC 182 [rv 11 100, iv (w32 (x1 + x3))] M) fun c1 M1 =>
bI (gC 185 [iv c1] M1) fun c2 M2 =>
if c2 = 0 then
if x3 ≤ 4 then
bV (gC 183 [rv 11 100, iv 2, iv x1, iv x4, jv 0] M2) fun M3 =>
gA 181 7 [rv 11 100, iv (w32 (x1 + x3)), none, none, none, none, none, none] [] M3
else
bV (gC 183 [rv 11 100, iv 3, iv x1, iv x4, jv 0] M2) fun M4 =>
gA 181 7 [rv 11 100, iv (w32 (x1 + x3)), none, none, none, none, none, none] [] M4
else
if 4 ≤ x3 then
gA 181 208 [rv 11 100, iv x1, none, iv (w32 (x3 + 1)), iv x4, none, none, none] [] M2
else
bI (gC 182 [rv 11 100, iv (w32 (x1 + x3))] M2) fun c5 M5 =>
gA 181 208 [rv 11 100, iv x1, none, iv (w32 (x3 + 1)), iv (w32 ((w32 ((w32 (10 * x4)) + c5)) - 48)), none, none, none] [] M5 :=
  mat_unf gF gT [7, 85, 146, 208] 60 181 208 [rv 11 100, iv x1, none, iv x3, iv x4, none, none, none] [] M
set_option maxRecDepth 20000 in
theorem s_GaugeNetModel_cut_85 (x1 : Int) (x3 : Int) (x4 : Int) (M : mM) : gA 181 85 [rv 11 100, iv x1, none, iv x3, jv x4, none, none, none] [] M =
bI (gC 182 [rv 11 100, iv (w32 (x1 + x3))] M) fun c1 M1 =>
bI (gC 184 [iv c1] M1) fun c2 M2 =>
if c2 = 0 then
if x3 ≤ 8 then
if 7 < x3 then
bV (gC 183 [rv 11 100, iv 1, iv x1, iv 0, jv x4] M2) fun M3 =>
gA 181 7 [rv 11 100, iv (w32 (x1 + x3)), none, none, none, none, none, none] [] M3
else
gA 181 146 [rv 11 100, iv x1, none, iv x3, jv x4, none, iv 1, iv 0] [] M2
else
if 7 < x3 then
bV (gC 183 [rv 11 100, iv 3, iv x1, iv 0, jv x4] M2) fun M4 =>
gA 181 7 [rv 11 100, iv (w32 (x1 + x3)), none, none, none, none, none, none] [] M4
else
gA 181 146 [rv 11 100, iv x1, none, iv x3, jv x4, none, iv 3, iv 0] [] M2
else
if 8 ≤ x3 then
gA 181 85 [rv 11 100, iv x1, none, iv (w32 (x3 + 1)), jv x4, none, none, none] [] M2
else
bI (gC 182 [rv 11 100, iv (w32 (x1 + x3))] M2) fun c5 M5 =>
bJ (gC 176 [jv x4, iv c5] M5) fun c6 M6 =>
gA 181 85 [rv 11 100, iv x1, none, iv (w32 (x3 + 1)), jv c6, none, none, none] [] M6 :=
  mat_unf gF gT [7, 85, 146, 208] 60 181 85 [rv 11 100, iv x1, none, iv x3, jv x4, none, none, none] [] M
set_option maxRecDepth 20000 in
theorem s_GaugeNetModel_cut_146 (x1 : Int) (x3 : Int) (x4 : Int) (x6 : Int) (x7 : Int) (M : mM) : gA 181 146 [rv 11 100, iv x1, none, iv x3, jv x4, none, iv x6, iv x7] [] M =
if 9 ≤ x7 then
bV (gC 183 [rv 11 100, iv x6, iv x1, iv 0, jv x4] M) fun M1 =>
gA 181 7 [rv 11 100, iv (w32 (x1 + x3)), none, none, none, none, none, none] [] M1
else
if 0 ≤ x7 ∧ x7 < 9 then
if ¬ (lcmp (M 107 (x7).toNat) x4) = 0 then
gA 181 146 [rv 11 100, iv x1, none, iv x3, jv x4, none, iv x6, iv (w32 (x7 + 1))] [] M
else
gA 181 146 [rv 11 100, iv x1, none, iv x3, jv x4, none, iv (w32 (20 + x7)), iv (w32 (x7 + 1))] [] M
else none :=
  mat_unf gF gT [7, 85, 146, 208] 60 181 146 [rv 11 100, iv x1, none, iv x3, jv x4, none, iv x6, iv x7] [] M
set_option maxRecDepth 20000 in
theorem e_GaugeNetModel_byteAt (x1 : Int) (M : mM) : gC 182 [rv 11 100, iv x1] M =
if (M 100 4) ≤ x1 then
some (iv 0, M)
else
if 0 ≤ x1 ∧ x1 < 2000 then
some (iv (and32 (M 102 (x1).toNat) 255), M)
else none :=
  mat_unf gF gT [] 60 182 0 [rv 11 100, iv x1] [] M
set_option maxRecDepth 20000 in
theorem e_GaugeNetModel_token (x1 : Int) (x2 : Int) (x3 : Int) (x4 : Int) (M : mM) : gC 183 [rv 11 100, iv x1, iv x2, iv x3, jv x4] M =
if 0 ≤ (M 100 10) ∧ (M 100 10) < 403 then
if 0 ≤ ((st M 103 (M 100 10).toNat x1) 100 10) ∧ ((st M 103 (M 100 10).toNat x1) 100 10) < 403 then
if 0 ≤ ((st (st M 103 (M 100 10).toNat x1) 104 ((st M 103 (M 100 10).toNat x1) 100 10).toNat x2) 100 10) ∧ ((st (st M 103 (M 100 10).toNat x1) 104 ((st M 103 (M 100 10).toNat x1) 100 10).toNat x2) 100 10) < 403 then
if 0 ≤ ((st (st (st M 103 (M 100 10).toNat x1) 104 ((st M 103 (M 100 10).toNat x1) 100 10).toNat x2) 105 ((st (st M 103 (M 100 10).toNat x1) 104 ((st M 103 (M 100 10).toNat x1) 100 10).toNat x2) 100 10).toNat x3) 100 10) ∧ ((st (st (st M 103 (M 100 10).toNat x1) 104 ((st M 103 (M 100 10).toNat x1) 100 10).toNat x2) 105 ((st (st M 103 (M 100 10).toNat x1) 104 ((st M 103 (M 100 10).toNat x1) 100 10).toNat x2) 100 10).toNat x3) 100 10) < 403 then
some (none, st (st (st (st (st M 103 (M 100 10).toNat x1) 104 ((st M 103 (M 100 10).toNat x1) 100 10).toNat x2) 105 ((st (st M 103 (M 100 10).toNat x1) 104 ((st M 103 (M 100 10).toNat x1) 100 10).toNat x2) 100 10).toNat x3) 106 ((st (st (st M 103 (M 100 10).toNat x1) 104 ((st M 103 (M 100 10).toNat x1) 100 10).toNat x2) 105 ((st (st M 103 (M 100 10).toNat x1) 104 ((st M 103 (M 100 10).toNat x1) 100 10).toNat x2) 100 10).toNat x3) 100 10).toNat x4) 100 10 (w32 (((st (st (st (st M 103 (M 100 10).toNat x1) 104 ((st M 103 (M 100 10).toNat x1) 100 10).toNat x2) 105 ((st (st M 103 (M 100 10).toNat x1) 104 ((st M 103 (M 100 10).toNat x1) 100 10).toNat x2) 100 10).toNat x3) 106 ((st (st (st M 103 (M 100 10).toNat x1) 104 ((st M 103 (M 100 10).toNat x1) 100 10).toNat x2) 105 ((st (st M 103 (M 100 10).toNat x1) 104 ((st M 103 (M 100 10).toNat x1) 100 10).toNat x2) 100 10).toNat x3) 100 10).toNat x4) 100 10) + 1)))
else none
else none
else none
else none :=
  mat_unf gF gT [] 60 183 0 [rv 11 100, iv x1, iv x2, iv x3, jv x4, none] [] M
set_option maxRecDepth 20000 in
theorem e_GaugeNetModel_isLetter (x0 : Int) (M : mM) : gC 184 [iv x0] M =
if x0 < 97 then
some (iv 0, M)
else
if 122 < x0 then
some (iv 0, M)
else
some (iv 1, M) :=
  mat_unf gF gT [] 60 184 0 [iv x0] [] M
set_option maxRecDepth 20000 in
theorem e_GaugeNetModel_isDigit (x0 : Int) (M : mM) : gC 185 [iv x0] M =
if x0 < 48 then
some (iv 0, M)
else
if 57 < x0 then
some (iv 0, M)
else
some (iv 1, M) :=
  mat_unf gF gT [] 60 185 0 [iv x0] [] M
set_option maxRecDepth 20000 in
theorem e_GaugeNetModel_sign (x0 : Int) (M : mM) : gC 186 [iv x0] M =
if ¬ x0 = 59 then
if ¬ x0 = 58 then
if ¬ x0 = 44 then
if ¬ x0 = 43 then
if ¬ x0 = 45 then
some (iv 3, M)
else
some (iv 9, M)
else
some (iv 8, M)
else
some (iv 16, M)
else
some (iv 5, M)
else
some (iv 4, M) :=
  mat_unf gF gT [] 60 186 0 [iv x0] [] M
set_option maxRecDepth 20000 in
theorem e_GaugeNetModel_is (x1 : Int) (M : mM) : gC 187 [rv 11 100, iv x1] M =
if ¬ (M 100 13) = 0 then
some (iv 0, M)
else
if 0 ≤ (M 100 11) ∧ (M 100 11) < 403 then
if ¬ (M 103 (M 100 11).toNat) = x1 then
some (iv 0, M)
else
some (iv 1, M)
else none :=
  mat_unf gF gT [] 60 187 0 [rv 11 100, iv x1] [] M
set_option maxRecDepth 20000 in
theorem e_GaugeNetModel_tell  (M : mM) : gC 188 [rv 11 100] M =
if 0 ≤ (M 100 11) ∧ (M 100 11) < 403 then
if (M 103 (M 100 11).toNat) = 20 then
if 0 ≤ (M 100 19) ∧ (M 100 19) < 2 then
if ¬ (M 111 (M 100 19).toNat) = 7 then
if ¬ (M 100 13) = 0 then
some (none, M)
else
bV (gC 190 [rv 11 100] M) fun M1 =>
some (none, M1)
else
bV (gC 189 [rv 11 100, iv 2] M) fun M2 =>
if ¬ (M2 100 13) = 0 then
some (none, M2)
else
bV (gC 190 [rv 11 100] M2) fun M3 =>
some (none, M3)
else none
else if (M 103 (M 100 11).toNat) = 21 then
if 0 ≤ (M 100 19) ∧ (M 100 19) < 2 then
if ¬ (M 112 (M 100 19).toNat) = 8 then
if ¬ (M 100 13) = 0 then
some (none, M)
else
bV (gC 196 [rv 11 100] M) fun M4 =>
some (none, M4)
else
bV (gC 189 [rv 11 100, iv 2] M) fun M5 =>
if ¬ (M5 100 13) = 0 then
some (none, M5)
else
bV (gC 196 [rv 11 100] M5) fun M6 =>
some (none, M6)
else none
else if (M 103 (M 100 11).toNat) = 22 then
bV (gC 189 [rv 11 100, iv 1] M) fun M7 =>
some (none, M7)
else if (M 103 (M 100 11).toNat) = 23 then
if 0 ≤ (M 100 19) ∧ (M 100 19) < 2 then
if ¬ (M 115 (M 100 19).toNat) = 6 then
if ¬ (M 100 13) = 0 then
some (none, M)
else
bV (gC 200 [rv 11 100] M) fun M8 =>
some (none, M8)
else
bV (gC 189 [rv 11 100, iv 2] M) fun M9 =>
if ¬ (M9 100 13) = 0 then
some (none, M9)
else
bV (gC 200 [rv 11 100] M9) fun M10 =>
some (none, M10)
else none
else if (M 103 (M 100 11).toNat) = 24 then
if 0 ≤ (M 100 19) ∧ (M 100 19) < 2 then
if ¬ (M 115 (M 100 19).toNat) = 6 then
if ¬ (M 100 13) = 0 then
some (none, M)
else
bV (gC 200 [rv 11 100] M) fun M11 =>
some (none, M11)
else
bV (gC 189 [rv 11 100, iv 2] M) fun M12 =>
if ¬ (M12 100 13) = 0 then
some (none, M12)
else
bV (gC 200 [rv 11 100] M12) fun M13 =>
some (none, M13)
else none
else if (M 103 (M 100 11).toNat) = 25 then
bV (gC 189 [rv 11 100, iv 1] M) fun M14 =>
some (none, M14)
else if (M 103 (M 100 11).toNat) = 26 then
bV (gC 189 [rv 11 100, iv 1] M) fun M15 =>
some (none, M15)
else if (M 103 (M 100 11).toNat) = 27 then
bV (gC 189 [rv 11 100, iv 1] M) fun M16 =>
some (none, M16)
else if (M 103 (M 100 11).toNat) = 28 then
if 0 ≤ (M 100 19) ∧ (M 100 19) < 2 then
if ¬ (M 120 (M 100 19).toNat) = 8 then
if ¬ (M 100 13) = 0 then
some (none, M)
else
bV (gC 201 [rv 11 100] M) fun M17 =>
some (none, M17)
else
bV (gC 189 [rv 11 100, iv 2] M) fun M18 =>
if ¬ (M18 100 13) = 0 then
some (none, M18)
else
bV (gC 201 [rv 11 100] M18) fun M19 =>
some (none, M19)
else none
else 
bV (gC 189 [rv 11 100, iv 1] M) fun M20 =>
some (none, M20)
else none :=
  mat_unf gF gT [] 60 188 0 [rv 11 100] [] M
set_option maxRecDepth 20000 in
theorem e_GaugeNetModel_fail (x1 : Int) (M : mM) : gC 189 [rv 11 100, iv x1] M =
if (M 100 13) ≤ 0 then
if 0 ≤ ((st M 100 13 x1) 100 11) ∧ ((st M 100 13 x1) 100 11) < 403 then
some (none, st (st M 100 13 x1) 100 14 ((st M 100 13 x1) 104 ((st M 100 13 x1) 100 11).toNat))
else none
else
some (none, M) :=
  mat_unf gF gT [] 60 189 0 [rv 11 100, iv x1] [] M
set_option maxRecDepth 20000 in
theorem e_GaugeNetModel_tellUnknown  (M : mM) : gC 190 [rv 11 100] M =
bV (gC 191 [rv 11 100] M) fun M1 =>
bI (gC 192 [rv 11 100] M1) fun c2 M2 =>
bV (gC 193 [rv 11 100, iv 4] M2) fun M3 =>
if (M3 100 13) ≤ 0 then
if 0 ≤ (M3 100 19) ∧ (M3 100 19) < 2 then
bV (gC 195 [rv 11 100, iv c2, iv 0, iv (M3 111 (M3 100 19).toNat)] M3) fun M4 =>
if 0 ≤ (M4 100 19) ∧ (M4 100 19) < 2 then
if 0 ≤ (M4 100 19) ∧ (M4 100 19) < 2 then
some (none, st M4 111 (M4 100 19).toNat (w32 ((M4 111 (M4 100 19).toNat) + 1)))
else none
else none
else none
else
some (none, M3) :=
  mat_unf gF gT [] 60 190 0 [rv 11 100, none] [] M
set_option maxRecDepth 20000 in
theorem e_GaugeNetModel_goesOn  (M : mM) : gC 191 [rv 11 100] M =
if ¬ (M 100 11) = 400 then
some (none, st M 100 11 (w32 ((M 100 11) + 1)))
else
bV (gC 189 [rv 11 100, iv 2] M) fun M1 =>
some (none, M1) :=
  mat_unf gF gT [] 60 191 0 [rv 11 100] [] M
set_option maxRecDepth 20000 in
theorem e_GaugeNetModel_named  (M : mM) : gC 192 [rv 11 100] M =
bV (gC 193 [rv 11 100, iv 1] M) fun M1 =>
gA 192 12 [rv 11 100, iv (M 100 11), iv 0] [] M1 :=
  mat_unf gF gT [12] 60 192 0 [rv 11 100, none, none] [] M
set_option maxRecDepth 20000 in
theorem s_GaugeNetModel_named_12 (x1 : Int) (x2 : Int) (M : mM) : gA 192 12 [rv 11 100, iv x1, iv x2] [] M =
if (M 100 20) ≤ x2 then
some (iv x1, M)
else
if ¬ (M 100 13) = 0 then
some (iv x1, M)
else
if 0 ≤ x2 ∧ x2 < 40 then
if 0 ≤ x1 ∧ x1 < 403 then
if ¬ (lcmp (M 108 (x2).toNat) (M 106 (x1).toNat)) = 0 then
gA 192 12 [rv 11 100, iv x1, iv (w32 (x2 + 1))] [] M
else
bV (gC 194 [rv 11 100, iv 3, iv x1] M) fun M1 =>
gA 192 12 [rv 11 100, iv x1, iv (w32 (x2 + 1))] [] M1
else none
else none :=
  mat_unf gF gT [12] 60 192 12 [rv 11 100, iv x1, iv x2] [] M
set_option maxRecDepth 20000 in
theorem e_GaugeNetModel_must (x1 : Int) (M : mM) : gC 193 [rv 11 100, iv x1] M =
bI (gC 187 [rv 11 100, iv x1] M) fun c1 M1 =>
if c1 = 0 then
bV (gC 189 [rv 11 100, iv 1] M1) fun M2 =>
some (none, M2)
else
bV (gC 191 [rv 11 100] M1) fun M3 =>
some (none, M3) :=
  mat_unf gF gT [] 60 193 0 [rv 11 100, iv x1] [] M
set_option maxRecDepth 20000 in
theorem e_GaugeNetModel_wrong (x1 : Int) (x2 : Int) (M : mM) : gC 194 [rv 11 100, iv x1, iv x2] M =
if 0 ≤ x2 ∧ x2 < 403 then
if 0 < (M 100 13) then
some (none, M)
else
if (M 100 15) = 0 then
some (none, st (st M 100 15 x1) 100 16 (M 104 (x2).toNat))
else
if (M 100 16) < (M 104 (x2).toNat) then
some (none, M)
else
if ¬ (M 104 (x2).toNat) = (M 100 16) then
some (none, st (st M 100 15 x1) 100 16 (M 104 (x2).toNat))
else
if x1 < (M 100 15) then
some (none, st (st M 100 15 x1) 100 16 (M 104 (x2).toNat))
else
some (none, M)
else none :=
  mat_unf gF gT [] 60 194 0 [rv 11 100, iv x1, iv x2, none] [] M
set_option maxRecDepth 20000 in
theorem e_GaugeNetModel_knows (x1 : Int) (x2 : Int) (x3 : Int) (M : mM) : gC 195 [rv 11 100, iv x1, iv x2, iv x3] M =
if 0 ≤ x1 ∧ x1 < 403 then
if 0 ≤ (M 100 20) ∧ (M 100 20) < 40 then
if 0 ≤ ((st M 108 (M 100 20).toNat (M 106 (x1).toNat)) 100 20) ∧ ((st M 108 (M 100 20).toNat (M 106 (x1).toNat)) 100 20) < 40 then
if 0 ≤ ((st (st M 108 (M 100 20).toNat (M 106 (x1).toNat)) 109 ((st M 108 (M 100 20).toNat (M 106 (x1).toNat)) 100 20).toNat x2) 100 20) ∧ ((st (st M 108 (M 100 20).toNat (M 106 (x1).toNat)) 109 ((st M 108 (M 100 20).toNat (M 106 (x1).toNat)) 100 20).toNat x2) 100 20) < 40 then
some (none, st (st (st (st M 108 (M 100 20).toNat (M 106 (x1).toNat)) 109 ((st M 108 (M 100 20).toNat (M 106 (x1).toNat)) 100 20).toNat x2) 110 ((st (st M 108 (M 100 20).toNat (M 106 (x1).toNat)) 109 ((st M 108 (M 100 20).toNat (M 106 (x1).toNat)) 100 20).toNat x2) 100 20).toNat x3) 100 20 (w32 (((st (st (st M 108 (M 100 20).toNat (M 106 (x1).toNat)) 109 ((st M 108 (M 100 20).toNat (M 106 (x1).toNat)) 100 20).toNat x2) 110 ((st (st M 108 (M 100 20).toNat (M 106 (x1).toNat)) 109 ((st M 108 (M 100 20).toNat (M 106 (x1).toNat)) 100 20).toNat x2) 100 20).toNat x3) 100 20) + 1)))
else none
else none
else none
else none :=
  mat_unf gF gT [] 60 195 0 [rv 11 100, iv x1, iv x2, iv x3] [] M
set_option maxRecDepth 20000 in
theorem e_GaugeNetModel_tellEq  (M : mM) : gC 196 [rv 11 100] M =
if 0 ≤ (M 100 19) ∧ (M 100 19) < 2 then
bV (gC 191 [rv 11 100] M) fun M1 =>
bI (gC 192 [rv 11 100] M1) fun c2 M2 =>
if 0 ≤ (w32 ((w32 (8 * (M 100 19))) + (M 112 (M 100 19).toNat))) ∧ (w32 ((w32 (8 * (M 100 19))) + (M 112 (M 100 19).toNat))) < 16 then
bI (gC 187 [rv 11 100, iv 22] (st M2 114 (w32 ((w32 (8 * (M 100 19))) + (M 112 (M 100 19).toNat))).toNat 15)) fun c3 M3 =>
if c3 = 0 then
bV (gC 193 [rv 11 100, iv 5] M3) fun M4 =>
gA 196 112 [rv 11 100, iv (w32 ((w32 (8 * (M 100 19))) + (M 112 (M 100 19).toNat))), iv c2, iv 0, none] [] M4
else
if 0 ≤ (w32 ((w32 (8 * (M 100 19))) + (M 112 (M 100 19).toNat))) ∧ (w32 ((w32 (8 * (M 100 19))) + (M 112 (M 100 19).toNat))) < 16 then
gA 196 53 [rv 11 100, iv (w32 ((w32 (8 * (M 100 19))) + (M 112 (M 100 19).toNat))), iv c2, iv 1, none] [] (st M3 114 (w32 ((w32 (8 * (M 100 19))) + (M 112 (M 100 19).toNat))).toNat 0)
else none
else none
else none :=
  mat_unf gF gT [53, 112, 171] 60 196 0 [rv 11 100, none, none, none, none] [] M
set_option maxRecDepth 20000 in
theorem s_GaugeNetModel_tellEq_112 (x1 : Int) (x2 : Int) (x3 : Int) (M : mM) : gA 196 112 [rv 11 100, iv x1, iv x2, iv x3, none] [] M =
if 9 ≤ x3 then
if ¬ ((st M 100 39 0) 100 13) = 0 then
gA 196 171 [rv 11 100, iv x1, iv x2, none, none] [] (st M 100 39 0)
else
bI (gC 187 [rv 11 100, iv 8] (st M 100 39 0)) fun c1 M1 =>
if ¬ c1 = 0 then
gA 196 171 [rv 11 100, iv x1, iv x2, none, none] [] M1
else
bI (gC 187 [rv 11 100, iv 9] M1) fun c2 M2 =>
if ¬ c2 = 0 then
gA 196 171 [rv 11 100, iv x1, iv x2, none, none] [] M2
else
bV (gC 189 [rv 11 100, iv 1] M2) fun M3 =>
gA 196 171 [rv 11 100, iv x1, iv x2, none, none] [] M3
else
if 0 ≤ (w32 ((w32 (9 * x1)) + x3)) ∧ (w32 ((w32 (9 * x1)) + x3)) < 144 then
gA 196 112 [rv 11 100, iv x1, iv x2, iv (w32 (x3 + 1)), none] [] (st M 113 (w32 ((w32 (9 * x1)) + x3)).toNat 0)
else none :=
  mat_unf gF gT [53, 112, 171] 60 196 112 [rv 11 100, iv x1, iv x2, iv x3, none] [] M
set_option maxRecDepth 20000 in
theorem s_GaugeNetModel_tellEq_53 (x1 : Int) (x2 : Int) (x3 : Int) (M : mM) : gA 196 53 [rv 11 100, iv x1, iv x2, iv x3, none] [] M =
if x3 = 0 then
bV (gC 193 [rv 11 100, iv 5] M) fun M1 =>
gA 196 112 [rv 11 100, iv x1, iv x2, iv 0, none] [] M1
else
if ¬ (M 100 13) = 0 then
bV (gC 193 [rv 11 100, iv 5] M) fun M2 =>
gA 196 112 [rv 11 100, iv x1, iv x2, iv 0, none] [] M2
else
bV (gC 191 [rv 11 100] M) fun M3 =>
bI (gC 197 [rv 11 100, iv 0, iv 3] M3) fun c4 M4 =>
if 4 ≤ c4 then
bI (gC 187 [rv 11 100, iv 16] M4) fun c5 M5 =>
gA 196 53 [rv 11 100, iv x1, iv x2, iv c5, none] [] M5
else
if 0 ≤ x1 ∧ x1 < 16 then
if 0 ≤ x1 ∧ x1 < 16 then
bI (gC 187 [rv 11 100, iv 16] (st M4 114 (x1).toNat (or32 (M4 114 (x1).toNat) (shl32 1 c4)))) fun c6 M6 =>
gA 196 53 [rv 11 100, iv x1, iv x2, iv c6, none] [] M6
else none
else none :=
  mat_unf gF gT [53, 112, 171] 60 196 53 [rv 11 100, iv x1, iv x2, iv x3, none] [] M
set_option maxRecDepth 20000 in
theorem s_GaugeNetModel_tellEq_171 (x1 : Int) (x2 : Int) (M : mM) : gA 196 171 [rv 11 100, iv x1, iv x2, none, none] [] M =
bI (gC 187 [rv 11 100, iv 8] M) fun c1 M1 =>
if ¬ c1 = 0 then
bV (gC 198 [rv 11 100, iv x1] M1) fun M2 =>
gA 196 171 [rv 11 100, iv x1, iv x2, none, none] [] M2
else
bI (gC 187 [rv 11 100, iv 9] M1) fun c3 M3 =>
if c3 = 0 then
bV (gC 193 [rv 11 100, iv 4] M3) fun M4 =>
if (M4 100 13) ≤ 0 then
if 0 ≤ (M4 100 19) ∧ (M4 100 19) < 2 then
bV (gC 195 [rv 11 100, iv x2, iv 1, iv (M4 112 (M4 100 19).toNat)] M4) fun M5 =>
if 0 ≤ (M5 100 19) ∧ (M5 100 19) < 2 then
if 0 ≤ (M5 100 19) ∧ (M5 100 19) < 2 then
some (none, st M5 112 (M5 100 19).toNat (w32 ((M5 112 (M5 100 19).toNat) + 1)))
else none
else none
else none
else
some (none, M4)
else
bV (gC 198 [rv 11 100, iv x1] M3) fun M6 =>
gA 196 171 [rv 11 100, iv x1, iv x2, none, none] [] M6 :=
  mat_unf gF gT [53, 112, 171] 60 196 171 [rv 11 100, iv x1, iv x2, none, none] [] M
set_option maxRecDepth 20000 in
theorem e_GaugeNetModel_toldInt (x1 : Int) (x2 : Int) (M : mM) : gC 197 [rv 11 100, iv x1, iv x2] M =
bI (gC 187 [rv 11 100, iv 2] M) fun c1 M1 =>
if c1 = 0 then
bV (gC 193 [rv 11 100, iv 2] M1) fun M2 =>
if ¬ (M2 100 13) = 0 then
some (iv 0, M2)
else
if 0 < x1 then
bV (gC 194 [rv 11 100, iv 5, iv (M 100 11)] M2) fun M3 =>
some (iv 0, M3)
else
if 0 ≤ x2 then
some (iv 0, M2)
else
bV (gC 194 [rv 11 100, iv 5, iv (M 100 11)] M2) fun M4 =>
some (iv 0, M4)
else
if 0 ≤ (M1 100 11) ∧ (M1 100 11) < 403 then
bV (gC 193 [rv 11 100, iv 2] M1) fun M5 =>
if ¬ (M5 100 13) = 0 then
some (iv (M1 105 (M1 100 11).toNat), M5)
else
if (M1 105 (M1 100 11).toNat) < x1 then
bV (gC 194 [rv 11 100, iv 5, iv (M 100 11)] M5) fun M6 =>
some (iv (M1 105 (M1 100 11).toNat), M6)
else
if (M1 105 (M1 100 11).toNat) ≤ x2 then
some (iv (M1 105 (M1 100 11).toNat), M5)
else
bV (gC 194 [rv 11 100, iv 5, iv (M 100 11)] M5) fun M7 =>
some (iv (M1 105 (M1 100 11).toNat), M7)
else none :=
  mat_unf gF gT [] 60 197 0 [rv 11 100, iv x1, iv x2, none, none] [] M
set_option maxRecDepth 20000 in
theorem e_GaugeNetModel_tellTerm (x1 : Int) (M : mM) : gC 198 [rv 11 100, iv x1] M =
bI (gC 187 [rv 11 100, iv 8] M) fun c1 M1 =>
if c1 = 0 then
bV (gC 191 [rv 11 100] M1) fun M2 =>
bI (gC 187 [rv 11 100, iv 2] M2) fun c3 M3 =>
if c3 = 0 then
if c3 = 0 then
if c3 = 0 then
gA 198 114 [rv 11 100, iv x1, iv (-1), iv (M2 100 11), iv c3, iv 1, none, none, none] [] M3
else
bI (gC 187 [rv 11 100, iv 1] M3) fun c4 M4 =>
if ¬ c4 = 0 then
gA 198 114 [rv 11 100, iv x1, iv (-1), iv (M2 100 11), iv c3, iv 1, none, none, none] [] M4
else
if ¬ (M4 100 13) = 0 then
gA 198 94 [rv 11 100, iv x1, iv (-1), none, none, iv 1, none, none, none] [] M4
else
gA 198 94 [rv 11 100, iv x1, iv (-1), none, none, iv 1, none, none, none] [] M4
else
bV (gC 191 [rv 11 100] M3) fun M5 =>
if c3 = 0 then
gA 198 114 [rv 11 100, iv x1, iv (-1), iv (M2 100 11), iv c3, iv 1, none, none, none] [] M5
else
bI (gC 187 [rv 11 100, iv 1] M5) fun c6 M6 =>
if ¬ c6 = 0 then
gA 198 114 [rv 11 100, iv x1, iv (-1), iv (M2 100 11), iv c3, iv 1, none, none, none] [] M6
else
if ¬ (M6 100 13) = 0 then
gA 198 94 [rv 11 100, iv x1, iv (-1), none, none, iv 1, none, none, none] [] M6
else
gA 198 94 [rv 11 100, iv x1, iv (-1), none, none, iv 1, none, none, none] [] M6
else
if 0 ≤ (M3 100 11) ∧ (M3 100 11) < 403 then
if c3 = 0 then
if c3 = 0 then
gA 198 114 [rv 11 100, iv x1, iv (-1), iv (M2 100 11), iv c3, iv (M3 105 (M3 100 11).toNat), none, none, none] [] M3
else
bI (gC 187 [rv 11 100, iv 1] M3) fun c7 M7 =>
if ¬ c7 = 0 then
gA 198 114 [rv 11 100, iv x1, iv (-1), iv (M2 100 11), iv c3, iv (M3 105 (M3 100 11).toNat), none, none, none] [] M7
else
if ¬ (M7 100 13) = 0 then
gA 198 94 [rv 11 100, iv x1, iv (-1), none, none, iv (M3 105 (M3 100 11).toNat), none, none, none] [] M7
else
if (M3 105 (M3 100 11).toNat) ≤ 999 then
gA 198 94 [rv 11 100, iv x1, iv (-1), none, none, iv (M3 105 (M3 100 11).toNat), none, none, none] [] M7
else
bV (gC 194 [rv 11 100, iv 5, iv (M2 100 11)] M7) fun M8 =>
gA 198 94 [rv 11 100, iv x1, iv (-1), none, none, iv (M3 105 (M3 100 11).toNat), none, none, none] [] M8
else
bV (gC 191 [rv 11 100] M3) fun M9 =>
if c3 = 0 then
gA 198 114 [rv 11 100, iv x1, iv (-1), iv (M2 100 11), iv c3, iv (M3 105 (M3 100 11).toNat), none, none, none] [] M9
else
bI (gC 187 [rv 11 100, iv 1] M9) fun c10 M10 =>
if ¬ c10 = 0 then
gA 198 114 [rv 11 100, iv x1, iv (-1), iv (M2 100 11), iv c3, iv (M3 105 (M3 100 11).toNat), none, none, none] [] M10
else
if ¬ (M10 100 13) = 0 then
gA 198 94 [rv 11 100, iv x1, iv (-1), none, none, iv (M3 105 (M3 100 11).toNat), none, none, none] [] M10
else
if (M3 105 (M3 100 11).toNat) ≤ 999 then
gA 198 94 [rv 11 100, iv x1, iv (-1), none, none, iv (M3 105 (M3 100 11).toNat), none, none, none] [] M10
else
bV (gC 194 [rv 11 100, iv 5, iv (M2 100 11)] M10) fun M11 =>
gA 198 94 [rv 11 100, iv x1, iv (-1), none, none, iv (M3 105 (M3 100 11).toNat), none, none, none] [] M11
else none
else
bV (gC 191 [rv 11 100] M1) fun M12 =>
bI (gC 187 [rv 11 100, iv 2] M12) fun c13 M13 =>
if c13 = 0 then
if c13 = 0 then
if c13 = 0 then
gA 198 114 [rv 11 100, iv x1, iv 1, iv (M12 100 11), iv c13, iv 1, none, none, none] [] M13
else
bI (gC 187 [rv 11 100, iv 1] M13) fun c14 M14 =>
if ¬ c14 = 0 then
gA 198 114 [rv 11 100, iv x1, iv 1, iv (M12 100 11), iv c13, iv 1, none, none, none] [] M14
else
if ¬ (M14 100 13) = 0 then
gA 198 94 [rv 11 100, iv x1, iv 1, none, none, iv 1, none, none, none] [] M14
else
gA 198 94 [rv 11 100, iv x1, iv 1, none, none, iv 1, none, none, none] [] M14
else
bV (gC 191 [rv 11 100] M13) fun M15 =>
if c13 = 0 then
gA 198 114 [rv 11 100, iv x1, iv 1, iv (M12 100 11), iv c13, iv 1, none, none, none] [] M15
else
bI (gC 187 [rv 11 100, iv 1] M15) fun c16 M16 =>
if ¬ c16 = 0 then
gA 198 114 [rv 11 100, iv x1, iv 1, iv (M12 100 11), iv c13, iv 1, none, none, none] [] M16
else
if ¬ (M16 100 13) = 0 then
gA 198 94 [rv 11 100, iv x1, iv 1, none, none, iv 1, none, none, none] [] M16
else
gA 198 94 [rv 11 100, iv x1, iv 1, none, none, iv 1, none, none, none] [] M16
else
if 0 ≤ (M13 100 11) ∧ (M13 100 11) < 403 then
if c13 = 0 then
if c13 = 0 then
gA 198 114 [rv 11 100, iv x1, iv 1, iv (M12 100 11), iv c13, iv (M13 105 (M13 100 11).toNat), none, none, none] [] M13
else
bI (gC 187 [rv 11 100, iv 1] M13) fun c17 M17 =>
if ¬ c17 = 0 then
gA 198 114 [rv 11 100, iv x1, iv 1, iv (M12 100 11), iv c13, iv (M13 105 (M13 100 11).toNat), none, none, none] [] M17
else
if ¬ (M17 100 13) = 0 then
gA 198 94 [rv 11 100, iv x1, iv 1, none, none, iv (M13 105 (M13 100 11).toNat), none, none, none] [] M17
else
if (M13 105 (M13 100 11).toNat) ≤ 999 then
gA 198 94 [rv 11 100, iv x1, iv 1, none, none, iv (M13 105 (M13 100 11).toNat), none, none, none] [] M17
else
bV (gC 194 [rv 11 100, iv 5, iv (M12 100 11)] M17) fun M18 =>
gA 198 94 [rv 11 100, iv x1, iv 1, none, none, iv (M13 105 (M13 100 11).toNat), none, none, none] [] M18
else
bV (gC 191 [rv 11 100] M13) fun M19 =>
if c13 = 0 then
gA 198 114 [rv 11 100, iv x1, iv 1, iv (M12 100 11), iv c13, iv (M13 105 (M13 100 11).toNat), none, none, none] [] M19
else
bI (gC 187 [rv 11 100, iv 1] M19) fun c20 M20 =>
if ¬ c20 = 0 then
gA 198 114 [rv 11 100, iv x1, iv 1, iv (M12 100 11), iv c13, iv (M13 105 (M13 100 11).toNat), none, none, none] [] M20
else
if ¬ (M20 100 13) = 0 then
gA 198 94 [rv 11 100, iv x1, iv 1, none, none, iv (M13 105 (M13 100 11).toNat), none, none, none] [] M20
else
if (M13 105 (M13 100 11).toNat) ≤ 999 then
gA 198 94 [rv 11 100, iv x1, iv 1, none, none, iv (M13 105 (M13 100 11).toNat), none, none, none] [] M20
else
bV (gC 194 [rv 11 100, iv 5, iv (M12 100 11)] M20) fun M21 =>
gA 198 94 [rv 11 100, iv x1, iv 1, none, none, iv (M13 105 (M13 100 11).toNat), none, none, none] [] M21
else none :=
  mat_unf gF gT [94, 114, 139, 145, 166, 195] 60 198 0 [rv 11 100, iv x1, none, none, none, none, none, none, none] [] M
set_option maxRecDepth 20000 in
theorem s_GaugeNetModel_tellTerm_114 (x1 : Int) (x2 : Int) (x3 : Int) (x4 : Int) (x5 : Int) (M : mM) : gA 198 114 [rv 11 100, iv x1, iv x2, iv x3, iv x4, iv x5, none, none, none] [] M =
if ¬ (M 100 13) = 0 then
gA 198 145 [rv 11 100, iv x1, iv x2, none, none, iv x5, none, none, none] [] M
else
if x4 = 0 then
gA 198 145 [rv 11 100, iv x1, iv x2, none, none, iv x5, none, none, none] [] M
else
if x5 < 1 then
gA 198 139 [rv 11 100, iv x1, iv x2, iv x3, none, iv x5, none, none, none] [] M
else
if x5 ≤ 9 then
gA 198 145 [rv 11 100, iv x1, iv x2, none, none, iv x5, none, none, none] [] M
else
gA 198 139 [rv 11 100, iv x1, iv x2, iv x3, none, iv x5, none, none, none] [] M :=
  mat_unf gF gT [94, 114, 139, 145, 166, 195] 60 198 114 [rv 11 100, iv x1, iv x2, iv x3, iv x4, iv x5, none, none, none] [] M
set_option maxRecDepth 20000 in
theorem s_GaugeNetModel_tellTerm_94 (x1 : Int) (x2 : Int) (x5 : Int) (M : mM) : gA 198 94 [rv 11 100, iv x1, iv x2, none, none, iv x5, none, none, none] [] M =
if 0 ≤ (w32 ((w32 (9 * x1)) + 8)) ∧ (w32 ((w32 (9 * x1)) + 8)) < 144 then
if 0 ≤ (w32 ((w32 (9 * x1)) + 8)) ∧ (w32 ((w32 (9 * x1)) + 8)) < 144 then
some (none, st M 113 (w32 ((w32 (9 * x1)) + 8)).toNat (w32 ((M 113 (w32 ((w32 (9 * x1)) + 8)).toNat) + (w32 (x2 * x5)))))
else none
else none :=
  mat_unf gF gT [94, 114, 139, 145, 166, 195] 60 198 94 [rv 11 100, iv x1, iv x2, none, none, iv x5, none, none, none] [] M
set_option maxRecDepth 20000 in
theorem s_GaugeNetModel_tellTerm_145 (x1 : Int) (x2 : Int) (x5 : Int) (M : mM) : gA 198 145 [rv 11 100, iv x1, iv x2, none, none, iv x5, none, none, none] [] M =
bI (gC 199 [rv 11 100, iv 0, iv 0] M) fun c1 M1 =>
if ¬ c1 = (-1) then
gA 198 166 [rv 11 100, iv x1, iv x2, none, none, iv x5, iv (M 100 11), iv c1, none] [] M1
else
some (none, M1) :=
  mat_unf gF gT [94, 114, 139, 145, 166, 195] 60 198 145 [rv 11 100, iv x1, iv x2, none, none, iv x5, none, none, none] [] M
set_option maxRecDepth 20000 in
theorem s_GaugeNetModel_tellTerm_139 (x1 : Int) (x2 : Int) (x3 : Int) (x5 : Int) (M : mM) : gA 198 139 [rv 11 100, iv x1, iv x2, iv x3, none, iv x5, none, none, none] [] M =
bV (gC 194 [rv 11 100, iv 5, iv x3] M) fun M1 =>
gA 198 145 [rv 11 100, iv x1, iv x2, none, none, iv x5, none, none, none] [] M1 :=
  mat_unf gF gT [94, 114, 139, 145, 166, 195] 60 198 139 [rv 11 100, iv x1, iv x2, iv x3, none, iv x5, none, none, none] [] M
set_option maxRecDepth 20000 in
theorem s_GaugeNetModel_tellTerm_166 (x1 : Int) (x2 : Int) (x5 : Int) (x6 : Int) (x7 : Int) (M : mM) : gA 198 166 [rv 11 100, iv x1, iv x2, none, none, iv x5, iv x6, iv x7, none] [] M =
if 0 ≤ x7 ∧ x7 < 40 then
if ¬ (and32 (shr32 (M 100 39) (M 110 (x7).toNat)) 1) = 1 then
gA 198 195 [rv 11 100, iv x1, iv x2, none, none, iv x5, none, none, iv (M 110 (x7).toNat)] [] M
else
bV (gC 194 [rv 11 100, iv 3, iv x6] M) fun M1 =>
gA 198 195 [rv 11 100, iv x1, iv x2, none, none, iv x5, none, none, iv (M 110 (x7).toNat)] [] M1
else none :=
  mat_unf gF gT [94, 114, 139, 145, 166, 195] 60 198 166 [rv 11 100, iv x1, iv x2, none, none, iv x5, iv x6, iv x7, none] [] M
set_option maxRecDepth 20000 in
theorem s_GaugeNetModel_tellTerm_195 (x1 : Int) (x2 : Int) (x5 : Int) (x8 : Int) (M : mM) : gA 198 195 [rv 11 100, iv x1, iv x2, none, none, iv x5, none, none, iv x8] [] M =
if 0 ≤ (w32 ((w32 (9 * x1)) + x8)) ∧ (w32 ((w32 (9 * x1)) + x8)) < 144 then
some (none, st (st M 100 39 (or32 (M 100 39) (shl32 1 x8))) 113 (w32 ((w32 (9 * x1)) + x8)).toNat (w32 (x2 * x5)))
else none :=
  mat_unf gF gT [94, 114, 139, 145, 166, 195] 60 198 195 [rv 11 100, iv x1, iv x2, none, none, iv x5, none, none, iv x8] [] M
set_option maxRecDepth 20000 in
theorem e_GaugeNetModel_known (x1 : Int) (x2 : Int) (M : mM) : gC 199 [rv 11 100, iv x1, iv x2] M =
bV (gC 193 [rv 11 100, iv 1] M) fun M1 =>
if (M1 100 13) ≤ 0 then
gA 199 25 [rv 11 100, iv x1, iv x2, iv (M 100 11), iv (-1), iv 0] [] M1
else
some (iv (-1), M1) :=
  mat_unf gF gT [25] 60 199 0 [rv 11 100, iv x1, iv x2, none, none, none] [] M
set_option maxRecDepth 20000 in
theorem s_GaugeNetModel_known_25 (x1 : Int) (x2 : Int) (x3 : Int) (x4 : Int) (x5 : Int) (M : mM) : gA 199 25 [rv 11 100, iv x1, iv x2, iv x3, iv x4, iv x5] [] M =
if (M 100 20) ≤ x5 then
if ¬ x4 = (-1) then
some (iv x4, M)
else
bV (gC 194 [rv 11 100, iv 4, iv x3] M) fun M1 =>
some (iv x4, M1)
else
if ¬ x4 = (-1) then
gA 199 25 [rv 11 100, iv x1, iv x2, iv x3, iv x4, iv (w32 (x5 + 1))] [] M
else
if 0 ≤ x5 ∧ x5 < 40 then
if 0 ≤ x3 ∧ x3 < 403 then
if ¬ (lcmp (M 108 (x5).toNat) (M 106 (x3).toNat)) = 0 then
gA 199 25 [rv 11 100, iv x1, iv x2, iv x3, iv x4, iv (w32 (x5 + 1))] [] M
else
if 0 ≤ x5 ∧ x5 < 40 then
if (M 109 (x5).toNat) = x1 then
gA 199 25 [rv 11 100, iv x1, iv x2, iv x3, iv x5, iv (w32 (x5 + 1))] [] M
else
if 0 ≤ x5 ∧ x5 < 40 then
if ¬ (M 109 (x5).toNat) = x2 then
gA 199 25 [rv 11 100, iv x1, iv x2, iv x3, iv x4, iv (w32 (x5 + 1))] [] M
else
gA 199 25 [rv 11 100, iv x1, iv x2, iv x3, iv x5, iv (w32 (x5 + 1))] [] M
else none
else none
else none
else none :=
  mat_unf gF gT [25] 60 199 25 [rv 11 100, iv x1, iv x2, iv x3, iv x4, iv x5] [] M
set_option maxRecDepth 20000 in
theorem e_GaugeNetModel_tellGauge  (M : mM) : gC 200 [rv 11 100] M =
if 0 ≤ (M 100 19) ∧ (M 100 19) < 2 then
bI (gC 187 [rv 11 100, iv 24] M) fun c1 M1 =>
if 0 ≤ (w32 ((w32 (6 * (M 100 19))) + (M 115 (M 100 19).toNat))) ∧ (w32 ((w32 (6 * (M 100 19))) + (M 115 (M 100 19).toNat))) < 12 then
bV (gC 191 [rv 11 100] (st M1 119 (w32 ((w32 (6 * (M 100 19))) + (M 115 (M 100 19).toNat))).toNat (c1 % 2))) fun M2 =>
bI (gC 192 [rv 11 100] M2) fun c3 M3 =>
bV (gC 193 [rv 11 100, iv 25] M3) fun M4 =>
if (M4 100 13) ≤ 0 then
bI (gC 199 [rv 11 100, iv 0, iv 0] M4) fun c5 M5 =>
if ¬ c5 = (-1) then
if 0 ≤ c5 ∧ c5 < 40 then
if 0 ≤ (w32 ((w32 (6 * (M 100 19))) + (M 115 (M 100 19).toNat))) ∧ (w32 ((w32 (6 * (M 100 19))) + (M 115 (M 100 19).toNat))) < 12 then
if 0 ≤ (w32 ((w32 (6 * (M 100 19))) + (M 115 (M 100 19).toNat))) ∧ (w32 ((w32 (6 * (M 100 19))) + (M 115 (M 100 19).toNat))) < 12 then
if 0 ≤ (w32 ((w32 (6 * (M 100 19))) + (M 115 (M 100 19).toNat))) ∧ (w32 ((w32 (6 * (M 100 19))) + (M 115 (M 100 19).toNat))) < 12 then
bI (gC 187 [rv 11 100, iv 26] (st (st (st M5 116 (w32 ((w32 (6 * (M 100 19))) + (M 115 (M 100 19).toNat))).toNat (M5 110 (c5).toNat)) 117 (w32 ((w32 (6 * (M 100 19))) + (M 115 (M 100 19).toNat))).toNat 0) 118 (w32 ((w32 (6 * (M 100 19))) + (M 115 (M 100 19).toNat))).toNat 1)) fun c6 M6 =>
if c6 = 0 then
bI (gC 187 [rv 11 100, iv 27] M6) fun c7 M7 =>
if c7 = 0 then
bV (gC 193 [rv 11 100, iv 4] M7) fun M8 =>
if (M8 100 13) ≤ 0 then
if 0 ≤ (M8 100 19) ∧ (M8 100 19) < 2 then
bV (gC 195 [rv 11 100, iv c3, iv 2, iv (M8 115 (M8 100 19).toNat)] M8) fun M9 =>
if 0 ≤ (M9 100 19) ∧ (M9 100 19) < 2 then
if 0 ≤ (M9 100 19) ∧ (M9 100 19) < 2 then
some (none, st M9 115 (M9 100 19).toNat (w32 ((M9 115 (M9 100 19).toNat) + 1)))
else none
else none
else none
else
some (none, M8)
else
bV (gC 191 [rv 11 100] M7) fun M10 =>
bI (gC 197 [rv 11 100, iv 1, iv 100] M10) fun c11 M11 =>
if 0 ≤ (w32 ((w32 (6 * (M 100 19))) + (M 115 (M 100 19).toNat))) ∧ (w32 ((w32 (6 * (M 100 19))) + (M 115 (M 100 19).toNat))) < 12 then
bV (gC 193 [rv 11 100, iv 4] (st M11 118 (w32 ((w32 (6 * (M 100 19))) + (M 115 (M 100 19).toNat))).toNat c11)) fun M12 =>
if (M12 100 13) ≤ 0 then
if 0 ≤ (M12 100 19) ∧ (M12 100 19) < 2 then
bV (gC 195 [rv 11 100, iv c3, iv 2, iv (M12 115 (M12 100 19).toNat)] M12) fun M13 =>
if 0 ≤ (M13 100 19) ∧ (M13 100 19) < 2 then
if 0 ≤ (M13 100 19) ∧ (M13 100 19) < 2 then
some (none, st M13 115 (M13 100 19).toNat (w32 ((M13 115 (M13 100 19).toNat) + 1)))
else none
else none
else none
else
some (none, M12)
else none
else
bV (gC 191 [rv 11 100] M6) fun M14 =>
bI (gC 197 [rv 11 100, iv 0, iv 3] M14) fun c15 M15 =>
if 0 ≤ (w32 ((w32 (6 * (M 100 19))) + (M 115 (M 100 19).toNat))) ∧ (w32 ((w32 (6 * (M 100 19))) + (M 115 (M 100 19).toNat))) < 12 then
bI (gC 187 [rv 11 100, iv 27] (st M15 117 (w32 ((w32 (6 * (M 100 19))) + (M 115 (M 100 19).toNat))).toNat c15)) fun c16 M16 =>
if c16 = 0 then
bV (gC 193 [rv 11 100, iv 4] M16) fun M17 =>
if (M17 100 13) ≤ 0 then
if 0 ≤ (M17 100 19) ∧ (M17 100 19) < 2 then
bV (gC 195 [rv 11 100, iv c3, iv 2, iv (M17 115 (M17 100 19).toNat)] M17) fun M18 =>
if 0 ≤ (M18 100 19) ∧ (M18 100 19) < 2 then
if 0 ≤ (M18 100 19) ∧ (M18 100 19) < 2 then
some (none, st M18 115 (M18 100 19).toNat (w32 ((M18 115 (M18 100 19).toNat) + 1)))
else none
else none
else none
else
some (none, M17)
else
bV (gC 191 [rv 11 100] M16) fun M19 =>
bI (gC 197 [rv 11 100, iv 1, iv 100] M19) fun c20 M20 =>
if 0 ≤ (w32 ((w32 (6 * (M 100 19))) + (M 115 (M 100 19).toNat))) ∧ (w32 ((w32 (6 * (M 100 19))) + (M 115 (M 100 19).toNat))) < 12 then
bV (gC 193 [rv 11 100, iv 4] (st M20 118 (w32 ((w32 (6 * (M 100 19))) + (M 115 (M 100 19).toNat))).toNat c20)) fun M21 =>
if (M21 100 13) ≤ 0 then
if 0 ≤ (M21 100 19) ∧ (M21 100 19) < 2 then
bV (gC 195 [rv 11 100, iv c3, iv 2, iv (M21 115 (M21 100 19).toNat)] M21) fun M22 =>
if 0 ≤ (M22 100 19) ∧ (M22 100 19) < 2 then
if 0 ≤ (M22 100 19) ∧ (M22 100 19) < 2 then
some (none, st M22 115 (M22 100 19).toNat (w32 ((M22 115 (M22 100 19).toNat) + 1)))
else none
else none
else none
else
some (none, M21)
else none
else none
else none
else none
else none
else none
else
if 0 ≤ (w32 ((w32 (6 * (M 100 19))) + (M 115 (M 100 19).toNat))) ∧ (w32 ((w32 (6 * (M 100 19))) + (M 115 (M 100 19).toNat))) < 12 then
if 0 ≤ (w32 ((w32 (6 * (M 100 19))) + (M 115 (M 100 19).toNat))) ∧ (w32 ((w32 (6 * (M 100 19))) + (M 115 (M 100 19).toNat))) < 12 then
if 0 ≤ (w32 ((w32 (6 * (M 100 19))) + (M 115 (M 100 19).toNat))) ∧ (w32 ((w32 (6 * (M 100 19))) + (M 115 (M 100 19).toNat))) < 12 then
bI (gC 187 [rv 11 100, iv 26] (st (st (st M5 116 (w32 ((w32 (6 * (M 100 19))) + (M 115 (M 100 19).toNat))).toNat 0) 117 (w32 ((w32 (6 * (M 100 19))) + (M 115 (M 100 19).toNat))).toNat 0) 118 (w32 ((w32 (6 * (M 100 19))) + (M 115 (M 100 19).toNat))).toNat 1)) fun c23 M23 =>
if c23 = 0 then
bI (gC 187 [rv 11 100, iv 27] M23) fun c24 M24 =>
if c24 = 0 then
bV (gC 193 [rv 11 100, iv 4] M24) fun M25 =>
if (M25 100 13) ≤ 0 then
if 0 ≤ (M25 100 19) ∧ (M25 100 19) < 2 then
bV (gC 195 [rv 11 100, iv c3, iv 2, iv (M25 115 (M25 100 19).toNat)] M25) fun M26 =>
if 0 ≤ (M26 100 19) ∧ (M26 100 19) < 2 then
if 0 ≤ (M26 100 19) ∧ (M26 100 19) < 2 then
some (none, st M26 115 (M26 100 19).toNat (w32 ((M26 115 (M26 100 19).toNat) + 1)))
else none
else none
else none
else
some (none, M25)
else
bV (gC 191 [rv 11 100] M24) fun M27 =>
bI (gC 197 [rv 11 100, iv 1, iv 100] M27) fun c28 M28 =>
if 0 ≤ (w32 ((w32 (6 * (M 100 19))) + (M 115 (M 100 19).toNat))) ∧ (w32 ((w32 (6 * (M 100 19))) + (M 115 (M 100 19).toNat))) < 12 then
bV (gC 193 [rv 11 100, iv 4] (st M28 118 (w32 ((w32 (6 * (M 100 19))) + (M 115 (M 100 19).toNat))).toNat c28)) fun M29 =>
if (M29 100 13) ≤ 0 then
if 0 ≤ (M29 100 19) ∧ (M29 100 19) < 2 then
bV (gC 195 [rv 11 100, iv c3, iv 2, iv (M29 115 (M29 100 19).toNat)] M29) fun M30 =>
if 0 ≤ (M30 100 19) ∧ (M30 100 19) < 2 then
if 0 ≤ (M30 100 19) ∧ (M30 100 19) < 2 then
some (none, st M30 115 (M30 100 19).toNat (w32 ((M30 115 (M30 100 19).toNat) + 1)))
else none
else none
else none
else
some (none, M29)
else none
else
bV (gC 191 [rv 11 100] M23) fun M31 =>
bI (gC 197 [rv 11 100, iv 0, iv 3] M31) fun c32 M32 =>
if 0 ≤ (w32 ((w32 (6 * (M 100 19))) + (M 115 (M 100 19).toNat))) ∧ (w32 ((w32 (6 * (M 100 19))) + (M 115 (M 100 19).toNat))) < 12 then
bI (gC 187 [rv 11 100, iv 27] (st M32 117 (w32 ((w32 (6 * (M 100 19))) + (M 115 (M 100 19).toNat))).toNat c32)) fun c33 M33 =>
if c33 = 0 then
bV (gC 193 [rv 11 100, iv 4] M33) fun M34 =>
if (M34 100 13) ≤ 0 then
if 0 ≤ (M34 100 19) ∧ (M34 100 19) < 2 then
bV (gC 195 [rv 11 100, iv c3, iv 2, iv (M34 115 (M34 100 19).toNat)] M34) fun M35 =>
if 0 ≤ (M35 100 19) ∧ (M35 100 19) < 2 then
if 0 ≤ (M35 100 19) ∧ (M35 100 19) < 2 then
some (none, st M35 115 (M35 100 19).toNat (w32 ((M35 115 (M35 100 19).toNat) + 1)))
else none
else none
else none
else
some (none, M34)
else
bV (gC 191 [rv 11 100] M33) fun M36 =>
bI (gC 197 [rv 11 100, iv 1, iv 100] M36) fun c37 M37 =>
if 0 ≤ (w32 ((w32 (6 * (M 100 19))) + (M 115 (M 100 19).toNat))) ∧ (w32 ((w32 (6 * (M 100 19))) + (M 115 (M 100 19).toNat))) < 12 then
bV (gC 193 [rv 11 100, iv 4] (st M37 118 (w32 ((w32 (6 * (M 100 19))) + (M 115 (M 100 19).toNat))).toNat c37)) fun M38 =>
if (M38 100 13) ≤ 0 then
if 0 ≤ (M38 100 19) ∧ (M38 100 19) < 2 then
bV (gC 195 [rv 11 100, iv c3, iv 2, iv (M38 115 (M38 100 19).toNat)] M38) fun M39 =>
if 0 ≤ (M39 100 19) ∧ (M39 100 19) < 2 then
if 0 ≤ (M39 100 19) ∧ (M39 100 19) < 2 then
some (none, st M39 115 (M39 100 19).toNat (w32 ((M39 115 (M39 100 19).toNat) + 1)))
else none
else none
else none
else
some (none, M38)
else none
else none
else none
else none
else none
else
if 0 ≤ (w32 ((w32 (6 * (M 100 19))) + (M 115 (M 100 19).toNat))) ∧ (w32 ((w32 (6 * (M 100 19))) + (M 115 (M 100 19).toNat))) < 12 then
if 0 ≤ (w32 ((w32 (6 * (M 100 19))) + (M 115 (M 100 19).toNat))) ∧ (w32 ((w32 (6 * (M 100 19))) + (M 115 (M 100 19).toNat))) < 12 then
if 0 ≤ (w32 ((w32 (6 * (M 100 19))) + (M 115 (M 100 19).toNat))) ∧ (w32 ((w32 (6 * (M 100 19))) + (M 115 (M 100 19).toNat))) < 12 then
bI (gC 187 [rv 11 100, iv 26] (st (st (st M4 116 (w32 ((w32 (6 * (M 100 19))) + (M 115 (M 100 19).toNat))).toNat 0) 117 (w32 ((w32 (6 * (M 100 19))) + (M 115 (M 100 19).toNat))).toNat 0) 118 (w32 ((w32 (6 * (M 100 19))) + (M 115 (M 100 19).toNat))).toNat 1)) fun c40 M40 =>
if c40 = 0 then
bI (gC 187 [rv 11 100, iv 27] M40) fun c41 M41 =>
if c41 = 0 then
bV (gC 193 [rv 11 100, iv 4] M41) fun M42 =>
if (M42 100 13) ≤ 0 then
if 0 ≤ (M42 100 19) ∧ (M42 100 19) < 2 then
bV (gC 195 [rv 11 100, iv c3, iv 2, iv (M42 115 (M42 100 19).toNat)] M42) fun M43 =>
if 0 ≤ (M43 100 19) ∧ (M43 100 19) < 2 then
if 0 ≤ (M43 100 19) ∧ (M43 100 19) < 2 then
some (none, st M43 115 (M43 100 19).toNat (w32 ((M43 115 (M43 100 19).toNat) + 1)))
else none
else none
else none
else
some (none, M42)
else
bV (gC 191 [rv 11 100] M41) fun M44 =>
bI (gC 197 [rv 11 100, iv 1, iv 100] M44) fun c45 M45 =>
if 0 ≤ (w32 ((w32 (6 * (M 100 19))) + (M 115 (M 100 19).toNat))) ∧ (w32 ((w32 (6 * (M 100 19))) + (M 115 (M 100 19).toNat))) < 12 then
bV (gC 193 [rv 11 100, iv 4] (st M45 118 (w32 ((w32 (6 * (M 100 19))) + (M 115 (M 100 19).toNat))).toNat c45)) fun M46 =>
if (M46 100 13) ≤ 0 then
if 0 ≤ (M46 100 19) ∧ (M46 100 19) < 2 then
bV (gC 195 [rv 11 100, iv c3, iv 2, iv (M46 115 (M46 100 19).toNat)] M46) fun M47 =>
if 0 ≤ (M47 100 19) ∧ (M47 100 19) < 2 then
if 0 ≤ (M47 100 19) ∧ (M47 100 19) < 2 then
some (none, st M47 115 (M47 100 19).toNat (w32 ((M47 115 (M47 100 19).toNat) + 1)))
else none
else none
else none
else
some (none, M46)
else none
else
bV (gC 191 [rv 11 100] M40) fun M48 =>
bI (gC 197 [rv 11 100, iv 0, iv 3] M48) fun c49 M49 =>
if 0 ≤ (w32 ((w32 (6 * (M 100 19))) + (M 115 (M 100 19).toNat))) ∧ (w32 ((w32 (6 * (M 100 19))) + (M 115 (M 100 19).toNat))) < 12 then
bI (gC 187 [rv 11 100, iv 27] (st M49 117 (w32 ((w32 (6 * (M 100 19))) + (M 115 (M 100 19).toNat))).toNat c49)) fun c50 M50 =>
if c50 = 0 then
bV (gC 193 [rv 11 100, iv 4] M50) fun M51 =>
if (M51 100 13) ≤ 0 then
if 0 ≤ (M51 100 19) ∧ (M51 100 19) < 2 then
bV (gC 195 [rv 11 100, iv c3, iv 2, iv (M51 115 (M51 100 19).toNat)] M51) fun M52 =>
if 0 ≤ (M52 100 19) ∧ (M52 100 19) < 2 then
if 0 ≤ (M52 100 19) ∧ (M52 100 19) < 2 then
some (none, st M52 115 (M52 100 19).toNat (w32 ((M52 115 (M52 100 19).toNat) + 1)))
else none
else none
else none
else
some (none, M51)
else
bV (gC 191 [rv 11 100] M50) fun M53 =>
bI (gC 197 [rv 11 100, iv 1, iv 100] M53) fun c54 M54 =>
if 0 ≤ (w32 ((w32 (6 * (M 100 19))) + (M 115 (M 100 19).toNat))) ∧ (w32 ((w32 (6 * (M 100 19))) + (M 115 (M 100 19).toNat))) < 12 then
bV (gC 193 [rv 11 100, iv 4] (st M54 118 (w32 ((w32 (6 * (M 100 19))) + (M 115 (M 100 19).toNat))).toNat c54)) fun M55 =>
if (M55 100 13) ≤ 0 then
if 0 ≤ (M55 100 19) ∧ (M55 100 19) < 2 then
bV (gC 195 [rv 11 100, iv c3, iv 2, iv (M55 115 (M55 100 19).toNat)] M55) fun M56 =>
if 0 ≤ (M56 100 19) ∧ (M56 100 19) < 2 then
if 0 ≤ (M56 100 19) ∧ (M56 100 19) < 2 then
some (none, st M56 115 (M56 100 19).toNat (w32 ((M56 115 (M56 100 19).toNat) + 1)))
else none
else none
else none
else
some (none, M55)
else none
else none
else none
else none
else none
else none
else none :=
  mat_unf gF gT [] 60 200 0 [rv 11 100, none, none, none] [] M
set_option maxRecDepth 20000 in
theorem e_GaugeNetModel_tellFault  (M : mM) : gC 201 [rv 11 100] M =
if 0 ≤ (M 100 19) ∧ (M 100 19) < 2 then
bV (gC 191 [rv 11 100] M) fun M1 =>
bI (gC 192 [rv 11 100] M1) fun c2 M2 =>
bV (gC 193 [rv 11 100, iv 22] M2) fun M3 =>
if (M3 100 13) ≤ 0 then
bI (gC 199 [rv 11 100, iv 1, iv 2] M3) fun c4 M4 =>
bV (gC 193 [rv 11 100, iv 4] M4) fun M5 =>
if (M5 100 13) ≤ 0 then
if ¬ c4 = (-1) then
if 0 ≤ c4 ∧ c4 < 40 then
if ¬ (M5 109 (c4).toNat) = 1 then
if 0 ≤ c4 ∧ c4 < 40 then
if 0 ≤ (w32 ((w32 (8 * (M 100 19))) + (M 120 (M 100 19).toNat))) ∧ (w32 ((w32 (8 * (M 100 19))) + (M 120 (M 100 19).toNat))) < 16 then
if 0 ≤ ((st M5 121 (w32 ((w32 (8 * (M 100 19))) + (M 120 (M 100 19).toNat))).toNat (w32 (8 + (M5 110 (c4).toNat)))) 100 19) ∧ ((st M5 121 (w32 ((w32 (8 * (M 100 19))) + (M 120 (M 100 19).toNat))).toNat (w32 (8 + (M5 110 (c4).toNat)))) 100 19) < 2 then
bV (gC 195 [rv 11 100, iv c2, iv 3, iv ((st M5 121 (w32 ((w32 (8 * (M 100 19))) + (M 120 (M 100 19).toNat))).toNat (w32 (8 + (M5 110 (c4).toNat)))) 120 ((st M5 121 (w32 ((w32 (8 * (M 100 19))) + (M 120 (M 100 19).toNat))).toNat (w32 (8 + (M5 110 (c4).toNat)))) 100 19).toNat)] (st M5 121 (w32 ((w32 (8 * (M 100 19))) + (M 120 (M 100 19).toNat))).toNat (w32 (8 + (M5 110 (c4).toNat))))) fun M6 =>
if 0 ≤ (M6 100 19) ∧ (M6 100 19) < 2 then
if 0 ≤ (M6 100 19) ∧ (M6 100 19) < 2 then
some (none, st M6 120 (M6 100 19).toNat (w32 ((M6 120 (M6 100 19).toNat) + 1)))
else none
else none
else none
else none
else none
else
if 0 ≤ c4 ∧ c4 < 40 then
if 0 ≤ (w32 ((w32 (8 * (M 100 19))) + (M 120 (M 100 19).toNat))) ∧ (w32 ((w32 (8 * (M 100 19))) + (M 120 (M 100 19).toNat))) < 16 then
if 0 ≤ ((st M5 121 (w32 ((w32 (8 * (M 100 19))) + (M 120 (M 100 19).toNat))).toNat (M5 110 (c4).toNat)) 100 19) ∧ ((st M5 121 (w32 ((w32 (8 * (M 100 19))) + (M 120 (M 100 19).toNat))).toNat (M5 110 (c4).toNat)) 100 19) < 2 then
bV (gC 195 [rv 11 100, iv c2, iv 3, iv ((st M5 121 (w32 ((w32 (8 * (M 100 19))) + (M 120 (M 100 19).toNat))).toNat (M5 110 (c4).toNat)) 120 ((st M5 121 (w32 ((w32 (8 * (M 100 19))) + (M 120 (M 100 19).toNat))).toNat (M5 110 (c4).toNat)) 100 19).toNat)] (st M5 121 (w32 ((w32 (8 * (M 100 19))) + (M 120 (M 100 19).toNat))).toNat (M5 110 (c4).toNat))) fun M7 =>
if 0 ≤ (M7 100 19) ∧ (M7 100 19) < 2 then
if 0 ≤ (M7 100 19) ∧ (M7 100 19) < 2 then
some (none, st M7 120 (M7 100 19).toNat (w32 ((M7 120 (M7 100 19).toNat) + 1)))
else none
else none
else none
else none
else none
else none
else
if 0 ≤ (w32 ((w32 (8 * (M 100 19))) + (M 120 (M 100 19).toNat))) ∧ (w32 ((w32 (8 * (M 100 19))) + (M 120 (M 100 19).toNat))) < 16 then
if 0 ≤ ((st M5 121 (w32 ((w32 (8 * (M 100 19))) + (M 120 (M 100 19).toNat))).toNat 0) 100 19) ∧ ((st M5 121 (w32 ((w32 (8 * (M 100 19))) + (M 120 (M 100 19).toNat))).toNat 0) 100 19) < 2 then
bV (gC 195 [rv 11 100, iv c2, iv 3, iv ((st M5 121 (w32 ((w32 (8 * (M 100 19))) + (M 120 (M 100 19).toNat))).toNat 0) 120 ((st M5 121 (w32 ((w32 (8 * (M 100 19))) + (M 120 (M 100 19).toNat))).toNat 0) 100 19).toNat)] (st M5 121 (w32 ((w32 (8 * (M 100 19))) + (M 120 (M 100 19).toNat))).toNat 0)) fun M8 =>
if 0 ≤ (M8 100 19) ∧ (M8 100 19) < 2 then
if 0 ≤ (M8 100 19) ∧ (M8 100 19) < 2 then
some (none, st M8 120 (M8 100 19).toNat (w32 ((M8 120 (M8 100 19).toNat) + 1)))
else none
else none
else none
else none
else
some (none, M5)
else
bV (gC 193 [rv 11 100, iv 4] M3) fun M9 =>
if (M9 100 13) ≤ 0 then
if 0 ≤ (w32 ((w32 (8 * (M 100 19))) + (M 120 (M 100 19).toNat))) ∧ (w32 ((w32 (8 * (M 100 19))) + (M 120 (M 100 19).toNat))) < 16 then
if 0 ≤ ((st M9 121 (w32 ((w32 (8 * (M 100 19))) + (M 120 (M 100 19).toNat))).toNat 0) 100 19) ∧ ((st M9 121 (w32 ((w32 (8 * (M 100 19))) + (M 120 (M 100 19).toNat))).toNat 0) 100 19) < 2 then
bV (gC 195 [rv 11 100, iv c2, iv 3, iv ((st M9 121 (w32 ((w32 (8 * (M 100 19))) + (M 120 (M 100 19).toNat))).toNat 0) 120 ((st M9 121 (w32 ((w32 (8 * (M 100 19))) + (M 120 (M 100 19).toNat))).toNat 0) 100 19).toNat)] (st M9 121 (w32 ((w32 (8 * (M 100 19))) + (M 120 (M 100 19).toNat))).toNat 0)) fun M10 =>
if 0 ≤ (M10 100 19) ∧ (M10 100 19) < 2 then
if 0 ≤ (M10 100 19) ∧ (M10 100 19) < 2 then
some (none, st M10 120 (M10 100 19).toNat (w32 ((M10 120 (M10 100 19).toNat) + 1)))
else none
else none
else none
else none
else
some (none, M9)
else none :=
  mat_unf gF gT [] 60 201 0 [rv 11 100, none, none, none] [] M
set_option maxRecDepth 20000 in
theorem e_GaugeNetModel_place  (M : mM) : gC 202 [rv 11 100] M =
some (iv (M 100 17), M) :=
  mat_unf gF gT [] 60 202 0 [rv 11 100] [] M
set_option maxRecDepth 20000 in
theorem e_GaugeNetModel_position (x1 : Int) (M : mM) : gC 203 [rv 11 100, iv x1] M =
bI (gC 204 [iv x1, iv 0, iv 3] M) fun c1 M1 =>
if ¬ c1 = 0 then
some (iv 1, st (st M1 100 35 x1) 100 44 0)
else
some (iv 0, M1) :=
  mat_unf gF gT [] 60 203 0 [rv 11 100, iv x1] [] M
set_option maxRecDepth 20000 in
theorem e_GaugeNetModel_inRange (x0 : Int) (x1 : Int) (x2 : Int) (M : mM) : gC 204 [iv x0, iv x1, iv x2] M =
if x0 < x1 then
some (iv 0, M)
else
if x2 < x0 then
some (iv 0, M)
else
some (iv 1, M) :=
  mat_unf gF gT [] 60 204 0 [iv x0, iv x1, iv x2] [] M
set_option maxRecDepth 20000 in
theorem e_GaugeNetModel_in (x1 : Int) (x2 : Int) (M : mM) : gC 205 [rv 11 100, iv x1, iv x2] M =
bI (gC 206 [rv 11 100, iv x1] M) fun c1 M1 =>
if ¬ c1 = 0 then
bI (gC 207 [iv (M1 100 36), iv x1, iv x2] M1) fun c2 M2 =>
some (iv 1, st (st M2 100 36 c2) 100 44 0)
else
some (iv 0, M1) :=
  mat_unf gF gT [] 60 205 0 [rv 11 100, iv x1, iv x2] [] M
