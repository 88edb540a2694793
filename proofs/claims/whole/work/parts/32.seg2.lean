/-! What each method does from each place on: by program, checked by unfolding. -/
set_option maxRecDepth 20000 in
theorem e_Blame_hear (w1 : Nat) (M : mM) : gC 3 [rv 0 29, rv 9 w1, rv 7 13] M =
gA 3 2 [rv 0 29, rv 9 w1, rv 7 13, iv 0, none, none] [] M :=
  mat_unf gF gT [2, 43] 60 3 0 [rv 0 29, rv 9 w1, rv 7 13, none, none, none] [] M
set_option maxRecDepth 20000 in
theorem s_Blame_hear_2 (w1 : Nat) (x3 : Int) (M : mM) : gA 3 2 [rv 0 29, rv 9 w1, rv 7 13, iv x3, none, none] [] M =
if 256 ≤ x3 then
bI (gC 115 [rv 9 w1] (st (st M 29 1 0) 29 2 ((st M 29 1 0) w1 3))) fun c1 M1 =>
gA 3 43 [rv 0 29, rv 9 w1, rv 7 13, iv c1, iv 0, none] [] M1
else
if 0 ≤ x3 ∧ x3 < 256 then
gA 3 2 [rv 0 29, rv 9 w1, rv 7 13, iv (w32 (x3 + 1)), none, none] [] (st M 30 (x3).toNat 0)
else none :=
  mat_unf gF gT [2, 43] 60 3 2 [rv 0 29, rv 9 w1, rv 7 13, iv x3, none, none] [] M
set_option maxRecDepth 20000 in
theorem s_Blame_hear_43 (w1 : Nat) (x3 : Int) (x4 : Int) (M : mM) : gA 3 43 [rv 0 29, rv 9 w1, rv 7 13, iv x3, iv x4, none] [] M =
if (M 13 4) ≤ x4 then
some (none, M)
else
bI (gC 77 [rv 7 13, iv x4, iv x3] M) fun c1 M1 =>
if c1 = 0 then
gA 3 43 [rv 0 29, rv 9 w1, rv 7 13, iv x3, iv (w32 (x4 + 1)), none] [] M1
else
bI (gC 82 [rv 7 13, iv x4] M1) fun c2 M2 =>
if c2 = 0 then
gA 3 43 [rv 0 29, rv 9 w1, rv 7 13, iv x3, iv (w32 (x4 + 1)), none] [] M2
else
bI (gC 78 [rv 7 13, iv x4] M2) fun c3 M3 =>
bI (gC 119 [rv 9 w1, iv c3] M3) fun c4 M4 =>
bI (gC 86 [rv 7 13, rv 9 w1, iv x4] M4) fun c5 M5 =>
if c5 = 0 then
gA 3 43 [rv 0 29, rv 9 w1, rv 7 13, iv x3, iv (w32 (x4 + 1)), none] [] (st M5 29 1 (or32 (M5 29 1) (and32 c4 255)))
else
if 0 ≤ (and32 c4 255) ∧ (and32 c4 255) < 256 then
gA 3 43 [rv 0 29, rv 9 w1, rv 7 13, iv x3, iv (w32 (x4 + 1)), none] [] (st M5 30 (and32 c4 255).toNat 1)
else none :=
  mat_unf gF gT [2, 43] 60 3 43 [rv 0 29, rv 9 w1, rv 7 13, iv x3, iv x4, none] [] M
set_option maxRecDepth 20000 in
theorem e_Blame_countSets (x1 : Int) (M : mM) : gC 4 [rv 0 29, iv x1] M =
gA 4 4 [rv 0 29, iv x1, iv 0, iv 0] [] M :=
  mat_unf gF gT [4] 60 4 0 [rv 0 29, iv x1, none, none] [] M
set_option maxRecDepth 20000 in
theorem s_Blame_countSets_4 (x1 : Int) (x2 : Int) (x3 : Int) (M : mM) : gA 4 4 [rv 0 29, iv x1, iv x2, iv x3] [] M =
if 3 < x3 then
some (iv x2, M)
else
bI (gC 5 [rv 0 29, iv x1, iv x3, iv (-1)] M) fun c1 M1 =>
gA 4 4 [rv 0 29, iv x1, iv (w32 (x2 + c1)), iv (w32 (x3 + 1))] [] M1 :=
  mat_unf gF gT [4] 60 4 4 [rv 0 29, iv x1, iv x2, iv x3] [] M
set_option maxRecDepth 20000 in
theorem e_Blame_countSetsOf (x1 : Int) (x2 : Int) (x3 : Int) (M : mM) : gC 5 [rv 0 29, iv x1, iv x2, iv x3] M =
gA 5 6 [rv 0 29, iv x1, iv x2, iv x3, iv 0, iv 0, none] [] M :=
  mat_unf gF gT [6] 60 5 0 [rv 0 29, iv x1, iv x2, iv x3, none, none, none] [] M
set_option maxRecDepth 20000 in
theorem s_Blame_countSetsOf_6 (x1 : Int) (x2 : Int) (x3 : Int) (x4 : Int) (x5 : Int) (M : mM) : gA 5 6 [rv 0 29, iv x1, iv x2, iv x3, iv x4, iv x5, none] [] M =
if (shl32 1 (M 29 2)) ≤ x5 then
some (iv x4, M)
else
bI (gC 0 [iv x5] M) fun c1 M1 =>
if ¬ c1 = x2 then
gA 5 6 [rv 0 29, iv x1, iv x2, iv x3, iv (w32 (x4 + 0)), iv (w32 (x5 + 1)), none] [] M1
else
if x3 = (-1) then
bI (gC 6 [rv 0 29, iv x5, iv x1] M1) fun c2 M2 =>
if c2 = 0 then
gA 5 6 [rv 0 29, iv x1, iv x2, iv x3, iv (w32 (x4 + 0)), iv (w32 (x5 + 1)), none] [] M2
else
gA 5 6 [rv 0 29, iv x1, iv x2, iv x3, iv (w32 (x4 + 1)), iv (w32 (x5 + 1)), none] [] M2
else
bI (gC 128 [iv x5, iv x3] M1) fun c3 M3 =>
if c3 = 0 then
gA 5 6 [rv 0 29, iv x1, iv x2, iv x3, iv (w32 (x4 + 0)), iv (w32 (x5 + 1)), none] [] M3
else
bI (gC 6 [rv 0 29, iv x5, iv x1] M3) fun c4 M4 =>
if c4 = 0 then
gA 5 6 [rv 0 29, iv x1, iv x2, iv x3, iv (w32 (x4 + 0)), iv (w32 (x5 + 1)), none] [] M4
else
gA 5 6 [rv 0 29, iv x1, iv x2, iv x3, iv (w32 (x4 + 1)), iv (w32 (x5 + 1)), none] [] M4 :=
  mat_unf gF gT [6] 60 5 6 [rv 0 29, iv x1, iv x2, iv x3, iv x4, iv x5, none] [] M
set_option maxRecDepth 20000 in
theorem e_Blame_isSet (x1 : Int) (x2 : Int) (M : mM) : gC 6 [rv 0 29, iv x1, iv x2] M =
if x2 = 0 then
bI (gC 7 [rv 0 29, iv x1] M) fun c1 M1 =>
if ¬ c1 = 0 then
gA 6 25 [rv 0 29, iv x1, none, iv 0] [] M1
else
some (iv 0, M1)
else
if ¬ (and32 x1 (M 29 1)) = 0 then
some (iv 0, M)
else
bI (gC 7 [rv 0 29, iv x1] M) fun c2 M2 =>
if ¬ c2 = 0 then
gA 6 25 [rv 0 29, iv x1, none, iv 0] [] M2
else
some (iv 0, M2) :=
  mat_unf gF gT [25] 60 6 0 [rv 0 29, iv x1, iv x2, none] [] M
set_option maxRecDepth 20000 in
theorem s_Blame_isSet_25 (x1 : Int) (x3 : Int) (M : mM) : gA 6 25 [rv 0 29, iv x1, none, iv x3] [] M =
if 8 ≤ x3 then
some (iv 1, M)
else
bI (gC 128 [iv x1, iv x3] M) fun c1 M1 =>
if c1 = 0 then
gA 6 25 [rv 0 29, iv x1, none, iv (w32 (x3 + 1))] [] M1
else
bI (gC 7 [rv 0 29, iv (and32 x1 (xor32 (shl32 1 x3) (-1)))] M1) fun c2 M2 =>
if c2 = 0 then
gA 6 25 [rv 0 29, iv x1, none, iv (w32 (x3 + 1))] [] M2
else
some (iv 0, M2) :=
  mat_unf gF gT [25] 60 6 25 [rv 0 29, iv x1, none, iv x3] [] M
set_option maxRecDepth 20000 in
theorem e_Blame_isEnough (x1 : Int) (M : mM) : gC 7 [rv 0 29, iv x1] M =
gA 7 2 [rv 0 29, iv x1, iv 0] [] M :=
  mat_unf gF gT [2] 60 7 0 [rv 0 29, iv x1, none] [] M
set_option maxRecDepth 20000 in
theorem s_Blame_isEnough_2 (x1 : Int) (x2 : Int) (M : mM) : gA 7 2 [rv 0 29, iv x1, iv x2] [] M =
if 256 ≤ x2 then
some (iv 1, M)
else
if 0 ≤ x2 ∧ x2 < 256 then
if (M 30 (x2).toNat) = 0 then
gA 7 2 [rv 0 29, iv x1, iv (w32 (x2 + 1))] [] M
else
if ¬ (and32 x2 x1) = 0 then
gA 7 2 [rv 0 29, iv x1, iv (w32 (x2 + 1))] [] M
else
some (iv 0, M)
else none :=
  mat_unf gF gT [2] 60 7 2 [rv 0 29, iv x1, iv x2] [] M
set_option maxRecDepth 20000 in
theorem e_Blame_setAt (x1 : Int) (x2 : Int) (M : mM) : gC 8 [rv 0 29, iv x1, iv x2] M =
gA 8 5 [rv 0 29, iv x1, iv x2, iv 0, iv 0, none] [] M :=
  mat_unf gF gT [5, 18] 60 8 0 [rv 0 29, iv x1, iv x2, none, none, none] [] M
set_option maxRecDepth 20000 in
theorem s_Blame_setAt_5 (x1 : Int) (x2 : Int) (x3 : Int) (x4 : Int) (M : mM) : gA 8 5 [rv 0 29, iv x1, iv x2, iv x3, iv x4, none] [] M =
if 3 < x4 then
some (iv (-1), M)
else
if x2 < 0 then
some (iv (-1), M)
else
gA 8 18 [rv 0 29, iv x1, iv x2, iv x3, iv x4, iv 0] [] M :=
  mat_unf gF gT [5, 18] 60 8 5 [rv 0 29, iv x1, iv x2, iv x3, iv x4, none] [] M
set_option maxRecDepth 20000 in
theorem s_Blame_setAt_18 (x1 : Int) (x2 : Int) (x3 : Int) (x4 : Int) (x5 : Int) (M : mM) : gA 8 18 [rv 0 29, iv x1, iv x2, iv x3, iv x4, iv x5] [] M =
if (shl32 1 (M 29 2)) ≤ x5 then
gA 8 5 [rv 0 29, iv x1, iv x2, iv x3, iv (w32 (x4 + 1)), none] [] M
else
bI (gC 0 [iv x5] M) fun c1 M1 =>
if ¬ c1 = x4 then
gA 8 18 [rv 0 29, iv x1, iv x2, iv x3, iv x4, iv (w32 (x5 + 1))] [] M1
else
bI (gC 6 [rv 0 29, iv x5, iv x1] M1) fun c2 M2 =>
if c2 = 0 then
gA 8 18 [rv 0 29, iv x1, iv x2, iv x3, iv x4, iv (w32 (x5 + 1))] [] M2
else
if ¬ x3 = x2 then
gA 8 18 [rv 0 29, iv x1, iv x2, iv (w32 (x3 + 1)), iv x4, iv (w32 (x5 + 1))] [] M2
else
some (iv x5, M2) :=
  mat_unf gF gT [5, 18] 60 8 18 [rv 0 29, iv x1, iv x2, iv x3, iv x4, iv x5] [] M
set_option maxRecDepth 20000 in
theorem e_Blame_bestLook  (M : mM) : gC 9 [rv 0 29] M =
bI (gC 4 [rv 0 29, iv 0] M) fun c1 M1 =>
gA 9 14 [rv 0 29, iv c1, iv (-2), iv 0, iv 0, none, none] [] M1 :=
  mat_unf gF gT [14, 29] 60 9 0 [rv 0 29, none, none, none, none, none, none] [] M
set_option maxRecDepth 20000 in
theorem s_Blame_bestLook_14 (x1 : Int) (x2 : Int) (x3 : Int) (x4 : Int) (M : mM) : gA 9 14 [rv 0 29, iv x1, iv x2, iv x3, iv x4, none, none] [] M =
if (M 29 2) ≤ x4 then
some (iv x2, M)
else
gA 9 29 [rv 0 29, iv x1, iv x2, iv x3, iv x4, iv 0, iv 0] [] M :=
  mat_unf gF gT [14, 29] 60 9 14 [rv 0 29, iv x1, iv x2, iv x3, iv x4, none, none] [] M
set_option maxRecDepth 20000 in
theorem s_Blame_bestLook_29 (x1 : Int) (x2 : Int) (x3 : Int) (x4 : Int) (x5 : Int) (x6 : Int) (M : mM) : gA 9 29 [rv 0 29, iv x1, iv x2, iv x3, iv x4, iv x5, iv x6] [] M =
if 3 < x6 then
if x2 = (-2) then
gA 9 14 [rv 0 29, iv x1, iv x4, iv (max32 x5 (w32 (x1 - x5))), iv (w32 (x4 + 1)), none, none] [] M
else
if x3 ≤ (max32 x5 (w32 (x1 - x5))) then
gA 9 14 [rv 0 29, iv x1, iv x2, iv x3, iv (w32 (x4 + 1)), none, none] [] M
else
gA 9 14 [rv 0 29, iv x1, iv x4, iv (max32 x5 (w32 (x1 - x5))), iv (w32 (x4 + 1)), none, none] [] M
else
bI (gC 5 [rv 0 29, iv 0, iv x6, iv x4] M) fun c1 M1 =>
gA 9 29 [rv 0 29, iv x1, iv x2, iv x3, iv x4, iv (w32 (x5 + c1)), iv (w32 (x6 + 1))] [] M1 :=
  mat_unf gF gT [14, 29] 60 9 29 [rv 0 29, iv x1, iv x2, iv x3, iv x4, iv x5, iv x6] [] M
set_option maxRecDepth 20000 in
theorem e_Blame_isHiding (w1 : Nat) (x3 : Int) (x4 : Int) (M : mM) : gC 10 [rv 0 29, rv 9 w1, rv 7 13, iv x3, iv x4] M =
bI (gC 115 [rv 9 w1] M) fun c1 M1 =>
gA 10 15 [none, none, rv 7 13, iv x3, iv x4, iv c1, jv 0, none, jv 0, none, iv 0, none, none, none, none, none, none, none] [] M1 :=
  mat_unf gF gT [15, 159, 197, 199] 60 10 0 [rv 0 29, rv 9 w1, rv 7 13, iv x3, iv x4, none, none, none, none, none, none, none, none, none, none, none, none, none] [] M
set_option maxRecDepth 20000 in
theorem s_Blame_isHiding_15 (x3 : Int) (x4 : Int) (x5 : Int) (x6 : Int) (x8 : Int) (x10 : Int) (M : mM) : gA 10 15 [none, none, rv 7 13, iv x3, iv x4, iv x5, jv x6, none, jv x8, none, iv x10, none, none, none, none, none, none, none] [] M =
if (M 13 4) ≤ x10 then
if (lcmp x6 0) = 0 then
some (iv 0, M)
else
some (iv 1, M)
else
if x3 = x4 then
if (lcmp x6 0) = 0 then
some (iv 0, M)
else
some (iv 1, M)
else
bI (gC 77 [rv 7 13, iv x10, iv x5] M) fun c1 M1 =>
if c1 = 0 then
bI (gC 77 [rv 7 13, iv x10, iv x5] M1) fun c2 M2 =>
if c2 = 0 then
if 0 ≤ (lcmp 0 0) then
bJ (gC 158 [jv 0, jv 0] M2) fun c3 M3 =>
if (lcmp c3 0) = 0 then
gA 10 199 [none, none, rv 7 13, iv x3, iv x4, iv x5, jv x6, none, jv x8, none, iv x10, none, none, none, none, none, none, none] [] M3
else
if ¬ (lcmp x6 0) = 0 then
gA 10 159 [none, none, rv 7 13, iv x3, iv x4, iv x5, jv x6, none, none, none, iv x10, jv 0, none, jv 0, none, jv c3, none, none] [jv x8] M3
else
if c3 = 0 then none else
if c3 = 0 then none else
gA 10 159 [none, none, rv 7 13, iv x3, iv x4, iv x5, jv (w64 ((0 : Int).tdiv c3)), none, none, none, iv x10, jv 0, none, jv 0, none, jv c3, none, none] [jv (w64 ((0 : Int).tdiv c3))] M3
else
bJ (gC 158 [jv 0, jv 0] M2) fun c4 M4 =>
if (lcmp (w64 (-c4)) 0) = 0 then
gA 10 199 [none, none, rv 7 13, iv x3, iv x4, iv x5, jv x6, none, jv x8, none, iv x10, none, none, none, none, none, none, none] [] M4
else
if ¬ (lcmp x6 0) = 0 then
gA 10 159 [none, none, rv 7 13, iv x3, iv x4, iv x5, jv x6, none, none, none, iv x10, jv 0, none, jv 0, none, jv (w64 (-c4)), none, none] [jv x8] M4
else
if (w64 (-c4)) = 0 then none else
if (w64 (-c4)) = 0 then none else
gA 10 159 [none, none, rv 7 13, iv x3, iv x4, iv x5, jv (w64 ((0 : Int).tdiv (w64 (-c4)))), none, none, none, iv x10, jv 0, none, jv 0, none, jv (w64 (-c4)), none, none] [jv (w64 ((0 : Int).tdiv (w64 (-c4))))] M4
else
bJ (gC 83 [rv 7 13, iv x10, iv x4] M2) fun c5 M5 =>
if 0 ≤ (lcmp 0 0) then
bJ (gC 158 [jv 0, jv c5] M5) fun c6 M6 =>
if (lcmp c6 0) = 0 then
gA 10 199 [none, none, rv 7 13, iv x3, iv x4, iv x5, jv x6, none, jv x8, none, iv x10, none, none, none, none, none, none, none] [] M6
else
if ¬ (lcmp x6 0) = 0 then
gA 10 159 [none, none, rv 7 13, iv x3, iv x4, iv x5, jv x6, none, none, none, iv x10, jv 0, none, jv c5, none, jv c6, none, none] [jv x8] M6
else
if c6 = 0 then none else
if c6 = 0 then none else
gA 10 159 [none, none, rv 7 13, iv x3, iv x4, iv x5, jv (w64 ((0 : Int).tdiv c6)), none, none, none, iv x10, jv 0, none, jv c5, none, jv c6, none, none] [jv (w64 ((c5).tdiv c6))] M6
else
bJ (gC 158 [jv 0, jv c5] M5) fun c7 M7 =>
if (lcmp (w64 (-c7)) 0) = 0 then
gA 10 199 [none, none, rv 7 13, iv x3, iv x4, iv x5, jv x6, none, jv x8, none, iv x10, none, none, none, none, none, none, none] [] M7
else
if ¬ (lcmp x6 0) = 0 then
gA 10 159 [none, none, rv 7 13, iv x3, iv x4, iv x5, jv x6, none, none, none, iv x10, jv 0, none, jv c5, none, jv (w64 (-c7)), none, none] [jv x8] M7
else
if (w64 (-c7)) = 0 then none else
if (w64 (-c7)) = 0 then none else
gA 10 159 [none, none, rv 7 13, iv x3, iv x4, iv x5, jv (w64 ((0 : Int).tdiv (w64 (-c7)))), none, none, none, iv x10, jv 0, none, jv c5, none, jv (w64 (-c7)), none, none] [jv (w64 ((c5).tdiv (w64 (-c7))))] M7
else
bJ (gC 83 [rv 7 13, iv x10, iv x3] M1) fun c8 M8 =>
bI (gC 77 [rv 7 13, iv x10, iv x5] M8) fun c9 M9 =>
if c9 = 0 then
if 0 ≤ (lcmp c8 0) then
bJ (gC 158 [jv c8, jv 0] M9) fun c10 M10 =>
if (lcmp c10 0) = 0 then
gA 10 199 [none, none, rv 7 13, iv x3, iv x4, iv x5, jv x6, none, jv x8, none, iv x10, none, none, none, none, none, none, none] [] M10
else
if ¬ (lcmp x6 0) = 0 then
gA 10 159 [none, none, rv 7 13, iv x3, iv x4, iv x5, jv x6, none, none, none, iv x10, jv c8, none, jv 0, none, jv c10, none, none] [jv x8] M10
else
if c10 = 0 then none else
if c10 = 0 then none else
gA 10 159 [none, none, rv 7 13, iv x3, iv x4, iv x5, jv (w64 ((c8).tdiv c10)), none, none, none, iv x10, jv c8, none, jv 0, none, jv c10, none, none] [jv (w64 ((0 : Int).tdiv c10))] M10
else
bJ (gC 158 [jv c8, jv 0] M9) fun c11 M11 =>
if (lcmp (w64 (-c11)) 0) = 0 then
gA 10 199 [none, none, rv 7 13, iv x3, iv x4, iv x5, jv x6, none, jv x8, none, iv x10, none, none, none, none, none, none, none] [] M11
else
if ¬ (lcmp x6 0) = 0 then
gA 10 159 [none, none, rv 7 13, iv x3, iv x4, iv x5, jv x6, none, none, none, iv x10, jv c8, none, jv 0, none, jv (w64 (-c11)), none, none] [jv x8] M11
else
if (w64 (-c11)) = 0 then none else
if (w64 (-c11)) = 0 then none else
gA 10 159 [none, none, rv 7 13, iv x3, iv x4, iv x5, jv (w64 ((c8).tdiv (w64 (-c11)))), none, none, none, iv x10, jv c8, none, jv 0, none, jv (w64 (-c11)), none, none] [jv (w64 ((0 : Int).tdiv (w64 (-c11))))] M11
else
bJ (gC 83 [rv 7 13, iv x10, iv x4] M9) fun c12 M12 =>
if 0 ≤ (lcmp c8 0) then
bJ (gC 158 [jv c8, jv c12] M12) fun c13 M13 =>
if (lcmp c13 0) = 0 then
gA 10 199 [none, none, rv 7 13, iv x3, iv x4, iv x5, jv x6, none, jv x8, none, iv x10, none, none, none, none, none, none, none] [] M13
else
if ¬ (lcmp x6 0) = 0 then
gA 10 159 [none, none, rv 7 13, iv x3, iv x4, iv x5, jv x6, none, none, none, iv x10, jv c8, none, jv c12, none, jv c13, none, none] [jv x8] M13
else
if c13 = 0 then none else
if c13 = 0 then none else
gA 10 159 [none, none, rv 7 13, iv x3, iv x4, iv x5, jv (w64 ((c8).tdiv c13)), none, none, none, iv x10, jv c8, none, jv c12, none, jv c13, none, none] [jv (w64 ((c12).tdiv c13))] M13
else
bJ (gC 158 [jv c8, jv c12] M12) fun c14 M14 =>
if (lcmp (w64 (-c14)) 0) = 0 then
gA 10 199 [none, none, rv 7 13, iv x3, iv x4, iv x5, jv x6, none, jv x8, none, iv x10, none, none, none, none, none, none, none] [] M14
else
if ¬ (lcmp x6 0) = 0 then
gA 10 159 [none, none, rv 7 13, iv x3, iv x4, iv x5, jv x6, none, none, none, iv x10, jv c8, none, jv c12, none, jv (w64 (-c14)), none, none] [jv x8] M14
else
if (w64 (-c14)) = 0 then none else
if (w64 (-c14)) = 0 then none else
gA 10 159 [none, none, rv 7 13, iv x3, iv x4, iv x5, jv (w64 ((c8).tdiv (w64 (-c14)))), none, none, none, iv x10, jv c8, none, jv c12, none, jv (w64 (-c14)), none, none] [jv (w64 ((c12).tdiv (w64 (-c14))))] M14 :=
  mat_unf gF gT [15, 159, 197, 199] 60 10 15 [none, none, rv 7 13, iv x3, iv x4, iv x5, jv x6, none, jv x8, none, iv x10, none, none, none, none, none, none, none] [] M
set_option maxRecDepth 20000 in
theorem s_Blame_isHiding_199 (x3 : Int) (x4 : Int) (x5 : Int) (x6 : Int) (x8 : Int) (x10 : Int) (M : mM) : gA 10 199 [none, none, rv 7 13, iv x3, iv x4, iv x5, jv x6, none, jv x8, none, iv x10, none, none, none, none, none, none, none] [] M =
gA 10 15 [none, none, rv 7 13, iv x3, iv x4, iv x5, jv x6, none, jv x8, none, iv (w32 (x10 + 1)), none, none, none, none, none, none, none] [] M :=
  mat_unf gF gT [15, 159, 197, 199] 60 10 199 [none, none, rv 7 13, iv x3, iv x4, iv x5, jv x6, none, jv x8, none, iv x10, none, none, none, none, none, none, none] [] M
set_option maxRecDepth 20000 in
theorem s_Blame_isHiding_159 (x3 : Int) (x4 : Int) (x5 : Int) (x6 : Int) (x10 : Int) (x11 : Int) (x13 : Int) (x15 : Int) (s0 : Int) (M : mM) : gA 10 159 [none, none, rv 7 13, iv x3, iv x4, iv x5, jv x6, none, none, none, iv x10, jv x11, none, jv x13, none, jv x15, none, none] [jv s0] M =
if (lcmp x11 0) = 0 then
gA 10 197 [none, none, none, none, none, none, none, none, none, none, none, none, none, none, none, none, none, none] [] M
else
if (lcmp x13 0) = 0 then
gA 10 197 [none, none, none, none, none, none, none, none, none, none, none, none, none, none, none, none, none, none] [] M
else
if x15 = 0 then none else
if ¬ (lcmp (w64 ((x11).tdiv x15)) x6) = 0 then
gA 10 197 [none, none, none, none, none, none, none, none, none, none, none, none, none, none, none, none, none, none] [] M
else
if x15 = 0 then none else
if (lcmp (w64 ((x13).tdiv x15)) s0) = 0 then
gA 10 199 [none, none, rv 7 13, iv x3, iv x4, iv x5, jv x6, none, jv s0, none, iv x10, none, none, none, none, none, none, none] [] M
else
gA 10 197 [none, none, none, none, none, none, none, none, none, none, none, none, none, none, none, none, none, none] [] M :=
  mat_unf gF gT [15, 159, 197, 199] 60 10 159 [none, none, rv 7 13, iv x3, iv x4, iv x5, jv x6, none, none, none, iv x10, jv x11, none, jv x13, none, jv x15, none, none] [jv s0] M
set_option maxRecDepth 20000 in
theorem s_Blame_isHiding_197  (M : mM) : gA 10 197 [none, none, none, none, none, none, none, none, none, none, none, none, none, none, none, none, none, none] [] M =
some (iv 0, M) :=
  mat_unf gF gT [15, 159, 197, 199] 60 10 197 [none, none, none, none, none, none, none, none, none, none, none, none, none, none, none, none, none, none] [] M
set_option maxRecDepth 20000 in
theorem e_Blame_countJudged (w1 : Nat) (x3 : Int) (x4 : Int) (x5 : Int) (M : mM) : gC 11 [rv 0 29, rv 9 w1, rv 7 13, iv x3, iv x4, iv x5] M =
bV (gC 12 [rv 0 29, rv 9 w1, rv 7 13, iv x3] M) fun M1 =>
gA 11 18 [rv 0 29, none, none, iv x3, iv x4, iv x5, iv 511, iv 0, iv 1, none, none] [] M1 :=
  mat_unf gF gT [18] 60 11 0 [rv 0 29, rv 9 w1, rv 7 13, iv x3, iv x4, iv x5, none, none, none, none, none] [] M
set_option maxRecDepth 20000 in
theorem s_Blame_countJudged_18 (x3 : Int) (x4 : Int) (x5 : Int) (x6 : Int) (x7 : Int) (x8 : Int) (M : mM) : gA 11 18 [rv 0 29, none, none, iv x3, iv x4, iv x5, iv x6, iv x7, iv x8, none, none] [] M =
if x4 < x8 then
some (iv x7, M)
else
if 201 ≤ x8 then
some (iv x7, M)
else
if 0 ≤ x8 ∧ x8 < 201 then
bI (gC 14 [iv (and32 x6 (M 31 (x8).toNat))] M) fun c1 M1 =>
if ¬ c1 = x3 then
if ¬ c1 = (-1) then
if ¬ 2 = x5 then
gA 11 18 [rv 0 29, none, none, iv x3, iv x4, iv x5, iv (and32 x6 (M 31 (x8).toNat)), iv (w32 (x7 + 0)), iv (w32 (x8 + 1)), none, none] [] M1
else
gA 11 18 [rv 0 29, none, none, iv x3, iv x4, iv x5, iv (and32 x6 (M 31 (x8).toNat)), iv (w32 (x7 + 1)), iv (w32 (x8 + 1)), none, none] [] M1
else
if ¬ 1 = x5 then
gA 11 18 [rv 0 29, none, none, iv x3, iv x4, iv x5, iv (and32 x6 (M 31 (x8).toNat)), iv (w32 (x7 + 0)), iv (w32 (x8 + 1)), none, none] [] M1
else
gA 11 18 [rv 0 29, none, none, iv x3, iv x4, iv x5, iv (and32 x6 (M 31 (x8).toNat)), iv (w32 (x7 + 1)), iv (w32 (x8 + 1)), none, none] [] M1
else
if ¬ 0 = x5 then
gA 11 18 [rv 0 29, none, none, iv x3, iv x4, iv x5, iv (and32 x6 (M 31 (x8).toNat)), iv (w32 (x7 + 0)), iv (w32 (x8 + 1)), none, none] [] M1
else
gA 11 18 [rv 0 29, none, none, iv x3, iv x4, iv x5, iv (and32 x6 (M 31 (x8).toNat)), iv (w32 (x7 + 1)), iv (w32 (x8 + 1)), none, none] [] M1
else none :=
  mat_unf gF gT [18] 60 11 18 [rv 0 29, none, none, iv x3, iv x4, iv x5, iv x6, iv x7, iv x8, none, none] [] M
set_option maxRecDepth 20000 in
theorem e_Blame_gatherCommon (w1 : Nat) (x3 : Int) (M : mM) : gC 12 [rv 0 29, rv 9 w1, rv 7 13, iv x3] M =
bV (gC 1 [rv 904 31, iv 511] M) fun M1 =>
bI (gC 115 [rv 9 w1] M1) fun c2 M2 =>
bI (gC 118 [rv 9 w1, iv x3] M2) fun c3 M3 =>
gA 12 26 [rv 0 29, rv 9 w1, rv 7 13, none, iv c2, iv c3, iv 0, none, none] [] M3 :=
  mat_unf gF gT [26] 60 12 0 [rv 0 29, rv 9 w1, rv 7 13, iv x3, none, none, none, none, none] [] M
set_option maxRecDepth 20000 in
theorem s_Blame_gatherCommon_26 (w1 : Nat) (x4 : Int) (x5 : Int) (x6 : Int) (M : mM) : gA 12 26 [rv 0 29, rv 9 w1, rv 7 13, none, iv x4, iv x5, iv x6, none, none] [] M =
if (M 13 4) ≤ x6 then
some (none, M)
else
bJ (gC 13 [rv 9 w1, rv 7 13, iv x6, iv x4, iv x5] M) fun c1 M1 =>
if (lcmp c1 0) ≤ 0 then
gA 12 26 [rv 0 29, rv 9 w1, rv 7 13, none, iv x4, iv x5, iv (w32 (x6 + 1)), none, none] [] M1
else
if 0 ≤ (lcmp c1 201) then
gA 12 26 [rv 0 29, rv 9 w1, rv 7 13, none, iv x4, iv x5, iv (w32 (x6 + 1)), none, none] [] M1
else
if 0 ≤ (w32 c1) ∧ (w32 c1) < 201 then
bI (gC 78 [rv 7 13, iv x6] M1) fun c2 M2 =>
bI (gC 119 [rv 9 w1, iv c2] M2) fun c3 M3 =>
if 0 ≤ (w32 c1) ∧ (w32 c1) < 201 then
gA 12 26 [rv 0 29, rv 9 w1, rv 7 13, none, iv x4, iv x5, iv (w32 (x6 + 1)), none, none] [] (st M3 31 (w32 c1).toNat (and32 (M1 31 (w32 c1).toNat) c3))
else none
else none :=
  mat_unf gF gT [26] 60 12 26 [rv 0 29, rv 9 w1, rv 7 13, none, iv x4, iv x5, iv x6, none, none] [] M
set_option maxRecDepth 20000 in
theorem e_Blame_ringsFrom (w0 : Nat) (x2 : Int) (x3 : Int) (x4 : Int) (M : mM) : gC 13 [rv 9 w0, rv 7 13, iv x2, iv x3, iv x4] M =
bI (gC 77 [rv 7 13, iv x2, iv x3] M) fun c1 M1 =>
if c1 = 0 then
if ¬ (lcmp 0 0) = 0 then
bJ (gC 85 [rv 7 13, rv 9 w0, iv x2] M1) fun c2 M2 =>
if 0 = 0 then none else
some (jv (w64 ((w64 ((c2).tdiv 0)) + 1)), M2)
else
some (jv 0, M1)
else
bJ (gC 83 [rv 7 13, iv x2, iv x4] M1) fun c3 M3 =>
if ¬ (lcmp (abs64 c3) 0) = 0 then
bJ (gC 85 [rv 7 13, rv 9 w0, iv x2] M3) fun c4 M4 =>
if (abs64 c3) = 0 then none else
some (jv (w64 ((w64 ((c4).tdiv (abs64 c3))) + 1)), M4)
else
some (jv 0, M3) :=
  mat_unf gF gT [] 60 13 0 [rv 9 w0, rv 7 13, iv x2, iv x3, iv x4, none, none] [] M
set_option maxRecDepth 20000 in
theorem e_Blame_firstOf (x0 : Int) (M : mM) : gC 14 [iv x0] M =
gA 14 2 [iv x0, iv 0] [] M :=
  mat_unf gF gT [2] 60 14 0 [iv x0, none] [] M
set_option maxRecDepth 20000 in
theorem s_Blame_firstOf_2 (x0 : Int) (x1 : Int) (M : mM) : gA 14 2 [iv x0, iv x1] [] M =
if 8 ≤ x1 then
some (iv (-1), M)
else
if ¬ (and32 x0 256) = 0 then
some (iv (-1), M)
else
bI (gC 128 [iv x0, iv x1] M) fun c1 M1 =>
if c1 = 0 then
gA 14 2 [iv x0, iv (w32 (x1 + 1))] [] M1
else
some (iv x1, M1) :=
  mat_unf gF gT [2] 60 14 2 [iv x0, iv x1] [] M
set_option maxRecDepth 20000 in
theorem e_Blame_firstBlamed (w1 : Nat) (x3 : Int) (x4 : Int) (M : mM) : gC 15 [rv 0 29, rv 9 w1, rv 7 13, iv x3, iv x4] M =
bI (gC 115 [rv 9 w1] M) fun c1 M1 =>
bI (gC 118 [rv 9 w1, iv x3] M1) fun c2 M2 =>
gA 15 21 [none, rv 9 w1, rv 7 13, none, iv x4, iv c1, iv c2, iv 511, iv 0, none, none] [] M2 :=
  mat_unf gF gT [21] 60 15 0 [rv 0 29, rv 9 w1, rv 7 13, iv x3, iv x4, none, none, none, none, none, none] [] M
set_option maxRecDepth 20000 in
theorem s_Blame_firstBlamed_21 (w1 : Nat) (x4 : Int) (x5 : Int) (x6 : Int) (x7 : Int) (x8 : Int) (M : mM) : gA 15 21 [none, rv 9 w1, rv 7 13, none, iv x4, iv x5, iv x6, iv x7, iv x8, none, none] [] M =
if (M 13 4) ≤ x8 then
bI (gC 14 [iv x7] M) fun c1 M1 =>
some (iv c1, M1)
else
bJ (gC 13 [rv 9 w1, rv 7 13, iv x8, iv x5, iv x6] M) fun c2 M2 =>
if (lcmp c2 0) ≤ 0 then
gA 15 21 [none, rv 9 w1, rv 7 13, none, iv x4, iv x5, iv x6, iv x7, iv (w32 (x8 + 1)), none, none] [] M2
else
if 0 < (lcmp c2 x4) then
gA 15 21 [none, rv 9 w1, rv 7 13, none, iv x4, iv x5, iv x6, iv x7, iv (w32 (x8 + 1)), none, none] [] M2
else
bI (gC 78 [rv 7 13, iv x8] M2) fun c3 M3 =>
bI (gC 119 [rv 9 w1, iv c3] M3) fun c4 M4 =>
gA 15 21 [none, rv 9 w1, rv 7 13, none, iv x4, iv x5, iv x6, iv (and32 x7 c4), iv (w32 (x8 + 1)), none, none] [] M4 :=
  mat_unf gF gT [21] 60 15 21 [none, rv 9 w1, rv 7 13, none, iv x4, iv x5, iv x6, iv x7, iv x8, none, none] [] M
set_option maxRecDepth 20000 in
theorem e_Elimination_solve (w1 : Nat) (x2 : Int) (M : mM) : gC 16 [rv 1 17, rv 9 w1, iv x2] M =
bV (gC 17 [rv 1 17, rv 9 w1, iv x2] M) fun M1 =>
gA 16 23 [rv 1 17, none, none, iv 0, none] [] (st (st (st M1 17 5 0) 17 6 (-1)) 17 7 1) :=
  mat_unf gF gT [23] 60 16 0 [rv 1 17, rv 9 w1, iv x2, none, none] [] M
set_option maxRecDepth 20000 in
theorem s_Elimination_solve_23 (x3 : Int) (M : mM) : gA 16 23 [rv 1 17, none, none, iv x3, none] [] M =
if (M 17 4) ≤ x3 then
if ¬ (M 17 6) = (-1) then
bV (gC 25 [rv 1 17] M) fun M1 =>
bV (gC 26 [rv 1 17] M1) fun M2 =>
some (iv 1, M2)
else
some (iv 0, M)
else
bI (gC 20 [rv 1 17, iv x3] M) fun c3 M3 =>
if c3 = (-1) then
if ¬ (M3 17 6) = (-1) then
some (iv 0, M3)
else
gA 16 23 [rv 1 17, none, none, iv (w32 (x3 + 1)), none] [] (st M3 17 6 x3)
else
bV (gC 22 [rv 1 17, iv c3, iv x3] M3) fun M4 =>
gA 16 23 [rv 1 17, none, none, iv (w32 (x3 + 1)), none] [] M4 :=
  mat_unf gF gT [23] 60 16 23 [rv 1 17, none, none, iv x3, none] [] M
set_option maxRecDepth 20000 in
theorem e_Elimination_fillGrid (w1 : Nat) (x2 : Int) (M : mM) : gC 17 [rv 1 17, rv 9 w1, iv x2] M =
bV (gC 2 [rv 325 18, jv 0] M) fun M1 =>
bV (gC 2 [rv 133 20, jv 0] M1) fun M2 =>
gA 17 26 [rv 1 17, rv 9 w1, iv x2, iv 0, iv 0] [] (st M2 17 4 0) :=
  mat_unf gF gT [26, 64] 60 17 0 [rv 1 17, rv 9 w1, iv x2, none, none] [] M
set_option maxRecDepth 20000 in
theorem s_Elimination_fillGrid_26 (w1 : Nat) (x2 : Int) (x3 : Int) (x4 : Int) (M : mM) : gA 17 26 [rv 1 17, rv 9 w1, iv x2, iv x3, iv x4] [] M =
if 14 ≤ x4 then
gA 17 64 [rv 1 17, rv 9 w1, iv x2, iv x3, iv 0] [] M
else
bI (gC 128 [iv x2, iv x4] M) fun c1 M1 =>
if c1 = 0 then
gA 17 26 [rv 1 17, rv 9 w1, iv x2, iv (or32 x3 0), iv (w32 (x4 + 1))] [] M1
else
bI (gC 105 [rv 9 w1, iv x4] M1) fun c2 M2 =>
gA 17 26 [rv 1 17, rv 9 w1, iv x2, iv (or32 x3 c2), iv (w32 (x4 + 1))] [] M2 :=
  mat_unf gF gT [26, 64] 60 17 26 [rv 1 17, rv 9 w1, iv x2, iv x3, iv x4] [] M
set_option maxRecDepth 20000 in
theorem s_Elimination_fillGrid_64 (w1 : Nat) (x2 : Int) (x3 : Int) (x4 : Int) (M : mM) : gA 17 64 [rv 1 17, rv 9 w1, iv x2, iv x3, iv x4] [] M =
if 14 ≤ x4 then
bI (gC 0 [iv x3] M) fun c1 M1 =>
some (none, st M1 17 3 (min32 c1 7))
else
if 8 ≤ (M 17 4) then
bI (gC 0 [iv x3] M) fun c2 M2 =>
some (none, st M2 17 3 (min32 c2 7))
else
bI (gC 128 [iv x2, iv x4] M) fun c3 M3 =>
if c3 = 0 then
gA 17 64 [rv 1 17, rv 9 w1, iv x2, iv x3, iv (w32 (x4 + 1))] [] M3
else
bV (gC 18 [rv 1 17, rv 9 w1, iv x4, iv x3] M3) fun M4 =>
gA 17 64 [rv 1 17, rv 9 w1, iv x2, iv x3, iv (w32 (x4 + 1))] [] (st M4 17 4 (w32 ((M4 17 4) + 1))) :=
  mat_unf gF gT [26, 64] 60 17 64 [rv 1 17, rv 9 w1, iv x2, iv x3, iv x4] [] M
set_option maxRecDepth 20000 in
theorem e_Elimination_fillColumn (w1 : Nat) (x2 : Int) (x3 : Int) (M : mM) : gC 18 [rv 1 17, rv 9 w1, iv x2, iv x3] M =
gA 18 6 [rv 1 17, rv 9 w1, iv x2, iv x3, iv 0, iv 0] [] M :=
  mat_unf gF gT [6] 60 18 0 [rv 1 17, rv 9 w1, iv x2, iv x3, none, none] [] M
set_option maxRecDepth 20000 in
theorem s_Elimination_fillColumn_6 (w1 : Nat) (x2 : Int) (x3 : Int) (x4 : Int) (x5 : Int) (M : mM) : gA 18 6 [rv 1 17, rv 9 w1, iv x2, iv x3, iv x4, iv x5] [] M =
if 7 ≤ x5 then
some (none, M)
else
bI (gC 128 [iv x3, iv x5] M) fun c1 M1 =>
if c1 = 0 then
gA 18 6 [rv 1 17, rv 9 w1, iv x2, iv x3, iv x4, iv (w32 (x5 + 1))] [] M1
else
bI (gC 114 [rv 9 w1, iv x2, iv x5] M1) fun c2 M2 =>
bV (gC 19 [rv 1 17, iv x4, iv (M1 17 4), jv c2] M2) fun M3 =>
gA 18 6 [rv 1 17, rv 9 w1, iv x2, iv x3, iv (w32 (x4 + 1)), iv (w32 (x5 + 1))] [] M3 :=
  mat_unf gF gT [6] 60 18 6 [rv 1 17, rv 9 w1, iv x2, iv x3, iv x4, iv x5] [] M
set_option maxRecDepth 20000 in
theorem e_Elimination_put (x1 : Int) (x2 : Int) (x3 : Int) (M : mM) : gC 19 [rv 1 17, iv x1, iv x2, jv x3] M =
if (w32 ((w32 (x1 * 8)) + x2)) < 0 then
some (none, M)
else
if 56 ≤ (w32 ((w32 (x1 * 8)) + x2)) then
some (none, M)
else
if 0 ≤ (w32 ((w32 (x1 * 8)) + x2)) ∧ (w32 ((w32 (x1 * 8)) + x2)) < 56 then
some (none, st M 18 (w32 ((w32 (x1 * 8)) + x2)).toNat x3)
else none :=
  mat_unf gF gT [] 60 19 0 [rv 1 17, iv x1, iv x2, jv x3, none, none] [] M
set_option maxRecDepth 20000 in
theorem e_Elimination_lineWith (x1 : Int) (M : mM) : gC 20 [rv 1 17, iv x1] M =
gA 20 5 [rv 1 17, iv x1, iv (M 17 5)] [] M :=
  mat_unf gF gT [5] 60 20 0 [rv 1 17, iv x1, none] [] M
set_option maxRecDepth 20000 in
theorem s_Elimination_lineWith_5 (x1 : Int) (x2 : Int) (M : mM) : gA 20 5 [rv 1 17, iv x1, iv x2] [] M =
if (M 17 3) ≤ x2 then
some (iv (-1), M)
else
bJ (gC 21 [rv 1 17, iv x2, iv x1] M) fun c1 M1 =>
if (lcmp c1 0) = 0 then
gA 20 5 [rv 1 17, iv x1, iv (w32 (x2 + 1))] [] M1
else
some (iv x2, M1) :=
  mat_unf gF gT [5] 60 20 5 [rv 1 17, iv x1, iv x2] [] M
set_option maxRecDepth 20000 in
theorem e_Elimination_get (x1 : Int) (x2 : Int) (M : mM) : gC 21 [rv 1 17, iv x1, iv x2] M =
if (w32 ((w32 (x1 * 8)) + x2)) < 0 then
some (jv 0, M)
else
if 56 ≤ (w32 ((w32 (x1 * 8)) + x2)) then
some (jv 0, M)
else
if 0 ≤ (w32 ((w32 (x1 * 8)) + x2)) ∧ (w32 ((w32 (x1 * 8)) + x2)) < 56 then
some (jv (M 18 (w32 ((w32 (x1 * 8)) + x2)).toNat), M)
else none :=
  mat_unf gF gT [] 60 21 0 [rv 1 17, iv x1, iv x2, none] [] M
set_option maxRecDepth 20000 in
theorem e_Elimination_solveLine (x1 : Int) (x2 : Int) (M : mM) : gC 22 [rv 1 17, iv x1, iv x2] M =
bV (gC 23 [rv 1 17, iv x1, iv (M 17 5)] M) fun M1 =>
bJ (gC 21 [rv 1 17, iv (M1 17 5), iv x2] M1) fun c2 M2 =>
gA 22 30 [rv 1 17, none, iv x2, jv (M1 17 7), none, iv 0] [] (st M2 17 7 c2) :=
  mat_unf gF gT [30] 60 22 0 [rv 1 17, iv x1, iv x2, none, none, none] [] M
set_option maxRecDepth 20000 in
theorem s_Elimination_solveLine_30 (x2 : Int) (x3 : Int) (x5 : Int) (M : mM) : gA 22 30 [rv 1 17, none, iv x2, jv x3, none, iv x5] [] M =
if (M 17 3) ≤ x5 then
if (M 17 5) < 0 then
some (none, st M 17 5 (w32 ((M 17 5) + 1)))
else
if 7 ≤ (M 17 5) then
some (none, st M 17 5 (w32 ((M 17 5) + 1)))
else
if 0 ≤ (M 17 5) ∧ (M 17 5) < 7 then
some (none, st (st M 19 (M 17 5).toNat x2) 17 5 (w32 (((st M 19 (M 17 5).toNat x2) 17 5) + 1)))
else none
else
if x5 = (M 17 5) then
gA 22 30 [rv 1 17, none, iv x2, jv x3, none, iv (w32 (x5 + 1))] [] M
else
bV (gC 24 [rv 1 17, iv x5, iv x2, jv x3] M) fun M1 =>
gA 22 30 [rv 1 17, none, iv x2, jv x3, none, iv (w32 (x5 + 1))] [] M1 :=
  mat_unf gF gT [30] 60 22 30 [rv 1 17, none, iv x2, jv x3, none, iv x5] [] M
set_option maxRecDepth 20000 in
theorem e_Elimination_swapLines (x1 : Int) (x2 : Int) (M : mM) : gC 23 [rv 1 17, iv x1, iv x2] M =
gA 23 2 [rv 1 17, iv x1, iv x2, iv 0, none, none] [] M :=
  mat_unf gF gT [2] 60 23 0 [rv 1 17, iv x1, iv x2, none, none, none] [] M
set_option maxRecDepth 20000 in
theorem s_Elimination_swapLines_2 (x1 : Int) (x2 : Int) (x3 : Int) (M : mM) : gA 23 2 [rv 1 17, iv x1, iv x2, iv x3, none, none] [] M =
if (M 17 4) ≤ x3 then
some (none, M)
else
bJ (gC 21 [rv 1 17, iv x1, iv x3] M) fun c1 M1 =>
bJ (gC 21 [rv 1 17, iv x2, iv x3] M1) fun c2 M2 =>
bV (gC 19 [rv 1 17, iv x1, iv x3, jv c2] M2) fun M3 =>
bV (gC 19 [rv 1 17, iv x2, iv x3, jv c1] M3) fun M4 =>
gA 23 2 [rv 1 17, iv x1, iv x2, iv (w32 (x3 + 1)), none, none] [] M4 :=
  mat_unf gF gT [2] 60 23 2 [rv 1 17, iv x1, iv x2, iv x3, none, none] [] M
set_option maxRecDepth 20000 in
theorem e_Elimination_clearColumn (x1 : Int) (x2 : Int) (x3 : Int) (M : mM) : gC 24 [rv 1 17, iv x1, iv x2, jv x3] M =
bJ (gC 21 [rv 1 17, iv x1, iv x2] M) fun c1 M1 =>
gA 24 11 [rv 1 17, iv x1, none, jv x3, none, jv c1, none, iv 0, none, none] [] M1 :=
  mat_unf gF gT [11] 60 24 0 [rv 1 17, iv x1, iv x2, jv x3, none, none, none, none, none, none] [] M
set_option maxRecDepth 20000 in
theorem s_Elimination_clearColumn_11 (x1 : Int) (x3 : Int) (x5 : Int) (x7 : Int) (M : mM) : gA 24 11 [rv 1 17, iv x1, none, jv x3, none, jv x5, none, iv x7, none, none] [] M =
if (M 17 4) ≤ x7 then
some (none, M)
else
bJ (gC 21 [rv 1 17, iv x1, iv x7] M) fun c1 M1 =>
bJ (gC 21 [rv 1 17, iv (M1 17 5), iv x7] M1) fun c2 M2 =>
if ¬ (lcmp x3 0) = 0 then
if x3 = 0 then none else
bV (gC 19 [rv 1 17, iv x1, iv x7, jv (w64 ((w64 ((w64 ((M 17 7) * c1)) - (w64 (x5 * c2)))).tdiv x3))] M2) fun M3 =>
gA 24 11 [rv 1 17, iv x1, none, jv x3, none, jv x5, none, iv (w32 (x7 + 1)), none, none] [] M3
else
bV (gC 19 [rv 1 17, iv x1, iv x7, jv 0] M2) fun M4 =>
gA 24 11 [rv 1 17, iv x1, none, jv x3, none, jv x5, none, iv (w32 (x7 + 1)), none, none] [] M4 :=
  mat_unf gF gT [11] 60 24 11 [rv 1 17, iv x1, none, jv x3, none, jv x5, none, iv x7, none, none] [] M
set_option maxRecDepth 20000 in
theorem e_Elimination_collect  (M : mM) : gC 25 [rv 1 17] M =
if (M 17 6) < 0 then
gA 25 34 [rv 1 17, iv 0, none] [] M
else
if 8 ≤ (M 17 6) then
gA 25 34 [rv 1 17, iv 0, none] [] M
else
if 0 ≤ (M 17 6) ∧ (M 17 6) < 8 then
gA 25 34 [rv 1 17, iv 0, none] [] (st M 20 (M 17 6).toNat (M 17 7))
else none :=
  mat_unf gF gT [34] 60 25 0 [rv 1 17, none, none] [] M
set_option maxRecDepth 20000 in
theorem s_Elimination_collect_34 (x1 : Int) (M : mM) : gA 25 34 [rv 1 17, iv x1, none] [] M =
if (M 17 5) ≤ x1 then
some (none, M)
else
if 7 ≤ x1 then
some (none, M)
else
if 0 ≤ x1 ∧ x1 < 7 then
if (M 19 (x1).toNat) < 0 then
gA 25 34 [rv 1 17, iv (w32 (x1 + 1)), none] [] M
else
if 8 ≤ (M 19 (x1).toNat) then
gA 25 34 [rv 1 17, iv (w32 (x1 + 1)), none] [] M
else
bJ (gC 21 [rv 1 17, iv x1, iv (M 17 6)] M) fun c1 M1 =>
if 0 ≤ (M 19 (x1).toNat) ∧ (M 19 (x1).toNat) < 8 then
gA 25 34 [rv 1 17, iv (w32 (x1 + 1)), none] [] (st M1 20 (M 19 (x1).toNat).toNat (w64 (-c1)))
else none
else none :=
  mat_unf gF gT [34] 60 25 34 [rv 1 17, iv x1, none] [] M
set_option maxRecDepth 20000 in
theorem e_Elimination_makeLeast  (M : mM) : gC 26 [rv 1 17] M =
gA 26 7 [rv 1 17, jv 0, none, jv 0, none, iv 0, none, none] [] M :=
  mat_unf gF gT [7, 67] 60 26 0 [rv 1 17, none, none, none, none, none, none, none] [] M
set_option maxRecDepth 20000 in
theorem s_Elimination_makeLeast_7 (x1 : Int) (x3 : Int) (x5 : Int) (M : mM) : gA 26 7 [rv 1 17, jv x1, none, jv x3, none, iv x5, none, none] [] M =
if (M 17 4) ≤ x5 then
if 0 ≤ (lcmp x3 0) then
gA 26 67 [rv 1 17, none, none, none, none, jv x1, none, iv 0] [] M
else
gA 26 67 [rv 1 17, none, none, none, none, jv (w64 (-x1)), none, iv 0] [] M
else
bJ (gC 27 [rv 1 17, iv x5] M) fun c1 M1 =>
bJ (gC 158 [jv x1, jv c1] M1) fun c2 M2 =>
if ¬ (lcmp x3 0) = 0 then
gA 26 7 [rv 1 17, jv c2, none, jv x3, none, iv (w32 (x5 + 1)), none, none] [] M2
else
bJ (gC 27 [rv 1 17, iv x5] M2) fun c3 M3 =>
gA 26 7 [rv 1 17, jv c2, none, jv c3, none, iv (w32 (x5 + 1)), none, none] [] M3 :=
  mat_unf gF gT [7, 67] 60 26 7 [rv 1 17, jv x1, none, jv x3, none, iv x5, none, none] [] M
set_option maxRecDepth 20000 in
theorem s_Elimination_makeLeast_67 (x5 : Int) (x7 : Int) (M : mM) : gA 26 67 [rv 1 17, none, none, none, none, jv x5, none, iv x7] [] M =
if 8 ≤ x7 then
some (none, M)
else
if (lcmp x5 0) = 0 then
some (none, M)
else
if 0 ≤ x7 ∧ x7 < 8 then
if x5 = 0 then none else
if 0 ≤ x7 ∧ x7 < 8 then
gA 26 67 [rv 1 17, none, none, none, none, jv x5, none, iv (w32 (x7 + 1))] [] (st M 20 (x7).toNat (w64 ((M 20 (x7).toNat).tdiv x5)))
else none
else none :=
  mat_unf gF gT [7, 67] 60 26 67 [rv 1 17, none, none, none, none, jv x5, none, iv x7] [] M
set_option maxRecDepth 20000 in
theorem e_Elimination_weightAt (x1 : Int) (M : mM) : gC 27 [rv 1 17, iv x1] M =
if x1 < 0 then
some (jv 0, M)
else
if 8 ≤ x1 then
some (jv 0, M)
else
if 0 ≤ x1 ∧ x1 < 8 then
some (jv (M 20 (x1).toNat), M)
else none :=
  mat_unf gF gT [] 60 27 0 [rv 1 17, iv x1] [] M
set_option maxRecDepth 20000 in
theorem e_Noises_countAbove (w1 : Nat) (x3 : Int) (x4 : Int) (x6 : Int) (M : mM) : gC 28 [rv 2 25, rv 9 w1, rv 7 13, iv x3, jv x4, jv x6] M =
gA 28 10 [rv 2 25, rv 9 w1, rv 7 13, iv x3, none, none, jv x6, none, jv x4, none, iv 1, iv 0, none] [] M :=
  mat_unf gF gT [10, 129] 60 28 0 [rv 2 25, rv 9 w1, rv 7 13, iv x3, jv x4, none, jv x6, none, none, none, none, none, none] [] M
set_option maxRecDepth 20000 in
theorem s_Noises_countAbove_10 (w1 : Nat) (x3 : Int) (x6 : Int) (x8 : Int) (x10 : Int) (x11 : Int) (M : mM) : gA 28 10 [rv 2 25, rv 9 w1, rv 7 13, iv x3, none, none, jv x6, none, jv x8, none, iv x10, iv x11, none] [] M =
if 6 ≤ x11 then
gA 28 129 [rv 2 25, none, none, none, none, none, jv x6, none, jv x8, none, iv x10, iv 0, iv 0] [] M
else
bJ (gC 83 [rv 7 13, iv x3, iv (w32 (8 + x11))] M) fun c1 M1 =>
if 0 ≤ x11 ∧ x11 < 6 then
bI (gC 80 [rv 7 13, iv x3, iv (w32 (8 + x11))] (st M1 26 (x11).toNat c1)) fun c2 M2 =>
if c2 = 0 then
if 0 ≤ x11 ∧ x11 < 6 then
if 0 ≤ x11 ∧ x11 < 6 then
if 0 ≤ x11 ∧ x11 < 6 then
if 0 ≤ x11 ∧ x11 < 6 then
if 0 ≤ x11 ∧ x11 < 6 then
if 0 ≤ x11 ∧ x11 < 6 then
gA 28 10 [rv 2 25, rv 9 w1, rv 7 13, iv x3, none, none, jv x6, none, jv (w64 (x8 + (w64 (((st (st M2 27 (x11).toNat 0) 28 (x11).toNat (w32 (-((st M2 27 (x11).toNat 0) 27 (x11).toNat)))) 26 (x11).toNat) * ((st (st M2 27 (x11).toNat 0) 28 (x11).toNat (w32 (-((st M2 27 (x11).toNat 0) 27 (x11).toNat)))) 28 (x11).toNat))))), none, iv (w32 (x10 * (w32 ((w32 (2 * ((st (st M2 27 (x11).toNat 0) 28 (x11).toNat (w32 (-((st M2 27 (x11).toNat 0) 27 (x11).toNat)))) 27 (x11).toNat))) + 1)))), iv (w32 (x11 + 1)), none] [] (st (st M2 27 (x11).toNat 0) 28 (x11).toNat (w32 (-((st M2 27 (x11).toNat 0) 27 (x11).toNat))))
else none
else none
else none
else none
else none
else none
else
bI (gC 122 [rv 9 w1, iv (w32 (8 + x11))] M2) fun c3 M3 =>
if 0 ≤ x11 ∧ x11 < 6 then
if 0 ≤ x11 ∧ x11 < 6 then
if 0 ≤ x11 ∧ x11 < 6 then
if 0 ≤ x11 ∧ x11 < 6 then
if 0 ≤ x11 ∧ x11 < 6 then
if 0 ≤ x11 ∧ x11 < 6 then
gA 28 10 [rv 2 25, rv 9 w1, rv 7 13, iv x3, none, none, jv x6, none, jv (w64 (x8 + (w64 (((st (st M3 27 (x11).toNat c3) 28 (x11).toNat (w32 (-((st M3 27 (x11).toNat c3) 27 (x11).toNat)))) 26 (x11).toNat) * ((st (st M3 27 (x11).toNat c3) 28 (x11).toNat (w32 (-((st M3 27 (x11).toNat c3) 27 (x11).toNat)))) 28 (x11).toNat))))), none, iv (w32 (x10 * (w32 ((w32 (2 * ((st (st M3 27 (x11).toNat c3) 28 (x11).toNat (w32 (-((st M3 27 (x11).toNat c3) 27 (x11).toNat)))) 27 (x11).toNat))) + 1)))), iv (w32 (x11 + 1)), none] [] (st (st M3 27 (x11).toNat c3) 28 (x11).toNat (w32 (-((st M3 27 (x11).toNat c3) 27 (x11).toNat))))
else none
else none
else none
else none
else none
else none
else none :=
  mat_unf gF gT [10, 129] 60 28 10 [rv 2 25, rv 9 w1, rv 7 13, iv x3, none, none, jv x6, none, jv x8, none, iv x10, iv x11, none] [] M
set_option maxRecDepth 20000 in
theorem s_Noises_countAbove_129 (x6 : Int) (x8 : Int) (x10 : Int) (x11 : Int) (x12 : Int) (M : mM) : gA 28 129 [rv 2 25, none, none, none, none, none, jv x6, none, jv x8, none, iv x10, iv x11, iv x12] [] M =
if x10 ≤ x12 then
some (iv x11, M)
else
if (lcmp (abs64 x8) x6) ≤ 0 then
bJ (gC 29 [rv 2 25] M) fun c1 M1 =>
gA 28 129 [rv 2 25, none, none, none, none, none, jv x6, none, jv (w64 (x8 + c1)), none, iv x10, iv (w32 (x11 + 0)), iv (w32 (x12 + 1))] [] M1
else
bJ (gC 29 [rv 2 25] M) fun c2 M2 =>
gA 28 129 [rv 2 25, none, none, none, none, none, jv x6, none, jv (w64 (x8 + c2)), none, iv x10, iv (w32 (x11 + 1)), iv (w32 (x12 + 1))] [] M2 :=
  mat_unf gF gT [10, 129] 60 28 129 [rv 2 25, none, none, none, none, none, jv x6, none, jv x8, none, iv x10, iv x11, iv x12] [] M
set_option maxRecDepth 20000 in
theorem e_Noises_step  (M : mM) : gC 29 [rv 2 25] M =
gA 29 4 [rv 2 25, jv 0, none, iv 0] [] M :=
  mat_unf gF gT [4] 60 29 0 [rv 2 25, none, none, none] [] M
set_option maxRecDepth 20000 in
theorem s_Noises_step_4 (x1 : Int) (x3 : Int) (M : mM) : gA 29 4 [rv 2 25, jv x1, none, iv x3] [] M =
if 6 ≤ x3 then
some (jv x1, M)
else
if 0 ≤ x3 ∧ x3 < 6 then
if 0 ≤ x3 ∧ x3 < 6 then
if (M 27 (x3).toNat) ≤ (M 28 (x3).toNat) then
if 0 ≤ x3 ∧ x3 < 6 then
if 0 ≤ x3 ∧ x3 < 6 then
if 0 ≤ x3 ∧ x3 < 6 then
if 0 ≤ x3 ∧ x3 < 6 then
gA 29 4 [rv 2 25, jv (w64 (x1 - (w64 ((w64 ((M 26 (x3).toNat) * 2)) * (M 27 (x3).toNat))))), none, iv (w32 (x3 + 1))] [] (st M 28 (x3).toNat (w32 (-(M 27 (x3).toNat))))
else none
else none
else none
else none
else
if 0 ≤ x3 ∧ x3 < 6 then
if 0 ≤ x3 ∧ x3 < 6 then
if 0 ≤ x3 ∧ x3 < 6 then
some (jv (w64 (x1 + ((st M 28 (x3).toNat (w32 ((M 28 (x3).toNat) + 1))) 26 (x3).toNat))), st M 28 (x3).toNat (w32 ((M 28 (x3).toNat) + 1)))
else none
else none
else none
else none
else none :=
  mat_unf gF gT [4] 60 29 4 [rv 2 25, jv x1, none, iv x3] [] M
set_option maxRecDepth 20000 in
theorem e_Tests_gather (w1 : Nat) (M : mM) : gC 73 [rv 7 13, rv 9 w1, rv 3 10] M =
gA 73 33 [rv 7 13, none, rv 3 10, iv (shl32 1 (min32 ((st M 13 4 0) w1 1) 8)), iv (shl32 1 (min32 ((st M 13 4 0) w1 2) 6)), iv 1, none, none] [] (st M 13 4 0) :=
  mat_unf gF gT [33, 43, 53] 60 73 0 [rv 7 13, rv 9 w1, rv 3 10, none, none, none, none, none] [] M
set_option maxRecDepth 20000 in
theorem s_Tests_gather_33 (x3 : Int) (x4 : Int) (x5 : Int) (M : mM) : gA 73 33 [rv 7 13, none, rv 3 10, iv x3, iv x4, iv x5, none, none] [] M =
if 8 < x5 then
some (none, M)
else
gA 73 43 [rv 7 13, none, rv 3 10, iv x3, iv x4, iv x5, iv 0, none] [] M :=
  mat_unf gF gT [33, 43, 53] 60 73 33 [rv 7 13, none, rv 3 10, iv x3, iv x4, iv x5, none, none] [] M
set_option maxRecDepth 20000 in
theorem s_Tests_gather_43 (x3 : Int) (x4 : Int) (x5 : Int) (x6 : Int) (M : mM) : gA 73 43 [rv 7 13, none, rv 3 10, iv x3, iv x4, iv x5, iv x6, none] [] M =
if x4 ≤ x6 then
gA 73 33 [rv 7 13, none, rv 3 10, iv x3, iv x4, iv (w32 (x5 + 1)), none, none] [] M
else
gA 73 53 [rv 7 13, none, rv 3 10, iv x3, iv x4, iv x5, iv x6, iv 0] [] M :=
  mat_unf gF gT [33, 43, 53] 60 73 43 [rv 7 13, none, rv 3 10, iv x3, iv x4, iv x5, iv x6, none] [] M
set_option maxRecDepth 20000 in
theorem s_Tests_gather_53 (x3 : Int) (x4 : Int) (x5 : Int) (x6 : Int) (x7 : Int) (M : mM) : gA 73 53 [rv 7 13, none, rv 3 10, iv x3, iv x4, iv x5, iv x6, iv x7] [] M =
if x3 ≤ x7 then
gA 73 43 [rv 7 13, none, rv 3 10, iv x3, iv x4, iv x5, iv (w32 (x6 + 1)), none] [] M
else
bV (gC 74 [rv 7 13, rv 3 10, iv (or32 (shl32 x6 8) x7), iv x5] M) fun M1 =>
gA 73 53 [rv 7 13, none, rv 3 10, iv x3, iv x4, iv x5, iv x6, iv (w32 (x7 + 1))] [] M1 :=
  mat_unf gF gT [33, 43, 53] 60 73 53 [rv 7 13, none, rv 3 10, iv x3, iv x4, iv x5, iv x6, iv x7] [] M
set_option maxRecDepth 20000 in
theorem e_Tests_addIfTest (x2 : Int) (x3 : Int) (M : mM) : gC 74 [rv 7 13, rv 3 10, iv x2, iv x3] M =
bI (gC 0 [iv x2] M) fun c1 M1 =>
if ¬ c1 = x3 then
some (none, M1)
else
if 3432 ≤ (M1 13 4) then
some (none, M1)
else
bI (gC 75 [rv 3 10, iv x2, iv x3] M1) fun c2 M2 =>
if ¬ c2 = 0 then
if 0 ≤ (M2 13 4) ∧ (M2 13 4) < 3432 then
if 0 ≤ ((st M2 14 (M2 13 4).toNat x2) 13 4) ∧ ((st M2 14 (M2 13 4).toNat x2) 13 4) < 3432 then
some (none, st (st (st M2 14 (M2 13 4).toNat x2) 15 ((st M2 14 (M2 13 4).toNat x2) 13 4).toNat 0) 13 4 (w32 (((st (st M2 14 (M2 13 4).toNat x2) 15 ((st M2 14 (M2 13 4).toNat x2) 13 4).toNat 0) 13 4) + 1)))
else none
else none
else
some (none, M2) :=
  mat_unf gF gT [] 60 74 0 [rv 7 13, rv 3 10, iv x2, iv x3] [] M
set_option maxRecDepth 20000 in
theorem e_Tests_isTest (x1 : Int) (x2 : Int) (M : mM) : gC 75 [rv 3 10, iv x1, iv x2] M =
bI (gC 32 [rv 3 10, iv x1] M) fun c1 M1 =>
if c1 = (w32 (x2 - 1)) then
gA 75 15 [rv 3 10, iv x1, iv x2, iv 0] [] M1
else
some (iv 0, M1) :=
  mat_unf gF gT [15] 60 75 0 [rv 3 10, iv x1, iv x2, none] [] M
set_option maxRecDepth 20000 in
theorem s_Tests_isTest_15 (x1 : Int) (x2 : Int) (x3 : Int) (M : mM) : gA 75 15 [rv 3 10, iv x1, iv x2, iv x3] [] M =
if 14 ≤ x3 then
some (iv 1, M)
else
bI (gC 128 [iv x1, iv x3] M) fun c1 M1 =>
if c1 = 0 then
gA 75 15 [rv 3 10, iv x1, iv x2, iv (w32 (x3 + 1))] [] M1
else
bI (gC 32 [rv 3 10, iv (and32 x1 (xor32 (shl32 1 x3) (-1)))] M1) fun c2 M2 =>
if c2 = (w32 (x2 - 1)) then
gA 75 15 [rv 3 10, iv x1, iv x2, iv (w32 (x3 + 1))] [] M2
else
some (iv 0, M2) :=
  mat_unf gF gT [15] 60 75 15 [rv 3 10, iv x1, iv x2, iv x3] [] M
set_option maxRecDepth 20000 in
theorem e_Tests_countIn (x1 : Int) (M : mM) : gC 76 [rv 7 13, iv x1] M =
gA 76 4 [rv 7 13, iv x1, iv 0, iv 0] [] M :=
  mat_unf gF gT [4] 60 76 0 [rv 7 13, iv x1, none, none] [] M
set_option maxRecDepth 20000 in
theorem s_Tests_countIn_4 (x1 : Int) (x2 : Int) (x3 : Int) (M : mM) : gA 76 4 [rv 7 13, iv x1, iv x2, iv x3] [] M =
if (M 13 4) ≤ x3 then
some (iv x2, M)
else
bI (gC 77 [rv 7 13, iv x3, iv x1] M) fun c1 M1 =>
if c1 = 0 then
gA 76 4 [rv 7 13, iv x1, iv (w32 (x2 + 0)), iv (w32 (x3 + 1))] [] M1
else
gA 76 4 [rv 7 13, iv x1, iv (w32 (x2 + 1)), iv (w32 (x3 + 1))] [] M1 :=
  mat_unf gF gT [4] 60 76 4 [rv 7 13, iv x1, iv x2, iv x3] [] M
set_option maxRecDepth 20000 in
theorem e_Tests_isIn (x1 : Int) (x2 : Int) (M : mM) : gC 77 [rv 7 13, iv x1, iv x2] M =
bI (gC 78 [rv 7 13, iv x1] M) fun c1 M1 =>
if c1 = (-1) then
some (iv 0, M1)
else
if ¬ (and32 c1 (xor32 x2 (-1))) = 0 then
some (iv 0, M1)
else
some (iv 1, M1) :=
  mat_unf gF gT [] 60 77 0 [rv 7 13, iv x1, iv x2, none] [] M
set_option maxRecDepth 20000 in
theorem e_Tests_rowsOf (x1 : Int) (M : mM) : gC 78 [rv 7 13, iv x1] M =
if x1 < 0 then
some (iv (-1), M)
else
if (M 13 4) ≤ x1 then
some (iv (-1), M)
else
if 3432 ≤ x1 then
some (iv (-1), M)
else
if 0 ≤ x1 ∧ x1 < 3432 then
some (iv (M 14 (x1).toNat), M)
else none :=
  mat_unf gF gT [] 60 78 0 [rv 7 13, iv x1] [] M
set_option maxRecDepth 20000 in
theorem e_Tests_find (x1 : Int) (x2 : Int) (M : mM) : gC 79 [rv 7 13, iv x1, iv x2] M =
gA 79 5 [rv 7 13, iv x1, iv x2, iv 0, iv 0] [] M :=
  mat_unf gF gT [5] 60 79 0 [rv 7 13, iv x1, iv x2, none, none] [] M
set_option maxRecDepth 20000 in
theorem s_Tests_find_5 (x1 : Int) (x2 : Int) (x3 : Int) (x4 : Int) (M : mM) : gA 79 5 [rv 7 13, iv x1, iv x2, iv x3, iv x4] [] M =
if (M 13 4) ≤ x4 then
some (iv (-1), M)
else
if x1 < 0 then
some (iv (-1), M)
else
bI (gC 77 [rv 7 13, iv x4, iv x2] M) fun c1 M1 =>
if c1 = 0 then
gA 79 5 [rv 7 13, iv x1, iv x2, iv x3, iv (w32 (x4 + 1))] [] M1
else
if ¬ x3 = x1 then
gA 79 5 [rv 7 13, iv x1, iv x2, iv (w32 (x3 + 1)), iv (w32 (x4 + 1))] [] M1
else
some (iv x4, M1) :=
  mat_unf gF gT [5] 60 79 5 [rv 7 13, iv x1, iv x2, iv x3, iv x4] [] M
set_option maxRecDepth 20000 in
theorem e_Tests_hasRow (x1 : Int) (x2 : Int) (M : mM) : gC 80 [rv 7 13, iv x1, iv x2] M =
bI (gC 78 [rv 7 13, iv x1] M) fun c1 M1 =>
if c1 = (-1) then
some (iv 0, M1)
else
bI (gC 128 [iv c1, iv x2] M1) fun c2 M2 =>
if c2 = 0 then
some (iv 0, M2)
else
some (iv 1, M2) :=
  mat_unf gF gT [] 60 80 0 [rv 7 13, iv x1, iv x2, none] [] M
set_option maxRecDepth 20000 in
theorem e_Tests_weigh (w1 : Nat) (x2 : Int) (M : mM) : gC 81 [rv 7 13, rv 9 w1, iv x2] M =
gA 81 2 [rv 7 13, rv 9 w1, iv x2, iv 0, none] [] M :=
  mat_unf gF gT [2, 70] 60 81 0 [rv 7 13, rv 9 w1, iv x2, none, none] [] M
set_option maxRecDepth 20000 in
theorem s_Tests_weigh_2 (w1 : Nat) (x2 : Int) (x3 : Int) (M : mM) : gA 81 2 [rv 7 13, rv 9 w1, iv x2, iv x3, none] [] M =
if (M 13 4) ≤ x3 then
some (none, M)
else
if 3432 ≤ x3 then
some (none, M)
else
if 0 ≤ x3 ∧ x3 < 3432 then
if ¬ (M 15 (x3).toNat) = 0 then
gA 81 2 [rv 7 13, rv 9 w1, iv x2, iv (w32 (x3 + 1)), none] [] M
else
if 0 ≤ x3 ∧ x3 < 3432 then
if ¬ (and32 (M 14 (x3).toNat) (xor32 x2 (-1))) = 0 then
gA 81 2 [rv 7 13, rv 9 w1, iv x2, iv (w32 (x3 + 1)), none] [] M
else
if 0 ≤ x3 ∧ x3 < 3432 then
bI (gC 16 [rv 1 17, rv 9 w1, iv (M 14 (x3).toNat)] M) fun c1 M1 =>
if c1 = 0 then
if 0 ≤ x3 ∧ x3 < 3432 then
gA 81 70 [rv 7 13, rv 9 w1, iv x2, iv x3, iv 0] [] (st M1 15 (x3).toNat 2)
else none
else
if 0 ≤ x3 ∧ x3 < 3432 then
gA 81 70 [rv 7 13, rv 9 w1, iv x2, iv x3, iv 0] [] (st M1 15 (x3).toNat 1)
else none
else none
else none
else none :=
  mat_unf gF gT [2, 70] 60 81 2 [rv 7 13, rv 9 w1, iv x2, iv x3, none] [] M
set_option maxRecDepth 20000 in
theorem s_Tests_weigh_70 (w1 : Nat) (x2 : Int) (x3 : Int) (x4 : Int) (M : mM) : gA 81 70 [rv 7 13, rv 9 w1, iv x2, iv x3, iv x4] [] M =
if 8 ≤ x4 then
gA 81 2 [rv 7 13, rv 9 w1, iv x2, iv (w32 (x3 + 1)), none] [] M
else
bJ (gC 27 [rv 1 17, iv x4] M) fun c1 M1 =>
if 0 ≤ (w32 ((w32 (x3 * 8)) + x4)) ∧ (w32 ((w32 (x3 * 8)) + x4)) < 27456 then
gA 81 70 [rv 7 13, rv 9 w1, iv x2, iv x3, iv (w32 (x4 + 1))] [] (st M1 16 (w32 ((w32 (x3 * 8)) + x4)).toNat c1)
else none :=
  mat_unf gF gT [2, 70] 60 81 70 [rv 7 13, rv 9 w1, iv x2, iv x3, iv x4] [] M
set_option maxRecDepth 20000 in
theorem e_Tests_canRun (x1 : Int) (M : mM) : gC 82 [rv 7 13, iv x1] M =
if x1 < 0 then
some (iv 0, M)
else
if (M 13 4) ≤ x1 then
some (iv 0, M)
else
if 3432 ≤ x1 then
some (iv 0, M)
else
if 0 ≤ x1 ∧ x1 < 3432 then
if ¬ (M 15 (x1).toNat) = 1 then
some (iv 0, M)
else
some (iv 1, M)
else none :=
  mat_unf gF gT [] 60 82 0 [rv 7 13, iv x1] [] M
set_option maxRecDepth 20000 in
theorem e_Tests_weightOf (x1 : Int) (x2 : Int) (M : mM) : gC 83 [rv 7 13, iv x1, iv x2] M =
bI (gC 82 [rv 7 13, iv x1] M) fun c1 M1 =>
if c1 = 0 then
some (jv 0, M1)
else
if 0 ≤ x1 ∧ x1 < 3432 then
bI (gC 128 [iv (M1 14 (x1).toNat), iv x2] M1) fun c2 M2 =>
if ¬ c2 = 0 then
if 0 ≤ x1 ∧ x1 < 3432 then
bI (gC 0 [iv (and32 (M2 14 (x1).toNat) (w32 ((shl32 1 x2) - 1)))] M2) fun c3 M3 =>
if 8 ≤ c3 then
some (jv 0, M3)
else
if 0 ≤ (w32 ((w32 (x1 * 8)) + c3)) ∧ (w32 ((w32 (x1 * 8)) + c3)) < 27456 then
some (jv (M3 16 (w32 ((w32 (x1 * 8)) + c3)).toNat), M3)
else none
else none
else
some (jv 0, M2)
else none :=
  mat_unf gF gT [] 60 83 0 [rv 7 13, iv x1, iv x2, none] [] M
set_option maxRecDepth 20000 in
theorem e_Tests_noughtOf (w1 : Nat) (x2 : Int) (M : mM) : gC 84 [rv 7 13, rv 9 w1, iv x2] M =
gA 84 5 [rv 7 13, rv 9 w1, iv x2, jv 0, none, iv 0] [] M :=
  mat_unf gF gT [5] 60 84 0 [rv 7 13, rv 9 w1, iv x2, none, none, none] [] M
set_option maxRecDepth 20000 in
theorem s_Tests_noughtOf_5 (w1 : Nat) (x2 : Int) (x3 : Int) (x5 : Int) (M : mM) : gA 84 5 [rv 7 13, rv 9 w1, iv x2, jv x3, none, iv x5] [] M =
if 14 ≤ x5 then
some (jv x3, M)
else
bI (gC 80 [rv 7 13, iv x2, iv x5] M) fun c1 M1 =>
if c1 = 0 then
gA 84 5 [rv 7 13, rv 9 w1, iv x2, jv x3, none, iv (w32 (x5 + 1))] [] M1
else
bJ (gC 83 [rv 7 13, iv x2, iv x5] M1) fun c2 M2 =>
bJ (gC 121 [rv 9 w1, iv x5] M2) fun c3 M3 =>
gA 84 5 [rv 7 13, rv 9 w1, iv x2, jv (w64 (x3 + (w64 (c2 * c3)))), none, iv (w32 (x5 + 1))] [] M3 :=
  mat_unf gF gT [5] 60 84 5 [rv 7 13, rv 9 w1, iv x2, jv x3, none, iv x5] [] M
set_option maxRecDepth 20000 in
theorem e_Tests_boundOf (w1 : Nat) (x2 : Int) (M : mM) : gC 85 [rv 7 13, rv 9 w1, iv x2] M =
gA 85 6 [rv 7 13, rv 9 w1, iv x2, jv 0, none, iv 8] [] M :=
  mat_unf gF gT [6] 60 85 0 [rv 7 13, rv 9 w1, iv x2, none, none, none] [] M
set_option maxRecDepth 20000 in
theorem s_Tests_boundOf_6 (w1 : Nat) (x2 : Int) (x3 : Int) (x5 : Int) (M : mM) : gA 85 6 [rv 7 13, rv 9 w1, iv x2, jv x3, none, iv x5] [] M =
if 14 ≤ x5 then
some (jv x3, M)
else
bI (gC 80 [rv 7 13, iv x2, iv x5] M) fun c1 M1 =>
if c1 = 0 then
gA 85 6 [rv 7 13, rv 9 w1, iv x2, jv x3, none, iv (w32 (x5 + 1))] [] M1
else
bJ (gC 83 [rv 7 13, iv x2, iv x5] M1) fun c2 M2 =>
bI (gC 122 [rv 9 w1, iv x5] M2) fun c3 M3 =>
gA 85 6 [rv 7 13, rv 9 w1, iv x2, jv (w64 (x3 + (w64 ((abs64 c2) * c3)))), none, iv (w32 (x5 + 1))] [] M3 :=
  mat_unf gF gT [6] 60 85 6 [rv 7 13, rv 9 w1, iv x2, jv x3, none, iv x5] [] M
set_option maxRecDepth 20000 in
theorem e_Tests_isRinging (w1 : Nat) (x2 : Int) (M : mM) : gC 86 [rv 7 13, rv 9 w1, iv x2] M =
bJ (gC 84 [rv 7 13, rv 9 w1, iv x2] M) fun c1 M1 =>
bJ (gC 85 [rv 7 13, rv 9 w1, iv x2] M1) fun c2 M2 =>
if (lcmp (abs64 c1) c2) ≤ 0 then
some (iv 0, M2)
else
some (iv 1, M2) :=
  mat_unf gF gT [] 60 86 0 [rv 7 13, rv 9 w1, iv x2] [] M
set_option maxRecDepth 20000 in
theorem e_GaugeNet_feed (x1 : Int) (x2 : Int) (x3 : Int) (x4 : Int) (x5 : Int) (M : mM) : gC 124 [rv 10 0, iv x1, iv x2, iv x3, iv x4, iv x5] M =
if (w32 ((M 0 1) + 20)) ≤ 2000 then
bV (gC 125 [rv 10 0, iv x1] M) fun M1 =>
bV (gC 125 [rv 10 0, iv x2] M1) fun M2 =>
bV (gC 125 [rv 10 0, iv x3] M2) fun M3 =>
bV (gC 125 [rv 10 0, iv x4] M3) fun M4 =>
bV (gC 125 [rv 10 0, iv x5] M4) fun M5 =>
some (iv (M5 0 1), M5)
else
some (iv (-1), M) :=
  mat_unf gF gT [] 60 124 0 [rv 10 0, iv x1, iv x2, iv x3, iv x4, iv x5] [] M
set_option maxRecDepth 20000 in
theorem e_GaugeNet_putBytes (x1 : Int) (M : mM) : gC 125 [rv 10 0, iv x1] M =
gA 125 3 [rv 10 0, iv x1, iv 24] [] M :=
  mat_unf gF gT [3] 60 125 0 [rv 10 0, iv x1, none] [] M
set_option maxRecDepth 20000 in
theorem s_GaugeNet_putBytes_3 (x1 : Int) (x2 : Int) (M : mM) : gA 125 3 [rv 10 0, iv x1, iv x2] [] M =
if x2 < 0 then
some (none, M)
else
if (M 0 1) < 0 then
gA 125 3 [rv 10 0, iv x1, iv (w32 (x2 + (-8)))] [] M
else
if 2000 ≤ (M 0 1) then
gA 125 3 [rv 10 0, iv x1, iv (w32 (x2 + (-8)))] [] M
else
if 0 ≤ (M 0 1) ∧ (M 0 1) < 2000 then
gA 125 3 [rv 10 0, iv x1, iv (w32 (x2 + (-8)))] [] (st (st M 1 (M 0 1).toNat (w8 (w8 (shr32 x1 x2)))) 0 1 (w32 (((st M 1 (M 0 1).toNat (w8 (w8 (shr32 x1 x2)))) 0 1) + 1)))
else none :=
  mat_unf gF gT [3] 60 125 3 [rv 10 0, iv x1, iv x2] [] M
set_option maxRecDepth 20000 in
theorem e_GaugeNet_back (x1 : Int) (M : mM) : gC 126 [rv 10 0, iv x1] M =
if x1 < 0 then
some (iv (-1), M)
else
if x1 ≤ (M 0 1) then
some (iv ((st M 0 1 (w32 ((M 0 1) - x1))) 0 1), st M 0 1 (w32 ((M 0 1) - x1)))
else
some (iv (-1), M) :=
  mat_unf gF gT [] 60 126 0 [rv 10 0, iv x1] [] M
set_option maxRecDepth 20000 in
theorem e_GaugeNet_read  (M : mM) : gC 127 [rv 10 0] M =
bI (gC 38 [rv 4 2, rv 8102 1, iv (M 0 1)] M) fun c1 M1 =>
if ¬ c1 = 0 then
some (iv c1, st (st M1 0 2 (M1 2 4)) 0 1 0)
else
bR 9 (gC 58 [rv 4 2, rv 9 (((st (st M1 0 2 (M1 2 4)) 0 1 0) 0 4).toNat)] (st (st M1 0 2 (M1 2 4)) 0 1 0)) fun c2 M2 =>
some (iv c1, st (st M2 0 4 ((c2 : Nat) : Int)) 0 5 0) :=
  mat_unf gF gT [] 60 127 0 [rv 10 0, none] [] M
set_option maxRecDepth 20000 in
theorem e_GaugeNet_hasBit (x0 : Int) (x1 : Int) (M : mM) : gC 128 [iv x0, iv x1] M =
if x1 < 0 then
some (iv 0, M)
else
if 31 ≤ x1 then
some (iv 0, M)
else
if (and32 (shr32 x0 x1) 1) = 0 then
some (iv 0, M)
else
some (iv 1, M) :=
  mat_unf gF gT [] 60 128 0 [iv x0, iv x1] [] M
set_option maxRecDepth 20000 in
theorem e_GaugeNet_withBit (x0 : Int) (x1 : Int) (x2 : Int) (M : mM) : gC 129 [iv x0, iv x1, iv x2] M =
if x2 = 0 then
some (iv (and32 x0 (xor32 (shl32 1 x1) (-1))), M)
else
some (iv (or32 x0 (shl32 1 x1)), M) :=
  mat_unf gF gT [] 60 129 0 [iv x0, iv x1, iv x2] [] M
set_option maxRecDepth 20000 in
theorem e_GaugeNet_place  (M : mM) : gC 130 [rv 10 0] M =
some (iv (M 0 2), M) :=
  mat_unf gF gT [] 60 130 0 [rv 10 0] [] M
set_option maxRecDepth 20000 in
theorem e_GaugeNet_position (x1 : Int) (M : mM) : gC 131 [rv 10 0, iv x1] M =
if x1 < 0 then
some (iv 0, M)
else
if x1 < 4 then
some (iv 1, st M (M 0 4).toNat 4 x1)
else
some (iv 0, M) :=
  mat_unf gF gT [] 60 131 0 [rv 10 0, iv x1] [] M
set_option maxRecDepth 20000 in
theorem e_GaugeNet_in (x1 : Int) (x2 : Int) (M : mM) : gC 132 [rv 10 0, iv x1, iv x2] M =
bI (gC 111 [rv 9 ((M 0 4).toNat), iv x1] M) fun c1 M1 =>
if ¬ c1 = 0 then
bI (gC 129 [iv (M1 (M1 0 4).toNat 5), iv x1, iv x2] M1) fun c2 M2 =>
some (iv 1, st M2 (M1 0 4).toNat 5 c2)
else
some (iv 0, M1) :=
  mat_unf gF gT [] 60 132 0 [rv 10 0, iv x1, iv x2] [] M
set_option maxRecDepth 20000 in
theorem e_GaugeNet_dead (x1 : Int) (x2 : Int) (M : mM) : gC 133 [rv 10 0, iv x1, iv x2] M =
bI (gC 111 [rv 9 ((M 0 4).toNat), iv x1] M) fun c1 M1 =>
if ¬ c1 = 0 then
bI (gC 129 [iv (M1 (M1 0 4).toNat 6), iv x1, iv x2] M1) fun c2 M2 =>
some (iv 1, st M2 (M1 0 4).toNat 6 c2)
else
some (iv 0, M1) :=
  mat_unf gF gT [] 60 133 0 [rv 10 0, iv x1, iv x2] [] M
set_option maxRecDepth 20000 in
theorem e_GaugeNet_reading (x1 : Int) (x2 : Int) (M : mM) : gC 134 [rv 10 0, iv x1, iv x2] M =
bI (gC 111 [rv 9 ((M 0 4).toNat), iv x1] M) fun c1 M1 =>
if c1 = 0 then
some (iv 0, M1)
else
if x2 < (-9999) then
some (iv 0, M1)
else
if x2 ≤ 9999 then
if 0 ≤ x1 ∧ x1 < 6 then
some (iv 1, st M1 ((M1 0 4).toNat + 6) (x1).toNat x2)
else none
else
some (iv 0, M1) :=
  mat_unf gF gT [] 60 134 0 [rv 10 0, iv x1, iv x2] [] M
set_option maxRecDepth 20000 in
theorem e_GaugeNet_number (x1 : Int) (x2 : Int) (M : mM) : gC 135 [rv 10 0, iv x1, iv x2] M =
bI (gC 112 [rv 9 ((M 0 4).toNat), iv x1] M) fun c1 M1 =>
if ¬ c1 = 0 then
if ¬ x2 = (-1) then
bI (gC 113 [rv 9 ((M1 0 4).toNat), iv x2] M1) fun c2 M2 =>
if c2 = 0 then
some (iv (-10000), M2)
else
bI (gC 114 [rv 9 ((M2 0 4).toNat), iv x1, iv x2] M2) fun c3 M3 =>
some (iv c3, M3)
else
if 0 ≤ x1 ∧ x1 < 8 then
some (iv (M1 ((M1 0 4).toNat + 2) (x1).toNat), M1)
else none
else
some (iv (-10000), M1) :=
  mat_unf gF gT [] 60 135 0 [rv 10 0, iv x1, iv x2] [] M
set_option maxRecDepth 20000 in
theorem e_GaugeNet_net  (M : mM) : gC 136 [rv 10 0] M =
bI (gC 115 [rv 9 ((M 0 4).toNat)] M) fun c1 M1 =>
some (iv c1, M1) :=
  mat_unf gF gT [] 60 136 0 [rv 10 0] [] M
set_option maxRecDepth 20000 in
theorem e_GaugeNet_pairs  (M : mM) : gC 137 [rv 10 0] M =
bV (gC 138 [rv 10 0] M) fun M1 =>
bI (gC 115 [rv 9 ((M1 0 4).toNat)] M1) fun c2 M2 =>
bI (gC 32 [rv 3 10, iv c2] M2) fun c3 M3 =>
some (iv c3, M3) :=
  mat_unf gF gT [] 60 137 0 [rv 10 0] [] M
set_option maxRecDepth 20000 in
theorem e_GaugeNet_makeReady  (M : mM) : gC 138 [rv 10 0] M =
if ¬ (M 0 5) = 0 then
some (none, M)
else
bV (gC 30 [rv 3 10, rv 9 ((M 0 4).toNat)] M) fun M1 =>
bV (gC 73 [rv 7 13, rv 9 ((M1 0 4).toNat), rv 3 10] M1) fun M2 =>
some (none, st M2 0 5 1) :=
  mat_unf gF gT [] 60 138 0 [rv 10 0] [] M
set_option maxRecDepth 20000 in
theorem e_GaugeNet_row (x1 : Int) (M : mM) : gC 139 [rv 10 0, iv x1] M =
bI (gC 115 [rv 9 ((M 0 4).toNat)] M) fun c1 M1 =>
bI (gC 128 [iv c1, iv x1] M1) fun c2 M2 =>
if ¬ c2 = 0 then
bV (gC 138 [rv 10 0] M2) fun M3 =>
bI (gC 33 [rv 3 10, iv c1, iv x1] M3) fun c4 M4 =>
if c4 = 0 then
bI (gC 105 [rv 9 ((M4 0 4).toNat), iv x1] M4) fun c5 M5 =>
bI (gC 34 [rv 3 10, rv 9 ((M5 0 4).toNat), iv c1] M5) fun c6 M6 =>
if (and32 c5 c6) = 0 then
some (iv 1, M6)
else
some (iv 0, M6)
else
some (iv 2, M4)
else
some (iv (-1), M2) :=
  mat_unf gF gT [] 60 139 0 [rv 10 0, iv x1, none] [] M
set_option maxRecDepth 20000 in
theorem e_GaugeNet_unknown (x1 : Int) (M : mM) : gC 140 [rv 10 0, iv x1] M =
bI (gC 113 [rv 9 ((M 0 4).toNat), iv x1] M) fun c1 M1 =>
if ¬ c1 = 0 then
bV (gC 138 [rv 10 0] M1) fun M2 =>
bI (gC 115 [rv 9 ((M2 0 4).toNat)] M2) fun c3 M3 =>
gA 140 27 [rv 10 0, iv x1, iv c3, iv 0] [] M3
else
some (iv (-1), M1) :=
  mat_unf gF gT [27] 60 140 0 [rv 10 0, iv x1, none, none] [] M
set_option maxRecDepth 20000 in
theorem s_GaugeNet_unknown_27 (x1 : Int) (x2 : Int) (x3 : Int) (M : mM) : gA 140 27 [rv 10 0, iv x1, iv x2, iv x3] [] M =
if 14 ≤ x3 then
bI (gC 34 [rv 3 10, rv 9 ((M 0 4).toNat), iv x2] M) fun c1 M1 =>
bI (gC 128 [iv c1, iv x1] M1) fun c2 M2 =>
if c2 = 0 then
some (iv 1, M2)
else
some (iv 0, M2)
else
bI (gC 105 [rv 9 ((M 0 4).toNat), iv x3] M) fun c3 M3 =>
bI (gC 128 [iv c3, iv x1] M3) fun c4 M4 =>
if c4 = 0 then
gA 140 27 [rv 10 0, iv x1, iv x2, iv (w32 (x3 + 1))] [] M4
else
bI (gC 33 [rv 3 10, iv x2, iv x3] M4) fun c5 M5 =>
if c5 = 0 then
gA 140 27 [rv 10 0, iv x1, iv x2, iv (w32 (x3 + 1))] [] M5
else
some (iv 2, M5) :=
  mat_unf gF gT [27] 60 140 27 [rv 10 0, iv x1, iv x2, iv x3] [] M
set_option maxRecDepth 20000 in
theorem e_GaugeNet_tests  (M : mM) : gC 141 [rv 10 0] M =
bV (gC 138 [rv 10 0] M) fun M1 =>
bI (gC 115 [rv 9 ((M1 0 4).toNat)] M1) fun c2 M2 =>
bI (gC 76 [rv 7 13, iv c2] M2) fun c3 M3 =>
some (iv c3, M3) :=
  mat_unf gF gT [] 60 141 0 [rv 10 0] [] M
set_option maxRecDepth 20000 in
theorem e_GaugeNet_test (x1 : Int) (M : mM) : gC 142 [rv 10 0, iv x1] M =
bI (gC 143 [rv 10 0, iv x1] M) fun c1 M1 =>
bI (gC 78 [rv 7 13, iv c1] M1) fun c2 M2 =>
some (iv c2, M2) :=
  mat_unf gF gT [] 60 142 0 [rv 10 0, iv x1] [] M
set_option maxRecDepth 20000 in
theorem e_GaugeNet_testAt (x1 : Int) (M : mM) : gC 143 [rv 10 0, iv x1] M =
bV (gC 138 [rv 10 0] M) fun M1 =>
bI (gC 115 [rv 9 ((M1 0 4).toNat)] M1) fun c2 M2 =>
bI (gC 79 [rv 7 13, iv x1, iv c2] M2) fun c3 M3 =>
some (iv c3, M3) :=
  mat_unf gF gT [] 60 143 0 [rv 10 0, iv x1] [] M
set_option maxRecDepth 20000 in
theorem e_GaugeNet_parts (x1 : Int) (x2 : Int) (M : mM) : gC 144 [rv 10 0, iv x1, iv x2] M =
bI (gC 117 [rv 9 ((M 0 4).toNat), iv x1] M) fun c1 M1 =>
if c1 = 0 then
some (iv (-1), M1)
else
bI (gC 117 [rv 9 ((M1 0 4).toNat), iv x2] M1) fun c2 M2 =>
if ¬ c2 = 0 then
bV (gC 138 [rv 10 0] M2) fun M3 =>
bI (gC 118 [rv 9 ((M3 0 4).toNat), iv x1] M3) fun c4 M4 =>
bI (gC 118 [rv 9 ((M4 0 4).toNat), iv x2] M4) fun c5 M5 =>
bI (gC 115 [rv 9 ((M5 0 4).toNat)] M5) fun c6 M6 =>
gA 144 62 [rv 10 0, none, none, iv c4, iv c5, iv c6, iv 0, iv 0] [] M6
else
some (iv (-1), M2) :=
  mat_unf gF gT [62] 60 144 0 [rv 10 0, iv x1, iv x2, none, none, none, none, none] [] M
set_option maxRecDepth 20000 in
theorem s_GaugeNet_parts_62 (x3 : Int) (x4 : Int) (x5 : Int) (x6 : Int) (x7 : Int) (M : mM) : gA 144 62 [rv 10 0, none, none, iv x3, iv x4, iv x5, iv x6, iv x7] [] M =
if (M 13 4) ≤ x7 then
some (iv (-2), M)
else
bI (gC 77 [rv 7 13, iv x7, iv x5] M) fun c1 M1 =>
if c1 = 0 then
gA 144 62 [rv 10 0, none, none, iv x3, iv x4, iv x5, iv x6, iv (w32 (x7 + 1))] [] M1
else
bI (gC 80 [rv 7 13, iv x7, iv x3] M1) fun c2 M2 =>
if c2 = 0 then
gA 144 62 [rv 10 0, none, none, iv x3, iv x4, iv x5, iv (w32 (x6 + 1)), iv (w32 (x7 + 1))] [] M2
else
bI (gC 80 [rv 7 13, iv x7, iv x4] M2) fun c3 M3 =>
if ¬ c3 = 0 then
gA 144 62 [rv 10 0, none, none, iv x3, iv x4, iv x5, iv (w32 (x6 + 1)), iv (w32 (x7 + 1))] [] M3
else
some (iv x6, M3) :=
  mat_unf gF gT [62] 60 144 62 [rv 10 0, none, none, iv x3, iv x4, iv x5, iv x6, iv x7] [] M
set_option maxRecDepth 20000 in
theorem e_GaugeNet_seen (x1 : Int) (M : mM) : gC 145 [rv 10 0, iv x1] M =
bI (gC 117 [rv 9 ((M 0 4).toNat), iv x1] M) fun c1 M1 =>
if ¬ c1 = 0 then
bV (gC 138 [rv 10 0] M1) fun M2 =>
bI (gC 115 [rv 9 ((M2 0 4).toNat)] M2) fun c3 M3 =>
bI (gC 118 [rv 9 ((M3 0 4).toNat), iv x1] M3) fun c4 M4 =>
bI (gC 33 [rv 3 10, iv c3, iv c4] M4) fun c5 M5 =>
if c5 = 0 then
some (iv 0, M5)
else
some (iv 1, M5)
else
some (iv (-1), M1) :=
  mat_unf gF gT [] 60 145 0 [rv 10 0, iv x1] [] M
set_option maxRecDepth 20000 in
theorem e_GaugeNet_parted (x1 : Int) (x2 : Int) (M : mM) : gC 146 [rv 10 0, iv x1, iv x2] M =
bI (gC 117 [rv 9 ((M 0 4).toNat), iv x1] M) fun c1 M1 =>
if c1 = 0 then
some (iv (-1), M1)
else
bI (gC 117 [rv 9 ((M1 0 4).toNat), iv x2] M1) fun c2 M2 =>
if c2 = 0 then
some (iv (-1), M2)
else
if ¬ x1 = x2 then
bV (gC 138 [rv 10 0] M2) fun M3 =>
bI (gC 115 [rv 9 ((M3 0 4).toNat)] M3) fun c4 M4 =>
bI (gC 118 [rv 9 ((M4 0 4).toNat), iv x1] M4) fun c5 M5 =>
bI (gC 118 [rv 9 ((M5 0 4).toNat), iv x2] M5) fun c6 M6 =>
bI (gC 36 [rv 3 10, iv c4, iv c5, iv c6] M6) fun c7 M7 =>
if c7 = 0 then
some (iv 0, M7)
else
some (iv 1, M7)
else
some (iv (-1), M2) :=
  mat_unf gF gT [] 60 146 0 [rv 10 0, iv x1, iv x2] [] M
set_option maxRecDepth 20000 in
theorem e_GaugeNet_told (x1 : Int) (M : mM) : gC 147 [rv 10 0, iv x1] M =
if x1 < 1 then
some (iv (-1), M)
else
if x1 ≤ 15 then
bV (gC 138 [rv 10 0] M) fun M1 =>
bI (gC 62 [rv 6 21, rv 9 ((M1 0 4).toNat), rv 3 10, iv x1] M1) fun c2 M2 =>
if c2 = 0 then
some (iv 0, M2)
else
some (iv 1, M2)
else
some (iv (-1), M) :=
  mat_unf gF gT [] 60 147 0 [rv 10 0, iv x1] [] M
set_option maxRecDepth 20000 in
theorem e_GaugeNet_adding (x1 : Int) (M : mM) : gC 148 [rv 10 0, iv x1] M =
bV (gC 138 [rv 10 0] M) fun M1 =>
bI (gC 67 [rv 6 21, rv 9 ((M1 0 4).toNat), rv 3 10, iv x1] M1) fun c2 M2 =>
some (iv c2, M2) :=
  mat_unf gF gT [] 60 148 0 [rv 10 0, iv x1] [] M
set_option maxRecDepth 20000 in
theorem e_GaugeNet_taking  (M : mM) : gC 149 [rv 10 0] M =
bV (gC 138 [rv 10 0] M) fun M1 =>
bI (gC 69 [rv 6 21, rv 9 ((M1 0 4).toNat), rv 3 10] M1) fun c2 M2 =>
some (iv c2, M2) :=
  mat_unf gF gT [] 60 149 0 [rv 10 0] [] M
set_option maxRecDepth 20000 in
theorem e_GaugeNet_positions  (M : mM) : gC 150 [rv 10 0] M =
bV (gC 138 [rv 10 0] M) fun M1 =>
bI (gC 72 [rv 6 21, rv 9 ((M1 0 4).toNat), rv 3 10] M1) fun c2 M2 =>
some (iv c2, M2) :=
  mat_unf gF gT [] 60 150 0 [rv 10 0] [] M
set_option maxRecDepth 20000 in
theorem e_GaugeNet_cost (x1 : Int) (M : mM) : gC 151 [rv 10 0, iv x1] M =
if x1 < 0 then
some (iv (-1), M)
else
if x1 < (shl32 1 (M (M 0 4).toNat 2)) then
bI (gC 120 [rv 9 ((M 0 4).toNat), iv x1] M) fun c1 M1 =>
some (iv c1, M1)
else
some (iv (-1), M) :=
  mat_unf gF gT [] 60 151 0 [rv 10 0, iv x1] [] M
set_option maxRecDepth 20000 in
theorem e_GaugeNet_uses (x1 : Int) (x2 : Int) (M : mM) : gC 152 [rv 10 0, iv x1, iv x2] M =
bI (gC 153 [rv 10 0, iv x1, iv x2] M) fun c1 M1 =>
if c1 = 0 then
some (iv (-1), M1)
else
some (iv (M1 23 1), M1) :=
  mat_unf gF gT [] 60 152 0 [rv 10 0, iv x1, iv x2] [] M
set_option maxRecDepth 20000 in
theorem e_GaugeNet_runRoutine (x1 : Int) (x2 : Int) (M : mM) : gC 153 [rv 10 0, iv x1, iv x2] M =
bI (gC 143 [rv 10 0, iv x1] M) fun c1 M1 =>
if c1 = (-1) then
some (iv 0, M1)
else
bI (gC 80 [rv 7 13, iv c1, iv x2] M1) fun c2 M2 =>
if ¬ c2 = 0 then
bI (gC 78 [rv 7 13, iv c1] M2) fun c3 M3 =>
bV (gC 59 [rv 5 23, rv 9 ((M2 0 4).toNat), iv (and32 c3 (xor32 (shl32 1 x2) (-1)))] M3) fun M4 =>
some (iv 1, M4)
else
some (iv 0, M2) :=
  mat_unf gF gT [] 60 153 0 [rv 10 0, iv x1, iv x2, none] [] M
set_option maxRecDepth 20000 in
theorem e_GaugeNet_use (x1 : Int) (x2 : Int) (x3 : Int) (M : mM) : gC 154 [rv 10 0, iv x1, iv x2, iv x3] M =
bI (gC 153 [rv 10 0, iv x1, iv x2] M) fun c1 M1 =>
if c1 = 0 then
some (iv (-1), M1)
else
bI (gC 61 [rv 5 23, iv x3] M1) fun c2 M2 =>
some (iv c2, M2) :=
  mat_unf gF gT [] 60 154 0 [rv 10 0, iv x1, iv x2, iv x3] [] M
set_option maxRecDepth 20000 in
theorem e_GaugeNet_ring (x1 : Int) (x2 : Int) (M : mM) : gC 155 [rv 10 0, iv x1, iv x2] M =
bI (gC 153 [rv 10 0, iv x1, iv x2] M) fun c1 M1 =>
if c1 = 0 then
some (iv (-1), M1)
else
some (iv (M1 23 2), M1) :=
  mat_unf gF gT [] 60 155 0 [rv 10 0, iv x1, iv x2] [] M
set_option maxRecDepth 20000 in
theorem e_GaugeNet_runs (x1 : Int) (M : mM) : gC 156 [rv 10 0, iv x1] M =
bV (gC 157 [rv 10 0] M) fun M1 =>
bI (gC 143 [rv 10 0, iv x1] M1) fun c2 M2 =>
if ¬ c2 = (-1) then
bI (gC 82 [rv 7 13, iv c2] M2) fun c3 M3 =>
if c3 = 0 then
some (iv 0, M3)
else
some (iv 1, M3)
else
some (iv (-1), M2) :=
  mat_unf gF gT [] 60 156 0 [rv 10 0, iv x1, none] [] M
set_option maxRecDepth 20000 in
theorem e_GaugeNet_makeWeighed  (M : mM) : gC 157 [rv 10 0] M =
bV (gC 138 [rv 10 0] M) fun M1 =>
bI (gC 115 [rv 9 ((M1 0 4).toNat)] M1) fun c2 M2 =>
bV (gC 81 [rv 7 13, rv 9 ((M1 0 4).toNat), iv c2] M2) fun M3 =>
some (none, M3) :=
  mat_unf gF gT [] 60 157 0 [rv 10 0] [] M
set_option maxRecDepth 20000 in
theorem e_GaugeNet_divisorOfBoth (x0 : Int) (x2 : Int) (M : mM) : gC 158 [jv x0, jv x2] M =
gA 158 15 [none, none, none, none, jv (abs64 x0), none, jv (abs64 x2), none, iv 0, none, none] [] M :=
  mat_unf gF gT [15] 60 158 0 [jv x0, none, jv x2, none, none, none, none, none, none, none, none] [] M
set_option maxRecDepth 20000 in
theorem s_GaugeNet_divisorOfBoth_15 (x4 : Int) (x6 : Int) (x8 : Int) (M : mM) : gA 158 15 [none, none, none, none, jv x4, none, jv x6, none, iv x8, none, none] [] M =
if 200 ≤ x8 then
some (jv x4, M)
else
if (lcmp x6 0) = 0 then
some (jv x4, M)
else
if x6 = 0 then none else
gA 158 15 [none, none, none, none, jv x6, none, jv ((x4).tmod x6), none, iv (w32 (x8 + 1)), none, none] [] M :=
  mat_unf gF gT [15] 60 158 15 [none, none, none, none, jv x4, none, jv x6, none, iv x8, none, none] [] M
set_option maxRecDepth 20000 in
theorem e_GaugeNet_weight (x1 : Int) (x2 : Int) (M : mM) : gC 159 [rv 10 0, iv x1, iv x2] M =
bI (gC 160 [rv 10 0, iv x1] M) fun c1 M1 =>
bI (gC 80 [rv 7 13, iv c1, iv x2] M1) fun c2 M2 =>
if c2 = 0 then
some (jv (-1000000000000), M2)
else
bJ (gC 83 [rv 7 13, iv c1, iv x2] M2) fun c3 M3 =>
some (jv c3, M3) :=
  mat_unf gF gT [] 60 159 0 [rv 10 0, iv x1, iv x2, none] [] M
set_option maxRecDepth 20000 in
theorem e_GaugeNet_runningTestAt (x1 : Int) (M : mM) : gC 160 [rv 10 0, iv x1] M =
bV (gC 157 [rv 10 0] M) fun M1 =>
bI (gC 115 [rv 9 ((M1 0 4).toNat)] M1) fun c2 M2 =>
bI (gC 79 [rv 7 13, iv x1, iv c2] M2) fun c3 M3 =>
bI (gC 82 [rv 7 13, iv c3] M3) fun c4 M4 =>
if c4 = 0 then
some (iv (-1), M4)
else
some (iv c3, M4) :=
  mat_unf gF gT [] 60 160 0 [rv 10 0, iv x1, none] [] M
set_option maxRecDepth 20000 in
theorem e_GaugeNet_nought (x1 : Int) (M : mM) : gC 161 [rv 10 0, iv x1] M =
bI (gC 160 [rv 10 0, iv x1] M) fun c1 M1 =>
if ¬ c1 = (-1) then
bJ (gC 84 [rv 7 13, rv 9 ((M1 0 4).toNat), iv c1] M1) fun c2 M2 =>
some (jv c2, M2)
else
some (jv (-1000000000000000), M1) :=
  mat_unf gF gT [] 60 161 0 [rv 10 0, iv x1, none] [] M
set_option maxRecDepth 20000 in
theorem e_GaugeNet_bound (x1 : Int) (M : mM) : gC 162 [rv 10 0, iv x1] M =
bI (gC 160 [rv 10 0, iv x1] M) fun c1 M1 =>
if ¬ c1 = (-1) then
bJ (gC 85 [rv 7 13, rv 9 ((M1 0 4).toNat), iv c1] M1) fun c2 M2 =>
some (jv c2, M2)
else
some (jv (-1), M1) :=
  mat_unf gF gT [] 60 162 0 [rv 10 0, iv x1, none] [] M
set_option maxRecDepth 20000 in
theorem e_GaugeNet_rings (x1 : Int) (M : mM) : gC 163 [rv 10 0, iv x1] M =
bI (gC 160 [rv 10 0, iv x1] M) fun c1 M1 =>
if ¬ c1 = (-1) then
bI (gC 86 [rv 7 13, rv 9 ((M1 0 4).toNat), iv c1] M1) fun c2 M2 =>
if c2 = 0 then
some (iv 0, M2)
else
some (iv 1, M2)
else
some (iv (-1), M1) :=
  mat_unf gF gT [] 60 163 0 [rv 10 0, iv x1, none] [] M
set_option maxRecDepth 20000 in
theorem e_GaugeNet_from (x1 : Int) (x2 : Int) (M : mM) : gC 164 [rv 10 0, iv x1, iv x2] M =
bI (gC 160 [rv 10 0, iv x1] M) fun c1 M1 =>
if c1 = (-1) then
some (jv (-1), M1)
else
bI (gC 117 [rv 9 ((M1 0 4).toNat), iv x2] M1) fun c2 M2 =>
if ¬ c2 = 0 then
bI (gC 118 [rv 9 ((M2 0 4).toNat), iv x2] M2) fun c3 M3 =>
bJ (gC 83 [rv 7 13, iv c1, iv c3] M3) fun c4 M4 =>
if ¬ (lcmp (abs64 c4) 0) = 0 then
bJ (gC 85 [rv 7 13, rv 9 ((M4 0 4).toNat), iv c1] M4) fun c5 M5 =>
if (abs64 c4) = 0 then none else
some (jv (w64 ((w64 ((w64 (2 * c5)).tdiv (abs64 c4))) + 1)), M5)
else
some (jv (-2), M4)
else
some (jv (-1), M2) :=
  mat_unf gF gT [] 60 164 0 [rv 10 0, iv x1, iv x2, none, none, none] [] M
set_option maxRecDepth 20000 in
theorem e_GaugeNet_odds (x1 : Int) (x2 : Int) (x3 : Int) (x4 : Int) (M : mM) : gC 165 [rv 10 0, iv x1, iv x2, iv x3, jv x4] M =
bI (gC 160 [rv 10 0, iv x1] M) fun c1 M1 =>
if x2 = (-1) then
if c1 = (-1) then
some (iv (-1), M1)
else
if x3 < (-9999) then
some (iv (-1), M1)
else
if 9999 < x3 then
some (iv (-1), M1)
else
if 0 ≤ (lcmp x4 (-1)) then
if ¬ x2 = (-1) then
bI (gC 118 [rv 9 ((M1 0 4).toNat), iv x2] M1) fun c2 M2 =>
bJ (gC 83 [rv 7 13, iv c1, iv c2] M2) fun c3 M3 =>
bI (gC 28 [rv 2 25, rv 9 ((M3 0 4).toNat), rv 7 13, iv c1, jv (w64 (c3 * x3)), jv x4] M3) fun c4 M4 =>
some (iv c4, M4)
else
bI (gC 28 [rv 2 25, rv 9 ((M1 0 4).toNat), rv 7 13, iv c1, jv 0, jv x4] M1) fun c5 M5 =>
some (iv c5, M5)
else
some (iv (-1), M1)
else
bI (gC 117 [rv 9 ((M1 0 4).toNat), iv x2] M1) fun c6 M6 =>
if c6 = 0 then
if c1 = (-1) then
some (iv (-1), M6)
else
some (iv (-1), M6)
else
if c1 = (-1) then
some (iv (-1), M6)
else
if x3 < (-9999) then
some (iv (-1), M6)
else
if 9999 < x3 then
some (iv (-1), M6)
else
if 0 ≤ (lcmp x4 (-1)) then
if ¬ x2 = (-1) then
bI (gC 118 [rv 9 ((M6 0 4).toNat), iv x2] M6) fun c7 M7 =>
bJ (gC 83 [rv 7 13, iv c1, iv c7] M7) fun c8 M8 =>
bI (gC 28 [rv 2 25, rv 9 ((M8 0 4).toNat), rv 7 13, iv c1, jv (w64 (c8 * x3)), jv x4] M8) fun c9 M9 =>
some (iv c9, M9)
else
bI (gC 28 [rv 2 25, rv 9 ((M6 0 4).toNat), rv 7 13, iv c1, jv 0, jv x4] M6) fun c10 M10 =>
some (iv c10, M10)
else
some (iv (-1), M6) :=
  mat_unf gF gT [] 60 165 0 [rv 10 0, iv x1, iv x2, iv x3, jv x4, none, none, none, none, none] [] M
set_option maxRecDepth 20000 in
theorem e_GaugeNet_sets (x1 : Int) (M : mM) : gC 166 [rv 10 0, iv x1] M =
bV (gC 167 [rv 10 0] M) fun M1 =>
bI (gC 4 [rv 0 29, iv x1] M1) fun c2 M2 =>
some (iv c2, M2) :=
  mat_unf gF gT [] 60 166 0 [rv 10 0, iv x1] [] M
set_option maxRecDepth 20000 in
theorem e_GaugeNet_hearRings  (M : mM) : gC 167 [rv 10 0] M =
bV (gC 157 [rv 10 0] M) fun M1 =>
bV (gC 3 [rv 0 29, rv 9 ((M1 0 4).toNat), rv 7 13] M1) fun M2 =>
some (none, M2) :=
  mat_unf gF gT [] 60 167 0 [rv 10 0] [] M
set_option maxRecDepth 20000 in
theorem e_GaugeNet_set (x1 : Int) (x2 : Int) (M : mM) : gC 168 [rv 10 0, iv x1, iv x2] M =
bV (gC 167 [rv 10 0] M) fun M1 =>
bI (gC 8 [rv 0 29, iv x1, iv x2] M1) fun c2 M2 =>
some (iv c2, M2) :=
  mat_unf gF gT [] 60 168 0 [rv 10 0, iv x1, iv x2] [] M
set_option maxRecDepth 20000 in
theorem e_GaugeNet_look  (M : mM) : gC 169 [rv 10 0] M =
bV (gC 167 [rv 10 0] M) fun M1 =>
bI (gC 9 [rv 0 29] M1) fun c2 M2 =>
some (iv c2, M2) :=
  mat_unf gF gT [] 60 169 0 [rv 10 0] [] M
set_option maxRecDepth 20000 in
theorem e_GaugeNet_hide (x1 : Int) (x2 : Int) (M : mM) : gC 170 [rv 10 0, iv x1, iv x2] M =
bI (gC 117 [rv 9 ((M 0 4).toNat), iv x1] M) fun c1 M1 =>
if c1 = 0 then
some (iv (-1), M1)
else
bI (gC 117 [rv 9 ((M1 0 4).toNat), iv x2] M1) fun c2 M2 =>
if c2 = 0 then
some (iv (-1), M2)
else
if ¬ x1 = x2 then
bV (gC 157 [rv 10 0] M2) fun M3 =>
bI (gC 118 [rv 9 ((M3 0 4).toNat), iv x1] M3) fun c4 M4 =>
bI (gC 118 [rv 9 ((M4 0 4).toNat), iv x2] M4) fun c5 M5 =>
bI (gC 10 [rv 0 29, rv 9 ((M3 0 4).toNat), rv 7 13, iv c4, iv c5] M5) fun c6 M6 =>
if c6 = 0 then
some (iv 0, M6)
else
some (iv 1, M6)
else
some (iv (-1), M2) :=
  mat_unf gF gT [] 60 170 0 [rv 10 0, iv x1, iv x2] [] M
set_option maxRecDepth 20000 in
theorem e_GaugeNet_still (x1 : Int) (M : mM) : gC 171 [rv 10 0, iv x1] M =
bI (gC 123 [rv 9 ((M 0 4).toNat), iv x1] M) fun c1 M1 =>
if ¬ c1 = 0 then
bV (gC 138 [rv 10 0] M1) fun M2 =>
bI (gC 115 [rv 9 ((M2 0 4).toNat)] M2) fun c3 M3 =>
bI (gC 76 [rv 7 13, iv (and32 c3 (xor32 (shl32 1 x1) (-1)))] M3) fun c4 M4 =>
some (iv c4, M4)
else
some (iv (-1), M1) :=
  mat_unf gF gT [] 60 171 0 [rv 10 0, iv x1] [] M
set_option maxRecDepth 20000 in
theorem e_GaugeNet_judged (x1 : Int) (x2 : Int) (x3 : Int) (M : mM) : gC 172 [rv 10 0, iv x1, iv x2, iv x3] M =
bI (gC 117 [rv 9 ((M 0 4).toNat), iv x1] M) fun c1 M1 =>
if c1 = 0 then
some (iv (-1), M1)
else
if x2 < 1 then
some (iv (-1), M1)
else
if 200 < x2 then
some (iv (-1), M1)
else
if x3 < 0 then
some (iv (-1), M1)
else
if x3 ≤ 2 then
bV (gC 157 [rv 10 0] M1) fun M2 =>
bI (gC 11 [rv 0 29, rv 9 ((M2 0 4).toNat), rv 7 13, iv x1, iv x2, iv x3] M2) fun c3 M3 =>
some (iv c3, M3)
else
some (iv (-1), M1) :=
  mat_unf gF gT [] 60 172 0 [rv 10 0, iv x1, iv x2, iv x3] [] M
set_option maxRecDepth 20000 in
theorem e_GaugeNet_mistaken (x1 : Int) (x2 : Int) (M : mM) : gC 173 [rv 10 0, iv x1, iv x2] M =
bI (gC 117 [rv 9 ((M 0 4).toNat), iv x1] M) fun c1 M1 =>
if c1 = 0 then
some (iv (-1), M1)
else
if x2 < 1 then
some (iv (-1), M1)
else
if x2 ≤ 9999 then
bV (gC 157 [rv 10 0] M1) fun M2 =>
bI (gC 15 [rv 0 29, rv 9 ((M2 0 4).toNat), rv 7 13, iv x1, iv x2] M2) fun c3 M3 =>
if c3 = (-1) then
some (iv 0, M3)
else
if ¬ c3 = x1 then
some (iv (shl32 1 c3), M3)
else
some (iv 0, M3)
else
some (iv (-1), M1) :=
  mat_unf gF gT [] 60 173 0 [rv 10 0, iv x1, iv x2, none] [] M
set_option maxRecDepth 20000 in
theorem e_GaugeNet_count (x1 : Int) (M : mM) : gC 174 [rv 10 0, iv x1] M =
if x1 = 0 then
some (iv (M (M 0 4).toNat 0), M)
else if x1 = 1 then
some (iv (M (M 0 4).toNat 1), M)
else if x1 = 2 then
some (iv (M (M 0 4).toNat 2), M)
else if x1 = 3 then
some (iv (M (M 0 4).toNat 3), M)
else if x1 = 4 then
some (iv (M (M 0 4).toNat 4), M)
else if x1 = 5 then
some (iv (M (M 0 4).toNat 5), M)
else if x1 = 6 then
some (iv (M (M 0 4).toNat 6), M)
else if x1 = 7 then
some (iv (M 0 1), M)
else 
if x1 < 10 then
some (iv (-1), M)
else
if (w32 (10 + (M (M 0 4).toNat 3))) ≤ x1 then
some (iv (-1), M)
else
bI (gC 118 [rv 9 ((M 0 4).toNat), iv (w32 (x1 - 10))] M) fun c1 M1 =>
some (iv c1, M1) :=
  mat_unf gF gT [] 60 174 0 [rv 10 0, iv x1] [] M
