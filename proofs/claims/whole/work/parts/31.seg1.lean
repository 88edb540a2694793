/-! What each method does from each place on: by program, checked by unfolding. -/
set_option maxRecDepth 20000 in
theorem e_Pairs_countAll (w1 : Nat) (M : mM) : gC 30 [rv 3 10, rv 9 w1] M =
gA 30 27 [rv 3 10, rv 9 w1, iv (shl32 1 (min32 (M w1 1) 8)), iv (shl32 1 (min32 (M w1 2) 6)), iv 0, none, none] [] M :=
  mat_unf gF gT [27, 36] 60 30 0 [rv 3 10, rv 9 w1, none, none, none, none, none] [] M
set_option maxRecDepth 20000 in
theorem s_Pairs_countAll_27 (w1 : Nat) (x2 : Int) (x3 : Int) (x4 : Int) (M : mM) : gA 30 27 [rv 3 10, rv 9 w1, iv x2, iv x3, iv x4, none, none] [] M =
if x3 ≤ x4 then
some (none, M)
else
gA 30 36 [rv 3 10, rv 9 w1, iv x2, iv x3, iv x4, iv 0, none] [] M :=
  mat_unf gF gT [27, 36] 60 30 27 [rv 3 10, rv 9 w1, iv x2, iv x3, iv x4, none, none] [] M
set_option maxRecDepth 20000 in
theorem s_Pairs_countAll_36 (w1 : Nat) (x2 : Int) (x3 : Int) (x4 : Int) (x5 : Int) (M : mM) : gA 30 36 [rv 3 10, rv 9 w1, iv x2, iv x3, iv x4, iv x5, none] [] M =
if x2 ≤ x5 then
gA 30 27 [rv 3 10, rv 9 w1, iv x2, iv x3, iv (w32 (x4 + 1)), none, none] [] M
else
if 16384 ≤ (or32 (shl32 x4 8) x5) then
gA 30 36 [rv 3 10, rv 9 w1, iv x2, iv x3, iv x4, iv (w32 (x5 + 1)), none] [] M
else
bI (gC 31 [rv 3 10, rv 9 w1, iv (or32 (shl32 x4 8) x5)] M) fun c1 M1 =>
if 0 ≤ (or32 (shl32 x4 8) x5) ∧ (or32 (shl32 x4 8) x5) < 16384 then
gA 30 36 [rv 3 10, rv 9 w1, iv x2, iv x3, iv x4, iv (w32 (x5 + 1)), none] [] (st M1 11 (or32 (shl32 x4 8) x5).toNat (w8 (w8 c1)))
else none :=
  mat_unf gF gT [27, 36] 60 30 36 [rv 3 10, rv 9 w1, iv x2, iv x3, iv x4, iv x5, none] [] M
set_option maxRecDepth 20000 in
theorem e_Pairs_countOne (w1 : Nat) (x2 : Int) (M : mM) : gC 31 [rv 3 10, rv 9 w1, iv x2] M =
gA 31 9 [rv 3 10, rv 9 w1, iv x2, iv 0, iv 14, iv 0] [] M :=
  mat_unf gF gT [9] 60 31 0 [rv 3 10, rv 9 w1, iv x2, none, none, none] [] M
set_option maxRecDepth 20000 in
theorem s_Pairs_countOne_9 (w1 : Nat) (x2 : Int) (x3 : Int) (x4 : Int) (x5 : Int) (M : mM) : gA 31 9 [rv 3 10, rv 9 w1, iv x2, iv x3, iv x4, iv x5] [] M =
if 14 ≤ x5 then
bI (gC 0 [iv x3] M) fun c1 M1 =>
some (iv (min32 x4 c1), M1)
else
bI (gC 128 [iv x2, iv x5] M) fun c2 M2 =>
if c2 = 0 then
gA 31 9 [rv 3 10, rv 9 w1, iv x2, iv x3, iv x4, iv (w32 (x5 + 1))] [] M2
else
bI (gC 105 [rv 9 w1, iv x5] M2) fun c3 M3 =>
bI (gC 32 [rv 3 10, iv (and32 x2 (xor32 (shl32 1 x5) (-1)))] M3) fun c4 M4 =>
gA 31 9 [rv 3 10, rv 9 w1, iv x2, iv (or32 x3 c3), iv (min32 x4 (w32 (c4 + 1))), iv (w32 (x5 + 1))] [] M4 :=
  mat_unf gF gT [9] 60 31 9 [rv 3 10, rv 9 w1, iv x2, iv x3, iv x4, iv x5] [] M
set_option maxRecDepth 20000 in
theorem e_Pairs_of (x1 : Int) (M : mM) : gC 32 [rv 3 10, iv x1] M =
if x1 < 0 then
some (iv 0, M)
else
if 16384 ≤ x1 then
some (iv 0, M)
else
if 0 ≤ x1 ∧ x1 < 16384 then
some (iv (M 11 (x1).toNat), M)
else none :=
  mat_unf gF gT [] 60 32 0 [rv 3 10, iv x1] [] M
set_option maxRecDepth 20000 in
theorem e_Pairs_isMore (x1 : Int) (x2 : Int) (M : mM) : gC 33 [rv 3 10, iv x1, iv x2] M =
bI (gC 128 [iv x1, iv x2] M) fun c1 M1 =>
if c1 = 0 then
some (iv 0, M1)
else
bI (gC 32 [rv 3 10, iv (and32 x1 (xor32 (shl32 1 x2) (-1)))] M1) fun c2 M2 =>
bI (gC 32 [rv 3 10, iv x1] M2) fun c3 M3 =>
if ¬ c2 = c3 then
some (iv 0, M3)
else
some (iv 1, M3) :=
  mat_unf gF gT [] 60 33 0 [rv 3 10, iv x1, iv x2] [] M
set_option maxRecDepth 20000 in
theorem e_Pairs_leftOut (w1 : Nat) (x2 : Int) (M : mM) : gC 34 [rv 3 10, rv 9 w1, iv x2] M =
gA 34 2 [rv 3 10, rv 9 w1, iv x2, iv 0, none, none] [] M :=
  mat_unf gF gT [2, 32, 73] 60 34 0 [rv 3 10, rv 9 w1, iv x2, none, none, none] [] M
set_option maxRecDepth 20000 in
theorem s_Pairs_leftOut_2 (w1 : Nat) (x2 : Int) (x3 : Int) (M : mM) : gA 34 2 [rv 3 10, rv 9 w1, iv x2, iv x3, none, none] [] M =
if 128 ≤ x3 then
gA 34 32 [rv 3 10, rv 9 w1, iv x2, iv 0, none, none] [] M
else
if ¬ x3 = 0 then
if 0 ≤ x3 ∧ x3 < 128 then
gA 34 2 [rv 3 10, rv 9 w1, iv x2, iv (w32 (x3 + 1)), none, none] [] (st M 12 (x3).toNat 0)
else none
else
if 0 ≤ x3 ∧ x3 < 128 then
gA 34 2 [rv 3 10, rv 9 w1, iv x2, iv (w32 (x3 + 1)), none, none] [] (st M 12 (x3).toNat 1)
else none :=
  mat_unf gF gT [2, 32, 73] 60 34 2 [rv 3 10, rv 9 w1, iv x2, iv x3, none, none] [] M
set_option maxRecDepth 20000 in
theorem s_Pairs_leftOut_32 (w1 : Nat) (x2 : Int) (x3 : Int) (M : mM) : gA 34 32 [rv 3 10, rv 9 w1, iv x2, iv x3, none, none] [] M =
if 14 ≤ x3 then
bI (gC 32 [rv 3 10, iv x2] M) fun c1 M1 =>
gA 34 73 [rv 3 10, rv 9 w1, none, iv c1, iv 0, iv 0] [] M1
else
bI (gC 128 [iv x2, iv x3] M) fun c2 M2 =>
if c2 = 0 then
gA 34 32 [rv 3 10, rv 9 w1, iv x2, iv (w32 (x3 + 1)), none, none] [] M2
else
bI (gC 105 [rv 9 w1, iv x3] M2) fun c3 M3 =>
bV (gC 35 [rv 3 10, iv c3] M3) fun M4 =>
gA 34 32 [rv 3 10, rv 9 w1, iv x2, iv (w32 (x3 + 1)), none, none] [] M4 :=
  mat_unf gF gT [2, 32, 73] 60 34 32 [rv 3 10, rv 9 w1, iv x2, iv x3, none, none] [] M
set_option maxRecDepth 20000 in
theorem s_Pairs_leftOut_73 (w1 : Nat) (x3 : Int) (x4 : Int) (x5 : Int) (M : mM) : gA 34 73 [rv 3 10, rv 9 w1, none, iv x3, iv x4, iv x5] [] M =
if 128 ≤ x5 then
some (iv (and32 x4 (w32 ((shl32 1 (M w1 0)) - 1))), M)
else
if 0 ≤ x5 ∧ x5 < 128 then
if (M 12 (x5).toNat) = 0 then
gA 34 73 [rv 3 10, rv 9 w1, none, iv x3, iv x4, iv (w32 (x5 + 1))] [] M
else
bI (gC 0 [iv x5] M) fun c1 M1 =>
if ¬ c1 = x3 then
gA 34 73 [rv 3 10, rv 9 w1, none, iv x3, iv x4, iv (w32 (x5 + 1))] [] M1
else
gA 34 73 [rv 3 10, rv 9 w1, none, iv x3, iv (or32 x4 (xor32 x5 (-1))), iv (w32 (x5 + 1))] [] M1
else none :=
  mat_unf gF gT [2, 32, 73] 60 34 73 [rv 3 10, rv 9 w1, none, iv x3, iv x4, iv x5] [] M
set_option maxRecDepth 20000 in
theorem e_Pairs_pairRow (x1 : Int) (M : mM) : gC 35 [rv 3 10, iv x1] M =
gA 35 3 [rv 3 10, iv x1, iv 127, none] [] M :=
  mat_unf gF gT [3, 9] 60 35 0 [rv 3 10, iv x1, none, none] [] M
set_option maxRecDepth 20000 in
theorem s_Pairs_pairRow_3 (x1 : Int) (x2 : Int) (M : mM) : gA 35 3 [rv 3 10, iv x1, iv x2, none] [] M =
if x2 < 0 then
some (none, M)
else
gA 35 9 [rv 3 10, iv x1, iv x2, iv 0] [] M :=
  mat_unf gF gT [3, 9] 60 35 3 [rv 3 10, iv x1, iv x2, none] [] M
set_option maxRecDepth 20000 in
theorem s_Pairs_pairRow_9 (x1 : Int) (x2 : Int) (x3 : Int) (M : mM) : gA 35 9 [rv 3 10, iv x1, iv x2, iv x3] [] M =
if 7 ≤ x3 then
gA 35 3 [rv 3 10, iv x1, iv (w32 (x2 + (-1))), none] [] M
else
if 0 ≤ x2 ∧ x2 < 128 then
if (M 12 (x2).toNat) = 0 then
gA 35 3 [rv 3 10, iv x1, iv (w32 (x2 + (-1))), none] [] M
else
bI (gC 128 [iv x1, iv x3] M) fun c1 M1 =>
if c1 = 0 then
gA 35 9 [rv 3 10, iv x1, iv x2, iv (w32 (x3 + 1))] [] M1
else
bI (gC 128 [iv x2, iv x3] M1) fun c2 M2 =>
if ¬ c2 = 0 then
gA 35 9 [rv 3 10, iv x1, iv x2, iv (w32 (x3 + 1))] [] M2
else
if 0 ≤ (or32 x2 (shl32 1 x3)) ∧ (or32 x2 (shl32 1 x3)) < 128 then
gA 35 9 [rv 3 10, iv x1, iv x2, iv (w32 (x3 + 1))] [] (st M2 12 (or32 x2 (shl32 1 x3)).toNat 1)
else none
else none :=
  mat_unf gF gT [3, 9] 60 35 9 [rv 3 10, iv x1, iv x2, iv x3] [] M
set_option maxRecDepth 20000 in
theorem e_Pairs_isParted (x1 : Int) (x2 : Int) (x3 : Int) (M : mM) : gC 36 [rv 3 10, iv x1, iv x2, iv x3] M =
if x2 = x3 then
some (iv 0, M)
else
bI (gC 128 [iv x1, iv x2] M) fun c1 M1 =>
if c1 = 0 then
some (iv 0, M1)
else
bI (gC 37 [iv x1, iv x3] M1) fun c2 M2 =>
bI (gC 33 [rv 3 10, iv c2, iv x2] M2) fun c3 M3 =>
if c3 = 0 then
some (iv 0, M3)
else
some (iv 1, M3) :=
  mat_unf gF gT [] 60 36 0 [rv 3 10, iv x1, iv x2, iv x3] [] M
set_option maxRecDepth 20000 in
theorem e_Pairs_without (x0 : Int) (x1 : Int) (M : mM) : gC 37 [iv x0, iv x1] M =
bI (gC 128 [iv x0, iv x1] M) fun c1 M1 =>
if c1 = 0 then
some (iv x0, M1)
else
some (iv (and32 x0 (xor32 (shl32 1 x1) (-1))), M1) :=
  mat_unf gF gT [] 60 37 0 [iv x0, iv x1] [] M
set_option maxRecDepth 20000 in
theorem e_Routine_run (w1 : Nat) (x2 : Int) (M : mM) : gC 59 [rv 5 23, rv 9 w1, iv x2] M =
bI (gC 60 [rv 5 23, rv 9 w1] (st (st (st M 23 1 0) 23 2 x2) 23 3 0)) fun c1 M1 =>
gA 59 24 [rv 5 23, rv 9 w1, none, iv c1, iv 0] [] M1 :=
  mat_unf gF gT [24] 60 59 0 [rv 5 23, rv 9 w1, iv x2, none, none] [] M
set_option maxRecDepth 20000 in
theorem s_Routine_run_24 (w1 : Nat) (x3 : Int) (x4 : Int) (M : mM) : gA 59 24 [rv 5 23, rv 9 w1, none, iv x3, iv x4] [] M =
if 14 ≤ x4 then
some (none, M)
else
if x3 = (-1) then
some (none, M)
else
if 14 ≤ (M 23 1) then
bI (gC 105 [rv 9 w1, iv x3] (st M 23 2 (and32 (M 23 2) (xor32 (shl32 1 x3) (-1))))) fun c1 M1 =>
bI (gC 60 [rv 5 23, rv 9 w1] (st M1 23 3 (or32 ((st M 23 2 (and32 (M 23 2) (xor32 (shl32 1 x3) (-1)))) 23 3) c1))) fun c2 M2 =>
gA 59 24 [rv 5 23, rv 9 w1, none, iv c2, iv (w32 (x4 + 1))] [] M2
else
if 0 ≤ (M 23 1) ∧ (M 23 1) < 14 then
bI (gC 105 [rv 9 w1, iv x3] (st (st (st M 24 (M 23 1).toNat x3) 23 1 (w32 (((st M 24 (M 23 1).toNat x3) 23 1) + 1))) 23 2 (and32 ((st (st M 24 (M 23 1).toNat x3) 23 1 (w32 (((st M 24 (M 23 1).toNat x3) 23 1) + 1))) 23 2) (xor32 (shl32 1 x3) (-1))))) fun c3 M3 =>
bI (gC 60 [rv 5 23, rv 9 w1] (st M3 23 3 (or32 ((st (st (st M 24 (M 23 1).toNat x3) 23 1 (w32 (((st M 24 (M 23 1).toNat x3) 23 1) + 1))) 23 2 (and32 ((st (st M 24 (M 23 1).toNat x3) 23 1 (w32 (((st M 24 (M 23 1).toNat x3) 23 1) + 1))) 23 2) (xor32 (shl32 1 x3) (-1)))) 23 3) c3))) fun c4 M4 =>
gA 59 24 [rv 5 23, rv 9 w1, none, iv c4, iv (w32 (x4 + 1))] [] M4
else none :=
  mat_unf gF gT [24] 60 59 24 [rv 5 23, rv 9 w1, none, iv x3, iv x4] [] M
set_option maxRecDepth 20000 in
theorem e_Routine_nextRow (w1 : Nat) (M : mM) : gC 60 [rv 5 23, rv 9 w1] M =
gA 60 2 [rv 5 23, rv 9 w1, iv 0] [] M :=
  mat_unf gF gT [2] 60 60 0 [rv 5 23, rv 9 w1, none] [] M
set_option maxRecDepth 20000 in
theorem s_Routine_nextRow_2 (w1 : Nat) (x2 : Int) (M : mM) : gA 60 2 [rv 5 23, rv 9 w1, iv x2] [] M =
if 14 ≤ x2 then
some (iv (-1), M)
else
bI (gC 128 [iv (M 23 2), iv x2] M) fun c1 M1 =>
if c1 = 0 then
gA 60 2 [rv 5 23, rv 9 w1, iv (w32 (x2 + 1))] [] M1
else
bI (gC 105 [rv 9 w1, iv x2] M1) fun c2 M2 =>
bI (gC 0 [iv (and32 c2 (xor32 (M2 23 3) (-1)))] M2) fun c3 M3 =>
if ¬ c3 = 1 then
gA 60 2 [rv 5 23, rv 9 w1, iv (w32 (x2 + 1))] [] M3
else
some (iv x2, M3) :=
  mat_unf gF gT [2] 60 60 2 [rv 5 23, rv 9 w1, iv x2] [] M
set_option maxRecDepth 20000 in
theorem e_Routine_rowAt (x1 : Int) (M : mM) : gC 61 [rv 5 23, iv x1] M =
if x1 < 0 then
some (iv (-1), M)
else
if (M 23 1) ≤ x1 then
some (iv (-1), M)
else
if 14 ≤ x1 then
some (iv (-1), M)
else
if 0 ≤ x1 ∧ x1 < 14 then
some (iv (M 24 (x1).toNat), M)
else none :=
  mat_unf gF gT [] 60 61 0 [rv 5 23, iv x1] [] M
set_option maxRecDepth 20000 in
theorem e_Telling_isToldBy (w1 : Nat) (x3 : Int) (M : mM) : gC 62 [rv 6 21, rv 9 w1, rv 3 10, iv x3] M =
bV (gC 63 [rv 6 21, rv 9 w1, iv x3, iv (M w1 5), iv (M w1 6)] M) fun M1 =>
bI (gC 119 [rv 9 w1, iv 16383] M1) fun c2 M2 =>
bI (gC 64 [rv 6 21, rv 9 w1, rv 3 10, iv c2] M2) fun c3 M3 =>
if 0 ≤ c3 ∧ c3 < 2 then some (iv c3, M3) else none :=
  mat_unf gF gT [] 60 62 0 [rv 6 21, rv 9 w1, rv 3 10, iv x3] [] M
set_option maxRecDepth 20000 in
theorem e_Telling_setNets (w1 : Nat) (x2 : Int) (x3 : Int) (x4 : Int) (M : mM) : gC 63 [rv 6 21, rv 9 w1, iv x2, iv x3, iv x4] M =
gA 63 3 [rv 6 21, rv 9 w1, iv x2, iv x3, iv x4, iv 0] [] M :=
  mat_unf gF gT [3] 60 63 0 [rv 6 21, rv 9 w1, iv x2, iv x3, iv x4, none] [] M
set_option maxRecDepth 20000 in
theorem s_Telling_setNets_3 (w1 : Nat) (x2 : Int) (x3 : Int) (x4 : Int) (x5 : Int) (M : mM) : gA 63 3 [rv 6 21, rv 9 w1, iv x2, iv x3, iv x4, iv x5] [] M =
if 4 ≤ x5 then
some (none, M)
else
bI (gC 128 [iv x2, iv x5] M) fun c1 M1 =>
if c1 = 0 then
if 0 ≤ x5 ∧ x5 < 4 then
gA 63 3 [rv 6 21, rv 9 w1, iv x2, iv x3, iv x4, iv (w32 (x5 + 1))] [] (st M1 22 (x5).toNat 0)
else none
else
bI (gC 116 [rv 9 w1, iv x5, iv x3, iv x4] M1) fun c2 M2 =>
if 0 ≤ x5 ∧ x5 < 4 then
gA 63 3 [rv 6 21, rv 9 w1, iv x2, iv x3, iv x4, iv (w32 (x5 + 1))] [] (st M2 22 (x5).toNat c2)
else none :=
  mat_unf gF gT [3] 60 63 3 [rv 6 21, rv 9 w1, iv x2, iv x3, iv x4, iv x5] [] M
set_option maxRecDepth 20000 in
theorem e_Telling_isAllTold (w1 : Nat) (x3 : Int) (M : mM) : gC 64 [rv 6 21, rv 9 w1, rv 3 10, iv x3] M =
gA 64 3 [rv 6 21, rv 9 w1, rv 3 10, iv x3, iv 0, none, none] [] M :=
  mat_unf gF gT [3, 38] 60 64 0 [rv 6 21, rv 9 w1, rv 3 10, iv x3, none, none, none] [] M
set_option maxRecDepth 20000 in
theorem s_Telling_isAllTold_3 (w1 : Nat) (x3 : Int) (x4 : Int) (M : mM) : gA 64 3 [rv 6 21, rv 9 w1, rv 3 10, iv x3, iv x4, none, none] [] M =
if 8 ≤ x4 then
some (iv 1, M)
else
bI (gC 128 [iv x3, iv x4] M) fun c1 M1 =>
if c1 = 0 then
gA 64 38 [rv 6 21, rv 9 w1, rv 3 10, iv x3, iv x4, iv 0, none] [] M1
else
bI (gC 118 [rv 9 w1, iv x4] M1) fun c2 M2 =>
bI (gC 65 [rv 6 21, rv 3 10, iv c2] M2) fun c3 M3 =>
if ¬ c3 = 0 then
gA 64 38 [rv 6 21, rv 9 w1, rv 3 10, iv x3, iv x4, iv 0, none] [] M3
else
some (iv 0, M3) :=
  mat_unf gF gT [3, 38] 60 64 3 [rv 6 21, rv 9 w1, rv 3 10, iv x3, iv x4, none, none] [] M
set_option maxRecDepth 20000 in
theorem s_Telling_isAllTold_38 (w1 : Nat) (x3 : Int) (x4 : Int) (x5 : Int) (M : mM) : gA 64 38 [rv 6 21, rv 9 w1, rv 3 10, iv x3, iv x4, iv x5, none] [] M =
if 8 ≤ x5 then
gA 64 3 [rv 6 21, rv 9 w1, rv 3 10, iv x3, iv (w32 (x4 + 1)), none, none] [] M
else
bI (gC 128 [iv x3, iv x4] M) fun c1 M1 =>
if c1 = 0 then
gA 64 38 [rv 6 21, rv 9 w1, rv 3 10, iv x3, iv x4, iv (w32 (x5 + 1)), none] [] M1
else
bI (gC 128 [iv x3, iv x5] M1) fun c2 M2 =>
if c2 = 0 then
gA 64 38 [rv 6 21, rv 9 w1, rv 3 10, iv x3, iv x4, iv (w32 (x5 + 1)), none] [] M2
else
if x4 = x5 then
gA 64 38 [rv 6 21, rv 9 w1, rv 3 10, iv x3, iv x4, iv (w32 (x5 + 1)), none] [] M2
else
bI (gC 118 [rv 9 w1, iv x4] M2) fun c3 M3 =>
bI (gC 118 [rv 9 w1, iv x5] M3) fun c4 M4 =>
bI (gC 66 [rv 6 21, rv 3 10, iv c3, iv c4] M4) fun c5 M5 =>
if ¬ c5 = 0 then
gA 64 38 [rv 6 21, rv 9 w1, rv 3 10, iv x3, iv x4, iv (w32 (x5 + 1)), none] [] M5
else
some (iv 0, M5) :=
  mat_unf gF gT [3, 38] 60 64 38 [rv 6 21, rv 9 w1, rv 3 10, iv x3, iv x4, iv x5, none] [] M
set_option maxRecDepth 20000 in
theorem e_Telling_isSeen (x2 : Int) (M : mM) : gC 65 [rv 6 21, rv 3 10, iv x2] M =
gA 65 2 [rv 6 21, rv 3 10, iv x2, iv 0] [] M :=
  mat_unf gF gT [2] 60 65 0 [rv 6 21, rv 3 10, iv x2, none] [] M
set_option maxRecDepth 20000 in
theorem s_Telling_isSeen_2 (x2 : Int) (x3 : Int) (M : mM) : gA 65 2 [rv 6 21, rv 3 10, iv x2, iv x3] [] M =
if 4 ≤ x3 then
some (iv 0, M)
else
if 0 ≤ x3 ∧ x3 < 4 then
bI (gC 33 [rv 3 10, iv (M 22 (x3).toNat), iv x2] M) fun c1 M1 =>
if c1 = 0 then
gA 65 2 [rv 6 21, rv 3 10, iv x2, iv (w32 (x3 + 1))] [] M1
else
some (iv 1, M1)
else none :=
  mat_unf gF gT [2] 60 65 2 [rv 6 21, rv 3 10, iv x2, iv x3] [] M
set_option maxRecDepth 20000 in
theorem e_Telling_isParted (x2 : Int) (x3 : Int) (M : mM) : gC 66 [rv 6 21, rv 3 10, iv x2, iv x3] M =
gA 66 3 [rv 6 21, rv 3 10, iv x2, iv x3, iv 0] [] M :=
  mat_unf gF gT [3] 60 66 0 [rv 6 21, rv 3 10, iv x2, iv x3, none] [] M
set_option maxRecDepth 20000 in
theorem s_Telling_isParted_3 (x2 : Int) (x3 : Int) (x4 : Int) (M : mM) : gA 66 3 [rv 6 21, rv 3 10, iv x2, iv x3, iv x4] [] M =
if 4 ≤ x4 then
some (iv 0, M)
else
if 0 ≤ x4 ∧ x4 < 4 then
bI (gC 36 [rv 3 10, iv (M 22 (x4).toNat), iv x2, iv x3] M) fun c1 M1 =>
if c1 = 0 then
gA 66 3 [rv 6 21, rv 3 10, iv x2, iv x3, iv (w32 (x4 + 1))] [] M1
else
some (iv 1, M1)
else none :=
  mat_unf gF gT [3] 60 66 3 [rv 6 21, rv 3 10, iv x2, iv x3, iv x4] [] M
set_option maxRecDepth 20000 in
theorem e_Telling_cheapestAdded (w1 : Nat) (x3 : Int) (M : mM) : gC 67 [rv 6 21, rv 9 w1, rv 3 10, iv x3] M =
gA 67 34 [rv 6 21, rv 9 w1, rv 3 10, iv x3, iv (and32 (and32 (w32 ((shl32 1 (M w1 2)) - 1)) (xor32 (M w1 5) (-1))) (xor32 (M w1 6) (-1))), iv (-2), iv 0, iv 0, none, none] [] M :=
  mat_unf gF gT [34] 60 67 0 [rv 6 21, rv 9 w1, rv 3 10, iv x3, none, none, none, none, none, none] [] M
set_option maxRecDepth 20000 in
theorem s_Telling_cheapestAdded_34 (w1 : Nat) (x3 : Int) (x4 : Int) (x5 : Int) (x6 : Int) (x7 : Int) (M : mM) : gA 67 34 [rv 6 21, rv 9 w1, rv 3 10, iv x3, iv x4, iv x5, iv x6, iv x7, none, none] [] M =
if 64 ≤ x7 then
some (iv x5, M)
else
bI (gC 120 [rv 9 w1, iv x7] M) fun c1 M1 =>
if x5 = (-2) then
if ¬ (and32 x7 (xor32 x4 (-1))) = 0 then
gA 67 34 [rv 6 21, rv 9 w1, rv 3 10, iv x3, iv x4, iv x5, iv x6, iv (w32 (x7 + 1)), none, none] [] M1
else
bI (gC 68 [rv 6 21, rv 9 w1, rv 3 10, iv x7, iv x3] M1) fun c2 M2 =>
if c2 = 0 then
gA 67 34 [rv 6 21, rv 9 w1, rv 3 10, iv x3, iv x4, iv x5, iv x6, iv (w32 (x7 + 1)), none, none] [] M2
else
gA 67 34 [rv 6 21, rv 9 w1, rv 3 10, iv x3, iv x4, iv x7, iv c1, iv (w32 (x7 + 1)), none, none] [] M2
else
if x6 ≤ c1 then
if ¬ (and32 x7 (xor32 x4 (-1))) = 0 then
gA 67 34 [rv 6 21, rv 9 w1, rv 3 10, iv x3, iv x4, iv x5, iv x6, iv (w32 (x7 + 1)), none, none] [] M1
else
gA 67 34 [rv 6 21, rv 9 w1, rv 3 10, iv x3, iv x4, iv x5, iv x6, iv (w32 (x7 + 1)), none, none] [] M1
else
if ¬ (and32 x7 (xor32 x4 (-1))) = 0 then
gA 67 34 [rv 6 21, rv 9 w1, rv 3 10, iv x3, iv x4, iv x5, iv x6, iv (w32 (x7 + 1)), none, none] [] M1
else
bI (gC 68 [rv 6 21, rv 9 w1, rv 3 10, iv x7, iv x3] M1) fun c3 M3 =>
if c3 = 0 then
gA 67 34 [rv 6 21, rv 9 w1, rv 3 10, iv x3, iv x4, iv x5, iv x6, iv (w32 (x7 + 1)), none, none] [] M3
else
gA 67 34 [rv 6 21, rv 9 w1, rv 3 10, iv x3, iv x4, iv x7, iv c1, iv (w32 (x7 + 1)), none, none] [] M3 :=
  mat_unf gF gT [34] 60 67 34 [rv 6 21, rv 9 w1, rv 3 10, iv x3, iv x4, iv x5, iv x6, iv x7, none, none] [] M
set_option maxRecDepth 20000 in
theorem e_Telling_isToldWith (w1 : Nat) (x3 : Int) (x4 : Int) (M : mM) : gC 68 [rv 6 21, rv 9 w1, rv 3 10, iv x3, iv x4] M =
bI (gC 119 [rv 9 w1, iv 16383] M) fun c1 M1 =>
bV (gC 63 [rv 6 21, rv 9 w1, iv (shl32 1 (M w1 4)), iv (or32 (M w1 5) x3), iv (M1 w1 6)] M1) fun M2 =>
bI (gC 64 [rv 6 21, rv 9 w1, rv 3 10, iv c1] M2) fun c3 M3 =>
gA 68 51 [rv 6 21, rv 9 w1, rv 3 10, none, iv x4, iv (shl32 1 (M w1 4)), iv (or32 (M w1 5) x3), iv c1, iv c3, iv 0] [] M3 :=
  mat_unf gF gT [51] 60 68 0 [rv 6 21, rv 9 w1, rv 3 10, iv x3, iv x4, none, none, none, none, none] [] M
set_option maxRecDepth 20000 in
theorem s_Telling_isToldWith_51 (w1 : Nat) (x4 : Int) (x5 : Int) (x6 : Int) (x7 : Int) (x8 : Int) (x9 : Int) (M : mM) : gA 68 51 [rv 6 21, rv 9 w1, rv 3 10, none, iv x4, iv x5, iv x6, iv x7, iv x8, iv x9] [] M =
if 6 ≤ x9 then
if 0 ≤ x8 ∧ x8 < 2 then some (iv x8, M) else none
else
if x8 = 0 then
if 0 ≤ x8 ∧ x8 < 2 then some (iv x8, M) else none
else
if x4 = 0 then
if 0 ≤ x8 ∧ x8 < 2 then some (iv x8, M) else none
else
bI (gC 128 [iv (and32 x6 (xor32 (M w1 6) (-1))), iv x9] M) fun c1 M1 =>
if c1 = 0 then
gA 68 51 [rv 6 21, rv 9 w1, rv 3 10, none, iv x4, iv x5, iv x6, iv x7, iv x8, iv (w32 (x9 + 1))] [] M1
else
bV (gC 63 [rv 6 21, rv 9 w1, iv x5, iv x6, iv (or32 (M1 w1 6) (shl32 1 x9))] M1) fun M2 =>
bI (gC 119 [rv 9 w1, iv (shl32 1 (w32 (8 + x9)))] M2) fun c3 M3 =>
bI (gC 64 [rv 6 21, rv 9 w1, rv 3 10, iv (and32 x7 (xor32 c3 (-1)))] M3) fun c4 M4 =>
gA 68 51 [rv 6 21, rv 9 w1, rv 3 10, none, iv x4, iv x5, iv x6, iv x7, iv c4, iv (w32 (x9 + 1))] [] M4 :=
  mat_unf gF gT [51] 60 68 51 [rv 6 21, rv 9 w1, rv 3 10, none, iv x4, iv x5, iv x6, iv x7, iv x8, iv x9] [] M
set_option maxRecDepth 20000 in
theorem e_Telling_dearestTaken (w1 : Nat) (M : mM) : gC 69 [rv 6 21, rv 9 w1, rv 3 10] M =
gA 69 18 [none, rv 9 w1, rv 3 10, iv (and32 (M w1 5) (xor32 (M w1 6) (-1))), iv 0, iv 1, none] [] M :=
  mat_unf gF gT [18] 60 69 0 [rv 6 21, rv 9 w1, rv 3 10, none, none, none, none] [] M
set_option maxRecDepth 20000 in
theorem s_Telling_dearestTaken_18 (w1 : Nat) (x3 : Int) (x4 : Int) (x5 : Int) (M : mM) : gA 69 18 [none, rv 9 w1, rv 3 10, iv x3, iv x4, iv x5, none] [] M =
if 64 ≤ x5 then
some (iv x4, M)
else
bI (gC 120 [rv 9 w1, iv x5] M) fun c1 M1 =>
bI (gC 120 [rv 9 w1, iv x4] M1) fun c2 M2 =>
if c1 ≤ c2 then
if ¬ (and32 x5 (xor32 x3 (-1))) = 0 then
gA 69 18 [none, rv 9 w1, rv 3 10, iv x3, iv x4, iv (w32 (x5 + 1)), none] [] M2
else
gA 69 18 [none, rv 9 w1, rv 3 10, iv x3, iv x4, iv (w32 (x5 + 1)), none] [] M2
else
if ¬ (and32 x5 (xor32 x3 (-1))) = 0 then
gA 69 18 [none, rv 9 w1, rv 3 10, iv x3, iv x4, iv (w32 (x5 + 1)), none] [] M2
else
bI (gC 70 [rv 9 w1, rv 3 10, iv (shl32 x5 8)] M2) fun c3 M3 =>
if c3 = 0 then
gA 69 18 [none, rv 9 w1, rv 3 10, iv x3, iv x4, iv (w32 (x5 + 1)), none] [] M3
else
gA 69 18 [none, rv 9 w1, rv 3 10, iv x3, iv x5, iv (w32 (x5 + 1)), none] [] M3 :=
  mat_unf gF gT [18] 60 69 18 [none, rv 9 w1, rv 3 10, iv x3, iv x4, iv x5, none] [] M
set_option maxRecDepth 20000 in
theorem e_Telling_isToldWithout (w0 : Nat) (x2 : Int) (M : mM) : gC 70 [rv 9 w0, rv 3 10, iv x2] M =
bI (gC 115 [rv 9 w0] M) fun c1 M1 =>
gA 70 15 [rv 9 w0, rv 3 10, none, iv c1, iv (and32 c1 (xor32 x2 (-1))), iv 0, none] [] M1 :=
  mat_unf gF gT [15] 60 70 0 [rv 9 w0, rv 3 10, iv x2, none, none, none, none] [] M
set_option maxRecDepth 20000 in
theorem s_Telling_isToldWithout_15 (w0 : Nat) (x3 : Int) (x4 : Int) (x5 : Int) (M : mM) : gA 70 15 [rv 9 w0, rv 3 10, none, iv x3, iv x4, iv x5, none] [] M =
if (M w0 3) ≤ x5 then
some (iv 1, M)
else
bI (gC 118 [rv 9 w0, iv x5] M) fun c1 M1 =>
bI (gC 128 [iv x4, iv c1] M1) fun c2 M2 =>
if c2 = 0 then
gA 70 15 [rv 9 w0, rv 3 10, none, iv x3, iv x4, iv (w32 (x5 + 1)), none] [] M2
else
bI (gC 71 [rv 9 w0, rv 3 10, iv x3, iv x4, iv c1] M2) fun c3 M3 =>
if ¬ c3 = 0 then
gA 70 15 [rv 9 w0, rv 3 10, none, iv x3, iv x4, iv (w32 (x5 + 1)), none] [] M3
else
some (iv 0, M3) :=
  mat_unf gF gT [15] 60 70 15 [rv 9 w0, rv 3 10, none, iv x3, iv x4, iv x5, none] [] M
set_option maxRecDepth 20000 in
theorem e_Telling_isKept (w0 : Nat) (x2 : Int) (x3 : Int) (x4 : Int) (M : mM) : gC 71 [rv 9 w0, rv 3 10, iv x2, iv x3, iv x4] M =
bI (gC 33 [rv 3 10, iv x2, iv x4] M) fun c1 M1 =>
if c1 = 0 then
gA 71 25 [rv 9 w0, rv 3 10, iv x2, iv x3, iv x4, iv 0, none, none] [] M1
else
bI (gC 33 [rv 3 10, iv x3, iv x4] M1) fun c2 M2 =>
if ¬ c2 = 0 then
gA 71 25 [rv 9 w0, rv 3 10, iv x2, iv x3, iv x4, iv 0, none, none] [] M2
else
some (iv 0, M2) :=
  mat_unf gF gT [25] 60 71 0 [rv 9 w0, rv 3 10, iv x2, iv x3, iv x4, none, none, none] [] M
set_option maxRecDepth 20000 in
theorem s_Telling_isKept_25 (w0 : Nat) (x2 : Int) (x3 : Int) (x4 : Int) (x5 : Int) (M : mM) : gA 71 25 [rv 9 w0, rv 3 10, iv x2, iv x3, iv x4, iv x5, none, none] [] M =
if (M w0 3) ≤ x5 then
some (iv 1, M)
else
bI (gC 118 [rv 9 w0, iv x5] M) fun c1 M1 =>
bI (gC 128 [iv (and32 x2 (xor32 x3 (-1))), iv c1] M1) fun c2 M2 =>
if ¬ c2 = 0 then
gA 71 25 [rv 9 w0, rv 3 10, iv x2, iv x3, iv x4, iv (w32 (x5 + 1)), none, none] [] M2
else
bI (gC 36 [rv 3 10, iv x2, iv x4, iv c1] M2) fun c3 M3 =>
if c3 = 0 then
gA 71 25 [rv 9 w0, rv 3 10, iv x2, iv x3, iv x4, iv (w32 (x5 + 1)), none, none] [] M3
else
bI (gC 36 [rv 3 10, iv x3, iv x4, iv c1] M3) fun c4 M4 =>
if ¬ c4 = 0 then
gA 71 25 [rv 9 w0, rv 3 10, iv x2, iv x3, iv x4, iv (w32 (x5 + 1)), none, none] [] M4
else
some (iv 0, M4) :=
  mat_unf gF gT [25] 60 71 25 [rv 9 w0, rv 3 10, iv x2, iv x3, iv x4, iv x5, none, none] [] M
set_option maxRecDepth 20000 in
theorem e_Telling_fewestPositions (w1 : Nat) (M : mM) : gC 72 [rv 6 21, rv 9 w1, rv 3 10] M =
gA 72 6 [rv 6 21, rv 9 w1, rv 3 10, iv (-2), iv 1, none] [] M :=
  mat_unf gF gT [6] 60 72 0 [rv 6 21, rv 9 w1, rv 3 10, none, none, none] [] M
set_option maxRecDepth 20000 in
theorem s_Telling_fewestPositions_6 (w1 : Nat) (x3 : Int) (x4 : Int) (M : mM) : gA 72 6 [rv 6 21, rv 9 w1, rv 3 10, iv x3, iv x4, none] [] M =
if 15 < x4 then
some (iv x3, M)
else
if x3 = (-2) then
bI (gC 62 [rv 6 21, rv 9 w1, rv 3 10, iv x4] M) fun c1 M1 =>
if c1 = 0 then
gA 72 6 [rv 6 21, rv 9 w1, rv 3 10, iv x3, iv (w32 (x4 + 1)), none] [] M1
else
gA 72 6 [rv 6 21, rv 9 w1, rv 3 10, iv x4, iv (w32 (x4 + 1)), none] [] M1
else
bI (gC 0 [iv x4] M) fun c2 M2 =>
bI (gC 0 [iv x3] M2) fun c3 M3 =>
if c3 ≤ c2 then
gA 72 6 [rv 6 21, rv 9 w1, rv 3 10, iv x3, iv (w32 (x4 + 1)), none] [] M3
else
bI (gC 62 [rv 6 21, rv 9 w1, rv 3 10, iv x4] M3) fun c4 M4 =>
if c4 = 0 then
gA 72 6 [rv 6 21, rv 9 w1, rv 3 10, iv x3, iv (w32 (x4 + 1)), none] [] M4
else
gA 72 6 [rv 6 21, rv 9 w1, rv 3 10, iv x4, iv (w32 (x4 + 1)), none] [] M4 :=
  mat_unf gF gT [6] 60 72 6 [rv 6 21, rv 9 w1, rv 3 10, iv x3, iv x4, none] [] M
set_option maxRecDepth 20000 in
theorem e_Works_clear (w0 : Nat) (M : mM) : gC 103 [rv 9 w0] M =
bV (gC 1 [rv 492 (w0 + 1), iv 0] (st (st (st (st (st (st (st M w0 0 0) w0 1 0) w0 2 0) w0 3 0) w0 4 0) w0 5 0) w0 6 0)) fun M1 =>
bV (gC 1 [rv 132 (w0 + 2), iv 0] M1) fun M2 =>
bV (gC 1 [rv 132 (w0 + 3), iv 0] M2) fun M3 =>
bV (gC 1 [rv 124 (w0 + 4), iv 0] M3) fun M4 =>
bV (gC 1 [rv 124 (w0 + 5), iv 1] M4) fun M5 =>
bV (gC 1 [rv 124 (w0 + 6), iv 0] M5) fun M6 =>
bV (gC 1 [rv 132 (w0 + 7), iv 0] M6) fun M7 =>
bV (gC 1 [rv 156 (w0 + 8), iv 0] M7) fun M8 =>
some (none, M8) :=
  mat_unf gF gT [] 60 103 0 [rv 9 w0] [] M
set_option maxRecDepth 20000 in
theorem e_Works_hold (w0 : Nat) (x1 : Int) (x2 : Int) (M : mM) : gC 104 [rv 9 w0, iv x1, iv x2] M =
if x1 < 0 then
some (none, M)
else
if 8 ≤ x1 then
some (none, M)
else
if 0 ≤ x1 ∧ x1 < 8 then
if 0 ≤ x1 ∧ x1 < 8 then
some (none, st M (w0 + 3) (x1).toNat (or32 (M (w0 + 3) (x1).toNat) x2))
else none
else none :=
  mat_unf gF gT [] 60 104 0 [rv 9 w0, iv x1, iv x2] [] M
set_option maxRecDepth 20000 in
theorem e_Works_hasOf (w0 : Nat) (x1 : Int) (M : mM) : gC 105 [rv 9 w0, iv x1] M =
if x1 < 0 then
some (iv 0, M)
else
if 14 ≤ x1 then
some (iv 0, M)
else
if 0 ≤ x1 ∧ x1 < 14 then
some (iv (M (w0 + 8) (x1).toNat), M)
else none :=
  mat_unf gF gT [] 60 105 0 [rv 9 w0, iv x1] [] M
set_option maxRecDepth 20000 in
theorem e_Works_addNumber (w0 : Nat) (x1 : Int) (x2 : Int) (x3 : Int) (M : mM) : gC 106 [rv 9 w0, iv x1, iv x2, iv x3] M =
if x1 < 0 then
some (none, M)
else
if 14 ≤ x1 then
some (none, M)
else
if x2 < 0 then
some (none, M)
else
if 7 ≤ x2 then
some (none, M)
else
if 0 ≤ (w32 ((w32 (x1 * 7)) + x2)) ∧ (w32 ((w32 (x1 * 7)) + x2)) < 98 then
if 0 ≤ x1 ∧ x1 < 14 then
if 0 ≤ x1 ∧ x1 < 14 then
some (none, st (st M (w0 + 1) (w32 ((w32 (x1 * 7)) + x2)).toNat x3) (w0 + 8) (x1).toNat (or32 ((st M (w0 + 1) (w32 ((w32 (x1 * 7)) + x2)).toNat x3) (w0 + 8) (x1).toNat) (shl32 1 x2)))
else none
else none
else none :=
  mat_unf gF gT [] 60 106 0 [rv 9 w0, iv x1, iv x2, iv x3] [] M
set_option maxRecDepth 20000 in
theorem e_Works_addConstant (w0 : Nat) (x1 : Int) (x2 : Int) (M : mM) : gC 107 [rv 9 w0, iv x1, iv x2] M =
if x1 < 0 then
some (none, M)
else
if 8 ≤ x1 then
some (none, M)
else
if 0 ≤ x1 ∧ x1 < 8 then
if 0 ≤ x1 ∧ x1 < 8 then
some (none, st M (w0 + 2) (x1).toNat (w32 ((M (w0 + 2) (x1).toNat) + x2)))
else none
else none :=
  mat_unf gF gT [] 60 107 0 [rv 9 w0, iv x1, iv x2] [] M
set_option maxRecDepth 20000 in
theorem e_Works_putNoise (w0 : Nat) (x1 : Int) (x2 : Int) (M : mM) : gC 108 [rv 9 w0, iv x1, iv x2] M =
if x1 < 0 then
some (none, M)
else
if 6 ≤ x1 then
some (none, M)
else
if 0 ≤ x1 ∧ x1 < 6 then
some (none, st M (w0 + 4) (x1).toNat x2)
else none :=
  mat_unf gF gT [] 60 108 0 [rv 9 w0, iv x1, iv x2] [] M
set_option maxRecDepth 20000 in
theorem e_Works_putCost (w0 : Nat) (x1 : Int) (x2 : Int) (M : mM) : gC 109 [rv 9 w0, iv x1, iv x2] M =
if x1 < 0 then
some (none, M)
else
if 6 ≤ x1 then
some (none, M)
else
if 0 ≤ x1 ∧ x1 < 6 then
some (none, st M (w0 + 5) (x1).toNat x2)
else none :=
  mat_unf gF gT [] 60 109 0 [rv 9 w0, iv x1, iv x2] [] M
set_option maxRecDepth 20000 in
theorem e_Works_putRowOfFault (w0 : Nat) (x1 : Int) (x2 : Int) (M : mM) : gC 110 [rv 9 w0, iv x1, iv x2] M =
if x1 < 0 then
some (none, M)
else
if 8 ≤ x1 then
some (none, M)
else
if 0 ≤ x1 ∧ x1 < 8 then
some (none, st M (w0 + 7) (x1).toNat x2)
else none :=
  mat_unf gF gT [] 60 110 0 [rv 9 w0, iv x1, iv x2] [] M
set_option maxRecDepth 20000 in
theorem e_Works_isGauge (w0 : Nat) (x1 : Int) (M : mM) : gC 111 [rv 9 w0, iv x1] M =
if x1 < 0 then
some (iv 0, M)
else
if (M w0 2) ≤ x1 then
some (iv 0, M)
else
if 6 ≤ x1 then
some (iv 0, M)
else
some (iv 1, M) :=
  mat_unf gF gT [] 60 111 0 [rv 9 w0, iv x1] [] M
set_option maxRecDepth 20000 in
theorem e_Works_isEq (w0 : Nat) (x1 : Int) (M : mM) : gC 112 [rv 9 w0, iv x1] M =
if x1 < 0 then
some (iv 0, M)
else
if (M w0 1) ≤ x1 then
some (iv 0, M)
else
if 8 ≤ x1 then
some (iv 0, M)
else
some (iv 1, M) :=
  mat_unf gF gT [] 60 112 0 [rv 9 w0, iv x1] [] M
set_option maxRecDepth 20000 in
theorem e_Works_isUnknown (w0 : Nat) (x1 : Int) (M : mM) : gC 113 [rv 9 w0, iv x1] M =
if x1 < 0 then
some (iv 0, M)
else
if (M w0 0) ≤ x1 then
some (iv 0, M)
else
if 7 ≤ x1 then
some (iv 0, M)
else
some (iv 1, M) :=
  mat_unf gF gT [] 60 113 0 [rv 9 w0, iv x1] [] M
set_option maxRecDepth 20000 in
theorem e_Works_numberIn (w0 : Nat) (x1 : Int) (x2 : Int) (M : mM) : gC 114 [rv 9 w0, iv x1, iv x2] M =
if x1 < 0 then
some (iv 0, M)
else
if 14 ≤ x1 then
some (iv 0, M)
else
if x2 < 0 then
some (iv 0, M)
else
if 7 ≤ x2 then
some (iv 0, M)
else
if 0 ≤ (w32 ((w32 (x1 * 7)) + x2)) ∧ (w32 ((w32 (x1 * 7)) + x2)) < 98 then
some (iv (M (w0 + 1) (w32 ((w32 (x1 * 7)) + x2)).toNat), M)
else none :=
  mat_unf gF gT [] 60 114 0 [rv 9 w0, iv x1, iv x2, none] [] M
set_option maxRecDepth 20000 in
theorem e_Works_netNow (w0 : Nat) (M : mM) : gC 115 [rv 9 w0] M =
bI (gC 116 [rv 9 w0, iv (M w0 4), iv (M w0 5), iv (M w0 6)] M) fun c1 M1 =>
some (iv c1, M1) :=
  mat_unf gF gT [] 60 115 0 [rv 9 w0] [] M
set_option maxRecDepth 20000 in
theorem e_Works_netAt (w0 : Nat) (x1 : Int) (x2 : Int) (x3 : Int) (M : mM) : gC 116 [rv 9 w0, iv x1, iv x2, iv x3] M =
gA 116 13 [rv 9 w0, iv x1, none, none, iv (shl32 (and32 x2 (xor32 x3 (-1))) 8), iv 0] [] M :=
  mat_unf gF gT [13] 60 116 0 [rv 9 w0, iv x1, iv x2, iv x3, none, none] [] M
set_option maxRecDepth 20000 in
theorem s_Works_netAt_13 (w0 : Nat) (x1 : Int) (x4 : Int) (x5 : Int) (M : mM) : gA 116 13 [rv 9 w0, iv x1, none, none, iv x4, iv x5] [] M =
if (M w0 1) ≤ x5 then
some (iv (and32 x4 16383), M)
else
if 8 ≤ x5 then
some (iv (and32 x4 16383), M)
else
if 0 ≤ x5 ∧ x5 < 8 then
bI (gC 128 [iv (M (w0 + 3) (x5).toNat), iv x1] M) fun c1 M1 =>
if c1 = 0 then
gA 116 13 [rv 9 w0, iv x1, none, none, iv x4, iv (w32 (x5 + 1))] [] M1
else
gA 116 13 [rv 9 w0, iv x1, none, none, iv (or32 x4 (shl32 1 x5)), iv (w32 (x5 + 1))] [] M1
else none :=
  mat_unf gF gT [13] 60 116 13 [rv 9 w0, iv x1, none, none, iv x4, iv x5] [] M
set_option maxRecDepth 20000 in
theorem e_Works_isFault (w0 : Nat) (x1 : Int) (M : mM) : gC 117 [rv 9 w0, iv x1] M =
if x1 < 0 then
some (iv 0, M)
else
if (M w0 3) ≤ x1 then
some (iv 0, M)
else
if 8 ≤ x1 then
some (iv 0, M)
else
some (iv 1, M) :=
  mat_unf gF gT [] 60 117 0 [rv 9 w0, iv x1] [] M
set_option maxRecDepth 20000 in
theorem e_Works_rowOf (w0 : Nat) (x1 : Int) (M : mM) : gC 118 [rv 9 w0, iv x1] M =
bI (gC 117 [rv 9 w0, iv x1] M) fun c1 M1 =>
if c1 = 0 then
some (iv (-1), M1)
else
if 0 ≤ x1 ∧ x1 < 8 then
some (iv (M1 (w0 + 7) (x1).toNat), M1)
else none :=
  mat_unf gF gT [] 60 118 0 [rv 9 w0, iv x1] [] M
set_option maxRecDepth 20000 in
theorem e_Works_faultsOf (w0 : Nat) (x1 : Int) (M : mM) : gC 119 [rv 9 w0, iv x1] M =
gA 119 4 [rv 9 w0, iv x1, iv 0, iv 0] [] M :=
  mat_unf gF gT [4] 60 119 0 [rv 9 w0, iv x1, none, none] [] M
set_option maxRecDepth 20000 in
theorem s_Works_faultsOf_4 (w0 : Nat) (x1 : Int) (x2 : Int) (x3 : Int) (M : mM) : gA 119 4 [rv 9 w0, iv x1, iv x2, iv x3] [] M =
if (M w0 3) ≤ x3 then
some (iv x2, M)
else
if 8 ≤ x3 then
some (iv x2, M)
else
if 0 ≤ x3 ∧ x3 < 8 then
bI (gC 128 [iv x1, iv (M (w0 + 7) (x3).toNat)] M) fun c1 M1 =>
if c1 = 0 then
gA 119 4 [rv 9 w0, iv x1, iv x2, iv (w32 (x3 + 1))] [] M1
else
gA 119 4 [rv 9 w0, iv x1, iv (or32 x2 (shl32 1 x3)), iv (w32 (x3 + 1))] [] M1
else none :=
  mat_unf gF gT [4] 60 119 4 [rv 9 w0, iv x1, iv x2, iv x3] [] M
set_option maxRecDepth 20000 in
theorem e_Works_costOf (w0 : Nat) (x1 : Int) (M : mM) : gC 120 [rv 9 w0, iv x1] M =
gA 120 4 [rv 9 w0, iv x1, iv 0, iv 0] [] M :=
  mat_unf gF gT [4] 60 120 0 [rv 9 w0, iv x1, none, none] [] M
set_option maxRecDepth 20000 in
theorem s_Works_costOf_4 (w0 : Nat) (x1 : Int) (x2 : Int) (x3 : Int) (M : mM) : gA 120 4 [rv 9 w0, iv x1, iv x2, iv x3] [] M =
if 6 ≤ x3 then
some (iv x2, M)
else
bI (gC 128 [iv x1, iv x3] M) fun c1 M1 =>
if c1 = 0 then
gA 120 4 [rv 9 w0, iv x1, iv x2, iv (w32 (x3 + 1))] [] M1
else
if 0 ≤ x3 ∧ x3 < 6 then
gA 120 4 [rv 9 w0, iv x1, iv (w32 (x2 + (M1 (w0 + 5) (x3).toNat))), iv (w32 (x3 + 1))] [] M1
else none :=
  mat_unf gF gT [4] 60 120 4 [rv 9 w0, iv x1, iv x2, iv x3] [] M
set_option maxRecDepth 20000 in
theorem e_Works_constantOf (w0 : Nat) (x1 : Int) (M : mM) : gC 121 [rv 9 w0, iv x1] M =
bI (gC 112 [rv 9 w0, iv x1] M) fun c1 M1 =>
if c1 = 0 then
bI (gC 111 [rv 9 w0, iv (w32 (x1 - 8))] M1) fun c2 M2 =>
if c2 = 0 then
some (jv 0, M2)
else
if 0 ≤ (w32 (x1 - 8)) ∧ (w32 (x1 - 8)) < 6 then
some (jv (w32 (-(M2 (w0 + 6) (w32 (x1 - 8)).toNat))), M2)
else none
else
if 0 ≤ x1 ∧ x1 < 8 then
some (jv (M1 (w0 + 2) (x1).toNat), M1)
else none :=
  mat_unf gF gT [] 60 121 0 [rv 9 w0, iv x1, none] [] M
set_option maxRecDepth 20000 in
theorem e_Works_noiseOf (w0 : Nat) (x1 : Int) (M : mM) : gC 122 [rv 9 w0, iv x1] M =
bI (gC 111 [rv 9 w0, iv (w32 (x1 - 8))] M) fun c1 M1 =>
if c1 = 0 then
some (iv 0, M1)
else
if 0 ≤ (w32 (x1 - 8)) ∧ (w32 (x1 - 8)) < 6 then
some (iv (M1 (w0 + 4) (w32 (x1 - 8)).toNat), M1)
else none :=
  mat_unf gF gT [] 60 122 0 [rv 9 w0, iv x1, none] [] M
set_option maxRecDepth 20000 in
theorem e_Works_isRow (w0 : Nat) (x1 : Int) (M : mM) : gC 123 [rv 9 w0, iv x1] M =
bI (gC 112 [rv 9 w0, iv x1] M) fun c1 M1 =>
if ¬ c1 = 0 then
some (iv 1, M1)
else
if x1 < 8 then
some (iv 0, M1)
else
bI (gC 111 [rv 9 w0, iv (w32 (x1 - 8))] M1) fun c2 M2 =>
if c2 = 0 then
some (iv 0, M2)
else
some (iv 1, M2) :=
  mat_unf gF gT [] 60 123 0 [rv 9 w0, iv x1] [] M
