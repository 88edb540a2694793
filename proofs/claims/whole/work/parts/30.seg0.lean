/-! What each method does from each place on: by program, checked by unfolding. -/
set_option maxRecDepth 20000 in
theorem e_Integer_bitCount (x0 : Int) (M : mM) : gC 0 [iv x0] M =
some (iv (and32 (w32 ((w32 ((and32 (w32 ((w32 ((and32 (w32 (x0 - (and32 (ushr32 x0 1) 1431655765))) 858993459) + (and32 (ushr32 (w32 (x0 - (and32 (ushr32 x0 1) 1431655765))) 2) 858993459))) + (ushr32 (w32 ((and32 (w32 (x0 - (and32 (ushr32 x0 1) 1431655765))) 858993459) + (and32 (ushr32 (w32 (x0 - (and32 (ushr32 x0 1) 1431655765))) 2) 858993459))) 4))) 252645135) + (ushr32 (and32 (w32 ((w32 ((and32 (w32 (x0 - (and32 (ushr32 x0 1) 1431655765))) 858993459) + (and32 (ushr32 (w32 (x0 - (and32 (ushr32 x0 1) 1431655765))) 2) 858993459))) + (ushr32 (w32 ((and32 (w32 (x0 - (and32 (ushr32 x0 1) 1431655765))) 858993459) + (and32 (ushr32 (w32 (x0 - (and32 (ushr32 x0 1) 1431655765))) 2) 858993459))) 4))) 252645135) 8))) + (ushr32 (w32 ((and32 (w32 ((w32 ((and32 (w32 (x0 - (and32 (ushr32 x0 1) 1431655765))) 858993459) + (and32 (ushr32 (w32 (x0 - (and32 (ushr32 x0 1) 1431655765))) 2) 858993459))) + (ushr32 (w32 ((and32 (w32 (x0 - (and32 (ushr32 x0 1) 1431655765))) 858993459) + (and32 (ushr32 (w32 (x0 - (and32 (ushr32 x0 1) 1431655765))) 2) 858993459))) 4))) 252645135) + (ushr32 (and32 (w32 ((w32 ((and32 (w32 (x0 - (and32 (ushr32 x0 1) 1431655765))) 858993459) + (and32 (ushr32 (w32 (x0 - (and32 (ushr32 x0 1) 1431655765))) 2) 858993459))) + (ushr32 (w32 ((and32 (w32 (x0 - (and32 (ushr32 x0 1) 1431655765))) 858993459) + (and32 (ushr32 (w32 (x0 - (and32 (ushr32 x0 1) 1431655765))) 2) 858993459))) 4))) 252645135) 8))) 16))) 63), M) :=
  mat_unf gF gT [] 60 0 0 [iv x0] [] M
set_option maxRecDepth 20000 in
theorem e_Parser_parse (x2 : Int) (M : mM) : gC 38 [rv 4 2, rv 8102 1, iv x2] M =
bV (gC 87 [rv 8 6, rv 8102 1, iv x2] M) fun M1 =>
bV (gC 39 [rv 4 2] M1) fun M2 =>
gA 38 15 [rv 4 2, none, none, iv 0] [] M2 :=
  mat_unf gF gT [15] 60 38 0 [rv 4 2, rv 8102 1, iv x2, none] [] M
set_option maxRecDepth 20000 in
theorem s_Parser_parse_15 (x3 : Int) (M : mM) : gA 38 15 [rv 4 2, none, none, iv x3] [] M =
if 400 < x3 then
if ¬ (M 2 3) = 0 then
some (iv (M 2 3), M)
else
some (iv ((st (st M 2 3 (M 2 5)) 2 4 ((st M 2 3 (M 2 5)) 2 6)) 2 3), st (st M 2 3 (M 2 5)) 2 4 ((st M 2 3 (M 2 5)) 2 6))
else
if ¬ (M 2 3) = 0 then
if ¬ (M 2 3) = 0 then
some (iv (M 2 3), M)
else
some (iv ((st (st M 2 3 (M 2 5)) 2 4 ((st M 2 3 (M 2 5)) 2 6)) 2 3), st (st M 2 3 (M 2 5)) 2 4 ((st M 2 3 (M 2 5)) 2 6))
else
bI (gC 40 [rv 4 2] M) fun c1 M1 =>
if c1 = 0 then
if ¬ (M1 2 3) = 0 then
some (iv (M1 2 3), M1)
else
some (iv ((st (st M1 2 3 (M1 2 5)) 2 4 ((st M1 2 3 (M1 2 5)) 2 6)) 2 3), st (st M1 2 3 (M1 2 5)) 2 4 ((st M1 2 3 (M1 2 5)) 2 6))
else
bI (gC 40 [rv 4 2] M1) fun c2 M2 =>
if c2 = 4 then
bV (gC 41 [rv 4 2] M2) fun M3 =>
gA 38 15 [rv 4 2, none, none, iv (w32 (x3 + 1))] [] M3
else if c2 = 5 then
bV (gC 47 [rv 4 2] M2) fun M4 =>
gA 38 15 [rv 4 2, none, none, iv (w32 (x3 + 1))] [] M4
else if c2 = 6 then
bI (gC 43 [rv 4 2, iv 1] M2) fun c5 M5 =>
gA 38 15 [rv 4 2, none, none, iv (w32 (x3 + 1))] [] M5
else if c2 = 7 then
bI (gC 40 [rv 4 2] M2) fun c6 M6 =>
bV (gC 54 [rv 4 2, iv c6] M6) fun M7 =>
gA 38 15 [rv 4 2, none, none, iv (w32 (x3 + 1))] [] M7
else if c2 = 8 then
bI (gC 40 [rv 4 2] M2) fun c8 M8 =>
bV (gC 54 [rv 4 2, iv c8] M8) fun M9 =>
gA 38 15 [rv 4 2, none, none, iv (w32 (x3 + 1))] [] M9
else if c2 = 9 then
bI (gC 43 [rv 4 2, iv 1] M2) fun c10 M10 =>
gA 38 15 [rv 4 2, none, none, iv (w32 (x3 + 1))] [] M10
else if c2 = 10 then
bI (gC 43 [rv 4 2, iv 1] M2) fun c11 M11 =>
gA 38 15 [rv 4 2, none, none, iv (w32 (x3 + 1))] [] M11
else if c2 = 11 then
bI (gC 43 [rv 4 2, iv 1] M2) fun c12 M12 =>
gA 38 15 [rv 4 2, none, none, iv (w32 (x3 + 1))] [] M12
else if c2 = 12 then
bV (gC 57 [rv 4 2] M2) fun M13 =>
gA 38 15 [rv 4 2, none, none, iv (w32 (x3 + 1))] [] M13
else 
bI (gC 43 [rv 4 2, iv 1] M2) fun c14 M14 =>
gA 38 15 [rv 4 2, none, none, iv (w32 (x3 + 1))] [] M14 :=
  mat_unf gF gT [15] 60 38 15 [rv 4 2, none, none, iv x3] [] M
set_option maxRecDepth 20000 in
theorem e_Parser_begin  (M : mM) : gC 39 [rv 4 2] M =
bV (gC 103 [rv 9 ((M 2 1).toNat)] M) fun M1 =>
some (none, st (st (st (st (st (st M1 2 2 0) 2 3 0) 2 4 (-1)) 2 5 0) 2 6 (-1)) 2 10 0) :=
  mat_unf gF gT [] 60 39 0 [rv 4 2] [] M
set_option maxRecDepth 20000 in
theorem e_Parser_kind  (M : mM) : gC 40 [rv 4 2] M =
bI (gC 100 [rv 8 6, iv (M 2 2)] M) fun c1 M1 =>
some (iv c1, M1) :=
  mat_unf gF gT [] 60 40 0 [rv 4 2] [] M
set_option maxRecDepth 20000 in
theorem e_Parser_parseUnknown  (M : mM) : gC 41 [rv 4 2] M =
bI (gC 42 [rv 4 2, iv 4, iv (M (M 2 1).toNat 0), iv 7] M) fun c1 M1 =>
if c1 = 0 then
some (none, M1)
else
bI (gC 44 [rv 4 2, iv 13] (st M1 (M1 2 1).toNat 0 (w32 ((M1 (M1 2 1).toNat 0) + 1)))) fun c2 M2 =>
some (none, M2) :=
  mat_unf gF gT [] 60 41 0 [rv 4 2] [] M
set_option maxRecDepth 20000 in
theorem e_Parser_acceptHead (x1 : Int) (x2 : Int) (x3 : Int) (M : mM) : gC 42 [rv 4 2, iv x1, iv x2, iv x3] M =
if x2 < x3 then
bI (gC 44 [rv 4 2, iv x1] M) fun c1 M1 =>
if c1 = 0 then
some (iv 0, M1)
else
bI (gC 44 [rv 4 2, iv 2] M1) fun c2 M2 =>
if ¬ c2 = 0 then
bJ (gC 102 [rv 8 6, iv (w32 ((M2 2 2) - 1))] M2) fun c3 M3 =>
bI (gC 45 [rv 4 2, jv c3] M3) fun c4 M4 =>
if c4 = (-1) then
if 29 ≤ (M4 2 10) then
some (iv 1, M4)
else
if 0 ≤ (M4 2 10) ∧ (M4 2 10) < 29 then
if ¬ x1 = 8 then
if 0 ≤ ((st M4 3 (M4 2 10).toNat c3) 2 10) ∧ ((st M4 3 (M4 2 10).toNat c3) 2 10) < 29 then
if 0 ≤ ((st (st M4 3 (M4 2 10).toNat c3) 4 ((st M4 3 (M4 2 10).toNat c3) 2 10).toNat x1) 2 10) ∧ ((st (st M4 3 (M4 2 10).toNat c3) 4 ((st M4 3 (M4 2 10).toNat c3) 2 10).toNat x1) 2 10) < 29 then
some (iv 1, st (st (st (st M4 3 (M4 2 10).toNat c3) 4 ((st M4 3 (M4 2 10).toNat c3) 2 10).toNat x1) 5 ((st (st M4 3 (M4 2 10).toNat c3) 4 ((st M4 3 (M4 2 10).toNat c3) 2 10).toNat x1) 2 10).toNat x2) 2 10 (w32 (((st (st (st M4 3 (M4 2 10).toNat c3) 4 ((st M4 3 (M4 2 10).toNat c3) 2 10).toNat x1) 5 ((st (st M4 3 (M4 2 10).toNat c3) 4 ((st M4 3 (M4 2 10).toNat c3) 2 10).toNat x1) 2 10).toNat x2) 2 10) + 1)))
else none
else none
else
if 0 ≤ ((st M4 3 (M4 2 10).toNat c3) 2 10) ∧ ((st M4 3 (M4 2 10).toNat c3) 2 10) < 29 then
if 0 ≤ ((st (st M4 3 (M4 2 10).toNat c3) 4 ((st M4 3 (M4 2 10).toNat c3) 2 10).toNat 7) 2 10) ∧ ((st (st M4 3 (M4 2 10).toNat c3) 4 ((st M4 3 (M4 2 10).toNat c3) 2 10).toNat 7) 2 10) < 29 then
some (iv 1, st (st (st (st M4 3 (M4 2 10).toNat c3) 4 ((st M4 3 (M4 2 10).toNat c3) 2 10).toNat 7) 5 ((st (st M4 3 (M4 2 10).toNat c3) 4 ((st M4 3 (M4 2 10).toNat c3) 2 10).toNat 7) 2 10).toNat x2) 2 10 (w32 (((st (st (st M4 3 (M4 2 10).toNat c3) 4 ((st M4 3 (M4 2 10).toNat c3) 2 10).toNat 7) 5 ((st (st M4 3 (M4 2 10).toNat c3) 4 ((st M4 3 (M4 2 10).toNat c3) 2 10).toNat 7) 2 10).toNat x2) 2 10) + 1)))
else none
else none
else none
else
bV (gC 46 [rv 4 2, iv 3, iv (w32 ((M4 2 2) - 1))] M4) fun M5 =>
if 29 ≤ (M5 2 10) then
some (iv 1, M5)
else
if 0 ≤ (M5 2 10) ∧ (M5 2 10) < 29 then
if ¬ x1 = 8 then
if 0 ≤ ((st M5 3 (M5 2 10).toNat c3) 2 10) ∧ ((st M5 3 (M5 2 10).toNat c3) 2 10) < 29 then
if 0 ≤ ((st (st M5 3 (M5 2 10).toNat c3) 4 ((st M5 3 (M5 2 10).toNat c3) 2 10).toNat x1) 2 10) ∧ ((st (st M5 3 (M5 2 10).toNat c3) 4 ((st M5 3 (M5 2 10).toNat c3) 2 10).toNat x1) 2 10) < 29 then
some (iv 1, st (st (st (st M5 3 (M5 2 10).toNat c3) 4 ((st M5 3 (M5 2 10).toNat c3) 2 10).toNat x1) 5 ((st (st M5 3 (M5 2 10).toNat c3) 4 ((st M5 3 (M5 2 10).toNat c3) 2 10).toNat x1) 2 10).toNat x2) 2 10 (w32 (((st (st (st M5 3 (M5 2 10).toNat c3) 4 ((st M5 3 (M5 2 10).toNat c3) 2 10).toNat x1) 5 ((st (st M5 3 (M5 2 10).toNat c3) 4 ((st M5 3 (M5 2 10).toNat c3) 2 10).toNat x1) 2 10).toNat x2) 2 10) + 1)))
else none
else none
else
if 0 ≤ ((st M5 3 (M5 2 10).toNat c3) 2 10) ∧ ((st M5 3 (M5 2 10).toNat c3) 2 10) < 29 then
if 0 ≤ ((st (st M5 3 (M5 2 10).toNat c3) 4 ((st M5 3 (M5 2 10).toNat c3) 2 10).toNat 7) 2 10) ∧ ((st (st M5 3 (M5 2 10).toNat c3) 4 ((st M5 3 (M5 2 10).toNat c3) 2 10).toNat 7) 2 10) < 29 then
some (iv 1, st (st (st (st M5 3 (M5 2 10).toNat c3) 4 ((st M5 3 (M5 2 10).toNat c3) 2 10).toNat 7) 5 ((st (st M5 3 (M5 2 10).toNat c3) 4 ((st M5 3 (M5 2 10).toNat c3) 2 10).toNat 7) 2 10).toNat x2) 2 10 (w32 (((st (st (st M5 3 (M5 2 10).toNat c3) 4 ((st M5 3 (M5 2 10).toNat c3) 2 10).toNat 7) 5 ((st (st M5 3 (M5 2 10).toNat c3) 4 ((st M5 3 (M5 2 10).toNat c3) 2 10).toNat 7) 2 10).toNat x2) 2 10) + 1)))
else none
else none
else none
else
some (iv 0, M2)
else
bI (gC 43 [rv 4 2, iv 2] M) fun c6 M6 =>
if 0 ≤ c6 ∧ c6 < 2 then some (iv c6, M6) else none :=
  mat_unf gF gT [] 60 42 0 [rv 4 2, iv x1, iv x2, iv x3, none, none] [] M
set_option maxRecDepth 20000 in
theorem e_Parser_stop (x1 : Int) (M : mM) : gC 43 [rv 4 2, iv x1] M =
if ¬ (M 2 3) = 0 then
some (iv 0, M)
else
bI (gC 101 [rv 8 6, iv ((st M 2 3 x1) 2 2)] (st M 2 3 x1)) fun c1 M1 =>
some (iv 0, st M1 2 4 c1) :=
  mat_unf gF gT [] 60 43 0 [rv 4 2, iv x1] [] M
set_option maxRecDepth 20000 in
theorem e_Parser_accept (x1 : Int) (M : mM) : gC 44 [rv 4 2, iv x1] M =
if (M 2 3) = 0 then
bI (gC 40 [rv 4 2] M) fun c1 M1 =>
if c1 = x1 then
if (M1 2 2) < 400 then
some (iv 1, st M1 2 2 (w32 ((M1 2 2) + 1)))
else
bI (gC 43 [rv 4 2, iv 2] M1) fun c2 M2 =>
if 0 ≤ c2 ∧ c2 < 2 then some (iv c2, M2) else none
else
bI (gC 43 [rv 4 2, iv 1] M1) fun c3 M3 =>
if 0 ≤ c3 ∧ c3 < 2 then some (iv c3, M3) else none
else
some (iv 0, M) :=
  mat_unf gF gT [] 60 44 0 [rv 4 2, iv x1] [] M
set_option maxRecDepth 20000 in
theorem e_Parser_find (x1 : Int) (M : mM) : gC 45 [rv 4 2, jv x1] M =
gA 45 2 [rv 4 2, jv x1, none, iv 0] [] M :=
  mat_unf gF gT [2] 60 45 0 [rv 4 2, jv x1, none, none] [] M
set_option maxRecDepth 20000 in
theorem s_Parser_find_2 (x1 : Int) (x3 : Int) (M : mM) : gA 45 2 [rv 4 2, jv x1, none, iv x3] [] M =
if (M 2 10) ≤ x3 then
some (iv (-1), M)
else
if 29 ≤ x3 then
some (iv (-1), M)
else
if 0 ≤ x3 ∧ x3 < 29 then
if ¬ (lcmp (M 3 (x3).toNat) x1) = 0 then
gA 45 2 [rv 4 2, jv x1, none, iv (w32 (x3 + 1))] [] M
else
some (iv x3, M)
else none :=
  mat_unf gF gT [2] 60 45 2 [rv 4 2, jv x1, none, iv x3] [] M
set_option maxRecDepth 20000 in
theorem e_Parser_keep (x1 : Int) (x2 : Int) (M : mM) : gC 46 [rv 4 2, iv x1, iv x2] M =
if ¬ (M 2 5) = 0 then
some (none, M)
else
bI (gC 101 [rv 8 6, iv x2] (st M 2 5 x1)) fun c1 M1 =>
some (none, st M1 2 6 c1) :=
  mat_unf gF gT [] 60 46 0 [rv 4 2, iv x1, iv x2] [] M
set_option maxRecDepth 20000 in
theorem e_Parser_parseEq  (M : mM) : gC 47 [rv 4 2] M =
bI (gC 42 [rv 4 2, iv 5, iv (M (M 2 1).toNat 1), iv 8] M) fun c1 M1 =>
if ¬ c1 = 0 then
bI (gC 48 [rv 4 2, iv (M (M 2 1).toNat 1)] (st M1 (M1 2 1).toNat 1 (w32 ((M1 (M1 2 1).toNat 1) + 1)))) fun c2 M2 =>
if c2 = 0 then
gA 47 66 [rv 4 2, iv (M (M 2 1).toNat 1), iv 0, iv 0] [] M2
else
bI (gC 44 [rv 4 2, iv 14] M2) fun c3 M3 =>
if c3 = 0 then
gA 47 66 [rv 4 2, iv (M (M 2 1).toNat 1), iv 0, iv 0] [] M3
else
bI (gC 51 [rv 4 2, iv (M (M 2 1).toNat 1)] M3) fun c4 M4 =>
if c4 = 0 then
gA 47 66 [rv 4 2, iv (M (M 2 1).toNat 1), iv 0, iv 0] [] M4
else
gA 47 66 [rv 4 2, iv (M (M 2 1).toNat 1), iv 1, iv 0] [] M4
else
some (none, M1) :=
  mat_unf gF gT [66] 60 47 0 [rv 4 2, none, none, none] [] M
set_option maxRecDepth 20000 in
theorem s_Parser_parseEq_66 (x1 : Int) (x2 : Int) (x3 : Int) (M : mM) : gA 47 66 [rv 4 2, iv x1, iv x2, iv x3] [] M =
if 400 ≤ x3 then
if x2 = 0 then
some (none, M)
else
bI (gC 44 [rv 4 2, iv 13] M) fun c1 M1 =>
some (none, M1)
else
if x2 = 0 then
if x2 = 0 then
some (none, M)
else
bI (gC 44 [rv 4 2, iv 13] M) fun c2 M2 =>
some (none, M2)
else
bI (gC 40 [rv 4 2] M) fun c3 M3 =>
if c3 = 16 then
bI (gC 51 [rv 4 2, iv x1] M3) fun c4 M4 =>
gA 47 66 [rv 4 2, iv x1, iv c4, iv (w32 (x3 + 1))] [] M4
else
bI (gC 40 [rv 4 2] M3) fun c5 M5 =>
if ¬ c5 = 17 then
if x2 = 0 then
some (none, M5)
else
bI (gC 44 [rv 4 2, iv 13] M5) fun c6 M6 =>
some (none, M6)
else
bI (gC 51 [rv 4 2, iv x1] M5) fun c7 M7 =>
gA 47 66 [rv 4 2, iv x1, iv c7, iv (w32 (x3 + 1))] [] M7 :=
  mat_unf gF gT [66] 60 47 66 [rv 4 2, iv x1, iv x2, iv x3] [] M
set_option maxRecDepth 20000 in
theorem e_Parser_parsePositions (x1 : Int) (M : mM) : gC 48 [rv 4 2, iv x1] M =
bI (gC 40 [rv 4 2] M) fun c1 M1 =>
if c1 = 6 then
bI (gC 44 [rv 4 2, iv 6] M1) fun c2 M2 =>
if c2 = 0 then
gA 48 46 [rv 4 2, iv x1, iv 0, iv 0] [] M2
else
bI (gC 49 [rv 4 2, iv x1] M2) fun c3 M3 =>
if c3 = 0 then
gA 48 46 [rv 4 2, iv x1, iv 0, iv 0] [] M3
else
gA 48 46 [rv 4 2, iv x1, iv 1, iv 0] [] M3
else
bV (gC 104 [rv 9 ((M1 2 1).toNat), iv x1, iv 15] M1) fun M4 =>
some (iv 1, M4) :=
  mat_unf gF gT [46] 60 48 0 [rv 4 2, iv x1, none, none] [] M
set_option maxRecDepth 20000 in
theorem s_Parser_parsePositions_46 (x1 : Int) (x2 : Int) (x3 : Int) (M : mM) : gA 48 46 [rv 4 2, iv x1, iv x2, iv x3] [] M =
if 400 ≤ x3 then
if 0 ≤ x2 ∧ x2 < 2 then some (iv x2, M) else none
else
if x2 = 0 then
if 0 ≤ x2 ∧ x2 < 2 then some (iv x2, M) else none
else
bI (gC 40 [rv 4 2] M) fun c1 M1 =>
if ¬ c1 = 15 then
if 0 ≤ x2 ∧ x2 < 2 then some (iv x2, M1) else none
else
bI (gC 44 [rv 4 2, iv 15] M1) fun c2 M2 =>
if c2 = 0 then
gA 48 46 [rv 4 2, iv x1, iv 0, iv (w32 (x3 + 1))] [] M2
else
bI (gC 49 [rv 4 2, iv x1] M2) fun c3 M3 =>
if c3 = 0 then
gA 48 46 [rv 4 2, iv x1, iv 0, iv (w32 (x3 + 1))] [] M3
else
gA 48 46 [rv 4 2, iv x1, iv 1, iv (w32 (x3 + 1))] [] M3 :=
  mat_unf gF gT [46] 60 48 46 [rv 4 2, iv x1, iv x2, iv x3] [] M
set_option maxRecDepth 20000 in
theorem e_Parser_parsePosition (x1 : Int) (M : mM) : gC 49 [rv 4 2, iv x1] M =
bI (gC 44 [rv 4 2, iv 3] M) fun c1 M1 =>
if ¬ c1 = 0 then
bI (gC 50 [rv 4 2, iv 0, iv 3] M1) fun c2 M2 =>
bV (gC 104 [rv 9 ((M1 2 1).toNat), iv x1, iv (shl32 1 c2)] M2) fun M3 =>
some (iv 1, M3)
else
some (iv 0, M1) :=
  mat_unf gF gT [] 60 49 0 [rv 4 2, iv x1] [] M
set_option maxRecDepth 20000 in
theorem e_Parser_intWithin (x1 : Int) (x2 : Int) (M : mM) : gC 50 [rv 4 2, iv x1, iv x2] M =
bJ (gC 102 [rv 8 6, iv (w32 ((M 2 2) - 1))] M) fun c1 M1 =>
if (lcmp c1 x1) < 0 then
bV (gC 46 [rv 4 2, iv 5, iv (w32 ((M1 2 2) - 1))] M1) fun M2 =>
some (iv x1, M2)
else
if (lcmp c1 x2) ≤ 0 then
some (iv (w32 c1), M1)
else
bV (gC 46 [rv 4 2, iv 5, iv (w32 ((M1 2 2) - 1))] M1) fun M3 =>
some (iv x1, M3) :=
  mat_unf gF gT [] 60 50 0 [rv 4 2, iv x1, iv x2, none, none] [] M
set_option maxRecDepth 20000 in
theorem e_Parser_parseTerm (x1 : Int) (M : mM) : gC 51 [rv 4 2, iv x1] M =
bI (gC 40 [rv 4 2] M) fun c1 M1 =>
if ¬ c1 = 17 then
bI (gC 40 [rv 4 2] M1) fun c2 M2 =>
if ¬ c2 = 17 then
bI (gC 44 [rv 4 2, iv 16] M2) fun c3 M3 =>
if ¬ c3 = 0 then
bI (gC 40 [rv 4 2] M3) fun c4 M4 =>
if ¬ c4 = 2 then
bI (gC 44 [rv 4 2, iv 3] M4) fun c5 M5 =>
if ¬ c5 = 0 then
bI (gC 40 [rv 4 2] M5) fun c6 M6 =>
if ¬ c6 = 2 then
bI (gC 50 [rv 4 2, iv 0, iv 999] M6) fun c7 M7 =>
bV (gC 107 [rv 9 ((M6 2 1).toNat), iv x1, iv (w32 (1 * c7))] M7) fun M8 =>
some (iv 1, M8)
else
bI (gC 50 [rv 4 2, iv 1, iv 9] M6) fun c9 M9 =>
bI (gC 52 [rv 4 2, iv x1, iv (w32 (1 * c9))] M9) fun c10 M10 =>
if 0 ≤ c10 ∧ c10 < 2 then some (iv c10, M10) else none
else
some (iv 0, M5)
else
bI (gC 52 [rv 4 2, iv x1, iv 1] M4) fun c11 M11 =>
if 0 ≤ c11 ∧ c11 < 2 then some (iv c11, M11) else none
else
some (iv 0, M3)
else
bI (gC 44 [rv 4 2, iv 17] M2) fun c12 M12 =>
if ¬ c12 = 0 then
bI (gC 40 [rv 4 2] M12) fun c13 M13 =>
if ¬ c13 = 2 then
bI (gC 44 [rv 4 2, iv 3] M13) fun c14 M14 =>
if ¬ c14 = 0 then
bI (gC 40 [rv 4 2] M14) fun c15 M15 =>
if ¬ c15 = 2 then
bI (gC 50 [rv 4 2, iv 0, iv 999] M15) fun c16 M16 =>
bV (gC 107 [rv 9 ((M15 2 1).toNat), iv x1, iv (w32 (1 * c16))] M16) fun M17 =>
some (iv 1, M17)
else
bI (gC 50 [rv 4 2, iv 1, iv 9] M15) fun c18 M18 =>
bI (gC 52 [rv 4 2, iv x1, iv (w32 (1 * c18))] M18) fun c19 M19 =>
if 0 ≤ c19 ∧ c19 < 2 then some (iv c19, M19) else none
else
some (iv 0, M14)
else
bI (gC 52 [rv 4 2, iv x1, iv 1] M13) fun c20 M20 =>
if 0 ≤ c20 ∧ c20 < 2 then some (iv c20, M20) else none
else
some (iv 0, M12)
else
bI (gC 40 [rv 4 2] M1) fun c21 M21 =>
if ¬ c21 = 17 then
bI (gC 44 [rv 4 2, iv 16] M21) fun c22 M22 =>
if ¬ c22 = 0 then
bI (gC 40 [rv 4 2] M22) fun c23 M23 =>
if ¬ c23 = 2 then
bI (gC 44 [rv 4 2, iv 3] M23) fun c24 M24 =>
if ¬ c24 = 0 then
bI (gC 40 [rv 4 2] M24) fun c25 M25 =>
if ¬ c25 = 2 then
bI (gC 50 [rv 4 2, iv 0, iv 999] M25) fun c26 M26 =>
bV (gC 107 [rv 9 ((M25 2 1).toNat), iv x1, iv (w32 ((-1) * c26))] M26) fun M27 =>
some (iv 1, M27)
else
bI (gC 50 [rv 4 2, iv 1, iv 9] M25) fun c28 M28 =>
bI (gC 52 [rv 4 2, iv x1, iv (w32 ((-1) * c28))] M28) fun c29 M29 =>
if 0 ≤ c29 ∧ c29 < 2 then some (iv c29, M29) else none
else
some (iv 0, M24)
else
bI (gC 52 [rv 4 2, iv x1, iv (-1)] M23) fun c30 M30 =>
if 0 ≤ c30 ∧ c30 < 2 then some (iv c30, M30) else none
else
some (iv 0, M22)
else
bI (gC 44 [rv 4 2, iv 17] M21) fun c31 M31 =>
if ¬ c31 = 0 then
bI (gC 40 [rv 4 2] M31) fun c32 M32 =>
if ¬ c32 = 2 then
bI (gC 44 [rv 4 2, iv 3] M32) fun c33 M33 =>
if ¬ c33 = 0 then
bI (gC 40 [rv 4 2] M33) fun c34 M34 =>
if ¬ c34 = 2 then
bI (gC 50 [rv 4 2, iv 0, iv 999] M34) fun c35 M35 =>
bV (gC 107 [rv 9 ((M34 2 1).toNat), iv x1, iv (w32 ((-1) * c35))] M35) fun M36 =>
some (iv 1, M36)
else
bI (gC 50 [rv 4 2, iv 1, iv 9] M34) fun c37 M37 =>
bI (gC 52 [rv 4 2, iv x1, iv (w32 ((-1) * c37))] M37) fun c38 M38 =>
if 0 ≤ c38 ∧ c38 < 2 then some (iv c38, M38) else none
else
some (iv 0, M33)
else
bI (gC 52 [rv 4 2, iv x1, iv (-1)] M32) fun c39 M39 =>
if 0 ≤ c39 ∧ c39 < 2 then some (iv c39, M39) else none
else
some (iv 0, M31) :=
  mat_unf gF gT [] 60 51 0 [rv 4 2, iv x1, none] [] M
set_option maxRecDepth 20000 in
theorem e_Parser_parseNamed (x1 : Int) (x2 : Int) (M : mM) : gC 52 [rv 4 2, iv x1, iv x2] M =
bI (gC 44 [rv 4 2, iv 2] M) fun c1 M1 =>
if ¬ c1 = 0 then
bI (gC 53 [rv 4 2, iv 4] M1) fun c2 M2 =>
if ¬ c2 = (-1) then
bI (gC 105 [rv 9 ((M2 2 1).toNat), iv x1] M2) fun c3 M3 =>
bI (gC 128 [iv c3, iv c2] M3) fun c4 M4 =>
if c4 = 0 then
bV (gC 106 [rv 9 ((M4 2 1).toNat), iv x1, iv c2, iv x2] M4) fun M5 =>
some (iv 1, M5)
else
bV (gC 46 [rv 4 2, iv 3, iv (w32 ((M4 2 2) - 1))] M4) fun M6 =>
some (iv 1, M6)
else
bV (gC 46 [rv 4 2, iv 4, iv (w32 ((M2 2 2) - 1))] M2) fun M7 =>
some (iv 1, M7)
else
some (iv 0, M1) :=
  mat_unf gF gT [] 60 52 0 [rv 4 2, iv x1, iv x2, none] [] M
set_option maxRecDepth 20000 in
theorem e_Parser_numberNamed (x1 : Int) (M : mM) : gC 53 [rv 4 2, iv x1] M =
bJ (gC 102 [rv 8 6, iv (w32 ((M 2 2) - 1))] M) fun c1 M1 =>
bI (gC 45 [rv 4 2, jv c1] M1) fun c2 M2 =>
if c2 < 0 then
some (iv (-1), M2)
else
if 29 ≤ c2 then
some (iv (-1), M2)
else
if 0 ≤ c2 ∧ c2 < 29 then
if ¬ (M2 4 (c2).toNat) = x1 then
some (iv (-1), M2)
else
if 0 ≤ c2 ∧ c2 < 29 then
some (iv (M2 5 (c2).toNat), M2)
else none
else none :=
  mat_unf gF gT [] 60 53 0 [rv 4 2, iv x1, none] [] M
set_option maxRecDepth 20000 in
theorem e_Parser_parseGauge (x1 : Int) (M : mM) : gC 54 [rv 4 2, iv x1] M =
bI (gC 42 [rv 4 2, iv x1, iv (M (M 2 1).toNat 2), iv 6] M) fun c1 M1 =>
if ¬ c1 = 0 then
if ¬ x1 = 7 then
bI (gC 129 [iv ((st M1 (M1 2 1).toNat 2 (w32 ((M1 (M1 2 1).toNat 2) + 1))) ((st M1 (M1 2 1).toNat 2 (w32 ((M1 (M1 2 1).toNat 2) + 1))) 2 1).toNat 5), iv (M (M 2 1).toNat 2), iv 0] (st M1 (M1 2 1).toNat 2 (w32 ((M1 (M1 2 1).toNat 2) + 1)))) fun c2 M2 =>
bI (gC 44 [rv 4 2, iv 9] (st M2 ((st M1 (M1 2 1).toNat 2 (w32 ((M1 (M1 2 1).toNat 2) + 1))) 2 1).toNat 5 c2)) fun c3 M3 =>
if c3 = 0 then
some (none, M3)
else
bI (gC 44 [rv 4 2, iv 2] M3) fun c4 M4 =>
if ¬ c4 = 0 then
bI (gC 53 [rv 4 2, iv 4] M4) fun c5 M5 =>
if ¬ c5 = (-1) then
bV (gC 106 [rv 9 ((M5 2 1).toNat), iv (w32 (8 + (M (M 2 1).toNat 2))), iv c5, iv 1] M5) fun M6 =>
bI (gC 55 [rv 4 2, iv (M (M 2 1).toNat 2)] M6) fun c7 M7 =>
if c7 = 0 then
some (none, M7)
else
bI (gC 56 [rv 4 2, iv (M (M 2 1).toNat 2)] M7) fun c8 M8 =>
if c8 = 0 then
some (none, M8)
else
bI (gC 44 [rv 4 2, iv 13] M8) fun c9 M9 =>
some (none, M9)
else
bV (gC 46 [rv 4 2, iv 4, iv (w32 ((M5 2 2) - 1))] M5) fun M10 =>
bI (gC 55 [rv 4 2, iv (M (M 2 1).toNat 2)] M10) fun c11 M11 =>
if c11 = 0 then
some (none, M11)
else
bI (gC 56 [rv 4 2, iv (M (M 2 1).toNat 2)] M11) fun c12 M12 =>
if c12 = 0 then
some (none, M12)
else
bI (gC 44 [rv 4 2, iv 13] M12) fun c13 M13 =>
some (none, M13)
else
some (none, M4)
else
bI (gC 129 [iv ((st M1 (M1 2 1).toNat 2 (w32 ((M1 (M1 2 1).toNat 2) + 1))) ((st M1 (M1 2 1).toNat 2 (w32 ((M1 (M1 2 1).toNat 2) + 1))) 2 1).toNat 5), iv (M (M 2 1).toNat 2), iv 1] (st M1 (M1 2 1).toNat 2 (w32 ((M1 (M1 2 1).toNat 2) + 1)))) fun c14 M14 =>
bI (gC 44 [rv 4 2, iv 9] (st M14 ((st M1 (M1 2 1).toNat 2 (w32 ((M1 (M1 2 1).toNat 2) + 1))) 2 1).toNat 5 c14)) fun c15 M15 =>
if c15 = 0 then
some (none, M15)
else
bI (gC 44 [rv 4 2, iv 2] M15) fun c16 M16 =>
if ¬ c16 = 0 then
bI (gC 53 [rv 4 2, iv 4] M16) fun c17 M17 =>
if ¬ c17 = (-1) then
bV (gC 106 [rv 9 ((M17 2 1).toNat), iv (w32 (8 + (M (M 2 1).toNat 2))), iv c17, iv 1] M17) fun M18 =>
bI (gC 55 [rv 4 2, iv (M (M 2 1).toNat 2)] M18) fun c19 M19 =>
if c19 = 0 then
some (none, M19)
else
bI (gC 56 [rv 4 2, iv (M (M 2 1).toNat 2)] M19) fun c20 M20 =>
if c20 = 0 then
some (none, M20)
else
bI (gC 44 [rv 4 2, iv 13] M20) fun c21 M21 =>
some (none, M21)
else
bV (gC 46 [rv 4 2, iv 4, iv (w32 ((M17 2 2) - 1))] M17) fun M22 =>
bI (gC 55 [rv 4 2, iv (M (M 2 1).toNat 2)] M22) fun c23 M23 =>
if c23 = 0 then
some (none, M23)
else
bI (gC 56 [rv 4 2, iv (M (M 2 1).toNat 2)] M23) fun c24 M24 =>
if c24 = 0 then
some (none, M24)
else
bI (gC 44 [rv 4 2, iv 13] M24) fun c25 M25 =>
some (none, M25)
else
some (none, M16)
else
some (none, M1) :=
  mat_unf gF gT [] 60 54 0 [rv 4 2, iv x1, none, none] [] M
set_option maxRecDepth 20000 in
theorem e_Parser_parseNoise (x1 : Int) (M : mM) : gC 55 [rv 4 2, iv x1] M =
bI (gC 40 [rv 4 2] M) fun c1 M1 =>
if c1 = 10 then
bI (gC 44 [rv 4 2, iv 10] M1) fun c2 M2 =>
if c2 = 0 then
some (iv 0, M2)
else
bI (gC 44 [rv 4 2, iv 3] M2) fun c3 M3 =>
if ¬ c3 = 0 then
bI (gC 50 [rv 4 2, iv 0, iv 3] M3) fun c4 M4 =>
bV (gC 108 [rv 9 ((M3 2 1).toNat), iv x1, iv c4] M4) fun M5 =>
some (iv 1, M5)
else
some (iv 0, M3)
else
some (iv 1, M1) :=
  mat_unf gF gT [] 60 55 0 [rv 4 2, iv x1] [] M
set_option maxRecDepth 20000 in
theorem e_Parser_parseCost (x1 : Int) (M : mM) : gC 56 [rv 4 2, iv x1] M =
bI (gC 40 [rv 4 2] M) fun c1 M1 =>
if c1 = 11 then
bI (gC 44 [rv 4 2, iv 11] M1) fun c2 M2 =>
if c2 = 0 then
some (iv 0, M2)
else
bI (gC 44 [rv 4 2, iv 3] M2) fun c3 M3 =>
if ¬ c3 = 0 then
bI (gC 50 [rv 4 2, iv 1, iv 100] M3) fun c4 M4 =>
bV (gC 109 [rv 9 ((M3 2 1).toNat), iv x1, iv c4] M4) fun M5 =>
some (iv 1, M5)
else
some (iv 0, M3)
else
some (iv 1, M1) :=
  mat_unf gF gT [] 60 56 0 [rv 4 2, iv x1] [] M
set_option maxRecDepth 20000 in
theorem e_Parser_parseFault  (M : mM) : gC 57 [rv 4 2] M =
bI (gC 42 [rv 4 2, iv 12, iv (M (M 2 1).toNat 3), iv 8] M) fun c1 M1 =>
if ¬ c1 = 0 then
bI (gC 44 [rv 4 2, iv 6] (st M1 (M1 2 1).toNat 3 (w32 ((M1 (M1 2 1).toNat 3) + 1)))) fun c2 M2 =>
if c2 = 0 then
some (none, M2)
else
bI (gC 44 [rv 4 2, iv 2] M2) fun c3 M3 =>
if ¬ c3 = 0 then
bI (gC 53 [rv 4 2, iv 5] M3) fun c4 M4 =>
bI (gC 53 [rv 4 2, iv 7] M4) fun c5 M5 =>
if c4 = (-1) then
if c5 = (-1) then
bV (gC 46 [rv 4 2, iv 4, iv (w32 ((M5 2 2) - 1))] M5) fun M6 =>
bI (gC 44 [rv 4 2, iv 13] M6) fun c7 M7 =>
some (none, M7)
else
bV (gC 110 [rv 9 ((M5 2 1).toNat), iv (M (M 2 1).toNat 3), iv (w32 (8 + c5))] M5) fun M8 =>
bI (gC 44 [rv 4 2, iv 13] M8) fun c9 M9 =>
some (none, M9)
else
bV (gC 110 [rv 9 ((M5 2 1).toNat), iv (M (M 2 1).toNat 3), iv c4] M5) fun M10 =>
bI (gC 44 [rv 4 2, iv 13] M10) fun c11 M11 =>
some (none, M11)
else
some (none, M3)
else
some (none, M1) :=
  mat_unf gF gT [] 60 57 0 [rv 4 2, none, none, none] [] M
set_option maxRecDepth 20000 in
theorem e_Parser_exchange (w1 : Nat) (M : mM) : gC 58 [rv 4 2, rv 9 w1] M =
some (rv 9 ((M 2 1).toNat), st M 2 1 ((w1 : Nat) : Int)) :=
  mat_unf gF gT [] 60 58 0 [rv 4 2, rv 9 w1, none] [] M
set_option maxRecDepth 20000 in
theorem e_Tokens_part (x2 : Int) (M : mM) : gC 87 [rv 8 6, rv 8102 1, iv x2] M =
bI (gC 88 [rv 8102 1, iv x2, iv 0] (st M 6 3 0)) fun c1 M1 =>
gA 87 15 [rv 8 6, rv 8102 1, iv x2, iv c1, iv 0] [] M1 :=
  mat_unf gF gT [15] 60 87 0 [rv 8 6, rv 8102 1, iv x2, none, none] [] M
set_option maxRecDepth 20000 in
theorem s_Tokens_part_15 (x2 : Int) (x3 : Int) (x4 : Int) (M : mM) : gA 87 15 [rv 8 6, rv 8102 1, iv x2, iv x3, iv x4] [] M =
if 400 < x4 then
bV (gC 96 [rv 8 6, iv 0, iv x2, jv 0] M) fun M1 =>
some (none, M1)
else
if x2 ≤ x3 then
bV (gC 96 [rv 8 6, iv 0, iv x2, jv 0] M) fun M2 =>
some (none, M2)
else
bI (gC 91 [rv 8 6, rv 8102 1, iv x2, iv x3] M) fun c3 M3 =>
bI (gC 88 [rv 8102 1, iv x2, iv c3] M3) fun c4 M4 =>
gA 87 15 [rv 8 6, rv 8102 1, iv x2, iv c4, iv (w32 (x4 + 1))] [] M4 :=
  mat_unf gF gT [15] 60 87 15 [rv 8 6, rv 8102 1, iv x2, iv x3, iv x4] [] M
set_option maxRecDepth 20000 in
theorem e_Tokens_behindBlanks (x1 : Int) (x2 : Int) (M : mM) : gC 88 [rv 8102 1, iv x1, iv x2] M =
gA 88 2 [rv 8102 1, iv x1, none, iv x2] [] M :=
  mat_unf gF gT [2] 60 88 0 [rv 8102 1, iv x1, iv x2, none] [] M
set_option maxRecDepth 20000 in
theorem s_Tokens_behindBlanks_2 (x1 : Int) (x3 : Int) (M : mM) : gA 88 2 [rv 8102 1, iv x1, none, iv x3] [] M =
if x1 ≤ x3 then
some (iv x1, M)
else
bI (gC 89 [rv 8102 1, iv x1, iv x3] M) fun c1 M1 =>
bI (gC 90 [iv c1] M1) fun c2 M2 =>
if ¬ c2 = 0 then
gA 88 2 [rv 8102 1, iv x1, none, iv (w32 (x3 + 1))] [] M2
else
some (iv x3, M2) :=
  mat_unf gF gT [2] 60 88 2 [rv 8102 1, iv x1, none, iv x3] [] M
set_option maxRecDepth 20000 in
theorem e_Tokens_signAt (x1 : Int) (x2 : Int) (M : mM) : gC 89 [rv 8102 1, iv x1, iv x2] M =
if x2 < 0 then
some (iv 0, M)
else
if x1 ≤ x2 then
some (iv 0, M)
else
if 2000 ≤ x2 then
some (iv 0, M)
else
if 0 ≤ x2 ∧ x2 < 2000 then
some (iv (and32 (M 1 (x2).toNat) 255), M)
else none :=
  mat_unf gF gT [] 60 89 0 [rv 8102 1, iv x1, iv x2] [] M
set_option maxRecDepth 20000 in
theorem e_Tokens_isBlank (x0 : Int) (M : mM) : gC 90 [iv x0] M =
if x0 = 9 then
some (iv 1, M)
else
if x0 = 10 then
some (iv 1, M)
else
if x0 = 13 then
some (iv 1, M)
else
if ¬ x0 = 32 then
some (iv 0, M)
else
some (iv 1, M) :=
  mat_unf gF gT [] 60 90 0 [iv x0] [] M
set_option maxRecDepth 20000 in
theorem e_Tokens_take (x2 : Int) (x3 : Int) (M : mM) : gC 91 [rv 8 6, rv 8102 1, iv x2, iv x3] M =
bI (gC 89 [rv 8102 1, iv x2, iv x3] M) fun c1 M1 =>
bI (gC 92 [iv c1] M1) fun c2 M2 =>
if c2 = 0 then
bI (gC 97 [iv c1] M2) fun c3 M3 =>
if c3 = 0 then
bI (gC 99 [iv c1] M3) fun c4 M4 =>
bV (gC 96 [rv 8 6, iv c4, iv x3, jv 0] M4) fun M5 =>
some (iv (w32 (x3 + 1)), M5)
else
bI (gC 98 [rv 8 6, rv 8102 1, iv x2, iv x3] M3) fun c6 M6 =>
some (iv c6, M6)
else
bI (gC 93 [rv 8 6, rv 8102 1, iv x2, iv x3] M2) fun c7 M7 =>
some (iv c7, M7) :=
  mat_unf gF gT [] 60 91 0 [rv 8 6, rv 8102 1, iv x2, iv x3, none] [] M
set_option maxRecDepth 20000 in
theorem e_Tokens_isLetter (x0 : Int) (M : mM) : gC 92 [iv x0] M =
if x0 < 97 then
some (iv 0, M)
else
if 122 < x0 then
some (iv 0, M)
else
some (iv 1, M) :=
  mat_unf gF gT [] 60 92 0 [iv x0] [] M
set_option maxRecDepth 20000 in
theorem e_Tokens_takeLetters (x2 : Int) (x3 : Int) (M : mM) : gC 93 [rv 8 6, rv 8102 1, iv x2, iv x3] M =
gA 93 6 [rv 8 6, rv 8102 1, iv x2, iv x3, jv 0, none, iv x3] [] M :=
  mat_unf gF gT [6] 60 93 0 [rv 8 6, rv 8102 1, iv x2, iv x3, none, none, none] [] M
set_option maxRecDepth 20000 in
theorem s_Tokens_takeLetters_6 (x2 : Int) (x3 : Int) (x4 : Int) (x6 : Int) (M : mM) : gA 93 6 [rv 8 6, rv 8102 1, iv x2, iv x3, jv x4, none, iv x6] [] M =
if x2 ≤ x6 then
if (w32 (x6 - x3)) ≤ 8 then
bI (gC 95 [jv x4] M) fun c1 M1 =>
bV (gC 96 [rv 8 6, iv c1, iv x3, jv x4] M1) fun M2 =>
some (iv x6, M2)
else
bV (gC 96 [rv 8 6, iv 1, iv x3, jv x4] M) fun M3 =>
some (iv x6, M3)
else
bI (gC 89 [rv 8102 1, iv x2, iv x6] M) fun c4 M4 =>
bI (gC 92 [iv c4] M4) fun c5 M5 =>
if c5 = 0 then
if (w32 (x6 - x3)) ≤ 8 then
bI (gC 95 [jv x4] M5) fun c6 M6 =>
bV (gC 96 [rv 8 6, iv c6, iv x3, jv x4] M6) fun M7 =>
some (iv x6, M7)
else
bV (gC 96 [rv 8 6, iv 1, iv x3, jv x4] M5) fun M8 =>
some (iv x6, M8)
else
if 8 ≤ (w32 (x6 - x3)) then
gA 93 6 [rv 8 6, rv 8102 1, iv x2, iv x3, jv x4, none, iv (w32 (x6 + 1))] [] M5
else
bI (gC 89 [rv 8102 1, iv x2, iv x6] M5) fun c9 M9 =>
bJ (gC 94 [jv x4, iv c9] M9) fun c10 M10 =>
gA 93 6 [rv 8 6, rv 8102 1, iv x2, iv x3, jv c10, none, iv (w32 (x6 + 1))] [] M10 :=
  mat_unf gF gT [6] 60 93 6 [rv 8 6, rv 8102 1, iv x2, iv x3, jv x4, none, iv x6] [] M
set_option maxRecDepth 20000 in
theorem e_Tokens_withLetter (x0 : Int) (x2 : Int) (M : mM) : gC 94 [jv x0, iv x2] M =
some (jv (w64 ((w64 (x0 * 32)) + (w32 ((w32 (x2 - 97)) + 1)))), M) :=
  mat_unf gF gT [] 60 94 0 [jv x0, none, iv x2] [] M
set_option maxRecDepth 20000 in
theorem e_Tokens_kindOfLetters (x0 : Int) (M : mM) : gC 95 [jv x0] M =
if ¬ (lcmp x0 23030349550) = 0 then
if ¬ (lcmp x0 177) = 0 then
if ¬ (lcmp x0 302) = 0 then
if ¬ (lcmp x0 7394533) = 0 then
if ¬ (lcmp x0 13689925) = 0 then
if ¬ (lcmp x0 486) = 0 then
if ¬ (lcmp x0 15181413) = 0 then
if ¬ (lcmp x0 114292) = 0 then
if ¬ (lcmp x0 6346132) = 0 then
some (iv 2, M)
else
some (iv 12, M)
else
some (iv 11, M)
else
some (iv 10, M)
else
some (iv 9, M)
else
some (iv 8, M)
else
some (iv 7, M)
else
some (iv 6, M)
else
some (iv 5, M)
else
some (iv 4, M) :=
  mat_unf gF gT [] 60 95 0 [jv x0, none] [] M
set_option maxRecDepth 20000 in
theorem e_Tokens_put (x1 : Int) (x2 : Int) (x3 : Int) (M : mM) : gC 96 [rv 8 6, iv x1, iv x2, jv x3] M =
if (M 6 3) < 0 then
some (none, M)
else
if 402 ≤ (M 6 3) then
some (none, M)
else
if 0 ≤ (M 6 3) ∧ (M 6 3) < 402 then
if 0 ≤ ((st M 7 (M 6 3).toNat x1) 6 3) ∧ ((st M 7 (M 6 3).toNat x1) 6 3) < 402 then
if 0 ≤ ((st (st M 7 (M 6 3).toNat x1) 8 ((st M 7 (M 6 3).toNat x1) 6 3).toNat x2) 6 3) ∧ ((st (st M 7 (M 6 3).toNat x1) 8 ((st M 7 (M 6 3).toNat x1) 6 3).toNat x2) 6 3) < 402 then
some (none, st (st (st (st M 7 (M 6 3).toNat x1) 8 ((st M 7 (M 6 3).toNat x1) 6 3).toNat x2) 9 ((st (st M 7 (M 6 3).toNat x1) 8 ((st M 7 (M 6 3).toNat x1) 6 3).toNat x2) 6 3).toNat x3) 6 3 (w32 (((st (st (st M 7 (M 6 3).toNat x1) 8 ((st M 7 (M 6 3).toNat x1) 6 3).toNat x2) 9 ((st (st M 7 (M 6 3).toNat x1) 8 ((st M 7 (M 6 3).toNat x1) 6 3).toNat x2) 6 3).toNat x3) 6 3) + 1)))
else none
else none
else none :=
  mat_unf gF gT [] 60 96 0 [rv 8 6, iv x1, iv x2, jv x3, none] [] M
set_option maxRecDepth 20000 in
theorem e_Tokens_isDigit (x0 : Int) (M : mM) : gC 97 [iv x0] M =
if x0 < 48 then
some (iv 0, M)
else
if 57 < x0 then
some (iv 0, M)
else
some (iv 1, M) :=
  mat_unf gF gT [] 60 97 0 [iv x0] [] M
set_option maxRecDepth 20000 in
theorem e_Tokens_takeDigits (x2 : Int) (x3 : Int) (M : mM) : gC 98 [rv 8 6, rv 8102 1, iv x2, iv x3] M =
gA 98 6 [rv 8 6, rv 8102 1, iv x2, iv x3, jv 0, none, iv x3] [] M :=
  mat_unf gF gT [6] 60 98 0 [rv 8 6, rv 8102 1, iv x2, iv x3, none, none, none] [] M
set_option maxRecDepth 20000 in
theorem s_Tokens_takeDigits_6 (x2 : Int) (x3 : Int) (x4 : Int) (x6 : Int) (M : mM) : gA 98 6 [rv 8 6, rv 8102 1, iv x2, iv x3, jv x4, none, iv x6] [] M =
if x2 ≤ x6 then
if (w32 (x6 - x3)) ≤ 4 then
bV (gC 96 [rv 8 6, iv 3, iv x3, jv x4] M) fun M1 =>
some (iv x6, M1)
else
bV (gC 96 [rv 8 6, iv 1, iv x3, jv x4] M) fun M2 =>
some (iv x6, M2)
else
bI (gC 89 [rv 8102 1, iv x2, iv x6] M) fun c3 M3 =>
bI (gC 97 [iv c3] M3) fun c4 M4 =>
if c4 = 0 then
if (w32 (x6 - x3)) ≤ 4 then
bV (gC 96 [rv 8 6, iv 3, iv x3, jv x4] M4) fun M5 =>
some (iv x6, M5)
else
bV (gC 96 [rv 8 6, iv 1, iv x3, jv x4] M4) fun M6 =>
some (iv x6, M6)
else
if 4 ≤ (w32 (x6 - x3)) then
gA 98 6 [rv 8 6, rv 8102 1, iv x2, iv x3, jv x4, none, iv (w32 (x6 + 1))] [] M4
else
bI (gC 89 [rv 8102 1, iv x2, iv x6] M4) fun c7 M7 =>
gA 98 6 [rv 8 6, rv 8102 1, iv x2, iv x3, jv (w64 ((w64 ((w64 (x4 * 10)) + c7)) - 48)), none, iv (w32 (x6 + 1))] [] M7 :=
  mat_unf gF gT [6] 60 98 6 [rv 8 6, rv 8102 1, iv x2, iv x3, jv x4, none, iv x6] [] M
set_option maxRecDepth 20000 in
theorem e_Tokens_kindOfSign (x0 : Int) (M : mM) : gC 99 [iv x0] M =
if x0 = 43 then
some (iv 16, M)
else if x0 = 44 then
some (iv 15, M)
else if x0 = 45 then
some (iv 17, M)
else if x0 = 58 then
some (iv 14, M)
else if x0 = 59 then
some (iv 13, M)
else 
some (iv 1, M) :=
  mat_unf gF gT [] 60 99 0 [iv x0] [] M
set_option maxRecDepth 20000 in
theorem e_Tokens_kindAt (x1 : Int) (M : mM) : gC 100 [rv 8 6, iv x1] M =
if x1 < 0 then
some (iv 0, M)
else
if (M 6 3) ≤ x1 then
some (iv 0, M)
else
if 0 ≤ x1 ∧ x1 < 402 then
some (iv (M 7 (x1).toNat), M)
else none :=
  mat_unf gF gT [] 60 100 0 [rv 8 6, iv x1] [] M
set_option maxRecDepth 20000 in
theorem e_Tokens_placeAt (x1 : Int) (M : mM) : gC 101 [rv 8 6, iv x1] M =
if x1 < 0 then
some (iv 0, M)
else
if (M 6 3) ≤ x1 then
some (iv 0, M)
else
if 0 ≤ x1 ∧ x1 < 402 then
some (iv (M 8 (x1).toNat), M)
else none :=
  mat_unf gF gT [] 60 101 0 [rv 8 6, iv x1] [] M
set_option maxRecDepth 20000 in
theorem e_Tokens_valueAt (x1 : Int) (M : mM) : gC 102 [rv 8 6, iv x1] M =
if x1 < 0 then
some (jv 0, M)
else
if (M 6 3) ≤ x1 then
some (jv 0, M)
else
if 0 ≤ x1 ∧ x1 < 402 then
some (jv (M 9 (x1).toNat), M)
else none :=
  mat_unf gF gT [] 60 102 0 [rv 8 6, iv x1] [] M
set_option maxRecDepth 20000 in
theorem e_Arrays_fill_IIV_98 (w0 : Nat) (x1 : Int) (M : mM) : gC 1 [rv 492 w0, iv x1] M =
gA 1 5 [rv 492 w0, iv x1, iv 0, iv 98] [] M :=
  mat_unf gF gT [5] 60 1 0 [rv 492 w0, iv x1, none, none] [] M
set_option maxRecDepth 20000 in
theorem s_Arrays_fill_IIV_98_5 (w0 : Nat) (x1 : Int) (x2 : Int) (x3 : Int) (M : mM) : gA 1 5 [rv 492 w0, iv x1, iv x2, iv x3] [] M =
if x3 ≤ x2 then
some (none, M)
else
if 0 ≤ x2 ∧ x2 < 98 then
gA 1 5 [rv 492 w0, iv x1, iv (w32 (x2 + 1)), iv x3] [] (st M w0 (x2).toNat x1)
else none :=
  mat_unf gF gT [5] 60 1 5 [rv 492 w0, iv x1, iv x2, iv x3] [] M
set_option maxRecDepth 20000 in
theorem e_Arrays_fill_IIV_8 (w0 : Nat) (x1 : Int) (M : mM) : gC 1 [rv 132 w0, iv x1] M =
gA 1 5 [rv 132 w0, iv x1, iv 0, iv 8] [] M :=
  mat_unf gF gT [5] 60 1 0 [rv 132 w0, iv x1, none, none] [] M
set_option maxRecDepth 20000 in
theorem s_Arrays_fill_IIV_8_5 (w0 : Nat) (x1 : Int) (x2 : Int) (x3 : Int) (M : mM) : gA 1 5 [rv 132 w0, iv x1, iv x2, iv x3] [] M =
if x3 ≤ x2 then
some (none, M)
else
if 0 ≤ x2 ∧ x2 < 8 then
gA 1 5 [rv 132 w0, iv x1, iv (w32 (x2 + 1)), iv x3] [] (st M w0 (x2).toNat x1)
else none :=
  mat_unf gF gT [5] 60 1 5 [rv 132 w0, iv x1, iv x2, iv x3] [] M
set_option maxRecDepth 20000 in
theorem e_Arrays_fill_IIV_6 (w0 : Nat) (x1 : Int) (M : mM) : gC 1 [rv 124 w0, iv x1] M =
gA 1 5 [rv 124 w0, iv x1, iv 0, iv 6] [] M :=
  mat_unf gF gT [5] 60 1 0 [rv 124 w0, iv x1, none, none] [] M
set_option maxRecDepth 20000 in
theorem s_Arrays_fill_IIV_6_5 (w0 : Nat) (x1 : Int) (x2 : Int) (x3 : Int) (M : mM) : gA 1 5 [rv 124 w0, iv x1, iv x2, iv x3] [] M =
if x3 ≤ x2 then
some (none, M)
else
if 0 ≤ x2 ∧ x2 < 6 then
gA 1 5 [rv 124 w0, iv x1, iv (w32 (x2 + 1)), iv x3] [] (st M w0 (x2).toNat x1)
else none :=
  mat_unf gF gT [5] 60 1 5 [rv 124 w0, iv x1, iv x2, iv x3] [] M
set_option maxRecDepth 20000 in
theorem e_Arrays_fill_IIV_14 (w0 : Nat) (x1 : Int) (M : mM) : gC 1 [rv 156 w0, iv x1] M =
gA 1 5 [rv 156 w0, iv x1, iv 0, iv 14] [] M :=
  mat_unf gF gT [5] 60 1 0 [rv 156 w0, iv x1, none, none] [] M
set_option maxRecDepth 20000 in
theorem s_Arrays_fill_IIV_14_5 (w0 : Nat) (x1 : Int) (x2 : Int) (x3 : Int) (M : mM) : gA 1 5 [rv 156 w0, iv x1, iv x2, iv x3] [] M =
if x3 ≤ x2 then
some (none, M)
else
if 0 ≤ x2 ∧ x2 < 14 then
gA 1 5 [rv 156 w0, iv x1, iv (w32 (x2 + 1)), iv x3] [] (st M w0 (x2).toNat x1)
else none :=
  mat_unf gF gT [5] 60 1 5 [rv 156 w0, iv x1, iv x2, iv x3] [] M
set_option maxRecDepth 20000 in
theorem e_Arrays_fill_IIV_201 (w0 : Nat) (x1 : Int) (M : mM) : gC 1 [rv 904 w0, iv x1] M =
gA 1 5 [rv 904 w0, iv x1, iv 0, iv 201] [] M :=
  mat_unf gF gT [5] 60 1 0 [rv 904 w0, iv x1, none, none] [] M
set_option maxRecDepth 20000 in
theorem s_Arrays_fill_IIV_201_5 (w0 : Nat) (x1 : Int) (x2 : Int) (x3 : Int) (M : mM) : gA 1 5 [rv 904 w0, iv x1, iv x2, iv x3] [] M =
if x3 ≤ x2 then
some (none, M)
else
if 0 ≤ x2 ∧ x2 < 201 then
gA 1 5 [rv 904 w0, iv x1, iv (w32 (x2 + 1)), iv x3] [] (st M w0 (x2).toNat x1)
else none :=
  mat_unf gF gT [5] 60 1 5 [rv 904 w0, iv x1, iv x2, iv x3] [] M
set_option maxRecDepth 20000 in
theorem e_Arrays_fill_JJV_56 (w0 : Nat) (x1 : Int) (M : mM) : gC 2 [rv 325 w0, jv x1] M =
gA 2 6 [rv 325 w0, jv x1, none, iv 0, iv 56] [] M :=
  mat_unf gF gT [6] 60 2 0 [rv 325 w0, jv x1, none, none, none] [] M
set_option maxRecDepth 20000 in
theorem s_Arrays_fill_JJV_56_6 (w0 : Nat) (x1 : Int) (x3 : Int) (x4 : Int) (M : mM) : gA 2 6 [rv 325 w0, jv x1, none, iv x3, iv x4] [] M =
if x4 ≤ x3 then
some (none, M)
else
if 0 ≤ x3 ∧ x3 < 56 then
gA 2 6 [rv 325 w0, jv x1, none, iv (w32 (x3 + 1)), iv x4] [] (st M w0 (x3).toNat x1)
else none :=
  mat_unf gF gT [6] 60 2 6 [rv 325 w0, jv x1, none, iv x3, iv x4] [] M
set_option maxRecDepth 20000 in
theorem e_Arrays_fill_JJV_8 (w0 : Nat) (x1 : Int) (M : mM) : gC 2 [rv 133 w0, jv x1] M =
gA 2 6 [rv 133 w0, jv x1, none, iv 0, iv 8] [] M :=
  mat_unf gF gT [6] 60 2 0 [rv 133 w0, jv x1, none, none, none] [] M
set_option maxRecDepth 20000 in
theorem s_Arrays_fill_JJV_8_6 (w0 : Nat) (x1 : Int) (x3 : Int) (x4 : Int) (M : mM) : gA 2 6 [rv 133 w0, jv x1, none, iv x3, iv x4] [] M =
if x4 ≤ x3 then
some (none, M)
else
if 0 ≤ x3 ∧ x3 < 8 then
gA 2 6 [rv 133 w0, jv x1, none, iv (w32 (x3 + 1)), iv x4] [] (st M w0 (x3).toNat x1)
else none :=
  mat_unf gF gT [6] 60 2 6 [rv 133 w0, jv x1, none, iv x3, iv x4] [] M
