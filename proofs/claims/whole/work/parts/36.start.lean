/-! The start: the two worlds behind the constructors. -/
def wC : List Nat := [0, 1, 2, 6, 7, 8, 9, 50, 51, 52, 53, 54, 55, 56, 57, 58, 3, 4, 5, 40, 41, 42, 43, 44, 45, 46, 47, 48, 10, 11, 12, 13, 14, 15, 16, 17, 18, 19, 20, 21, 22, 23, 24, 25, 26, 27, 28, 29, 30, 31]
def wR : List Nat := [100, 101, 102, 103, 104, 105, 106, 107, 108, 109, 110, 111, 112, 113, 114, 115, 116, 117, 118, 119, 120, 121, 122, 123, 124, 125, 126, 127, 128, 129, 130, 131, 132, 133, 134, 135, 136, 137]
def gKD : Nat → Nat := fun o => match o with
  | 0 => 10
  | 1 => 8102
  | 2 => 4
  | 6 => 8
  | 7 => 1708
  | 8 => 1708
  | 9 => 1709
  | 50 => 9
  | 51 => 492
  | 52 => 132
  | 53 => 132
  | 54 => 124
  | 55 => 124
  | 56 => 124
  | 57 => 132
  | 58 => 156
  | 3 => 217
  | 4 => 216
  | 5 => 216
  | 40 => 9
  | 41 => 492
  | 42 => 132
  | 43 => 132
  | 44 => 124
  | 45 => 124
  | 46 => 124
  | 47 => 132
  | 48 => 156
  | 10 => 3
  | 11 => 65638
  | 12 => 615
  | 13 => 7
  | 14 => 13828
  | 15 => 13828
  | 16 => 109925
  | 17 => 1
  | 18 => 325
  | 19 => 128
  | 20 => 133
  | 21 => 6
  | 22 => 116
  | 23 => 5
  | 24 => 156
  | 25 => 2
  | 26 => 125
  | 27 => 124
  | 28 => 124
  | 29 => 0
  | 30 => 1127
  | 31 => 904
  | 100 => 11
  | 101 => 8102
  | 102 => 8102
  | 103 => 1712
  | 104 => 1712
  | 105 => 1712
  | 106 => 1713
  | 107 => 137
  | 108 => 261
  | 109 => 260
  | 110 => 260
  | 111 => 108
  | 112 => 108
  | 113 => 676
  | 114 => 164
  | 115 => 108
  | 116 => 148
  | 117 => 148
  | 118 => 148
  | 119 => 151
  | 120 => 108
  | 121 => 164
  | 122 => 124
  | 123 => 132
  | 124 => 135
  | 125 => 164
  | 126 => 164
  | 127 => 65636
  | 128 => 229477
  | 129 => 16487
  | 130 => 65639
  | 131 => 164
  | 132 => 132
  | 133 => 1125
  | 134 => 164
  | 135 => 124
  | 136 => 16487
  | 137 => 500
  | _ => 0
/-- the addresses of the cells: of the class h and q, of the reference h' and q' -/
def gAD (h : Nat) (q : Nat → Nat) (h' : Nat) (q' : Nat → Nat) : Nat → Nat := fun o => match o with
  | 0 => h
  | 1 => q 0
  | 2 => q 1
  | 6 => q 2
  | 7 => q 3
  | 8 => q 4
  | 9 => q 5
  | 50 => q 6
  | 51 => q 7
  | 52 => q 8
  | 53 => q 9
  | 54 => q 10
  | 55 => q 11
  | 56 => q 12
  | 57 => q 13
  | 58 => q 14
  | 3 => q 15
  | 4 => q 16
  | 5 => q 17
  | 40 => q 18
  | 41 => q 19
  | 42 => q 20
  | 43 => q 21
  | 44 => q 22
  | 45 => q 23
  | 46 => q 24
  | 47 => q 25
  | 48 => q 26
  | 10 => q 27
  | 11 => q 28
  | 12 => q 29
  | 13 => q 30
  | 14 => q 31
  | 15 => q 32
  | 16 => q 33
  | 17 => q 34
  | 18 => q 35
  | 19 => q 36
  | 20 => q 37
  | 21 => q 38
  | 22 => q 39
  | 23 => q 40
  | 24 => q 41
  | 25 => q 42
  | 26 => q 43
  | 27 => q 44
  | 28 => q 45
  | 29 => q 46
  | 30 => q 47
  | 31 => q 48
  | 100 => h'
  | 101 => q' 0
  | 102 => q' 1
  | 103 => q' 2
  | 104 => q' 3
  | 105 => q' 4
  | 106 => q' 5
  | 107 => q' 6
  | 108 => q' 7
  | 109 => q' 8
  | 110 => q' 9
  | 111 => q' 10
  | 112 => q' 11
  | 113 => q' 12
  | 114 => q' 13
  | 115 => q' 14
  | 116 => q' 15
  | 117 => q' 16
  | 118 => q' 17
  | 119 => q' 18
  | 120 => q' 19
  | 121 => q' 20
  | 122 => q' 21
  | 123 => q' 22
  | 124 => q' 23
  | 125 => q' 24
  | 126 => q' 25
  | 127 => q' 26
  | 128 => q' 27
  | 129 => q' 28
  | 130 => q' 29
  | 131 => q' 30
  | 132 => q' 31
  | 133 => q' 32
  | 134 => q' 33
  | 135 => q' 34
  | 136 => q' 35
  | 137 => q' 36
  | _ => 0
def M0C : mM := fun o => match o with
  | 0 => fun k => match k with
    | 2 => (-1)
    | 4 => 40
    | _ => 0
  | 2 => fun k => match k with
    | 1 => 50
    | 4 => (-1)
    | 6 => (-1)
    | _ => 0
  | 17 => fun k => match k with
    | 6 => (-1)
    | 7 => 1
    | _ => 0
  | _ => fun _ => 0
def keysM : Nat → Int := fun k => if k = 8 then 3223982 else if k = 7 then 70517 else if k = 6 then 7742498 else if k = 5 then 411 else if k = 4 then 6946700 else if k = 3 then 3755273 else if k = 2 then 257 else if k = 1 then 152 else if k = 0 then 8342847950 else 0
def M0R : mM := fun o => match o with
  | 100 => fun k => match k with
    | 17 => (-1)
    | _ => 0
  | 107 => keysM
  | _ => fun _ => 0
theorem wC_nodup : wC.Nodup := by decide +kernel
theorem wR_nodup : wR.Nodup := by decide +kernel
theorem gKD_len (o : Nat) : (gKD o - 100) / 4 < 2147483648 := by
  unfold gKD
  split <;> decide
section ST
variable (aC : Nat → ClassId) (h : Nat) (q : Nat → Nat) (h' : Nat) (q' : Nat → Nat)
set_option maxRecDepth 100000 in
theorem stC_0 : ms_e (gAD h q h' q') gKD aC M0C 0 = .inr (10, [.ref (q 0), .int (Int32.ofInt 0), .int (Int32.ofInt (-1)), .ref (q 1), .ref (q 18), .int (Int32.ofInt 0), .ref (q 27), .ref (q 30), .ref (q 38), .ref (q 40), .ref (q 42), .ref (q 46)]) := by rfl
set_option maxRecDepth 100000 in
theorem stC_1 : ms_e (gAD h q h' q') gKD aC M0C 1 = zI aC 2 2000 := by rfl
set_option maxRecDepth 100000 in
theorem stC_2 : ms_e (gAD h q h' q') gKD aC M0C 2 = .inr (4, [.ref (q 2), .ref (q 6), .int (Int32.ofInt 0), .int (Int32.ofInt 0), .int (Int32.ofInt (-1)), .int (Int32.ofInt 0), .int (Int32.ofInt (-1)), .ref (q 15), .ref (q 16), .ref (q 17), .int (Int32.ofInt 0)]) := by rfl
set_option maxRecDepth 100000 in
theorem stC_6 : ms_e (gAD h q h' q') gKD aC M0C 6 = .inr (8, [.ref (q 3), .ref (q 4), .ref (q 5), .int (Int32.ofInt 0)]) := by rfl
set_option maxRecDepth 100000 in
theorem stC_7 : ms_e (gAD h q h' q') gKD aC M0C 7 = zI aC 0 402 := by rfl
set_option maxRecDepth 100000 in
theorem stC_8 : ms_e (gAD h q h' q') gKD aC M0C 8 = zI aC 0 402 := by rfl
set_option maxRecDepth 100000 in
theorem stC_9 : ms_e (gAD h q h' q') gKD aC M0C 9 = zJ aC 402 := by rfl
set_option maxRecDepth 100000 in
theorem stC_50 : ms_e (gAD h q h' q') gKD aC M0C 50 = .inr (9, [.int (Int32.ofInt 0), .int (Int32.ofInt 0), .int (Int32.ofInt 0), .int (Int32.ofInt 0), .int (Int32.ofInt 0), .int (Int32.ofInt 0), .int (Int32.ofInt 0), .ref (q 7), .ref (q 8), .ref (q 9), .ref (q 10), .ref (q 11), .ref (q 12), .ref (q 13), .ref (q 14)]) := by rfl
set_option maxRecDepth 100000 in
theorem stC_51 : ms_e (gAD h q h' q') gKD aC M0C 51 = zI aC 0 98 := by rfl
set_option maxRecDepth 100000 in
theorem stC_52 : ms_e (gAD h q h' q') gKD aC M0C 52 = zI aC 0 8 := by rfl
set_option maxRecDepth 100000 in
theorem stC_53 : ms_e (gAD h q h' q') gKD aC M0C 53 = zI aC 0 8 := by rfl
set_option maxRecDepth 100000 in
theorem stC_54 : ms_e (gAD h q h' q') gKD aC M0C 54 = zI aC 0 6 := by rfl
set_option maxRecDepth 100000 in
theorem stC_55 : ms_e (gAD h q h' q') gKD aC M0C 55 = zI aC 0 6 := by rfl
set_option maxRecDepth 100000 in
theorem stC_56 : ms_e (gAD h q h' q') gKD aC M0C 56 = zI aC 0 6 := by rfl
set_option maxRecDepth 100000 in
theorem stC_57 : ms_e (gAD h q h' q') gKD aC M0C 57 = zI aC 0 8 := by rfl
set_option maxRecDepth 100000 in
theorem stC_58 : ms_e (gAD h q h' q') gKD aC M0C 58 = zI aC 0 14 := by rfl
set_option maxRecDepth 100000 in
theorem stC_3 : ms_e (gAD h q h' q') gKD aC M0C 3 = zJ aC 29 := by rfl
set_option maxRecDepth 100000 in
theorem stC_4 : ms_e (gAD h q h' q') gKD aC M0C 4 = zI aC 0 29 := by rfl
set_option maxRecDepth 100000 in
theorem stC_5 : ms_e (gAD h q h' q') gKD aC M0C 5 = zI aC 0 29 := by rfl
set_option maxRecDepth 100000 in
theorem stC_40 : ms_e (gAD h q h' q') gKD aC M0C 40 = .inr (9, [.int (Int32.ofInt 0), .int (Int32.ofInt 0), .int (Int32.ofInt 0), .int (Int32.ofInt 0), .int (Int32.ofInt 0), .int (Int32.ofInt 0), .int (Int32.ofInt 0), .ref (q 19), .ref (q 20), .ref (q 21), .ref (q 22), .ref (q 23), .ref (q 24), .ref (q 25), .ref (q 26)]) := by rfl
set_option maxRecDepth 100000 in
theorem stC_41 : ms_e (gAD h q h' q') gKD aC M0C 41 = zI aC 0 98 := by rfl
set_option maxRecDepth 100000 in
theorem stC_42 : ms_e (gAD h q h' q') gKD aC M0C 42 = zI aC 0 8 := by rfl
set_option maxRecDepth 100000 in
theorem stC_43 : ms_e (gAD h q h' q') gKD aC M0C 43 = zI aC 0 8 := by rfl
set_option maxRecDepth 100000 in
theorem stC_44 : ms_e (gAD h q h' q') gKD aC M0C 44 = zI aC 0 6 := by rfl
set_option maxRecDepth 100000 in
theorem stC_45 : ms_e (gAD h q h' q') gKD aC M0C 45 = zI aC 0 6 := by rfl
set_option maxRecDepth 100000 in
theorem stC_46 : ms_e (gAD h q h' q') gKD aC M0C 46 = zI aC 0 6 := by rfl
set_option maxRecDepth 100000 in
theorem stC_47 : ms_e (gAD h q h' q') gKD aC M0C 47 = zI aC 0 8 := by rfl
set_option maxRecDepth 100000 in
theorem stC_48 : ms_e (gAD h q h' q') gKD aC M0C 48 = zI aC 0 14 := by rfl
set_option maxRecDepth 100000 in
theorem stC_10 : ms_e (gAD h q h' q') gKD aC M0C 10 = .inr (3, [.ref (q 28), .ref (q 29)]) := by rfl
set_option maxRecDepth 100000 in
theorem stC_11 : ms_e (gAD h q h' q') gKD aC M0C 11 = zI aC 2 16384 := by rfl
set_option maxRecDepth 100000 in
theorem stC_12 : ms_e (gAD h q h' q') gKD aC M0C 12 = zI aC 3 128 := by rfl
set_option maxRecDepth 100000 in
theorem stC_13 : ms_e (gAD h q h' q') gKD aC M0C 13 = .inr (7, [.ref (q 31), .ref (q 32), .ref (q 33), .ref (q 34), .int (Int32.ofInt 0)]) := by rfl
set_option maxRecDepth 100000 in
theorem stC_14 : ms_e (gAD h q h' q') gKD aC M0C 14 = zI aC 0 3432 := by rfl
set_option maxRecDepth 100000 in
theorem stC_15 : ms_e (gAD h q h' q') gKD aC M0C 15 = zI aC 0 3432 := by rfl
set_option maxRecDepth 100000 in
theorem stC_16 : ms_e (gAD h q h' q') gKD aC M0C 16 = zJ aC 27456 := by rfl
set_option maxRecDepth 100000 in
theorem stC_17 : ms_e (gAD h q h' q') gKD aC M0C 17 = .inr (1, [.ref (q 35), .ref (q 36), .ref (q 37), .int (Int32.ofInt 0), .int (Int32.ofInt 0), .int (Int32.ofInt 0), .int (Int32.ofInt (-1)), .long (Int64.ofNat ((1 : Fin 2) : Nat))]) := by rfl
set_option maxRecDepth 100000 in
theorem stC_18 : ms_e (gAD h q h' q') gKD aC M0C 18 = zJ aC 56 := by rfl
set_option maxRecDepth 100000 in
theorem stC_19 : ms_e (gAD h q h' q') gKD aC M0C 19 = zI aC 0 7 := by rfl
set_option maxRecDepth 100000 in
theorem stC_20 : ms_e (gAD h q h' q') gKD aC M0C 20 = zJ aC 8 := by rfl
set_option maxRecDepth 100000 in
theorem stC_21 : ms_e (gAD h q h' q') gKD aC M0C 21 = .inr (6, [.ref (q 39)]) := by rfl
set_option maxRecDepth 100000 in
theorem stC_22 : ms_e (gAD h q h' q') gKD aC M0C 22 = zI aC 0 4 := by rfl
set_option maxRecDepth 100000 in
theorem stC_23 : ms_e (gAD h q h' q') gKD aC M0C 23 = .inr (5, [.ref (q 41), .int (Int32.ofInt 0), .int (Int32.ofInt 0), .int (Int32.ofInt 0)]) := by rfl
set_option maxRecDepth 100000 in
theorem stC_24 : ms_e (gAD h q h' q') gKD aC M0C 24 = zI aC 0 14 := by rfl
set_option maxRecDepth 100000 in
theorem stC_25 : ms_e (gAD h q h' q') gKD aC M0C 25 = .inr (2, [.ref (q 43), .ref (q 44), .ref (q 45)]) := by rfl
set_option maxRecDepth 100000 in
theorem stC_26 : ms_e (gAD h q h' q') gKD aC M0C 26 = zJ aC 6 := by rfl
set_option maxRecDepth 100000 in
theorem stC_27 : ms_e (gAD h q h' q') gKD aC M0C 27 = zI aC 0 6 := by rfl
set_option maxRecDepth 100000 in
theorem stC_28 : ms_e (gAD h q h' q') gKD aC M0C 28 = zI aC 0 6 := by rfl
set_option maxRecDepth 100000 in
theorem stC_29 : ms_e (gAD h q h' q') gKD aC M0C 29 = .inr (0, [.ref (q 47), .int (Int32.ofInt 0), .int (Int32.ofInt 0), .ref (q 48)]) := by rfl
set_option maxRecDepth 100000 in
theorem stC_30 : ms_e (gAD h q h' q') gKD aC M0C 30 = zI aC 3 256 := by rfl
set_option maxRecDepth 100000 in
theorem stC_31 : ms_e (gAD h q h' q') gKD aC M0C 31 = zI aC 0 201 := by rfl
set_option maxRecDepth 100000 in
theorem stC_ws : ms_ws (gAD h q h' q') gKD wC aC M0C = cl_10 aC h q := by
  show [(h, ms_e (gAD h q h' q') gKD aC M0C 0), ((q 0), ms_e (gAD h q h' q') gKD aC M0C 1), ((q 1), ms_e (gAD h q h' q') gKD aC M0C 2), ((q 2), ms_e (gAD h q h' q') gKD aC M0C 6), ((q 3), ms_e (gAD h q h' q') gKD aC M0C 7), ((q 4), ms_e (gAD h q h' q') gKD aC M0C 8), ((q 5), ms_e (gAD h q h' q') gKD aC M0C 9), ((q 6), ms_e (gAD h q h' q') gKD aC M0C 50), ((q 7), ms_e (gAD h q h' q') gKD aC M0C 51), ((q 8), ms_e (gAD h q h' q') gKD aC M0C 52), ((q 9), ms_e (gAD h q h' q') gKD aC M0C 53), ((q 10), ms_e (gAD h q h' q') gKD aC M0C 54), ((q 11), ms_e (gAD h q h' q') gKD aC M0C 55), ((q 12), ms_e (gAD h q h' q') gKD aC M0C 56), ((q 13), ms_e (gAD h q h' q') gKD aC M0C 57), ((q 14), ms_e (gAD h q h' q') gKD aC M0C 58), ((q 15), ms_e (gAD h q h' q') gKD aC M0C 3), ((q 16), ms_e (gAD h q h' q') gKD aC M0C 4), ((q 17), ms_e (gAD h q h' q') gKD aC M0C 5), ((q 18), ms_e (gAD h q h' q') gKD aC M0C 40), ((q 19), ms_e (gAD h q h' q') gKD aC M0C 41), ((q 20), ms_e (gAD h q h' q') gKD aC M0C 42), ((q 21), ms_e (gAD h q h' q') gKD aC M0C 43), ((q 22), ms_e (gAD h q h' q') gKD aC M0C 44), ((q 23), ms_e (gAD h q h' q') gKD aC M0C 45), ((q 24), ms_e (gAD h q h' q') gKD aC M0C 46), ((q 25), ms_e (gAD h q h' q') gKD aC M0C 47), ((q 26), ms_e (gAD h q h' q') gKD aC M0C 48), ((q 27), ms_e (gAD h q h' q') gKD aC M0C 10), ((q 28), ms_e (gAD h q h' q') gKD aC M0C 11), ((q 29), ms_e (gAD h q h' q') gKD aC M0C 12), ((q 30), ms_e (gAD h q h' q') gKD aC M0C 13), ((q 31), ms_e (gAD h q h' q') gKD aC M0C 14), ((q 32), ms_e (gAD h q h' q') gKD aC M0C 15), ((q 33), ms_e (gAD h q h' q') gKD aC M0C 16), ((q 34), ms_e (gAD h q h' q') gKD aC M0C 17), ((q 35), ms_e (gAD h q h' q') gKD aC M0C 18), ((q 36), ms_e (gAD h q h' q') gKD aC M0C 19), ((q 37), ms_e (gAD h q h' q') gKD aC M0C 20), ((q 38), ms_e (gAD h q h' q') gKD aC M0C 21), ((q 39), ms_e (gAD h q h' q') gKD aC M0C 22), ((q 40), ms_e (gAD h q h' q') gKD aC M0C 23), ((q 41), ms_e (gAD h q h' q') gKD aC M0C 24), ((q 42), ms_e (gAD h q h' q') gKD aC M0C 25), ((q 43), ms_e (gAD h q h' q') gKD aC M0C 26), ((q 44), ms_e (gAD h q h' q') gKD aC M0C 27), ((q 45), ms_e (gAD h q h' q') gKD aC M0C 28), ((q 46), ms_e (gAD h q h' q') gKD aC M0C 29), ((q 47), ms_e (gAD h q h' q') gKD aC M0C 30), ((q 48), ms_e (gAD h q h' q') gKD aC M0C 31)] = _
  rw [stC_0, stC_1, stC_2, stC_6, stC_7, stC_8, stC_9, stC_50, stC_51, stC_52, stC_53, stC_54, stC_55, stC_56, stC_57, stC_58, stC_3, stC_4, stC_5, stC_40, stC_41, stC_42, stC_43, stC_44, stC_45, stC_46, stC_47, stC_48, stC_10, stC_11, stC_12, stC_13, stC_14, stC_15, stC_16, stC_17, stC_18, stC_19, stC_20, stC_21, stC_22, stC_23, stC_24, stC_25, stC_26, stC_27, stC_28, stC_29, stC_30, stC_31]
  rfl
set_option maxRecDepth 100000 in
theorem stR_100 : ms_e (gAD h q h' q') gKD aC M0R 100 = .inr (11, [.int 0, .ref (q' 0), .int 0, .ref (q' 1), .int 0, .ref (q' 2), .ref (q' 3), .ref (q' 4), .ref (q' 5), .ref (q' 6), .int 0, .int 0, .int 0, .int 0, .int 0, .int 0, .int 0, .int (Int32.ofInt (-1)), .int 0, .int 0, .int 0, .ref (q' 7), .ref (q' 8), .ref (q' 9), .ref (q' 10), .ref (q' 11), .ref (q' 12), .ref (q' 13), .ref (q' 14), .ref (q' 15), .ref (q' 16), .ref (q' 17), .ref (q' 18), .ref (q' 19), .ref (q' 20), .int 0, .int 0, .int 0, .ref (q' 21), .int 0, .ref (q' 22), .ref (q' 23), .ref (q' 24), .ref (q' 25), .int 0, .int 0, .ref (q' 26), .ref (q' 27), .ref (q' 28), .ref (q' 29), .ref (q' 30), .ref (q' 31), .ref (q' 32), .int 0, .ref (q' 33), .ref (q' 34), .ref (q' 35), .int 0, .ref (q' 36)]) := by rfl
set_option maxRecDepth 100000 in
theorem stR_101 : ms_e (gAD h q h' q') gKD aC M0R 101 = zI aC 2 2000 := by rfl
set_option maxRecDepth 100000 in
theorem stR_102 : ms_e (gAD h q h' q') gKD aC M0R 102 = zI aC 2 2000 := by rfl
set_option maxRecDepth 100000 in
theorem stR_103 : ms_e (gAD h q h' q') gKD aC M0R 103 = zI aC 0 403 := by rfl
set_option maxRecDepth 100000 in
theorem stR_104 : ms_e (gAD h q h' q') gKD aC M0R 104 = zI aC 0 403 := by rfl
set_option maxRecDepth 100000 in
theorem stR_105 : ms_e (gAD h q h' q') gKD aC M0R 105 = zI aC 0 403 := by rfl
set_option maxRecDepth 100000 in
theorem stR_106 : ms_e (gAD h q h' q') gKD aC M0R 106 = zJ aC 403 := by rfl
theorem stR_107 : ms_e (gAD h q h' q') gKD aC M0R 107 = .inl (aC 1, 9, .inr (.inl (vp_updL (vp_updL (vp_updL (vp_updL (vp_updL (vp_updL (vp_updL (vp_updL (vp_updL (fun _ => 0) 0 (Int64.ofInt 8342847950)) 1 (Int64.ofInt 152)) 2 (Int64.ofInt 257)) 3 (Int64.ofInt 3755273)) 4 (Int64.ofInt 6946700)) 5 (Int64.ofInt 411)) 6 (Int64.ofInt 7742498)) 7 (Int64.ofInt 70517)) 8 (Int64.ofInt 3223982)))) := by
  show Sum.inl (aC 1, 9, Sum.inr (Sum.inl (fun j => Int64.ofInt (keysM j)))) = _
  congr 5
  funext j
  by_cases hj : j < 9
  · exact (show ∀ j, j < 9 → Int64.ofInt (keysM j) = (vp_updL (vp_updL (vp_updL (vp_updL (vp_updL (vp_updL (vp_updL (vp_updL (vp_updL (fun _ => 0) 0 (Int64.ofInt 8342847950)) 1 (Int64.ofInt 152)) 2 (Int64.ofInt 257)) 3 (Int64.ofInt 3755273)) 4 (Int64.ofInt 6946700)) 5 (Int64.ofInt 411)) 6 (Int64.ofInt 7742498)) 7 (Int64.ofInt 70517)) 8 (Int64.ofInt 3223982)) j by decide +kernel) j hj
  · have ne : ∀ k, k < 9 → ¬ j = k := fun k hk q => hj (by omega)
    simp only [keysM, vp_updL, if_neg (ne 0 (by decide)), if_neg (ne 1 (by decide)), if_neg (ne 2 (by decide)), if_neg (ne 3 (by decide)), if_neg (ne 4 (by decide)), if_neg (ne 5 (by decide)), if_neg (ne 6 (by decide)), if_neg (ne 7 (by decide)), if_neg (ne 8 (by decide))]
    rfl
set_option maxRecDepth 100000 in
theorem stR_108 : ms_e (gAD h q h' q') gKD aC M0R 108 = zJ aC 40 := by rfl
set_option maxRecDepth 100000 in
theorem stR_109 : ms_e (gAD h q h' q') gKD aC M0R 109 = zI aC 0 40 := by rfl
set_option maxRecDepth 100000 in
theorem stR_110 : ms_e (gAD h q h' q') gKD aC M0R 110 = zI aC 0 40 := by rfl
set_option maxRecDepth 100000 in
theorem stR_111 : ms_e (gAD h q h' q') gKD aC M0R 111 = zI aC 0 2 := by rfl
set_option maxRecDepth 100000 in
theorem stR_112 : ms_e (gAD h q h' q') gKD aC M0R 112 = zI aC 0 2 := by rfl
set_option maxRecDepth 100000 in
theorem stR_113 : ms_e (gAD h q h' q') gKD aC M0R 113 = zI aC 0 144 := by rfl
set_option maxRecDepth 100000 in
theorem stR_114 : ms_e (gAD h q h' q') gKD aC M0R 114 = zI aC 0 16 := by rfl
set_option maxRecDepth 100000 in
theorem stR_115 : ms_e (gAD h q h' q') gKD aC M0R 115 = zI aC 0 2 := by rfl
set_option maxRecDepth 100000 in
theorem stR_116 : ms_e (gAD h q h' q') gKD aC M0R 116 = zI aC 0 12 := by rfl
set_option maxRecDepth 100000 in
theorem stR_117 : ms_e (gAD h q h' q') gKD aC M0R 117 = zI aC 0 12 := by rfl
set_option maxRecDepth 100000 in
theorem stR_118 : ms_e (gAD h q h' q') gKD aC M0R 118 = zI aC 0 12 := by rfl
set_option maxRecDepth 100000 in
theorem stR_119 : ms_e (gAD h q h' q') gKD aC M0R 119 = zI aC 3 12 := by rfl
set_option maxRecDepth 100000 in
theorem stR_120 : ms_e (gAD h q h' q') gKD aC M0R 120 = zI aC 0 2 := by rfl
set_option maxRecDepth 100000 in
theorem stR_121 : ms_e (gAD h q h' q') gKD aC M0R 121 = zI aC 0 16 := by rfl
set_option maxRecDepth 100000 in
theorem stR_122 : ms_e (gAD h q h' q') gKD aC M0R 122 = zI aC 0 6 := by rfl
set_option maxRecDepth 100000 in
theorem stR_123 : ms_e (gAD h q h' q') gKD aC M0R 123 = zI aC 0 8 := by rfl
set_option maxRecDepth 100000 in
theorem stR_124 : ms_e (gAD h q h' q') gKD aC M0R 124 = zI aC 3 8 := by rfl
set_option maxRecDepth 100000 in
theorem stR_125 : ms_e (gAD h q h' q') gKD aC M0R 125 = zI aC 0 16 := by rfl
set_option maxRecDepth 100000 in
theorem stR_126 : ms_e (gAD h q h' q') gKD aC M0R 126 = zI aC 0 16 := by rfl
set_option maxRecDepth 100000 in
theorem stR_127 : ms_e (gAD h q h' q') gKD aC M0R 127 = zI aC 0 16384 := by rfl
set_option maxRecDepth 100000 in
theorem stR_128 : ms_e (gAD h q h' q') gKD aC M0R 128 = zJ aC 57344 := by rfl
set_option maxRecDepth 100000 in
theorem stR_129 : ms_e (gAD h q h' q') gKD aC M0R 129 = zI aC 3 4096 := by rfl
set_option maxRecDepth 100000 in
theorem stR_130 : ms_e (gAD h q h' q') gKD aC M0R 130 = zI aC 3 16384 := by rfl
set_option maxRecDepth 100000 in
theorem stR_131 : ms_e (gAD h q h' q') gKD aC M0R 131 = zI aC 0 16 := by rfl
set_option maxRecDepth 100000 in
theorem stR_132 : ms_e (gAD h q h' q') gKD aC M0R 132 = zI aC 0 8 := by rfl
set_option maxRecDepth 100000 in
theorem stR_133 : ms_e (gAD h q h' q') gKD aC M0R 133 = zJ aC 256 := by rfl
set_option maxRecDepth 100000 in
theorem stR_134 : ms_e (gAD h q h' q') gKD aC M0R 134 = zI aC 0 16 := by rfl
set_option maxRecDepth 100000 in
theorem stR_135 : ms_e (gAD h q h' q') gKD aC M0R 135 = zI aC 0 6 := by rfl
set_option maxRecDepth 100000 in
theorem stR_136 : ms_e (gAD h q h' q') gKD aC M0R 136 = zI aC 3 4096 := by rfl
set_option maxRecDepth 100000 in
theorem stR_137 : ms_e (gAD h q h' q') gKD aC M0R 137 = zI aC 0 100 := by rfl
set_option maxRecDepth 100000 in
theorem stR_ws : ms_ws (gAD h q h' q') gKD wR aC M0R = cl_11 aC h' q' := by
  show [(h', ms_e (gAD h q h' q') gKD aC M0R 100), ((q' 0), ms_e (gAD h q h' q') gKD aC M0R 101), ((q' 1), ms_e (gAD h q h' q') gKD aC M0R 102), ((q' 2), ms_e (gAD h q h' q') gKD aC M0R 103), ((q' 3), ms_e (gAD h q h' q') gKD aC M0R 104), ((q' 4), ms_e (gAD h q h' q') gKD aC M0R 105), ((q' 5), ms_e (gAD h q h' q') gKD aC M0R 106), ((q' 6), ms_e (gAD h q h' q') gKD aC M0R 107), ((q' 7), ms_e (gAD h q h' q') gKD aC M0R 108), ((q' 8), ms_e (gAD h q h' q') gKD aC M0R 109), ((q' 9), ms_e (gAD h q h' q') gKD aC M0R 110), ((q' 10), ms_e (gAD h q h' q') gKD aC M0R 111), ((q' 11), ms_e (gAD h q h' q') gKD aC M0R 112), ((q' 12), ms_e (gAD h q h' q') gKD aC M0R 113), ((q' 13), ms_e (gAD h q h' q') gKD aC M0R 114), ((q' 14), ms_e (gAD h q h' q') gKD aC M0R 115), ((q' 15), ms_e (gAD h q h' q') gKD aC M0R 116), ((q' 16), ms_e (gAD h q h' q') gKD aC M0R 117), ((q' 17), ms_e (gAD h q h' q') gKD aC M0R 118), ((q' 18), ms_e (gAD h q h' q') gKD aC M0R 119), ((q' 19), ms_e (gAD h q h' q') gKD aC M0R 120), ((q' 20), ms_e (gAD h q h' q') gKD aC M0R 121), ((q' 21), ms_e (gAD h q h' q') gKD aC M0R 122), ((q' 22), ms_e (gAD h q h' q') gKD aC M0R 123), ((q' 23), ms_e (gAD h q h' q') gKD aC M0R 124), ((q' 24), ms_e (gAD h q h' q') gKD aC M0R 125), ((q' 25), ms_e (gAD h q h' q') gKD aC M0R 126), ((q' 26), ms_e (gAD h q h' q') gKD aC M0R 127), ((q' 27), ms_e (gAD h q h' q') gKD aC M0R 128), ((q' 28), ms_e (gAD h q h' q') gKD aC M0R 129), ((q' 29), ms_e (gAD h q h' q') gKD aC M0R 130), ((q' 30), ms_e (gAD h q h' q') gKD aC M0R 131), ((q' 31), ms_e (gAD h q h' q') gKD aC M0R 132), ((q' 32), ms_e (gAD h q h' q') gKD aC M0R 133), ((q' 33), ms_e (gAD h q h' q') gKD aC M0R 134), ((q' 34), ms_e (gAD h q h' q') gKD aC M0R 135), ((q' 35), ms_e (gAD h q h' q') gKD aC M0R 136), ((q' 36), ms_e (gAD h q h' q') gKD aC M0R 137)] = _
  rw [stR_100, stR_101, stR_102, stR_103, stR_104, stR_105, stR_106, stR_107, stR_108, stR_109, stR_110, stR_111, stR_112, stR_113, stR_114, stR_115, stR_116, stR_117, stR_118, stR_119, stR_120, stR_121, stR_122, stR_123, stR_124, stR_125, stR_126, stR_127, stR_128, stR_129, stR_130, stR_131, stR_132, stR_133, stR_134, stR_135, stR_136, stR_137]
  rfl
end ST
theorem mzC_0 (j : Nat) : okI (M0C 0 j) := by
  show okI (match j with | 2 => (-1) | 4 => 40 | _ => 0)
  split
  all_goals exact ⟨by decide, by decide⟩
set_option maxRecDepth 100000 in
theorem mkC_0 (j : Nat) : ms_okc gKD wC (gKD 0) 0 j (M0C 0 j) := by
  match j with
  | 0 => exact fun _ => ⟨by decide, rfl⟩
  | 1 => exact mzC_0 1
  | 2 => exact mzC_0 2
  | 3 => exact fun _ => ⟨by decide, rfl⟩
  | 4 => exact ⟨by decide, rfl⟩
  | 5 => exact mzC_0 5
  | 6 => exact fun _ => ⟨by decide, rfl⟩
  | 7 => exact fun _ => ⟨by decide, rfl⟩
  | 8 => exact fun _ => ⟨by decide, rfl⟩
  | 9 => exact fun _ => ⟨by decide, rfl⟩
  | 10 => exact fun _ => ⟨by decide, rfl⟩
  | 11 => exact fun _ => ⟨by decide, rfl⟩
  | k + 12 => exact mzC_0 _
theorem mkC_1 (j : Nat) : ms_okc gKD wC (gKD 1) 1 j (M0C 1 j) := (show okI 0 from ⟨by decide, by decide⟩)
theorem mzC_2 (j : Nat) : okI (M0C 2 j) := by
  show okI (match j with | 1 => 50 | 4 => (-1) | 6 => (-1) | _ => 0)
  split
  all_goals exact ⟨by decide, by decide⟩
set_option maxRecDepth 100000 in
theorem mkC_2 (j : Nat) : ms_okc gKD wC (gKD 2) 2 j (M0C 2 j) := by
  match j with
  | 0 => exact fun _ => ⟨by decide, rfl⟩
  | 1 => exact ⟨by decide, rfl⟩
  | 2 => exact mzC_2 2
  | 3 => exact mzC_2 3
  | 4 => exact mzC_2 4
  | 5 => exact mzC_2 5
  | 6 => exact mzC_2 6
  | 7 => exact fun _ => ⟨by decide, rfl⟩
  | 8 => exact fun _ => ⟨by decide, rfl⟩
  | 9 => exact fun _ => ⟨by decide, rfl⟩
  | 10 => exact mzC_2 10
  | k + 11 => exact mzC_2 _
theorem mzC_6 (j : Nat) : okI (M0C 6 j) := (show okI 0 from ⟨by decide, by decide⟩)
set_option maxRecDepth 100000 in
theorem mkC_6 (j : Nat) : ms_okc gKD wC (gKD 6) 6 j (M0C 6 j) := by
  match j with
  | 0 => exact fun _ => ⟨by decide, rfl⟩
  | 1 => exact fun _ => ⟨by decide, rfl⟩
  | 2 => exact fun _ => ⟨by decide, rfl⟩
  | 3 => exact mzC_6 3
  | k + 4 => exact mzC_6 _
theorem mkC_7 (j : Nat) : ms_okc gKD wC (gKD 7) 7 j (M0C 7 j) := (show okI 0 from ⟨by decide, by decide⟩)
theorem mkC_8 (j : Nat) : ms_okc gKD wC (gKD 8) 8 j (M0C 8 j) := (show okI 0 from ⟨by decide, by decide⟩)
theorem mkC_9 (j : Nat) : ms_okc gKD wC (gKD 9) 9 j (M0C 9 j) := (show okJ 0 from ⟨by decide, by decide⟩)
theorem mzC_50 (j : Nat) : okI (M0C 50 j) := (show okI 0 from ⟨by decide, by decide⟩)
set_option maxRecDepth 100000 in
theorem mkC_50 (j : Nat) : ms_okc gKD wC (gKD 50) 50 j (M0C 50 j) := by
  match j with
  | 0 => exact mzC_50 0
  | 1 => exact mzC_50 1
  | 2 => exact mzC_50 2
  | 3 => exact mzC_50 3
  | 4 => exact mzC_50 4
  | 5 => exact mzC_50 5
  | 6 => exact mzC_50 6
  | 7 => exact fun _ => ⟨by decide, rfl⟩
  | 8 => exact fun _ => ⟨by decide, rfl⟩
  | 9 => exact fun _ => ⟨by decide, rfl⟩
  | 10 => exact fun _ => ⟨by decide, rfl⟩
  | 11 => exact fun _ => ⟨by decide, rfl⟩
  | 12 => exact fun _ => ⟨by decide, rfl⟩
  | 13 => exact fun _ => ⟨by decide, rfl⟩
  | 14 => exact fun _ => ⟨by decide, rfl⟩
  | k + 15 => exact mzC_50 _
theorem mkC_51 (j : Nat) : ms_okc gKD wC (gKD 51) 51 j (M0C 51 j) := (show okI 0 from ⟨by decide, by decide⟩)
theorem mkC_52 (j : Nat) : ms_okc gKD wC (gKD 52) 52 j (M0C 52 j) := (show okI 0 from ⟨by decide, by decide⟩)
theorem mkC_53 (j : Nat) : ms_okc gKD wC (gKD 53) 53 j (M0C 53 j) := (show okI 0 from ⟨by decide, by decide⟩)
theorem mkC_54 (j : Nat) : ms_okc gKD wC (gKD 54) 54 j (M0C 54 j) := (show okI 0 from ⟨by decide, by decide⟩)
theorem mkC_55 (j : Nat) : ms_okc gKD wC (gKD 55) 55 j (M0C 55 j) := (show okI 0 from ⟨by decide, by decide⟩)
theorem mkC_56 (j : Nat) : ms_okc gKD wC (gKD 56) 56 j (M0C 56 j) := (show okI 0 from ⟨by decide, by decide⟩)
theorem mkC_57 (j : Nat) : ms_okc gKD wC (gKD 57) 57 j (M0C 57 j) := (show okI 0 from ⟨by decide, by decide⟩)
theorem mkC_58 (j : Nat) : ms_okc gKD wC (gKD 58) 58 j (M0C 58 j) := (show okI 0 from ⟨by decide, by decide⟩)
theorem mkC_3 (j : Nat) : ms_okc gKD wC (gKD 3) 3 j (M0C 3 j) := (show okJ 0 from ⟨by decide, by decide⟩)
theorem mkC_4 (j : Nat) : ms_okc gKD wC (gKD 4) 4 j (M0C 4 j) := (show okI 0 from ⟨by decide, by decide⟩)
theorem mkC_5 (j : Nat) : ms_okc gKD wC (gKD 5) 5 j (M0C 5 j) := (show okI 0 from ⟨by decide, by decide⟩)
theorem mzC_40 (j : Nat) : okI (M0C 40 j) := (show okI 0 from ⟨by decide, by decide⟩)
set_option maxRecDepth 100000 in
theorem mkC_40 (j : Nat) : ms_okc gKD wC (gKD 40) 40 j (M0C 40 j) := by
  match j with
  | 0 => exact mzC_40 0
  | 1 => exact mzC_40 1
  | 2 => exact mzC_40 2
  | 3 => exact mzC_40 3
  | 4 => exact mzC_40 4
  | 5 => exact mzC_40 5
  | 6 => exact mzC_40 6
  | 7 => exact fun _ => ⟨by decide, rfl⟩
  | 8 => exact fun _ => ⟨by decide, rfl⟩
  | 9 => exact fun _ => ⟨by decide, rfl⟩
  | 10 => exact fun _ => ⟨by decide, rfl⟩
  | 11 => exact fun _ => ⟨by decide, rfl⟩
  | 12 => exact fun _ => ⟨by decide, rfl⟩
  | 13 => exact fun _ => ⟨by decide, rfl⟩
  | 14 => exact fun _ => ⟨by decide, rfl⟩
  | k + 15 => exact mzC_40 _
theorem mkC_41 (j : Nat) : ms_okc gKD wC (gKD 41) 41 j (M0C 41 j) := (show okI 0 from ⟨by decide, by decide⟩)
theorem mkC_42 (j : Nat) : ms_okc gKD wC (gKD 42) 42 j (M0C 42 j) := (show okI 0 from ⟨by decide, by decide⟩)
theorem mkC_43 (j : Nat) : ms_okc gKD wC (gKD 43) 43 j (M0C 43 j) := (show okI 0 from ⟨by decide, by decide⟩)
theorem mkC_44 (j : Nat) : ms_okc gKD wC (gKD 44) 44 j (M0C 44 j) := (show okI 0 from ⟨by decide, by decide⟩)
theorem mkC_45 (j : Nat) : ms_okc gKD wC (gKD 45) 45 j (M0C 45 j) := (show okI 0 from ⟨by decide, by decide⟩)
theorem mkC_46 (j : Nat) : ms_okc gKD wC (gKD 46) 46 j (M0C 46 j) := (show okI 0 from ⟨by decide, by decide⟩)
theorem mkC_47 (j : Nat) : ms_okc gKD wC (gKD 47) 47 j (M0C 47 j) := (show okI 0 from ⟨by decide, by decide⟩)
theorem mkC_48 (j : Nat) : ms_okc gKD wC (gKD 48) 48 j (M0C 48 j) := (show okI 0 from ⟨by decide, by decide⟩)
theorem mzC_10 (j : Nat) : okI (M0C 10 j) := (show okI 0 from ⟨by decide, by decide⟩)
set_option maxRecDepth 100000 in
theorem mkC_10 (j : Nat) : ms_okc gKD wC (gKD 10) 10 j (M0C 10 j) := by
  match j with
  | 0 => exact fun _ => ⟨by decide, rfl⟩
  | 1 => exact fun _ => ⟨by decide, rfl⟩
  | k + 2 => exact mzC_10 _
theorem mkC_11 (j : Nat) : ms_okc gKD wC (gKD 11) 11 j (M0C 11 j) := (show okI 0 from ⟨by decide, by decide⟩)
theorem mkC_12 (j : Nat) : ms_okc gKD wC (gKD 12) 12 j (M0C 12 j) := (show okI 0 from ⟨by decide, by decide⟩)
theorem mzC_13 (j : Nat) : okI (M0C 13 j) := (show okI 0 from ⟨by decide, by decide⟩)
set_option maxRecDepth 100000 in
theorem mkC_13 (j : Nat) : ms_okc gKD wC (gKD 13) 13 j (M0C 13 j) := by
  match j with
  | 0 => exact fun _ => ⟨by decide, rfl⟩
  | 1 => exact fun _ => ⟨by decide, rfl⟩
  | 2 => exact fun _ => ⟨by decide, rfl⟩
  | 3 => exact fun _ => ⟨by decide, rfl⟩
  | 4 => exact mzC_13 4
  | k + 5 => exact mzC_13 _
theorem mkC_14 (j : Nat) : ms_okc gKD wC (gKD 14) 14 j (M0C 14 j) := (show okI 0 from ⟨by decide, by decide⟩)
theorem mkC_15 (j : Nat) : ms_okc gKD wC (gKD 15) 15 j (M0C 15 j) := (show okI 0 from ⟨by decide, by decide⟩)
theorem mkC_16 (j : Nat) : ms_okc gKD wC (gKD 16) 16 j (M0C 16 j) := (show okJ 0 from ⟨by decide, by decide⟩)
theorem mzC_17 (j : Nat) : okI (M0C 17 j) := by
  show okI (match j with | 6 => (-1) | 7 => 1 | _ => 0)
  split
  all_goals exact ⟨by decide, by decide⟩
set_option maxRecDepth 100000 in
theorem mkC_17 (j : Nat) : ms_okc gKD wC (gKD 17) 17 j (M0C 17 j) := by
  match j with
  | 0 => exact fun _ => ⟨by decide, rfl⟩
  | 1 => exact fun _ => ⟨by decide, rfl⟩
  | 2 => exact fun _ => ⟨by decide, rfl⟩
  | 3 => exact mzC_17 3
  | 4 => exact mzC_17 4
  | 5 => exact mzC_17 5
  | 6 => exact mzC_17 6
  | 7 => exact (show okJ (M0C 17 7) from ⟨by decide, by decide⟩)
  | k + 8 => exact mzC_17 _
theorem mkC_18 (j : Nat) : ms_okc gKD wC (gKD 18) 18 j (M0C 18 j) := (show okJ 0 from ⟨by decide, by decide⟩)
theorem mkC_19 (j : Nat) : ms_okc gKD wC (gKD 19) 19 j (M0C 19 j) := (show okI 0 from ⟨by decide, by decide⟩)
theorem mkC_20 (j : Nat) : ms_okc gKD wC (gKD 20) 20 j (M0C 20 j) := (show okJ 0 from ⟨by decide, by decide⟩)
theorem mzC_21 (j : Nat) : okI (M0C 21 j) := (show okI 0 from ⟨by decide, by decide⟩)
set_option maxRecDepth 100000 in
theorem mkC_21 (j : Nat) : ms_okc gKD wC (gKD 21) 21 j (M0C 21 j) := by
  match j with
  | 0 => exact fun _ => ⟨by decide, rfl⟩
  | k + 1 => exact mzC_21 _
theorem mkC_22 (j : Nat) : ms_okc gKD wC (gKD 22) 22 j (M0C 22 j) := (show okI 0 from ⟨by decide, by decide⟩)
theorem mzC_23 (j : Nat) : okI (M0C 23 j) := (show okI 0 from ⟨by decide, by decide⟩)
set_option maxRecDepth 100000 in
theorem mkC_23 (j : Nat) : ms_okc gKD wC (gKD 23) 23 j (M0C 23 j) := by
  match j with
  | 0 => exact fun _ => ⟨by decide, rfl⟩
  | 1 => exact mzC_23 1
  | 2 => exact mzC_23 2
  | 3 => exact mzC_23 3
  | k + 4 => exact mzC_23 _
theorem mkC_24 (j : Nat) : ms_okc gKD wC (gKD 24) 24 j (M0C 24 j) := (show okI 0 from ⟨by decide, by decide⟩)
theorem mzC_25 (j : Nat) : okI (M0C 25 j) := (show okI 0 from ⟨by decide, by decide⟩)
set_option maxRecDepth 100000 in
theorem mkC_25 (j : Nat) : ms_okc gKD wC (gKD 25) 25 j (M0C 25 j) := by
  match j with
  | 0 => exact fun _ => ⟨by decide, rfl⟩
  | 1 => exact fun _ => ⟨by decide, rfl⟩
  | 2 => exact fun _ => ⟨by decide, rfl⟩
  | k + 3 => exact mzC_25 _
theorem mkC_26 (j : Nat) : ms_okc gKD wC (gKD 26) 26 j (M0C 26 j) := (show okJ 0 from ⟨by decide, by decide⟩)
theorem mkC_27 (j : Nat) : ms_okc gKD wC (gKD 27) 27 j (M0C 27 j) := (show okI 0 from ⟨by decide, by decide⟩)
theorem mkC_28 (j : Nat) : ms_okc gKD wC (gKD 28) 28 j (M0C 28 j) := (show okI 0 from ⟨by decide, by decide⟩)
theorem mzC_29 (j : Nat) : okI (M0C 29 j) := (show okI 0 from ⟨by decide, by decide⟩)
set_option maxRecDepth 100000 in
theorem mkC_29 (j : Nat) : ms_okc gKD wC (gKD 29) 29 j (M0C 29 j) := by
  match j with
  | 0 => exact fun _ => ⟨by decide, rfl⟩
  | 1 => exact mzC_29 1
  | 2 => exact mzC_29 2
  | 3 => exact fun _ => ⟨by decide, rfl⟩
  | k + 4 => exact mzC_29 _
theorem mkC_30 (j : Nat) : ms_okc gKD wC (gKD 30) 30 j (M0C 30 j) := (show okI 0 from ⟨by decide, by decide⟩)
theorem mkC_31 (j : Nat) : ms_okc gKD wC (gKD 31) 31 j (M0C 31 j) := (show okI 0 from ⟨by decide, by decide⟩)
theorem ms_M0C : ms_M gKD wC M0C := by
  intro o ho j
  have ho : o ∈ [0, 1, 2, 6, 7, 8, 9, 50, 51, 52, 53, 54, 55, 56, 57, 58, 3, 4, 5, 40, 41, 42, 43, 44, 45, 46, 47, 48, 10, 11, 12, 13, 14, 15, 16, 17, 18, 19, 20, 21, 22, 23, 24, 25, 26, 27, 28, 29, 30, 31] := ho
  simp only [List.mem_cons, List.not_mem_nil, or_false] at ho
  rcases ho with rfl | rfl | rfl | rfl | rfl | rfl | rfl | rfl | rfl | rfl | rfl | rfl | rfl | rfl | rfl | rfl | rfl | rfl | rfl | rfl | rfl | rfl | rfl | rfl | rfl | rfl | rfl | rfl | rfl | rfl | rfl | rfl | rfl | rfl | rfl | rfl | rfl | rfl | rfl | rfl | rfl | rfl | rfl | rfl | rfl | rfl | rfl | rfl | rfl | rfl
  · exact mkC_0 j
  · exact mkC_1 j
  · exact mkC_2 j
  · exact mkC_6 j
  · exact mkC_7 j
  · exact mkC_8 j
  · exact mkC_9 j
  · exact mkC_50 j
  · exact mkC_51 j
  · exact mkC_52 j
  · exact mkC_53 j
  · exact mkC_54 j
  · exact mkC_55 j
  · exact mkC_56 j
  · exact mkC_57 j
  · exact mkC_58 j
  · exact mkC_3 j
  · exact mkC_4 j
  · exact mkC_5 j
  · exact mkC_40 j
  · exact mkC_41 j
  · exact mkC_42 j
  · exact mkC_43 j
  · exact mkC_44 j
  · exact mkC_45 j
  · exact mkC_46 j
  · exact mkC_47 j
  · exact mkC_48 j
  · exact mkC_10 j
  · exact mkC_11 j
  · exact mkC_12 j
  · exact mkC_13 j
  · exact mkC_14 j
  · exact mkC_15 j
  · exact mkC_16 j
  · exact mkC_17 j
  · exact mkC_18 j
  · exact mkC_19 j
  · exact mkC_20 j
  · exact mkC_21 j
  · exact mkC_22 j
  · exact mkC_23 j
  · exact mkC_24 j
  · exact mkC_25 j
  · exact mkC_26 j
  · exact mkC_27 j
  · exact mkC_28 j
  · exact mkC_29 j
  · exact mkC_30 j
  · exact mkC_31 j
theorem mzR_100 (j : Nat) : okI (M0R 100 j) := by
  show okI (match j with | 17 => (-1) | _ => 0)
  split
  all_goals exact ⟨by decide, by decide⟩
set_option maxRecDepth 100000 in
theorem mkR_100 (j : Nat) : ms_okc gKD wR (gKD 100) 100 j (M0R 100 j) := by
  match j with
  | 0 => exact mzR_100 0
  | 1 => exact fun _ => ⟨by decide, rfl⟩
  | 2 => exact mzR_100 2
  | 3 => exact fun _ => ⟨by decide, rfl⟩
  | 4 => exact mzR_100 4
  | 5 => exact fun _ => ⟨by decide, rfl⟩
  | 6 => exact fun _ => ⟨by decide, rfl⟩
  | 7 => exact fun _ => ⟨by decide, rfl⟩
  | 8 => exact fun _ => ⟨by decide, rfl⟩
  | 9 => exact fun _ => ⟨by decide, rfl⟩
  | 10 => exact mzR_100 10
  | 11 => exact mzR_100 11
  | 12 => exact mzR_100 12
  | 13 => exact mzR_100 13
  | 14 => exact mzR_100 14
  | 15 => exact mzR_100 15
  | 16 => exact mzR_100 16
  | 17 => exact mzR_100 17
  | 18 => exact mzR_100 18
  | 19 => exact mzR_100 19
  | 20 => exact mzR_100 20
  | 21 => exact fun _ => ⟨by decide, rfl⟩
  | 22 => exact fun _ => ⟨by decide, rfl⟩
  | 23 => exact fun _ => ⟨by decide, rfl⟩
  | 24 => exact fun _ => ⟨by decide, rfl⟩
  | 25 => exact fun _ => ⟨by decide, rfl⟩
  | 26 => exact fun _ => ⟨by decide, rfl⟩
  | 27 => exact fun _ => ⟨by decide, rfl⟩
  | 28 => exact fun _ => ⟨by decide, rfl⟩
  | 29 => exact fun _ => ⟨by decide, rfl⟩
  | 30 => exact fun _ => ⟨by decide, rfl⟩
  | 31 => exact fun _ => ⟨by decide, rfl⟩
  | 32 => exact fun _ => ⟨by decide, rfl⟩
  | 33 => exact fun _ => ⟨by decide, rfl⟩
  | 34 => exact fun _ => ⟨by decide, rfl⟩
  | 35 => exact mzR_100 35
  | 36 => exact mzR_100 36
  | 37 => exact mzR_100 37
  | 38 => exact fun _ => ⟨by decide, rfl⟩
  | 39 => exact mzR_100 39
  | 40 => exact fun _ => ⟨by decide, rfl⟩
  | 41 => exact fun _ => ⟨by decide, rfl⟩
  | 42 => exact fun _ => ⟨by decide, rfl⟩
  | 43 => exact fun _ => ⟨by decide, rfl⟩
  | 44 => exact mzR_100 44
  | 45 => exact mzR_100 45
  | 46 => exact fun _ => ⟨by decide, rfl⟩
  | 47 => exact fun _ => ⟨by decide, rfl⟩
  | 48 => exact fun _ => ⟨by decide, rfl⟩
  | 49 => exact fun _ => ⟨by decide, rfl⟩
  | 50 => exact fun _ => ⟨by decide, rfl⟩
  | 51 => exact fun _ => ⟨by decide, rfl⟩
  | 52 => exact fun _ => ⟨by decide, rfl⟩
  | 53 => exact mzR_100 53
  | 54 => exact fun _ => ⟨by decide, rfl⟩
  | 55 => exact fun _ => ⟨by decide, rfl⟩
  | 56 => exact fun _ => ⟨by decide, rfl⟩
  | 57 => exact mzR_100 57
  | 58 => exact fun _ => ⟨by decide, rfl⟩
  | k + 59 => exact mzR_100 _
theorem mkR_101 (j : Nat) : ms_okc gKD wR (gKD 101) 101 j (M0R 101 j) := (show okI 0 from ⟨by decide, by decide⟩)
theorem mkR_102 (j : Nat) : ms_okc gKD wR (gKD 102) 102 j (M0R 102 j) := (show okI 0 from ⟨by decide, by decide⟩)
theorem mkR_103 (j : Nat) : ms_okc gKD wR (gKD 103) 103 j (M0R 103 j) := (show okI 0 from ⟨by decide, by decide⟩)
theorem mkR_104 (j : Nat) : ms_okc gKD wR (gKD 104) 104 j (M0R 104 j) := (show okI 0 from ⟨by decide, by decide⟩)
theorem mkR_105 (j : Nat) : ms_okc gKD wR (gKD 105) 105 j (M0R 105 j) := (show okI 0 from ⟨by decide, by decide⟩)
theorem mkR_106 (j : Nat) : ms_okc gKD wR (gKD 106) 106 j (M0R 106 j) := (show okJ 0 from ⟨by decide, by decide⟩)
theorem mkR_107 (j : Nat) : ms_okc gKD wR (gKD 107) 107 j (M0R 107 j) := by
  show okJ (keysM j)
  unfold keysM
  repeat' split
  all_goals exact ⟨by decide, by decide⟩
theorem mkR_108 (j : Nat) : ms_okc gKD wR (gKD 108) 108 j (M0R 108 j) := (show okJ 0 from ⟨by decide, by decide⟩)
theorem mkR_109 (j : Nat) : ms_okc gKD wR (gKD 109) 109 j (M0R 109 j) := (show okI 0 from ⟨by decide, by decide⟩)
theorem mkR_110 (j : Nat) : ms_okc gKD wR (gKD 110) 110 j (M0R 110 j) := (show okI 0 from ⟨by decide, by decide⟩)
theorem mkR_111 (j : Nat) : ms_okc gKD wR (gKD 111) 111 j (M0R 111 j) := (show okI 0 from ⟨by decide, by decide⟩)
theorem mkR_112 (j : Nat) : ms_okc gKD wR (gKD 112) 112 j (M0R 112 j) := (show okI 0 from ⟨by decide, by decide⟩)
theorem mkR_113 (j : Nat) : ms_okc gKD wR (gKD 113) 113 j (M0R 113 j) := (show okI 0 from ⟨by decide, by decide⟩)
theorem mkR_114 (j : Nat) : ms_okc gKD wR (gKD 114) 114 j (M0R 114 j) := (show okI 0 from ⟨by decide, by decide⟩)
theorem mkR_115 (j : Nat) : ms_okc gKD wR (gKD 115) 115 j (M0R 115 j) := (show okI 0 from ⟨by decide, by decide⟩)
theorem mkR_116 (j : Nat) : ms_okc gKD wR (gKD 116) 116 j (M0R 116 j) := (show okI 0 from ⟨by decide, by decide⟩)
theorem mkR_117 (j : Nat) : ms_okc gKD wR (gKD 117) 117 j (M0R 117 j) := (show okI 0 from ⟨by decide, by decide⟩)
theorem mkR_118 (j : Nat) : ms_okc gKD wR (gKD 118) 118 j (M0R 118 j) := (show okI 0 from ⟨by decide, by decide⟩)
theorem mkR_119 (j : Nat) : ms_okc gKD wR (gKD 119) 119 j (M0R 119 j) := (show okI 0 from ⟨by decide, by decide⟩)
theorem mkR_120 (j : Nat) : ms_okc gKD wR (gKD 120) 120 j (M0R 120 j) := (show okI 0 from ⟨by decide, by decide⟩)
theorem mkR_121 (j : Nat) : ms_okc gKD wR (gKD 121) 121 j (M0R 121 j) := (show okI 0 from ⟨by decide, by decide⟩)
theorem mkR_122 (j : Nat) : ms_okc gKD wR (gKD 122) 122 j (M0R 122 j) := (show okI 0 from ⟨by decide, by decide⟩)
theorem mkR_123 (j : Nat) : ms_okc gKD wR (gKD 123) 123 j (M0R 123 j) := (show okI 0 from ⟨by decide, by decide⟩)
theorem mkR_124 (j : Nat) : ms_okc gKD wR (gKD 124) 124 j (M0R 124 j) := (show okI 0 from ⟨by decide, by decide⟩)
theorem mkR_125 (j : Nat) : ms_okc gKD wR (gKD 125) 125 j (M0R 125 j) := (show okI 0 from ⟨by decide, by decide⟩)
theorem mkR_126 (j : Nat) : ms_okc gKD wR (gKD 126) 126 j (M0R 126 j) := (show okI 0 from ⟨by decide, by decide⟩)
theorem mkR_127 (j : Nat) : ms_okc gKD wR (gKD 127) 127 j (M0R 127 j) := (show okI 0 from ⟨by decide, by decide⟩)
theorem mkR_128 (j : Nat) : ms_okc gKD wR (gKD 128) 128 j (M0R 128 j) := (show okJ 0 from ⟨by decide, by decide⟩)
theorem mkR_129 (j : Nat) : ms_okc gKD wR (gKD 129) 129 j (M0R 129 j) := (show okI 0 from ⟨by decide, by decide⟩)
theorem mkR_130 (j : Nat) : ms_okc gKD wR (gKD 130) 130 j (M0R 130 j) := (show okI 0 from ⟨by decide, by decide⟩)
theorem mkR_131 (j : Nat) : ms_okc gKD wR (gKD 131) 131 j (M0R 131 j) := (show okI 0 from ⟨by decide, by decide⟩)
theorem mkR_132 (j : Nat) : ms_okc gKD wR (gKD 132) 132 j (M0R 132 j) := (show okI 0 from ⟨by decide, by decide⟩)
theorem mkR_133 (j : Nat) : ms_okc gKD wR (gKD 133) 133 j (M0R 133 j) := (show okJ 0 from ⟨by decide, by decide⟩)
theorem mkR_134 (j : Nat) : ms_okc gKD wR (gKD 134) 134 j (M0R 134 j) := (show okI 0 from ⟨by decide, by decide⟩)
theorem mkR_135 (j : Nat) : ms_okc gKD wR (gKD 135) 135 j (M0R 135 j) := (show okI 0 from ⟨by decide, by decide⟩)
theorem mkR_136 (j : Nat) : ms_okc gKD wR (gKD 136) 136 j (M0R 136 j) := (show okI 0 from ⟨by decide, by decide⟩)
theorem mkR_137 (j : Nat) : ms_okc gKD wR (gKD 137) 137 j (M0R 137 j) := (show okI 0 from ⟨by decide, by decide⟩)
theorem ms_M0R : ms_M gKD wR M0R := by
  intro o ho j
  have ho : o ∈ [100, 101, 102, 103, 104, 105, 106, 107, 108, 109, 110, 111, 112, 113, 114, 115, 116, 117, 118, 119, 120, 121, 122, 123, 124, 125, 126, 127, 128, 129, 130, 131, 132, 133, 134, 135, 136, 137] := ho
  simp only [List.mem_cons, List.not_mem_nil, or_false] at ho
  rcases ho with rfl | rfl | rfl | rfl | rfl | rfl | rfl | rfl | rfl | rfl | rfl | rfl | rfl | rfl | rfl | rfl | rfl | rfl | rfl | rfl | rfl | rfl | rfl | rfl | rfl | rfl | rfl | rfl | rfl | rfl | rfl | rfl | rfl | rfl | rfl | rfl | rfl | rfl
  · exact mkR_100 j
  · exact mkR_101 j
  · exact mkR_102 j
  · exact mkR_103 j
  · exact mkR_104 j
  · exact mkR_105 j
  · exact mkR_106 j
  · exact mkR_107 j
  · exact mkR_108 j
  · exact mkR_109 j
  · exact mkR_110 j
  · exact mkR_111 j
  · exact mkR_112 j
  · exact mkR_113 j
  · exact mkR_114 j
  · exact mkR_115 j
  · exact mkR_116 j
  · exact mkR_117 j
  · exact mkR_118 j
  · exact mkR_119 j
  · exact mkR_120 j
  · exact mkR_121 j
  · exact mkR_122 j
  · exact mkR_123 j
  · exact mkR_124 j
  · exact mkR_125 j
  · exact mkR_126 j
  · exact mkR_127 j
  · exact mkR_128 j
  · exact mkR_129 j
  · exact mkR_130 j
  · exact mkR_131 j
  · exact mkR_132 j
  · exact mkR_133 j
  · exact mkR_134 j
  · exact mkR_135 j
  · exact mkR_136 j
  · exact mkR_137 j
