theorem yk_X10_needWearer : hYV yX10_needWearer cX10_needWearer 2 none 1 := ⟨kw845, kw15, kw101, kw846, by decide +kernel, by decide +kernel, by decide +kernel⟩
theorem yk_X10_looks : hYV yX10_looks cX10_looks 3 (some .boolean) 2 := ⟨kw840, kw841, kw101, kw842, by decide +kernel, by decide +kernel, by decide +kernel⟩
theorem yk_X10_round : hYV yX10_round cX10_round 3 (some .boolean) 2 := ⟨kw854, kw855, kw101, kw856, by decide +kernel, by decide +kernel, by decide +kernel⟩
theorem yk_X10_about : hYV yX10_about cX10_about 3 (some .int) 2 := ⟨kw1037, kw1038, kw101, kw1039, by decide +kernel, by decide +kernel, by decide +kernel⟩
theorem yk_X10_tell : hYV yX10_tell cX10_tell 4 (some .boolean) 3 := ⟨kw1049, kw1050, kw101, kw1051, by decide +kernel, by decide +kernel, by decide +kernel⟩
theorem yk_X10_cell : hYV yX10_cell cX10_cell 3 (some .int) 2 := ⟨kw1058, kw1059, kw101, kw1060, by decide +kernel, by decide +kernel, by decide +kernel⟩
theorem yk_X10_needRow : hYV yX10_needRow cX10_needRow 2 none 1 := ⟨kw1073, kw34, kw101, kw1074, by decide +kernel, by decide +kernel, by decide +kernel⟩
theorem yk_X10_in : hYV yX10_in cX10_in 4 (some .int) 3 := ⟨kw1068, kw1069, kw101, kw1070, by decide +kernel, by decide +kernel, by decide +kernel⟩
theorem yk_X10_row : hYV yX10_row cX10_row 3 (some .int) 2 := ⟨kw1088, kw1089, kw101, kw1090, by decide +kernel, by decide +kernel, by decide +kernel⟩
theorem yk_X10_won : hYV yX10_won cX10_won 3 (some .long) 1 := ⟨kw1100, kw1101, kw101, kw1102, by decide +kernel, by decide +kernel, by decide +kernel⟩
theorem yk_X10_rightOf : hYV yX10_rightOf cX10_rightOf 2 (some .int) 1 := ⟨kw1116, kw1117, kw101, kw1118, by decide +kernel, by decide +kernel, by decide +kernel⟩
theorem yk_X10_worst : hYV yX10_worst cX10_worst 3 (some .int) 1 := ⟨kw730, kw731, kw101, kw732, by decide +kernel, by decide +kernel, by decide +kernel⟩
theorem yk_X10_idle : hYV yX10_idle cX10_idle 4 (some .int) 1 := ⟨kw1131, kw1132, kw101, kw1133, by decide +kernel, by decide +kernel, by decide +kernel⟩
theorem yk_X10_otherwise : hYV yX10_otherwise cX10_otherwise 5 (some .int) 2 := ⟨kw1146, kw1147, kw101, kw1148, by decide +kernel, by decide +kernel, by decide +kernel⟩
theorem yk_X10_needTablesAtOnce : hYV yX10_needTablesAtOnce cX10_needTablesAtOnce 2 none 0 := ⟨kw1161, kw36, kw101, kw1162, by decide +kernel, by decide +kernel, by decide +kernel⟩
theorem yk_X10_search : hYV yX10_search cX10_search 3 (some .int) 1 := ⟨kw1155, kw1156, kw101, kw1157, by decide +kernel, by decide +kernel, by decide +kernel⟩
theorem yk_X10_sums : hYV yX10_sums cX10_sums 2 (some .int) 0 := ⟨kw1203, kw1204, kw101, kw1205, by decide +kernel, by decide +kernel, by decide +kernel⟩
theorem yk_X10_constant : hYV yX10_constant cX10_constant 2 (some .int) 1 := ⟨kw1249, kw1250, kw101, kw1251, by decide +kernel, by decide +kernel, by decide +kernel⟩
theorem yk_X10_given : hYV yX10_given cX10_given 2 (some .int) 1 := ⟨kw1257, kw1258, kw101, kw1259, by decide +kernel, by decide +kernel, by decide +kernel⟩
theorem yk_X10_mend : hYV yX10_mend cX10_mend 3 (some .int) 1 := ⟨kw1265, kw1266, kw101, kw1267, by decide +kernel, by decide +kernel, by decide +kernel⟩
theorem yk_X10_count : hYV yX10_count cX10_count 2 (some .int) 1 := ⟨kw1310, kw1311, kw101, kw1312, by decide +kernel, by decide +kernel, by decide +kernel⟩
def Rd_kindOfWord_b70 (I : HI) (x1 : Int32) (x2 : Int32) (x3 : Int32) (t0 : Int32) (K8 : Int32 → Int32 → Int32 → Prop) (Q : Int32 → Prop) : Prop :=
  if t0 = 0 then
    (K8 x1 (-1) (x3 + 1))
    else
    (K8 x1 (x2 + 1) (x3 + 1))
def Rd_kindOfWord_b69 (I : HI) (x1 : Int32) (x2 : Int32) (x3 : Int32) (K8 : Int32 → Int32 → Int32 → Prop) (Q : Int32 → Prop) : Prop :=
  Rd_kindOfWord_b70 I x1 x2 x3 0 K8 Q
def Rd_kindOfWord_l8 (I : HI) (Q : Int32 → Prop) : Nat → Int32 → Int32 → Int32 → Prop
  | 0, _, _, _ => False
  | n + 1, x1, x2, x3 =>
    if 58 ≤ x3 then
    (Q 140 )
    else
    (vp_in x3 58 ∧
    if (wch (nx x3)) = 32 then
    (if ((I 28 7) + x2) = (I 28 6) then
    (Q x1 )
    else
    (Rd_kindOfWord_l8 I Q n (x1 + 1) 0 (x3 + 1)))
    else
    (if x2 < 0 then
    (Rd_kindOfWord_b69 I x1 x2 x3 (fun x1' x2' x3' => Rd_kindOfWord_l8 I Q n x1' x2' x3') Q)
    else
    (if (I 28 6) ≤ ((I 28 7) + x2) then
    (Rd_kindOfWord_b69 I x1 x2 x3 (fun x1' x2' x3' => Rd_kindOfWord_l8 I Q n x1' x2' x3') Q)
    else
    (vp_in ((I 28 7) + x2) 500 ∧
    if (I 34 (nx ((I 28 7) + x2))) = (wch (nx x3)) then
    (Rd_kindOfWord_b70 I x1 x2 x3 1 (fun x1' x2' x3' => Rd_kindOfWord_l8 I Q n x1' x2' x3') Q)
    else
    (Rd_kindOfWord_b69 I x1 x2 x3 (fun x1' x2' x3' => Rd_kindOfWord_l8 I Q n x1' x2' x3') Q)))))
def Rd_kindOfWord (I : HI)  (Q : Int32 → Prop) : Prop :=
  ∃ nn, Rd_kindOfWord_l8 I Q nn 141 0 0
def Rd_scanWord_l0  (Q : HI → Prop) : Nat → HI → Prop
  | 0, _ => False
  | n + 1, I =>
    if (I 28 4) ≤ (I 28 6) then
    (Rd_kindOfWord I (fun a1 =>
    Q (up2 I 28 8 a1)))
    else
    (vp_in (I 28 6) 500 ∧
    Rd_isLetter (I 34 (nx (I 28 6))) (fun a3 =>
    if a3 = 0 then
    (Rd_kindOfWord I (fun a5 =>
    Q (up2 I 28 8 a5)))
    else
    (Rd_scanWord_l0 Q n (up2 I 28 6 ((I 28 6) + 1)))))
def Rd_scanWord (I : HI)  (Q : HI → Prop) : Prop :=
  ∃ nn, Rd_scanWord_l0 Q nn I
def Rd_next_b167 (I : HI) (t0 : Int32) (Q : HI → Prop) : Prop :=
  Q (up2 (up2 I 28 8 t0) 28 6 (((up2 I 28 8 t0) 28 6) + 1))
def Rd_next_b63 (I : HI) (Q : HI → Prop) : Prop :=
  if ((up2 I 28 7 (I 28 6)) 28 6) < ((up2 I 28 7 (I 28 6)) 28 4) then
    (vp_in ((up2 I 28 7 (I 28 6)) 28 6) 500 ∧
    Rd_isLetter ((up2 I 28 7 (I 28 6)) 34 (nx ((up2 I 28 7 (I 28 6)) 28 6))) (fun a1 =>
    if a1 = 0 then
    (vp_in ((up2 I 28 7 (I 28 6)) 28 6) 500 ∧
    Rd_isDigit ((up2 I 28 7 (I 28 6)) 34 (nx ((up2 I 28 7 (I 28 6)) 28 6))) (fun a3 =>
    if a3 = 0 then
    (vp_in ((up2 I 28 7 (I 28 6)) 28 6) 500 ∧
    Rd_isSign ((up2 I 28 7 (I 28 6)) 34 (nx ((up2 I 28 7 (I 28 6)) 28 6))) (fun a5 =>
    if a5 = 0 then
    (Rd_next_b167 (up2 I 28 7 (I 28 6)) 129 Q)
    else
    (vp_in ((up2 I 28 7 (I 28 6)) 28 6) 500 ∧
    Rd_next_b167 (up2 I 28 7 (I 28 6)) ((up2 I 28 7 (I 28 6)) 34 (nx ((up2 I 28 7 (I 28 6)) 28 6))) Q)))
    else
    (Rd_scanNumber (up2 I 28 7 (I 28 6)) (fun I7 =>
    Q I7))))
    else
    (Rd_scanWord (up2 I 28 7 (I 28 6)) (fun I9 =>
    Q I9))))
    else
    (Q (up2 (up2 I 28 7 (I 28 6)) 28 8 128))
def Rd_next_b50 (I : HI) (K11 : HI → Prop) (Q : HI → Prop) : Prop :=
  K11 (up2 I 28 6 ((I 28 6) + 1))
def Rd_next_l11  (Q : HI → Prop) : Nat → HI → Prop
  | 0, _ => False
  | n + 1, I =>
    if (I 28 4) ≤ (I 28 6) then
    (Rd_next_b63 I Q)
    else
    (vp_in (I 28 6) 500 ∧
    if (I 34 (nx (I 28 6))) = 32 then
    (Rd_next_b50 I (fun I' => Rd_next_l11 Q n I') Q)
    else
    (vp_in (I 28 6) 500 ∧
    if (I 34 (nx (I 28 6))) = 10 then
    (Rd_next_b50 I (fun I' => Rd_next_l11 Q n I') Q)
    else
    (Rd_next_b63 I Q)))
def Rd_next (I : HI)  (Q : HI → Prop) : Prop :=
  if (I 28 8) = 130 then
    (Q I)
    else
    (∃ nn, Rd_next_l11 Q nn I)
def Rd_expect (I : HI) (x1 : Int32) (Q : HI → Prop) : Prop :=
  if (I 28 8) = x1 then
    (Rd_next I (fun I3 =>
    Q I3))
    else
    (Rd_stop I (1 : Int32) (fun I1 =>
    Q I1))
def Rd_readNumber_b26 (I : HI) (Q : Int32 → HI → Prop) : Prop :=
  if (I 28 8) = 131 then
    (Rd_stop I (4 : Int32) (fun I5 =>
    Q 0 I5))
    else
    (if (I 28 8) = 132 then
    (Rd_stop I (2 : Int32) (fun I3 =>
    Q 0 I3))
    else
    (Rd_stop I (1 : Int32) (fun I1 =>
    Q 0 I1)))
def Rd_readNumber (I : HI) (x1 : Int32) (Q : Int32 → HI → Prop) : Prop :=
  if (I 28 8) = 131 then
    (if x1 ≤ (I 28 9) then
    (Rd_readNumber_b26 I Q)
    else
    (Rd_next I (fun I7 =>
    Q (I 28 9) I7)))
    else
    (Rd_readNumber_b26 I Q)
def Rd_readPart_b68 (RO : HI → Int32 → (Int32 → HI → Prop) → Prop) (I : HI) (Q : Int32 → HI → Prop) : Prop :=
  Rd_isWord I (fun a3 =>
    if a3 = 0 then
    (Rd_stop I (1 : Int32) (fun I5 =>
    Q 0 I5))
    else
    (Rd_stop I (3 : Int32) (fun I7 =>
    Q 0 I7)))
def Rd_readPart (RO : HI → Int32 → (Int32 → HI → Prop) → Prop) (I : HI) (x1 : Int32) (Q : Int32 → HI → Prop) : Prop :=
  if (I 28 8) = 40 then
    (Rd_next I (fun I32 =>
    RO I32 (x1 + 1) (fun a34 I35 =>
    Rd_expect I35 (41 : Int32) (fun I37 =>
    Q a34 I37))))
    else
    (Rd_isNumber I (fun a1 =>
    if a1 = 0 then
    (if (I 28 8) < 144 then
    (Rd_readPart_b68 RO I Q)
    else
    (if (I 28 8) ≤ 150 then
    (Rd_next I (fun I9 =>
    if (I 28 8) = 147 then
    (Rd_readNumber I9 (I9 28 5) (fun a11 I12 =>
    Rd_add I12 (I 28 8) a11 (0 : Int32) (fun a14 I15 =>
    Q a14 I15)))
    else
    (if (I 28 8) = 148 then
    (Rd_readNumber I9 (I9 28 5) (fun a20 I21 =>
    Rd_add I21 (I 28 8) a20 (0 : Int32) (fun a23 I24 =>
    Q a23 I24)))
    else
    (Rd_add I9 (I 28 8) (0 : Int32) (0 : Int32) (fun a17 I18 =>
    Q a17 I18)))))
    else
    (Rd_readPart_b68 RO I Q)))
    else
    (Rd_readNumber I (1000 : Int32) (fun a26 I27 =>
    Rd_add I27 (131 : Int32) a26 (0 : Int32) (fun a29 I30 =>
    Q a29 I30)))))
def Rd_readProduct_b34 (RO : HI → Int32 → (Int32 → HI → Prop) → Prop) (I : HI) (x1 : Int32) (x2 : Int32) (x3 : Int32) (K8 : HI → Int32 → Int32 → Prop) (Q : Int32 → HI → Prop) : Prop :=
  Rd_next I (fun I4 =>
    Rd_readPart RO I4 x1 (fun a6 I7 =>
    Rd_add I7 (I 28 8) x2 a6 (fun a9 I10 =>
    K8 I10 a9 (x3 + 1))))
def Rd_readProduct_l8 (RO : HI → Int32 → (Int32 → HI → Prop) → Prop) (x1 : Int32) (Q : Int32 → HI → Prop) : Nat → HI → Int32 → Int32 → Prop
  | 0, _, _, _ => False
  | n + 1, I, x2, x3 =>
    if (I 28 4) ≤ x3 then
    (Q x2 I)
    else
    (if (I 28 8) = 42 then
    (Rd_readProduct_b34 RO I x1 x2 x3 (fun I' x2' x3' => Rd_readProduct_l8 RO x1 Q n I' x2' x3') Q)
    else
    (if (I 28 8) = 47 then
    (Rd_readProduct_b34 RO I x1 x2 x3 (fun I' x2' x3' => Rd_readProduct_l8 RO x1 Q n I' x2' x3') Q)
    else
    (Q x2 I)))
def Rd_readProduct (RO : HI → Int32 → (Int32 → HI → Prop) → Prop) (I : HI) (x1 : Int32) (Q : Int32 → HI → Prop) : Prop :=
  Rd_readPart RO I x1 (fun a1 I2 =>
    ∃ nn, Rd_readProduct_l8 RO x1 Q nn I2 a1 0)
def Rd_readSum_b34 (RO : HI → Int32 → (Int32 → HI → Prop) → Prop) (I : HI) (x1 : Int32) (x2 : Int32) (x3 : Int32) (K8 : HI → Int32 → Int32 → Prop) (Q : Int32 → HI → Prop) : Prop :=
  Rd_next I (fun I4 =>
    Rd_readProduct RO I4 x1 (fun a6 I7 =>
    Rd_add I7 (I 28 8) x2 a6 (fun a9 I10 =>
    K8 I10 a9 (x3 + 1))))
def Rd_readSum_l8 (RO : HI → Int32 → (Int32 → HI → Prop) → Prop) (x1 : Int32) (Q : Int32 → HI → Prop) : Nat → HI → Int32 → Int32 → Prop
  | 0, _, _, _ => False
  | n + 1, I, x2, x3 =>
    if (I 28 4) ≤ x3 then
    (Q x2 I)
    else
    (if (I 28 8) = 43 then
    (Rd_readSum_b34 RO I x1 x2 x3 (fun I' x2' x3' => Rd_readSum_l8 RO x1 Q n I' x2' x3') Q)
    else
    (if (I 28 8) = 45 then
    (Rd_readSum_b34 RO I x1 x2 x3 (fun I' x2' x3' => Rd_readSum_l8 RO x1 Q n I' x2' x3') Q)
    else
    (Q x2 I)))
def Rd_readSum (RO : HI → Int32 → (Int32 → HI → Prop) → Prop) (I : HI) (x1 : Int32) (Q : Int32 → HI → Prop) : Prop :=
  Rd_readProduct RO I x1 (fun a1 I2 =>
    ∃ nn, Rd_readSum_l8 RO x1 Q nn I2 a1 0)
def Rd_readTest_b24 (RO : HI → Int32 → (Int32 → HI → Prop) → Prop) (I : HI) (x1 : Int32) (x2 : Int32) (Q : Int32 → HI → Prop) : Prop :=
  Rd_next I (fun I4 =>
    Rd_readSum RO I4 x1 (fun a6 I7 =>
    Rd_add I7 (I 28 8) x2 a6 (fun a9 I10 =>
    Q a9 I10)))
def Rd_readTest (RO : HI → Int32 → (Int32 → HI → Prop) → Prop) (I : HI) (x1 : Int32) (Q : Int32 → HI → Prop) : Prop :=
  Rd_readSum RO I x1 (fun a1 I2 =>
    if (I2 28 8) = 60 then
    (Rd_readTest_b24 RO I2 x1 a1 Q)
    else
    (if (I2 28 8) = 61 then
    (Rd_readTest_b24 RO I2 x1 a1 Q)
    else
    (Q a1 I2)))
def Rd_readNot_l57 (RO : HI → Int32 → (Int32 → HI → Prop) → Prop) (x2 : Int32) (Q : Int32 → HI → Prop) : Nat → HI → Int32 → Int32 → Prop
  | 0, _, _, _ => False
  | n + 1, I, x3, x4 =>
    if x2 ≤ x4 then
    (Q x3 I)
    else
    (Rd_add I (151 : Int32) x3 x3 (fun a4 I5 =>
    Rd_readNot_l57 RO x2 Q n I5 a4 (x4 + 1)))
def Rd_readNot_b48 (RO : HI → Int32 → (Int32 → HI → Prop) → Prop) (I : HI) (x1 : Int32) (x2 : Int32) (Q : Int32 → HI → Prop) : Prop :=
  Rd_readTest RO I x1 (fun a1 I2 =>
    ∃ nn, Rd_readNot_l57 RO x2 Q nn I2 a1 0)
def Rd_readNot_b33 (RO : HI → Int32 → (Int32 → HI → Prop) → Prop) (I : HI) (x1 : Int32) (x2 : Int32) (Q : Int32 → HI → Prop) : Prop :=
  if (I 28 8) = 151 then
    (Rd_stop I (2 : Int32) (fun I7 =>
    Rd_readNot_b48 RO I7 x1 x2 Q))
    else
    (Rd_readNot_b48 RO I x1 x2 Q)
def Rd_readNot_l4 (RO : HI → Int32 → (Int32 → HI → Prop) → Prop) (x1 : Int32) (Q : Int32 → HI → Prop) : Nat → HI → Int32 → Int32 → Prop
  | 0, _, _, _ => False
  | n + 1, I, x2, x3 =>
    if 6 ≤ x3 then
    (Rd_readNot_b33 RO I x1 x2 Q)
    else
    (if (I 28 8) = 151 then
    (Rd_next I (fun I9 =>
    Rd_readNot_l4 RO x1 Q n I9 (x2 + 1) (x3 + 1)))
    else
    (Rd_readNot_b33 RO I x1 x2 Q))
def Rd_readNot (RO : HI → Int32 → (Int32 → HI → Prop) → Prop) (I : HI) (x1 : Int32) (Q : Int32 → HI → Prop) : Prop :=
  ∃ nn, Rd_readNot_l4 RO x1 Q nn I 0 0
def Rd_readAnd_l8 (RO : HI → Int32 → (Int32 → HI → Prop) → Prop) (x1 : Int32) (Q : Int32 → HI → Prop) : Nat → HI → Int32 → Int32 → Prop
  | 0, _, _, _ => False
  | n + 1, I, x2, x3 =>
    if (I 28 4) ≤ x3 then
    (Q x2 I)
    else
    (if (I 28 8) = 152 then
    (Rd_next I (fun I4 =>
    Rd_readNot RO I4 x1 (fun a6 I7 =>
    Rd_add I7 (152 : Int32) x2 a6 (fun a9 I10 =>
    Rd_readAnd_l8 RO x1 Q n I10 a9 (x3 + 1)))))
    else
    (Q x2 I))
def Rd_readAnd (RO : HI → Int32 → (Int32 → HI → Prop) → Prop) (I : HI) (x1 : Int32) (Q : Int32 → HI → Prop) : Prop :=
  Rd_readNot RO I x1 (fun a1 I2 =>
    ∃ nn, Rd_readAnd_l8 RO x1 Q nn I2 a1 0)
def Rd_readOr_l43 (RO : HI → Int32 → (Int32 → HI → Prop) → Prop) (x1 : Int32) (Q : Int32 → HI → Prop) : Nat → HI → Int32 → Int32 → Prop
  | 0, _, _, _ => False
  | n + 1, I, x2, x3 =>
    if (I 28 4) ≤ x3 then
    (Q x2 I)
    else
    (if (I 28 8) = 153 then
    (Rd_next I (fun I4 =>
    Rd_readAnd RO I4 x1 (fun a6 I7 =>
    Rd_add I7 (153 : Int32) x2 a6 (fun a9 I10 =>
    Rd_readOr_l43 RO x1 Q n I10 a9 (x3 + 1)))))
    else
    (Q x2 I))
def Rd_readOr_b35 (RO : HI → Int32 → (Int32 → HI → Prop) → Prop) (I : HI) (x1 : Int32) (Q : Int32 → HI → Prop) : Prop :=
  Rd_readAnd RO I x1 (fun a1 I2 =>
    ∃ nn, Rd_readOr_l43 RO x1 Q nn I2 a1 0)
def Rd_readOr_o (RO : HI → Int32 → (Int32 → HI → Prop) → Prop) (I : HI) (x1 : Int32) (Q : Int32 → HI → Prop) : Prop :=
  if x1 ≤ 5 then
    (Rd_readOr_b35 RO I x1 Q)
    else
    (Rd_isNumber I (fun a12 =>
    if a12 = 0 then
    (Rd_isWord I (fun a16 =>
    if a16 = 0 then
    (if (I 28 8) = 40 then
    (Rd_stop I (2 : Int32) (fun I20 =>
    Q 0 I20))
    else
    (Rd_readOr_b35 RO I x1 Q))
    else
    (Rd_stop I (2 : Int32) (fun I18 =>
    Q 0 I18))))
    else
    (Rd_stop I (2 : Int32) (fun I14 =>
    Q 0 I14))))
def Rd_readOr : Nat → HI → Int32 → (Int32 → HI → Prop) → Prop
  | 0 => fun _ _ _ => False
  | d + 1 => Rd_readOr_o (Rd_readOr d)
def H_needWearer_b15 (I : HI) (Q : Prop) (Xc : Prop) : Prop :=
  Xc
def H_needWearer (I : HI) (x1 : Int32) (Q : Prop) (Xc : Prop) : Prop :=
  if x1 < 0 then
    (H_needWearer_b15 I Q Xc)
    else
    (if x1 < (I 1 0) then
    (Q)
    else
    (H_needWearer_b15 I Q Xc))
def H_looks (I : HI) (x1 : Int32) (x2 : Int32) (Q : Int32 → HI → Prop) (Xc : HI → Prop) : Prop :=
  H_needWearer I x1 (Net_othersOf I 1 x1 (fun a2 =>
    if (x2 &&& (a2 ^^^ (-1))) = 0 then
    (Net_lookAt I 1 x1 x2 (fun I4 =>
    Led_spoil I4 (fun I6 =>
    Q 1 I6)))
    else
    (Q 0 I))) (Xc I)
def H_round (I : HI) (x1 : Int32) (x2 : Int32) (Q : Int32 → HI → Prop) (Xc : HI → Prop) : Prop :=
  H_needWearer I x1 (if x2 < 0 then
    (Q 0 I)
    else
    (if x2 ≤ 7 then
    (Net_guessIn I 1 x1 x2 (fun I2 =>
    Led_spoil I2 (fun I4 =>
    Q 1 I4)))
    else
    (Q 0 I))) (Xc I)
def H_about (I : HI) (T : HR) (x1 : Int32) (x2 : Int32) (Q : Int32 → Prop) (Xc : Prop) : Prop :=
  H_needWearer I x1 (if x2 = 0 then
    (vp_in x1 8 ∧
    Q (I 2 (nx x1)) )
    else
    if x2 = 1 then
    (vp_in x1 8 ∧
    Q (I 3 (nx x1)) )
    else
    if x2 = 2 then
    (vp_in x1 8 ∧
    Q (I 4 (nx x1)) )
    else
    if x2 = 3 then
    (vp_in x1 8 ∧
    Q (I 5 (nx x1)) )
    else
    if x2 = 4 then
    (Net_kindOfRule I T 1 x1 (fun a2 =>
    Q a2 ))
    else
    (Xc)) (Xc)
def H_tell_b59 (I : HI) (T : HR) (L : HL) (x1 : Int32) (x2 : Int32) (x3 : Int32) (Q : Int32 → HI → HR → Prop) (Xc : HI → HR → Prop) : Prop :=
  Net_setGuess I 1 x1 x2 x3 (fun I3 =>
    Led_spoil I3 (fun I5 =>
    Q 1 I5 T))
def H_tell (I : HI) (T : HR) (L : HL) (x1 : Int32) (x2 : Int32) (x3 : Int32) (Q : Int32 → HI → HR → Prop) (Xc : HI → HR → Prop) : Prop :=
  H_needWearer I x1 (if x2 < 0 then
    (Q 0 I T)
    else
    (vp_in x1 8 ∧
    if (I 5 (nx x1)) ≤ x2 then
    (Q 0 I T)
    else
    (if x3 < 0 then
    (Q 0 I T)
    else
    (if x3 ≤ (I 1 1) then
    (vp_in x1 8 ∧
    (T 7 (nx x1) = none →
    H_tell_b59 I T L x1 x2 x3 Q Xc) ∧ (∀ ef2, T 7 (nx x1) = some ef2 →
    Net_startTable I T L 1 x1 (fun I7 T8 =>
    H_tell_b59 I7 T8 L x1 x2 x3 Q Xc)))
    else
    (Q 0 I T))))) (Xc I T)
def H_cell_b33 (I : HI) (T : HR) (Q : Int32 → Prop) (Xc : Prop) : Prop :=
  Xc
def H_cell (I : HI) (T : HR) (x1 : Int32) (x2 : Int32) (Q : Int32 → Prop) (Xc : Prop) : Prop :=
  H_needWearer I x1 (Net_hasTable I T 1 x1 (fun a2 =>
    if a2 = 0 then
    (H_cell_b33 I T Q Xc)
    else
    (if x2 < 0 then
    (H_cell_b33 I T Q Xc)
    else
    (vp_in x1 8 ∧
    if x2 < (I 5 (nx x1)) then
    (Net_guessAt I 1 x1 x2 (fun a4 =>
    Q a4 ))
    else
    (H_cell_b33 I T Q Xc))))) (Xc)
def H_needRow_b15 (I : HI) (Q : Prop) (Xc : Prop) : Prop :=
  Xc
def H_needRow (I : HI) (x1 : Int32) (Q : Prop) (Xc : Prop) : Prop :=
  if x1 < 0 then
    (H_needRow_b15 I Q Xc)
    else
    (if x1 < (I 1 2) then
    (Q)
    else
    (H_needRow_b15 I Q Xc))
def H_in_b36 (I : HI) (T : HR) (F : HR) (L : HL) (Q : Int32 → HI → Prop) (Xc : HI → Prop) : Prop :=
  Xc I
def H_in_b46 (I : HI) (T : HR) (F : HR) (L : HL) (x1 : Int32) (x2 : Int32) (x3 : Int32) (Q : Int32 → HI → Prop) (Xc : HI → Prop) : Prop :=
  Sc_play I T F L 20 1 x1 (fun I3 =>
    if x3 = 0 then
    (Sc_viewOf I3 20 1 x2 (fun a5 =>
    Q a5 I3))
    else
    (vp_in x2 8 ∧
    Q (I3 22 (nx x2)) I3))
def H_in (I : HI) (T : HR) (F : HR) (L : HL) (x1 : Int32) (x2 : Int32) (x3 : Int32) (Q : Int32 → HI → Prop) (Xc : HI → Prop) : Prop :=
  H_needRow I x1 (H_needWearer I x2 (if x3 < 0 then
    (H_in_b36 I T F L Q Xc)
    else
    (if 1 < x3 then
    (H_in_b36 I T F L Q Xc)
    else
    (if x3 = 0 then
    (vp_in x2 8 ∧
    if (I 5 (nx x2)) = (-1) then
    (H_in_b36 I T F L Q Xc)
    else
    (H_in_b46 I T F L x1 x2 x3 Q Xc))
    else
    (H_in_b46 I T F L x1 x2 x3 Q Xc)))) (Xc I)) (Xc I)
def H_row (I : HI) (T : HR) (F : HR) (L : HL) (x1 : Int32) (x2 : Int32) (Q : Int32 → HI → Prop) (Xc : HI → Prop) : Prop :=
  H_needRow I x1 (Sc_play I T F L 20 1 x1 (fun I2 =>
    if x2 = 0 then
    (Sc_rightOnes I2 20 1 (fun a4 =>
    Q a4 I2))
    else
    if x2 = 1 then
    (Sc_wrongOnes I2 20 1 (fun a6 =>
    Q a6 I2))
    else
    if x2 = 2 then
    (Jud_weigh I2 20 (I2 1 0) (fun a8 I9 =>
    if (lg_cmp a8 (0 : Int64)) ≤ 0 then
    (Q 0 I9)
    else
    (Q 1 I9)))
    else
    if x2 = 3 then
    (Sc_rightOnes I2 20 1 (fun a11 =>
    Sc_wrongOnes I2 20 1 (fun a13 =>
    Jud_isWon I2 a11 a13 (I2 1 0) (fun a15 =>
    if a15 = 0 then
    (Q 0 I2)
    else
    (Q 1 I2)))))
    else
    (Xc I2))) (Xc I)
def H_won_b9 (I : HI) (T : HR) (F : HR) (L : HL) (Q : Int64 → HI → Prop) (Xc : HI → Prop) : Prop :=
  Xc I
def H_won_b53 (I : HI) (T : HR) (F : HR) (L : HL) (x1 : Int32) (t0 : Int32) (Q : Int64 → HI → Prop) (Xc : HI → Prop) : Prop :=
  if 2 ≤ x1 then
    (Led_sumWeights I 1 20 t0 (fun a3 I4 =>
    Q a3 I4))
    else
    (Led_countRows I 1 t0 (fun a6 =>
    Q (Int32.toInt64 a6) I))
def H_won (I : HI) (T : HR) (F : HR) (L : HL) (x1 : Int32) (Q : Int64 → HI → Prop) (Xc : HI → Prop) : Prop :=
  if x1 < 0 then
    (H_won_b9 I T F L Q Xc)
    else
    (if x1 ≤ 3 then
    (Led_fill I T F L 1 20 (fun I1 =>
    if x1 = 1 then
    (H_won_b53 I1 T F L x1 1 Q Xc)
    else
    (if x1 = 3 then
    (H_won_b53 I1 T F L x1 1 Q Xc)
    else
    (H_won_b53 I1 T F L x1 0 Q Xc))))
    else
    (H_won_b9 I T F L Q Xc))
def H_rightOf (I : HI) (T : HR) (F : HR) (L : HL) (x1 : Int32) (Q : Int32 → HI → Prop) (Xc : HI → Prop) : Prop :=
  H_needWearer I x1 (Led_fill I T F L 1 20 (fun I2 =>
    Led_rowsRightFor I2 1 x1 (fun a4 =>
    Q a4 I2))) (Xc I)
def H_worst_b9 (I : HI) (T : HR) (F : HR) (L : HL) (Q : Int32 → HI → Prop) (Xc : HI → Prop) : Prop :=
  Xc I
def H_worst (I : HI) (T : HR) (F : HR) (L : HL) (x1 : Int32) (Q : Int32 → HI → Prop) (Xc : HI → Prop) : Prop :=
  if x1 < 0 then
    (H_worst_b9 I T F L Q Xc)
    else
    (if x1 ≤ 1 then
    (Led_fill I T F L 1 20 (fun I1 =>
    Led_worstRow I1 1 (fun a3 =>
    if x1 = 1 then
    (Q a3 I1)
    else
    (if a3 = (-1) then
    (Q a3 I1)
    else
    (Led_wrongIn I1 a3 (fun a5 =>
    Q a5 I1))))))
    else
    (H_worst_b9 I T F L Q Xc))
def H_idle_l17 (T : HR) (F : HR) (L : HL) (x1 : Int32) (Q : Int32 → HI → Prop) (Xc : HI → Prop) : Nat → HI → Int32 → Int32 → Prop
  | 0, _, _, _ => False
  | n + 1, I, x2, x3 =>
    if (I 1 2) ≤ x3 then
    (Q x2 I)
    else
    (if x2 = 0 then
    (Q x2 I)
    else
    (Sc_play I T F L 20 1 x3 (fun I2 =>
    Sc_looksThatMatter I2 T F L 20 1 x1 x2 (fun a4 I5 =>
    H_idle_l17 T F L x1 Q Xc n I5 (x2 &&& (a4 ^^^ (-1))) (x3 + 1)))))
def H_idle (I : HI) (T : HR) (F : HR) (L : HL) (x1 : Int32) (Q : Int32 → HI → Prop) (Xc : HI → Prop) : Prop :=
  H_needWearer I x1 (vp_in x1 8 ∧
    ∃ nn, H_idle_l17 T F L x1 Q Xc nn I (I 2 (nx x1)) 0) (Xc I)
def H_otherwise_l54 (T : HR) (F : HR) (L : HL) (Q : Int32 → HI → HR → Prop) (Xc : HI → HR → Prop) : Nat → HI → Int32 → Int32 → Prop
  | 0, _, _, _ => False
  | n + 1, I, x3, x4 =>
    if (I 10 2) ≤ x4 then
    (Q x3 I T)
    else
    (Sc_dress I 20 10 x4 (fun I8 =>
    Jud_weigh I8 20 (I8 10 0) (fun a10 I11 =>
    if (lg_cmp a10 (0 : Int64)) ≤ 0 then
    (H_otherwise_l54 T F L Q Xc n I11 x3 (x4 + 1))
    else
    (Sc_guessAll I11 T F L 20 10 (fun I13 =>
    Sc_rightOnes I13 20 10 (fun a15 =>
    Sc_wrongOnes I13 20 10 (fun a17 =>
    Jud_isWon I13 a15 a17 (I13 10 0) (fun a19 =>
    if a19 = 0 then
    (H_otherwise_l54 T F L Q Xc n I13 (x3 + 0) (x4 + 1))
    else
    (H_otherwise_l54 T F L Q Xc n I13 (x3 + 1) (x4 + 1))))))))))
def H_otherwise (I : HI) (T : HR) (F : HR) (L : HL) (x1 : Int32) (x2 : Int32) (Q : Int32 → HI → HR → Prop) (Xc : HI → HR → Prop) : Prop :=
  H_needWearer I x1 (H_needWearer I x2 (if x1 = x2 then
    (Q (-1) I T)
    else
    (Net_copy I T L 10 1 (fun I3 T4 =>
    vp_in x1 8 ∧
    Net_lookAt I3 10 x1 ((I3 11 (nx x1)) ^^^ ((1 : Int32) <<< (x2 &&& 31))) (fun I6 =>
    ∃ nn, H_otherwise_l54 T4 F L Q Xc nn I6 0 0)))) (Xc I T)) (Xc I T)
def H_needTablesAtOnce_b38 (I : HI) (Q : Prop) (Xc : Prop) : Prop :=
  Xc
def H_needTablesAtOnce_l2 (I : HI) (Q : Prop) (Xc : Prop) : Nat → Int32 → Prop
  | 0, _ => False
  | n + 1, x1 =>
    if (I 1 0) ≤ x1 then
    (Q)
    else
    (vp_in x1 8 ∧
    if (I 3 (nx x1)) = 0 then
    (vp_in x1 8 ∧
    if (I 5 (nx x1)) = (-1) then
    (H_needTablesAtOnce_b38 I Q Xc)
    else
    (H_needTablesAtOnce_l2 I Q Xc n (x1 + 1)))
    else
    (H_needTablesAtOnce_b38 I Q Xc))
def H_needTablesAtOnce (I : HI)  (Q : Prop) (Xc : Prop) : Prop :=
  ∃ nn, H_needTablesAtOnce_l2 I Q Xc nn 0
def H_search_b11 (I : HI) (T : HR) (L : HL) (Q : Int32 → HI → HR → Prop) (Xc : HI → HR → Prop) : Prop :=
  Xc I T
def H_search (I : HI) (T : HR) (L : HL) (x1 : Int32) (Q : Int32 → HI → HR → Prop) (Xc : HI → HR → Prop) : Prop :=
  if x1 < 0 then
    (H_search_b11 I T L Q Xc)
    else
    (if x1 ≤ 5000 then
    (H_needTablesAtOnce I (Se_seek I 1 20 x1 (fun a2 I3 =>
    if a2 = 1 then
    (Se_settle I3 T L 1 (fun I5 T6 =>
    Led_spoil I5 (fun I8 =>
    Q a2 I8 T6)))
    else
    (Q a2 I3 T))) (Xc I T))
    else
    (H_search_b11 I T L Q Xc))
def H_sums (I : HI) (T : HR) (L : HL)  (Q : Int32 → HI → HR → Prop) (Xc : HI → HR → Prop) : Prop :=
  H_needTablesAtOnce I (if (I 1 2) ≤ 256 then
    (Su_seek I 1 20 (fun a2 I3 =>
    Su_settle I3 T L 1 (fun I5 T6 =>
    Led_spoil I5 (fun I8 =>
    Q a2 I8 T6))))
    else
    (Xc I T)) (Xc I T)
def H_constant (I : HI) (x1 : Int32) (Q : Int32 → Prop) (Xc : Prop) : Prop :=
  H_needWearer I x1 (if x1 < (I 39 1) then
    (vp_in x1 8 ∧
    Q (I 40 (nx x1)) )
    else
    (Xc)) (Xc)
def H_given_b15 (I : HI) (Q : Int32 → Prop) (Xc : Prop) : Prop :=
  Xc
def H_given (I : HI) (x1 : Int32) (Q : Int32 → Prop) (Xc : Prop) : Prop :=
  if x1 < 0 then
    (H_given_b15 I Q Xc)
    else
    (if x1 < (I 44 0) then
    (vp_in x1 7 ∧
    Q (I 45 (nx x1)) )
    else
    (H_given_b15 I Q Xc))
def H_mend_b10 (I : HI) (T : HR) (F : HR) (L : HL) (Q : Int32 → HI → Prop) (Xc : HI → Prop) : Prop :=
  Xc I
def H_mend_l51 (T : HR) (F : HR) (L : HL) (x1 : Int32) (Q : Int32 → HI → Prop) (Xc : HI → Prop) : Nat → HI → Int32 → Prop
  | 0, _, _ => False
  | n + 1, I, x2 =>
    if x1 ≤ x2 then
    (Led_spoil I (fun I3 =>
    Q x2 I3))
    else
    (Men_mendOne I T F L 1 (fun a5 I6 =>
    if a5 = 0 then
    (Led_spoil I6 (fun I8 =>
    Q x2 I8))
    else
    (H_mend_l51 T F L x1 Q Xc n I6 (x2 + 1))))
def H_mend (I : HI) (T : HR) (F : HR) (L : HL) (x1 : Int32) (Q : Int32 → HI → Prop) (Xc : HI → Prop) : Prop :=
  if x1 < 0 then
    (H_mend_b10 I T F L Q Xc)
    else
    (if x1 ≤ 20 then
    (if 256 < (I 1 2) then
    (Q (-1) I)
    else
    (Net_viewsInTables I T 1 (fun a1 =>
    if a1 ≤ 256 then
    (∃ nn, H_mend_l51 T F L x1 Q Xc nn I 0)
    else
    (Q (-1) I))))
    else
    (H_mend_b10 I T F L Q Xc))
def H_count (I : HI) (T : HR) (x1 : Int32) (Q : Int32 → Prop) (Xc : Prop) : Prop :=
  if x1 = 0 then
    (Q (I 1 0) )
    else
    if x1 = 1 then
    (Q (I 1 1) )
    else
    if x1 = 2 then
    (Q (I 1 2) )
    else
    if x1 = 3 then
    (Q (I 23 1) )
    else
    if x1 = 4 then
    (Q (I 23 2) )
    else
    if x1 = 5 then
    (Q (I 0 8) )
    else
    if x1 = 6 then
    (Net_countTexts I T 1 (fun a1 =>
    Q a1 ))
    else
    (Xc)
