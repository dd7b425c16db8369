def M_thrown (I : HI)  (Q : Int32 → Prop) : Prop :=
  Q (I 0 0) 
def M_right_b16 (I : HI) (Q : Int32 → HI → Prop) : Prop :=
  if (I 0 0) = 0 then
    (Q 1 I)
    else
    (Q 0 I)
def M_right (I : HI) (x1 : Int32) (x2 : Int32) (Q : Int32 → HI → Prop) : Prop :=
  if (I 0 0) = 0 then
    (if x1 = 0 then
    (M_right_b16 (up2 I 0 0 x2) Q)
    else
    (M_right_b16 I Q))
    else
    (M_right_b16 I Q)
def M_within  (x0 : Int32) (x1 : Int32) (x2 : Int32) (Q : Int32 → Prop) : Prop :=
  if x0 < x1 then
    (Q 0 )
    else
    (if x2 < x0 then
    (Q 0 )
    else
    (Q 1 ))
def M_bits_l4  (Q : Int32 → Prop) : Nat → Int32 → Int32 → Prop
  | 0, _, _ => False
  | n + 1, x1, x2 =>
    if x2 = 0 then
    (Q x1 )
    else
    (M_bits_l4 Q n (x1 + 1) (x2 &&& (x2 - 1)))
def M_bits  (x0 : Int32) (Q : Int32 → Prop) : Prop :=
  ∃ nn, M_bits_l4 Q nn 0 x0
def M_all (I : HI)  (Q : Int32 → Prop) : Prop :=
  Q (((1 : Int32) <<< ((I 0 1) &&& 31)) - 1) 
def M_hears_l4 (I : HI) (x1 : Int32) (Q : Int32 → Prop) : Nat → Int32 → Int32 → Prop
  | 0, _, _ => False
  | n + 1, x2, x3 =>
    if (I 0 1) ≤ x3 then
    (Q x2 )
    else
    (vp_in x3 8 ∧
    vp_in x1 8 ∧
    if (I 3 (nx x1)) ≤ (I 3 (nx x3)) then
    (M_hears_l4 I x1 Q n x2 (x3 + 1))
    else
    (M_hears_l4 I x1 Q n (x2 ||| ((1 : Int32) <<< (x3 &&& 31))) (x3 + 1)))
def M_hears (I : HI) (x1 : Int32) (Q : Int32 → Prop) : Prop :=
  ∃ nn, M_hears_l4 I x1 Q nn 0 0
def M_viewsOf_b73 (I : HI) (x2 : Int32) (Q : Int32 → Prop) : Prop :=
  if x2 ≤ 1024 then
    (Q x2 )
    else
    (Q 1025 )
def M_viewsOf_l39 (I : HI) (x1 : Int32) (Q : Int32 → Prop) : Nat → Int32 → Int32 → Prop
  | 0, _, _ => False
  | n + 1, x2, x3 =>
    M_hears I x1 (fun r3 =>
    M_bits r3 (fun r5 =>
    if r5 ≤ x3 then
    (M_viewsOf_b73 I x2 Q)
    else
    (if 1024 < x2 then
    (M_viewsOf_b73 I x2 Q)
    else
    (M_viewsOf_l39 I x1 Q n (x2 * ((I 0 2) + 1)) (x3 + 1)))))
def M_viewsOf_l4 (I : HI) (x1 : Int32) (Q : Int32 → Prop) : Nat → Int32 → Int32 → Prop
  | 0, _, _ => False
  | n + 1, x2, x3 =>
    vp_in x1 8 ∧
    M_bits (I 2 (nx x1)) (fun r1 =>
    if r1 ≤ x3 then
    (∃ nn, M_viewsOf_l39 I x1 Q nn x2 0)
    else
    (if 1024 < x2 then
    (∃ nn, M_viewsOf_l39 I x1 Q nn x2 0)
    else
    (M_viewsOf_l4 I x1 Q n (x2 * (I 0 2)) (x3 + 1))))
def M_viewsOf (I : HI) (x1 : Int32) (Q : Int32 → Prop) : Prop :=
  ∃ nn, M_viewsOf_l4 I x1 Q nn 1 0
def M_blank_l24 (x1 : Int32) (Q : HI → Prop) : Nat → HI → Int32 → Prop
  | 0, _, _ => False
  | n + 1, I, x2 =>
    if 1024 ≤ x2 then
    (Q I)
    else
    (vp_in ((1024 * x1) + x2) 8192 ∧
    M_blank_l24 x1 Q n (up2 I 5 (nx ((1024 * x1) + x2)) 0) (x2 + 1))
def M_blank (I : HI) (x1 : Int32) (Q : HI → Prop) : Prop :=
  M_viewsOf I x1 (fun r1 =>
    if r1 ≤ 1024 then
    (vp_in x1 8 ∧
    ∃ nn, M_blank_l24 x1 Q nn (up2 I 4 (nx x1) 0) 0)
    else
    (vp_in x1 8 ∧
    ∃ nn, M_blank_l24 x1 Q nn (up2 I 4 (nx x1) 2) 0))
def M_anew_l95  (Q : HI → Prop) : Nat → HI → Int32 → Prop
  | 0, _, _ => False
  | n + 1, I, x3 =>
    if (I 0 1) ≤ x3 then
    (Q (up2 I 0 40 0))
    else
    (M_blank I x3 (fun I1 =>
    M_anew_l95 Q n I1 (x3 + 1)))
def M_anew_l46  (Q : HI → Prop) : Nat → HI → Int32 → Prop
  | 0, _, _ => False
  | n + 1, I, x3 =>
    if 8 ≤ x3 then
    (∃ nn, M_anew_l95 Q nn I 0)
    else
    (vp_in x3 8 ∧
    if ((up2 I 3 (nx x3) 0) 0 1) ≤ x3 then
    (vp_in x3 8 ∧
    M_anew_l46 Q n (up2 (up2 I 3 (nx x3) 0) 2 (nx x3) 0) (x3 + 1))
    else
    (M_all (up2 I 3 (nx x3) 0) (fun r3 =>
    vp_in x3 8 ∧
    M_anew_l46 Q n (up2 (up2 I 3 (nx x3) 0) 2 (nx x3) (r3 &&& (((1 : Int32) <<< (x3 &&& 31)) ^^^ (-1)))) (x3 + 1))))
def M_anew_l17  (Q : HI → Prop) : Nat → HI → Int32 → Prop
  | 0, _, _ => False
  | n + 1, I, x3 =>
    if (I 0 1) ≤ x3 then
    (∃ nn, M_anew_l46 Q nn I 0)
    else
    (M_anew_l17 Q n (up2 I 0 3 ((I 0 3) * (I 0 2))) (x3 + 1))
def M_anew (I : HI) (x1 : Int32) (x2 : Int32) (Q : HI → Prop) : Prop :=
  ∃ nn, M_anew_l17 Q nn (up2 (up2 (up2 I 0 1 x1) 0 2 x2) 0 3 1) 0
def M_hall_l31 (I : HI) (x1 : Int32) (x2 : Int32) (Q : Int32 → HI → Prop) : Nat → Int32 → Int32 → Prop
  | 0, _, _ => False
  | n + 1, x3, x4 =>
    if x1 ≤ x4 then
    (if x3 ≤ 6561 then
    (M_anew I x1 x2 (fun I5 =>
    Q 1 I5))
    else
    (Q 0 I))
    else
    (M_hall_l31 I x1 x2 Q n (x3 * x2) (x4 + 1))
def M_hall (I : HI) (x1 : Int32) (x2 : Int32) (Q : Int32 → HI → Prop) : Prop :=
  M_within x1 (1 : Int32) (8 : Int32) (fun r1 =>
    if r1 = 0 then
    (Q 0 (up2 I 0 0 0))
    else
    (M_within x2 (2 : Int32) (4 : Int32) (fun r3 =>
    if r3 = 0 then
    (Q 0 (up2 I 0 0 0))
    else
    (∃ nn, M_hall_l31 (up2 I 0 0 0) x1 x2 Q nn 1 0))))
def M_isWearer (I : HI) (x1 : Int32) (Q : Int32 → HI → Prop) : Prop :=
  if x1 < 0 then
    (M_right (up2 I 0 0 0) (0 : Int32) (1 : Int32) (fun r1 I2 =>
    zb r1 ∧ Q r1 I2))
    else
    (if ((up2 I 0 0 0) 0 1) ≤ x1 then
    (M_right (up2 I 0 0 0) (0 : Int32) (1 : Int32) (fun r4 I5 =>
    zb r4 ∧ Q r4 I5))
    else
    (M_right (up2 I 0 0 0) (1 : Int32) (1 : Int32) (fun r7 I8 =>
    zb r7 ∧ Q r7 I8)))
def M_looks_b44 (I : HI) (x1 : Int32) (x2 : Int32) (t0 : Int32) (Q : Int32 → HI → Prop) : Prop :=
  vp_in x1 8 ∧
    if t0 = 0 then
    (Q 1 (up2 (up2 I 2 (nx x1) x2) 0 40 0))
    else
    (vp_in x1 8 ∧
    if ((up2 I 2 (nx x1) x2) 4 (nx x1)) = 1 then
    (Q 1 (up2 (up2 I 2 (nx x1) x2) 0 40 0))
    else
    (M_blank (up2 I 2 (nx x1) x2) x1 (fun I6 =>
    Q 1 (up2 I6 0 40 0))))
def M_looks (I : HI) (x1 : Int32) (x2 : Int32) (Q : Int32 → HI → Prop) : Prop :=
  M_isWearer I x1 (fun r1 I2 =>
    if r1 = 0 then
    (Q 0 I2)
    else
    (M_all I2 (fun r4 =>
    if (x2 &&& ((r4 &&& (((1 : Int32) <<< (x1 &&& 31)) ^^^ (-1))) ^^^ (-1))) = 0 then
    (vp_in x1 8 ∧
    if (I2 2 (nx x1)) = x2 then
    (M_looks_b44 I2 x1 x2 0 Q)
    else
    (M_looks_b44 I2 x1 x2 1 Q))
    else
    (Q 0 I2))))
def M_round_l58  (Q : Int32 → HI → Prop) : Nat → HI → Int32 → Prop
  | 0, _, _ => False
  | n + 1, I, x3 =>
    if (I 0 1) ≤ x3 then
    (Q 1 (up2 I 0 40 0))
    else
    (vp_in x3 8 ∧
    if (I 4 (nx x3)) = 1 then
    (M_round_l58 Q n I (x3 + 1))
    else
    (vp_in x3 8 ∧
    M_hears I x3 (fun r6 =>
    if (I 9 (nx x3)) = r6 then
    (M_round_l58 Q n I (x3 + 1))
    else
    (M_blank I x3 (fun I8 =>
    M_round_l58 Q n I8 (x3 + 1))))))
def M_round_l24 (x1 : Int32) (x2 : Int32) (Q : Int32 → HI → Prop) : Nat → HI → Int32 → Prop
  | 0, _, _ => False
  | n + 1, I, x3 =>
    if (I 0 1) ≤ x3 then
    (vp_in x1 8 ∧
    ∃ nn, M_round_l58 Q nn (up2 I 3 (nx x1) x2) 0)
    else
    (M_hears I x3 (fun r10 =>
    vp_in x3 8 ∧
    M_round_l24 x1 x2 Q n (up2 I 9 (nx x3) r10) (x3 + 1)))
def M_round (I : HI) (x1 : Int32) (x2 : Int32) (Q : Int32 → HI → Prop) : Prop :=
  M_isWearer I x1 (fun r1 I2 =>
    if r1 = 0 then
    (Q 0 I2)
    else
    (M_within x2 (0 : Int32) (7 : Int32) (fun r4 =>
    if r4 = 0 then
    (Q 0 I2)
    else
    (∃ nn, M_round_l24 x1 x2 Q nn I2 0))))
def M_heap (I : HI) (x1 : Int32) (x2 : Int32) (Q : Int32 → HI → Prop) : Prop :=
  M_within x1 (0 : Int32) (((up2 I 0 0 0) 0 2) - 1) (fun r1 =>
    if r1 = 0 then
    (Q 0 (up2 I 0 0 0))
    else
    (M_within x2 (0 : Int32) (9 : Int32) (fun r3 =>
    if r3 = 0 then
    (Q 0 (up2 I 0 0 0))
    else
    (vp_in x1 4 ∧
    Q 1 (up2 (up2 I 0 0 0) 1 (nx x1) x2)))))
def M_law (I : HI) (x1 : Int32) (x2 : Int32) (Q : Int32 → HI → Prop) : Prop :=
  M_within x1 (0 : Int32) (3 : Int32) (fun r1 =>
    if r1 = 0 then
    (Q 0 (up2 I 0 0 0))
    else
    (M_within x2 (0 : Int32) (8 : Int32) (fun r3 =>
    if r3 = 0 then
    (Q 0 (up2 I 0 0 0))
    else
    (Q 1 (up2 (up2 (up2 I 0 0 0) 0 4 x1) 0 5 x2)))))
def M_lays_l3 (x1 : Int32) (Q : HI → Prop) : Nat → HI → Int32 → Prop
  | 0, _, _ => False
  | n + 1, I, x2 =>
    if x2 < 0 then
    (Q I)
    else
    (vp_in (I 0 16) 500 ∧
    M_lays_l3 x1 Q n (up2 (up2 I 10 (nx (I 0 16)) ((x1 >>> (x2 &&& 31)) &&& 255)) 0 16 (((up2 I 10 (nx (I 0 16)) ((x1 >>> (x2 &&& 31)) &&& 255)) 0 16) + 1)) (x2 + (-8)))
def M_lays (I : HI) (x1 : Int32) (Q : HI → Prop) : Prop :=
  ∃ nn, M_lays_l3 x1 Q nn I 24
def M_feed (I : HI) (x1 : Int32) (x2 : Int32) (x3 : Int32) (x4 : Int32) (x5 : Int32) (Q : Int32 → HI → Prop) : Prop :=
  if (((up2 I 0 0 0) 0 16) + 20) ≤ 500 then
    (M_lays (up2 I 0 0 0) x1 (fun I1 =>
    M_lays I1 x2 (fun I3 =>
    M_lays I3 x3 (fun I5 =>
    M_lays I5 x4 (fun I7 =>
    M_lays I7 x5 (fun I9 =>
    Q (I9 0 16) I9))))))
    else
    (Q (-1) (up2 I 0 0 0))
def M_byteAt (I : HI) (x1 : Int32) (Q : Int32 → Prop) : Prop :=
  if (I 0 19) ≤ x1 then
    (Q 0 )
    else
    (vp_in x1 500 ∧
    Q (I 10 (nx x1)) )
def M_isLetter  (x0 : Int32) (Q : Int32 → Prop) : Prop :=
  if x0 < 97 then
    (Q 0 )
    else
    (if 122 < x0 then
    (Q 0 )
    else
    (Q 1 ))
def M_isDigit  (x0 : Int32) (Q : Int32 → Prop) : Prop :=
  if x0 < 48 then
    (Q 0 )
    else
    (if 57 < x0 then
    (Q 0 )
    else
    (Q 1 ))
def M_goes_b331 (I : HI) (J : HJ) (Q : HI → HJ → Prop) : Prop :=
  Q (up2 I 0 23 ((I 0 20) - (I 0 22))) J
def M_goes_b328 (I : HI) (J : HJ) (t0 : Int32) (Q : HI → HJ → Prop) : Prop :=
  M_goes_b331 (up2 I 0 21 t0) J Q
def M_goes_b237 (I : HI) (J : HJ) (K187 : HI → Prop) (Q : HI → HJ → Prop) : Prop :=
  K187 (up2 I 0 20 ((I 0 20) + 1))
def M_goes_l187 (J : HJ) (Q : HI → HJ → Prop) : Nat → HI → Prop
  | 0, _ => False
  | n + 1, I =>
    M_byteAt I (I 0 20) (fun r7 =>
    M_isDigit r7 (fun r9 =>
    if r9 = 0 then
    (M_goes_b331 (up2 I 0 21 2) J Q)
    else
    (if 3 ≤ ((I 0 20) - (I 0 22)) then
    (M_goes_b237 I J (fun I' => M_goes_l187 J Q n I') Q)
    else
    (M_byteAt I (I 0 20) (fun r11 =>
    M_goes_b237 (up2 I 0 24 (((10 * (I 0 24)) + r11) - 48)) J (fun I' => M_goes_l187 J Q n I') Q)))))
def M_goes_b159 (I : HI) (J : HJ) (K108 : HI → HJ → Prop) (Q : HI → HJ → Prop) : Prop :=
  K108 (up2 I 0 20 ((I 0 20) + 1)) J
def M_goes_l108  (Q : HI → HJ → Prop) : Nat → HI → HJ → Prop
  | 0, _, _ => False
  | n + 1, I, J =>
    M_byteAt I (I 0 20) (fun r13 =>
    M_isLetter r13 (fun r15 =>
    if r15 = 0 then
    (M_goes_b331 (up2 I 0 21 1) J Q)
    else
    (if 7 ≤ ((I 0 20) - (I 0 22)) then
    (M_goes_b159 I J (fun I' J' => M_goes_l108 Q n I' J') Q)
    else
    (M_byteAt I (I 0 20) (fun r17 =>
    M_goes_b159 I (up2 J 0 26 (((J 0 26) <<< (Int32.toInt64 (5 : Int32) &&& 63)) ||| (Int32.toInt64 (r17 - 96)))) (fun I' J' => M_goes_l108 Q n I' J') Q)))))
def M_goes_b50 (I : HI) (J : HJ) (Q : HI → HJ → Prop) : Prop :=
  M_byteAt (up2 (up2 I 0 22 (I 0 20)) 0 24 0) ((up2 (up2 I 0 22 (I 0 20)) 0 24 0) 0 20) (fun r1 =>
    if ((up2 (up2 (up2 I 0 22 (I 0 20)) 0 24 0) 0 25 r1) 0 20) < ((up2 (up2 (up2 I 0 22 (I 0 20)) 0 24 0) 0 25 r1) 0 19) then
    (M_isLetter r1 (fun r3 =>
    if r3 = 0 then
    (M_isDigit r1 (fun r5 =>
    if r5 = 0 then
    (if r1 = 59 then
    (M_goes_b328 (up2 (up2 (up2 (up2 I 0 22 (I 0 20)) 0 24 0) 0 25 r1) 0 20 (((up2 (up2 (up2 I 0 22 (I 0 20)) 0 24 0) 0 25 r1) 0 20) + 1)) (up2 J 0 26 (0 : Int64)) 3 Q)
    else
    (if r1 = 40 then
    (M_goes_b328 (up2 (up2 (up2 (up2 I 0 22 (I 0 20)) 0 24 0) 0 25 r1) 0 20 (((up2 (up2 (up2 I 0 22 (I 0 20)) 0 24 0) 0 25 r1) 0 20) + 1)) (up2 J 0 26 (0 : Int64)) 3 Q)
    else
    (if r1 = 41 then
    (M_goes_b328 (up2 (up2 (up2 (up2 I 0 22 (I 0 20)) 0 24 0) 0 25 r1) 0 20 (((up2 (up2 (up2 I 0 22 (I 0 20)) 0 24 0) 0 25 r1) 0 20) + 1)) (up2 J 0 26 (0 : Int64)) 3 Q)
    else
    (if r1 = 43 then
    (M_goes_b328 (up2 (up2 (up2 (up2 I 0 22 (I 0 20)) 0 24 0) 0 25 r1) 0 20 (((up2 (up2 (up2 I 0 22 (I 0 20)) 0 24 0) 0 25 r1) 0 20) + 1)) (up2 J 0 26 (0 : Int64)) 3 Q)
    else
    (if r1 = 45 then
    (M_goes_b328 (up2 (up2 (up2 (up2 I 0 22 (I 0 20)) 0 24 0) 0 25 r1) 0 20 (((up2 (up2 (up2 I 0 22 (I 0 20)) 0 24 0) 0 25 r1) 0 20) + 1)) (up2 J 0 26 (0 : Int64)) 3 Q)
    else
    (if r1 = 42 then
    (M_goes_b328 (up2 (up2 (up2 (up2 I 0 22 (I 0 20)) 0 24 0) 0 25 r1) 0 20 (((up2 (up2 (up2 I 0 22 (I 0 20)) 0 24 0) 0 25 r1) 0 20) + 1)) (up2 J 0 26 (0 : Int64)) 3 Q)
    else
    (if r1 = 47 then
    (M_goes_b328 (up2 (up2 (up2 (up2 I 0 22 (I 0 20)) 0 24 0) 0 25 r1) 0 20 (((up2 (up2 (up2 I 0 22 (I 0 20)) 0 24 0) 0 25 r1) 0 20) + 1)) (up2 J 0 26 (0 : Int64)) 3 Q)
    else
    (if r1 = 60 then
    (M_goes_b328 (up2 (up2 (up2 (up2 I 0 22 (I 0 20)) 0 24 0) 0 25 r1) 0 20 (((up2 (up2 (up2 I 0 22 (I 0 20)) 0 24 0) 0 25 r1) 0 20) + 1)) (up2 J 0 26 (0 : Int64)) 3 Q)
    else
    (if r1 = 61 then
    (M_goes_b328 (up2 (up2 (up2 (up2 I 0 22 (I 0 20)) 0 24 0) 0 25 r1) 0 20 (((up2 (up2 (up2 I 0 22 (I 0 20)) 0 24 0) 0 25 r1) 0 20) + 1)) (up2 J 0 26 (0 : Int64)) 3 Q)
    else
    (M_goes_b328 (up2 (up2 (up2 (up2 I 0 22 (I 0 20)) 0 24 0) 0 25 r1) 0 20 (((up2 (up2 (up2 I 0 22 (I 0 20)) 0 24 0) 0 25 r1) 0 20) + 1)) (up2 J 0 26 (0 : Int64)) 4 Q))))))))))
    else
    (∃ nn, M_goes_l187 (up2 J 0 26 (0 : Int64)) Q nn (up2 (up2 (up2 I 0 22 (I 0 20)) 0 24 0) 0 25 r1))))
    else
    (∃ nn, M_goes_l108 Q nn (up2 (up2 (up2 I 0 22 (I 0 20)) 0 24 0) 0 25 r1) (up2 J 0 26 (0 : Int64)))))
    else
    (M_goes_b331 (up2 (up2 (up2 (up2 I 0 22 (I 0 20)) 0 24 0) 0 25 r1) 0 21 0) (up2 J 0 26 (0 : Int64)) Q))
def M_goes_b37 (I : HI) (J : HJ) (K0 : HI → Prop) (Q : HI → HJ → Prop) : Prop :=
  K0 (up2 I 0 20 ((I 0 20) + 1))
def M_goes_l0 (J : HJ) (Q : HI → HJ → Prop) : Nat → HI → Prop
  | 0, _ => False
  | n + 1, I =>
    if (I 0 19) ≤ (I 0 20) then
    (M_goes_b50 I J Q)
    else
    (M_byteAt I (I 0 20) (fun r19 =>
    if r19 = 32 then
    (M_goes_b37 I J (fun I' => M_goes_l0 J Q n I') Q)
    else
    (M_byteAt I (I 0 20) (fun r21 =>
    if r21 = 10 then
    (M_goes_b37 I J (fun I' => M_goes_l0 J Q n I') Q)
    else
    (M_goes_b50 I J Q)))))
def M_goes (I : HI) (J : HJ)  (Q : HI → HJ → Prop) : Prop :=
  ∃ nn, M_goes_l0 J Q nn I
def M_spelled_b73 (x5 : Int32) (x6 : Int64) (Q : Int64 → Prop) : Prop :=
  if x5 = 0 then
    (Q x6 )
    else
    (Q ((x6 <<< (Int32.toInt64 (5 : Int32) &&& 63)) ||| (Int32.toInt64 (x5 - 96))) )
def M_spelled_b55 (x4 : Int32) (x5 : Int32) (x6 : Int64) (Q : Int64 → Prop) : Prop :=
  if x4 = 0 then
    (M_spelled_b73 x5 x6 Q)
    else
    (M_spelled_b73 x5 ((x6 <<< (Int32.toInt64 (5 : Int32) &&& 63)) ||| (Int32.toInt64 (x4 - 96))) Q)
def M_spelled_b39 (x3 : Int32) (x4 : Int32) (x5 : Int32) (x6 : Int64) (Q : Int64 → Prop) : Prop :=
  if x3 = 0 then
    (M_spelled_b55 x4 x5 x6 Q)
    else
    (M_spelled_b55 x4 x5 ((x6 <<< (Int32.toInt64 (5 : Int32) &&& 63)) ||| (Int32.toInt64 (x3 - 96))) Q)
def M_spelled_b23 (x2 : Int32) (x3 : Int32) (x4 : Int32) (x5 : Int32) (x6 : Int64) (Q : Int64 → Prop) : Prop :=
  if x2 = 0 then
    (M_spelled_b39 x3 x4 x5 x6 Q)
    else
    (M_spelled_b39 x3 x4 x5 ((x6 <<< (Int32.toInt64 (5 : Int32) &&& 63)) ||| (Int32.toInt64 (x2 - 96))) Q)
def M_spelled  (x0 : Int32) (x1 : Int32) (x2 : Int32) (x3 : Int32) (x4 : Int32) (x5 : Int32) (Q : Int64 → Prop) : Prop :=
  if x1 = 0 then
    (M_spelled_b23 x2 x3 x4 x5 (Int32.toInt64 (x0 - 96)) Q)
    else
    (M_spelled_b23 x2 x3 x4 x5 (((Int32.toInt64 (x0 - 96)) <<< (Int32.toInt64 (5 : Int32) &&& 63)) ||| (Int32.toInt64 (x1 - 96))) Q)
def M_letters  (x0 : Int32) (Q : Int64 → Prop) : Prop :=
  if x0 = 0 then
    (M_spelled (119 : Int32) (101 : Int32) (97 : Int32) (114 : Int32) (101 : Int32) (114 : Int32) (fun r1 =>
    Q r1 ))
    else
    if x0 = 1 then
    (M_spelled (112 : Int32) (97 : Int32) (115 : Int32) (115 : Int32) (0 : Int32) (0 : Int32) (fun r3 =>
    Q r3 ))
    else
    if x0 = 2 then
    (M_spelled (103 : Int32) (117 : Int32) (101 : Int32) (115 : Int32) (115 : Int32) (0 : Int32) (fun r5 =>
    Q r5 ))
    else
    if x0 = 3 then
    (M_spelled (97 : Int32) (110 : Int32) (100 : Int32) (0 : Int32) (0 : Int32) (0 : Int32) (fun r7 =>
    Q r7 ))
    else
    if x0 = 4 then
    (M_spelled (111 : Int32) (114 : Int32) (0 : Int32) (0 : Int32) (0 : Int32) (0 : Int32) (fun r9 =>
    Q r9 ))
    else
    if x0 = 5 then
    (M_spelled (110 : Int32) (111 : Int32) (116 : Int32) (0 : Int32) (0 : Int32) (0 : Int32) (fun r11 =>
    Q r11 ))
    else
    if x0 = 6 then
    (M_spelled (109 : Int32) (101 : Int32) (0 : Int32) (0 : Int32) (0 : Int32) (0 : Int32) (fun r13 =>
    Q r13 ))
    else
    if x0 = 7 then
    (M_spelled (110 : Int32) (0 : Int32) (0 : Int32) (0 : Int32) (0 : Int32) (0 : Int32) (fun r15 =>
    Q r15 ))
    else
    if x0 = 8 then
    (M_spelled (113 : Int32) (0 : Int32) (0 : Int32) (0 : Int32) (0 : Int32) (0 : Int32) (fun r17 =>
    Q r17 ))
    else
    if x0 = 9 then
    (M_spelled (115 : Int32) (101 : Int32) (101 : Int32) (115 : Int32) (0 : Int32) (0 : Int32) (fun r19 =>
    Q r19 ))
    else
    if x0 = 10 then
    (M_spelled (104 : Int32) (101 : Int32) (97 : Int32) (114 : Int32) (115 : Int32) (0 : Int32) (fun r21 =>
    Q r21 ))
    else
    if x0 = 11 then
    (M_spelled (115 : Int32) (101 : Int32) (101 : Int32) (110 : Int32) (0 : Int32) (0 : Int32) (fun r23 =>
    Q r23 ))
    else
    (M_spelled (104 : Int32) (101 : Int32) (97 : Int32) (114 : Int32) (100 : Int32) (0 : Int32) (fun r25 =>
    Q r25 ))
def M_knownWord_l21 (I : HI) (J : HJ) (Q : Int32 → Prop) : Nat → Int32 → Prop
  | 0, _ => False
  | n + 1, x1 =>
    if 13 ≤ x1 then
    (Q (-1) )
    else
    (M_letters x1 (fun r1 =>
    if (lg_cmp r1 (J 0 26)) = 0 then
    (Q x1 )
    else
    (M_knownWord_l21 I J Q n (x1 + 1))))
def M_knownWord (I : HI) (J : HJ)  (Q : Int32 → Prop) : Prop :=
  if (I 0 21) = 1 then
    (if (I 0 23) ≤ 6 then
    (∃ nn, M_knownWord_l21 I J Q nn 0)
    else
    (Q (-1) ))
    else
    (Q (-1) )
def M_wrong (I : HI) (x1 : Int32) (Q : HI → Prop) : Prop :=
  if (I 0 17) = 0 then
    (Q (up2 (up2 I 0 17 x1) 0 18 ((up2 I 0 17 x1) 0 22)))
    else
    (Q I)
def M_isGood (I : HI)  (Q : Int32 → Prop) : Prop :=
  if (I 0 17) = 0 then
    (Q 1 )
    else
    (Q 0 )
def M_isSign (I : HI) (x1 : Int32) (Q : Int32 → Prop) : Prop :=
  if (I 0 21) = 3 then
    (if (I 0 25) = x1 then
    (Q 1 )
    else
    (Q 0 ))
    else
    (Q 0 )
def M_puts (I : HI) (x1 : Int32) (Q : HI → Prop) : Prop :=
  vp_in (I 0 28) 1600 ∧
    Q (up2 (up2 I 14 (nx (I 0 28)) x1) 0 28 (((up2 I 14 (nx (I 0 28)) x1) 0 28) + 1))
def M_strength  (x0 : Int32) (Q : Int32 → Prop) : Prop :=
  if x0 = 12 then
    (Q 0 )
    else
    (if x0 = 5 then
    (Q 1 )
    else
    (if x0 = 4 then
    (Q 2 )
    else
    (if x0 = 3 then
    (Q 3 )
    else
    (if x0 = 6 then
    (Q 4 )
    else
    (if x0 = 7 then
    (Q 4 )
    else
    (if x0 = 8 then
    (Q 5 )
    else
    (if x0 = 9 then
    (Q 5 )
    else
    (Q 6 ))))))))
def M_drops_l0 (x1 : Int32) (Q : HI → Prop) : Nat → HI → Prop
  | 0, _ => False
  | n + 1, I =>
    if (I 0 29) ≤ 0 then
    (Q I)
    else
    (vp_in ((I 0 29) - 1) 520 ∧
    if (I 15 (nx ((I 0 29) - 1))) = 12 then
    (Q I)
    else
    (vp_in ((I 0 29) - 1) 520 ∧
    M_strength (I 15 (nx ((I 0 29) - 1))) (fun r1 =>
    if r1 < x1 then
    (Q I)
    else
    (vp_in ((up2 I 0 29 ((I 0 29) - 1)) 0 29) 520 ∧
    M_puts (up2 I 0 29 ((I 0 29) - 1)) ((up2 I 0 29 ((I 0 29) - 1)) 15 (nx ((up2 I 0 29 ((I 0 29) - 1)) 0 29))) (fun I3 =>
    M_drops_l0 x1 Q n I3)))))
def M_drops (I : HI) (x1 : Int32) (Q : HI → Prop) : Prop :=
  ∃ nn, M_drops_l0 x1 Q nn I
def M_waitsFor (I : HI) (x1 : Int32) (Q : HI → Prop) : Prop :=
  vp_in (I 0 29) 520 ∧
    Q (up2 (up2 I 15 (nx (I 0 29)) x1) 0 29 (((up2 I 15 (nx (I 0 29)) x1) 0 29) + 1))
def M_wearer_b57 (I : HI) (J : HJ) (Q : Int32 → HI → HJ → Prop) : Prop :=
  M_isGood I (fun r3 =>
    if r3 = 0 then
    (Q (I 0 24) I J)
    else
    (M_goes I J (fun I5 J6 =>
    Q (I 0 24) I5 J6)))
def M_wearer (I : HI) (J : HJ)  (Q : Int32 → HI → HJ → Prop) : Prop :=
  M_isGood I (fun r1 =>
    if r1 = 0 then
    (Q 0 I J)
    else
    (if (I 0 21) = 2 then
    (if (I 0 23) ≤ 3 then
    (if (I 0 24) < (I 0 1) then
    (M_wearer_b57 I J Q)
    else
    (M_wrong I (4 : Int32) (fun I8 =>
    M_wearer_b57 I8 J Q)))
    else
    (M_wrong I (2 : Int32) (fun I10 =>
    M_wearer_b57 I10 J Q)))
    else
    (M_wrong I (1 : Int32) (fun I12 =>
    M_wearer_b57 I12 J Q))))
def M_part_b118 (I : HI) (J : HJ) (x1 : Int32) (t0 : Int32) (Q : HI → HJ → Prop) : Prop :=
  M_puts I (2 : Int32) (fun I14 =>
    M_puts I14 ((16 * t0) + x1) (fun I16 =>
    Q I16 J))
def M_part_b86 (I : HI) (J : HJ) (x1 : Int32) (Q : HI → HJ → Prop) : Prop :=
  M_isGood I (fun r5 =>
    if r5 = 0 then
    (Q I J)
    else
    (M_goes I J (fun I7 J8 =>
    if x1 = 9 then
    (M_wearer I7 J8 (fun r10 I11 J12 =>
    M_part_b118 I11 J12 x1 r10 Q))
    else
    (if x1 = 10 then
    (M_wearer I7 J8 (fun r18 I19 J20 =>
    M_part_b118 I19 J20 x1 r18 Q))
    else
    (M_part_b118 I7 J8 x1 0 Q)))))
def M_part_b29 (I : HI) (J : HJ) (Q : HI → HJ → Prop) : Prop :=
  M_puts I (1 : Int32) (fun I26 =>
    M_puts I26 (I26 0 24) (fun I28 =>
    M_isGood I28 (fun r30 =>
    if r30 = 0 then
    (Q I28 J)
    else
    (M_goes I28 J (fun I32 J33 =>
    Q I32 J33)))))
def M_part (I : HI) (J : HJ)  (Q : HI → HJ → Prop) : Prop :=
  M_isGood I (fun r1 =>
    if r1 = 0 then
    (Q I J)
    else
    (if (I 0 21) = 2 then
    (if (I 0 23) ≤ 3 then
    (M_part_b29 I J Q)
    else
    (M_wrong I (2 : Int32) (fun I35 =>
    M_part_b29 I35 J Q)))
    else
    (M_knownWord I J (fun r3 =>
    if (I 0 21) = 1 then
    (if 6 ≤ r3 then
    (M_part_b86 I J r3 Q)
    else
    (M_wrong I (3 : Int32) (fun I22 =>
    M_part_b86 I22 J r3 Q)))
    else
    (M_wrong I (1 : Int32) (fun I24 =>
    M_part_b86 I24 J r3 Q))))))
def M_begins (I : HI)  (Q : HI → Prop) : Prop :=
  if 6 ≤ (I 0 30) then
    (if (I 0 21) = 2 then
    (M_wrong I (2 : Int32) (fun I1 =>
    Q I1))
    else
    (if (I 0 21) = 1 then
    (M_wrong I (2 : Int32) (fun I3 =>
    Q I3))
    else
    (M_isSign I (40 : Int32) (fun r5 =>
    if r5 = 0 then
    (M_wrong I (1 : Int32) (fun I7 =>
    Q I7))
    else
    (M_wrong I (2 : Int32) (fun I9 =>
    Q I9))))))
    else
    (vp_in ((up2 I 0 30 ((I 0 30) + 1)) 0 30) 9 ∧
    Q (up2 (up2 I 0 30 ((I 0 30) + 1)) 16 (nx ((up2 I 0 30 ((I 0 30) + 1)) 0 30)) (vp_nar .boolean 0)))
def M_operand_b95 (I : HI) (J : HJ) (x2 : Int32) (t0 : Int32) (K4 : HI → HJ → Int32 → Int32 → Prop) (Q : HI → HJ → Prop) : Prop :=
  if t0 = 0 then
    (K4 I J x2 t0)
    else
    (M_waitsFor I (12 : Int32) (fun I13 =>
    M_goes I13 J (fun I15 J16 =>
    M_begins I15 (fun I18 =>
    K4 I18 J16 1 t0))))
def M_operand_b94 (I : HI) (J : HJ) (x2 : Int32) (K4 : HI → HJ → Int32 → Int32 → Prop) (Q : HI → HJ → Prop) : Prop :=
  M_operand_b95 I J x2 0 K4 Q
def M_operand_b74 (I : HI) (J : HJ) (x2 : Int32) (K4 : HI → HJ → Int32 → Int32 → Prop) (Q : HI → HJ → Prop) : Prop :=
  M_isGood I (fun r11 =>
    if r11 = 0 then
    (M_operand_b94 I J x2 K4 Q)
    else
    (M_isSign I (40 : Int32) (fun r20 =>
    if r20 = 0 then
    (M_operand_b94 I J x2 K4 Q)
    else
    (M_operand_b95 I J x2 1 K4 Q))))
def M_operand_b49 (I : HI) (J : HJ) (x2 : Int32) (x4 : Int32) (K4 : HI → HJ → Int32 → Int32 → Prop) (K18 : HI → HJ → Int32 → Prop) (Q : HI → HJ → Prop) : Prop :=
  M_isGood I (fun r24 =>
    if r24 = 0 then
    (K18 I J (x4 + 1))
    else
    (M_waitsFor I (3 : Int32) (fun I26 =>
    M_goes I26 J (fun I28 J29 =>
    K18 I28 J29 (x4 + 1)))))
def M_operand_l18 (x2 : Int32) (K4 : HI → HJ → Int32 → Int32 → Prop) (Q : HI → HJ → Prop) : Nat → HI → HJ → Int32 → Prop
  | 0, _, _, _ => False
  | n + 1, I, J, x4 =>
    M_isGood I (fun r9 =>
    if r9 = 0 then
    (M_operand_b74 I J x2 K4 Q)
    else
    (if x2 = 0 then
    (M_operand_b74 I J x2 K4 Q)
    else
    (M_knownWord I J (fun r22 =>
    if r22 = 5 then
    (if x4 = 6 then
    (M_wrong I (2 : Int32) (fun I31 =>
    M_operand_b49 I31 J x2 x4 K4 (fun I' J' x4' => M_operand_l18 x2 K4 Q n I' J' x4') Q))
    else
    (M_operand_b49 I J x2 x4 K4 (fun I' J' x4' => M_operand_l18 x2 K4 Q n I' J' x4') Q))
    else
    (M_operand_b74 I J x2 K4 Q)))))
def M_operand_l4  (Q : HI → HJ → Prop) : Nat → HI → HJ → Int32 → Int32 → Prop
  | 0, _, _, _, _ => False
  | n + 1, I, J, x2, x3 =>
    if x3 = 0 then
    (M_part I J (fun I1 J2 =>
    Q I1 J2))
    else
    (M_isGood I (fun r4 =>
    if r4 = 0 then
    (M_part I J (fun I6 J7 =>
    Q I6 J7))
    else
    (∃ nn, M_operand_l18 x2 (fun I' J' x2' x3' => M_operand_l4 Q n I' J' x2' x3') Q nn I J 0)))
def M_operand (I : HI) (J : HJ) (x1 : Int32) (Q : HI → HJ → Prop) : Prop :=
  ∃ nn, M_operand_l4 Q nn I J x1 1
def M_expression_b373 (I : HI) (J : HJ) (x1 : Int32) (Q : Int32 → HI → HJ → Prop) : Prop :=
  M_drops I (0 : Int32) (fun I10 =>
    M_puts I10 (0 : Int32) (fun I12 =>
    Q x1 I12 J))
def M_expression_b353 (I : HI) (J : HJ) (x1 : Int32) (Q : Int32 → HI → HJ → Prop) : Prop :=
  M_isGood I (fun r8 =>
    if r8 = 0 then
    (M_expression_b373 I J x1 Q)
    else
    (if (I 0 30) ≤ 1 then
    (M_expression_b373 I J x1 Q)
    else
    (M_wrong I (1 : Int32) (fun I14 =>
    M_expression_b373 I14 J x1 Q))))
def M_expression_b86 (I : HI) (J : HJ) (x1 : Int32) (x2 : Int32) (t0 : Int32) (K35 : HI → HJ → Int32 → Prop) (Q : Int32 → HI → HJ → Prop) : Prop :=
  M_waitsFor I t0 (fun I22 =>
    vp_in (I22 0 30) 9 ∧
    M_goes (up2 I22 16 (nx (I22 0 30)) (vp_nar .boolean 0)) J (fun I24 J25 =>
    M_operand I24 J25 (1 : Int32) (fun I27 J28 =>
    K35 I27 J28 x2)))
def M_expression_b72 (I : HI) (J : HJ) (x1 : Int32) (x2 : Int32) (x3 : Int32) (t0 : Int32) (K35 : HI → HJ → Int32 → Prop) (Q : Int32 → HI → HJ → Prop) : Prop :=
  M_drops I t0 (fun I20 =>
    if x3 = 3 then
    (M_expression_b86 I20 J x1 x2 4 K35 Q)
    else
    (M_expression_b86 I20 J x1 x2 5 K35 Q))
def M_expression_b61 (I : HI) (J : HJ) (x1 : Int32) (x2 : Int32) (x3 : Int32) (K35 : HI → HJ → Int32 → Prop) (Q : Int32 → HI → HJ → Prop) : Prop :=
  if x3 = 3 then
    (M_expression_b72 I J x1 x2 x3 2 K35 Q)
    else
    (M_expression_b72 I J x1 x2 x3 1 K35 Q)
def M_expression_b228 (I : HI) (J : HJ) (x1 : Int32) (x2 : Int32) (t0 : Int32) (K35 : HI → HJ → Int32 → Prop) (Q : Int32 → HI → HJ → Prop) : Prop :=
  M_waitsFor I t0 (fun I38 =>
    M_goes I38 J (fun I40 J41 =>
    M_operand I40 J41 (0 : Int32) (fun I43 J44 =>
    K35 I43 J44 x2)))
def M_expression_b206 (I : HI) (J : HJ) (x1 : Int32) (x2 : Int32) (K35 : HI → HJ → Int32 → Prop) (Q : Int32 → HI → HJ → Prop) : Prop :=
  M_drops I (5 : Int32) (fun I34 =>
    M_isSign I34 (43 : Int32) (fun r36 =>
    if r36 = 0 then
    (M_expression_b228 I34 J x1 x2 9 K35 Q)
    else
    (M_expression_b228 I34 J x1 x2 8 K35 Q)))
def M_expression_b284 (I : HI) (J : HJ) (x1 : Int32) (x2 : Int32) (t0 : Int32) (K35 : HI → HJ → Int32 → Prop) (Q : Int32 → HI → HJ → Prop) : Prop :=
  M_waitsFor I t0 (fun I54 =>
    M_goes I54 J (fun I56 J57 =>
    M_operand I56 J57 (0 : Int32) (fun I59 J60 =>
    K35 I59 J60 x2)))
def M_expression_b261 (I : HI) (J : HJ) (x1 : Int32) (x2 : Int32) (K35 : HI → HJ → Int32 → Prop) (Q : Int32 → HI → HJ → Prop) : Prop :=
  M_drops I (6 : Int32) (fun I50 =>
    M_isSign I50 (42 : Int32) (fun r52 =>
    if r52 = 0 then
    (M_expression_b284 I50 J x1 x2 11 K35 Q)
    else
    (M_expression_b284 I50 J x1 x2 10 K35 Q)))
def M_expression_b188 (I : HI) (J : HJ) (x1 : Int32) (x2 : Int32) (K35 : HI → HJ → Int32 → Prop) (Q : Int32 → HI → HJ → Prop) : Prop :=
  M_isSign I (43 : Int32) (fun r32 =>
    if r32 = 0 then
    (M_isSign I (45 : Int32) (fun r46 =>
    if r46 = 0 then
    (M_isSign I (42 : Int32) (fun r48 =>
    if r48 = 0 then
    (M_isSign I (47 : Int32) (fun r62 =>
    if r62 = 0 then
    (M_isSign I (41 : Int32) (fun r64 =>
    if r64 = 0 then
    (K35 I J 0)
    else
    (if (I 0 30) ≤ 1 then
    (K35 I J 0)
    else
    (M_drops I (0 : Int32) (fun I66 =>
    M_goes (up2 (up2 I66 0 29 ((I66 0 29) - 1)) 0 30 (((up2 I66 0 29 ((I66 0 29) - 1)) 0 30) - 1)) J (fun I68 J69 =>
    K35 I68 J69 x2))))))
    else
    (M_expression_b261 I J x1 x2 K35 Q)))
    else
    (M_expression_b261 I J x1 x2 K35 Q)))
    else
    (M_expression_b206 I J x1 x2 K35 Q)))
    else
    (M_expression_b206 I J x1 x2 K35 Q))
def M_expression_b163 (I : HI) (J : HJ) (x1 : Int32) (x2 : Int32) (t0 : Int32) (K35 : HI → HJ → Int32 → Prop) (Q : Int32 → HI → HJ → Prop) : Prop :=
  M_waitsFor I t0 (fun I75 =>
    vp_in (I75 0 30) 9 ∧
    M_goes (up2 I75 16 (nx (I75 0 30)) (vp_nar .boolean 1)) J (fun I77 J78 =>
    M_operand I77 J78 (0 : Int32) (fun I80 J81 =>
    K35 I80 J81 x2)))
def M_expression_b129 (I : HI) (J : HJ) (x1 : Int32) (x2 : Int32) (K35 : HI → HJ → Int32 → Prop) (Q : Int32 → HI → HJ → Prop) : Prop :=
  vp_in (I 0 30) 9 ∧
    if (I 16 (nx (I 0 30))) = 0 then
    (M_drops I (4 : Int32) (fun I71 =>
    M_isSign I71 (60 : Int32) (fun r73 =>
    if r73 = 0 then
    (M_expression_b163 I71 J x1 x2 7 K35 Q)
    else
    (M_expression_b163 I71 J x1 x2 6 K35 Q))))
    else
    (M_expression_b188 I J x1 x2 K35 Q)
def M_expression_l35 (x1 : Int32) (Q : Int32 → HI → HJ → Prop) : Nat → HI → HJ → Int32 → Prop
  | 0, _, _, _ => False
  | n + 1, I, J, x2 =>
    if x2 = 0 then
    (M_expression_b353 I J x1 Q)
    else
    (M_isGood I (fun r16 =>
    if r16 = 0 then
    (M_expression_b353 I J x1 Q)
    else
    (M_knownWord I J (fun r18 =>
    if r18 = 3 then
    (M_expression_b61 I J x1 x2 r18 (fun I' J' x2' => M_expression_l35 x1 Q n I' J' x2') Q)
    else
    (if r18 = 4 then
    (M_expression_b61 I J x1 x2 r18 (fun I' J' x2' => M_expression_l35 x1 Q n I' J' x2') Q)
    else
    (M_isSign I (60 : Int32) (fun r30 =>
    if r30 = 0 then
    (M_isSign I (61 : Int32) (fun r83 =>
    if r83 = 0 then
    (M_expression_b188 I J x1 x2 (fun I' J' x2' => M_expression_l35 x1 Q n I' J' x2') Q)
    else
    (M_expression_b129 I J x1 x2 (fun I' J' x2' => M_expression_l35 x1 Q n I' J' x2') Q)))
    else
    (M_expression_b129 I J x1 x2 (fun I' J' x2' => M_expression_l35 x1 Q n I' J' x2') Q))))))))
def M_expression (I : HI) (J : HJ)  (Q : Int32 → HI → HJ → Prop) : Prop :=
  M_isGood I (fun r1 =>
    if r1 = 0 then
    (Q (I 0 28) I J)
    else
    (M_begins (up2 (up2 I 0 29 0) 0 30 0) (fun I3 =>
    M_operand I3 J (1 : Int32) (fun I5 J6 =>
    ∃ nn, M_expression_l35 (I 0 28) Q nn I5 J6 1))))
def M_rule_b127 (I : HI) (J : HJ) (x1 : Int32) (x2 : Int32) (x3 : Int32) (Q : HI → HJ → Prop) : Prop :=
  M_isGood I (fun r27 =>
    if r27 = 0 then
    (Q I J)
    else
    (M_goes I J (fun I29 J30 =>
    vp_in (I29 0 27) 16 ∧
    vp_in ((up2 I29 11 (nx (I29 0 27)) x1) 0 27) 16 ∧
    vp_in ((up2 (up2 I29 11 (nx (I29 0 27)) x1) 12 (nx ((up2 I29 11 (nx (I29 0 27)) x1) 0 27)) x2) 0 27) 16 ∧
    Q (up2 (up2 (up2 (up2 I29 11 (nx (I29 0 27)) x1) 12 (nx ((up2 I29 11 (nx (I29 0 27)) x1) 0 27)) x2) 13 (nx ((up2 (up2 I29 11 (nx (I29 0 27)) x1) 12 (nx ((up2 I29 11 (nx (I29 0 27)) x1) 0 27)) x2) 0 27)) x3) 0 27 (((up2 (up2 (up2 I29 11 (nx (I29 0 27)) x1) 12 (nx ((up2 I29 11 (nx (I29 0 27)) x1) 0 27)) x2) 13 (nx ((up2 (up2 I29 11 (nx (I29 0 27)) x1) 12 (nx ((up2 I29 11 (nx (I29 0 27)) x1) 0 27)) x2) 0 27)) x3) 0 27) + 1)) J30)))
def M_rule_b89 (I : HI) (J : HJ) (x1 : Int32) (x2 : Int32) (Q : HI → HJ → Prop) : Prop :=
  M_isGood I (fun r16 =>
    if r16 = 0 then
    (Q I J)
    else
    (M_goes I J (fun I18 J19 =>
    M_expression I18 J19 (fun r21 I22 J23 =>
    M_isGood I22 (fun r25 =>
    if r25 = 0 then
    (M_rule_b127 I22 J23 x1 x2 r21 Q)
    else
    (M_isSign I22 (59 : Int32) (fun r32 =>
    if r32 = 0 then
    (M_wrong I22 (1 : Int32) (fun I34 =>
    M_rule_b127 I34 J23 x1 x2 r21 Q))
    else
    (M_rule_b127 I22 J23 x1 x2 r21 Q))))))))
def M_rule_b69 (I : HI) (J : HJ) (x1 : Int32) (x2 : Int32) (Q : HI → HJ → Prop) : Prop :=
  M_isGood I (fun r14 =>
    if r14 = 0 then
    (M_rule_b89 I J x1 x2 Q)
    else
    (M_knownWord I J (fun r36 =>
    if r36 = 2 then
    (M_rule_b89 I J x1 x2 Q)
    else
    (M_wrong I (1 : Int32) (fun I38 =>
    M_rule_b89 I38 J x1 x2 Q)))))
def M_rule_b26 (I : HI) (J : HJ) (Q : HI → HJ → Prop) : Prop :=
  M_isGood I (fun r3 =>
    if r3 = 0 then
    (Q I J)
    else
    (M_goes I J (fun I5 J6 =>
    M_wearer I5 J6 (fun r8 I9 J10 =>
    M_isGood I9 (fun r12 =>
    if r12 = 0 then
    (M_rule_b69 I9 J10 r8 (-1) Q)
    else
    (M_knownWord I9 J10 (fun r40 =>
    if r40 = 1 then
    (M_goes I9 J10 (fun I42 J43 =>
    M_expression I42 J43 (fun r45 I46 J47 =>
    M_rule_b69 I46 J47 r8 r45 Q)))
    else
    (M_rule_b69 I9 J10 r8 (-1) Q))))))))
def M_rule_b12 (I : HI) (J : HJ) (Q : HI → HJ → Prop) : Prop :=
  if (I 0 27) = 16 then
    (M_wrong I (2 : Int32) (fun I49 =>
    M_rule_b26 I49 J Q))
    else
    (M_rule_b26 I J Q)
def M_rule (I : HI) (J : HJ)  (Q : HI → HJ → Prop) : Prop :=
  M_knownWord I J (fun r1 =>
    if r1 = 0 then
    (M_rule_b12 I J Q)
    else
    (M_wrong I (1 : Int32) (fun I51 =>
    M_rule_b12 I51 J Q)))
def M_copies_b63 (I : HI) (x1 : Int32) (x4 : Int32) (x5 : Int32) (t0 : Int32) (K6 : HI → Int32 → Int32 → Prop) (Q : Int32 → HI → Prop) : Prop :=
  if t0 = 0 then
    (K6 I (x4 + 1) (x5 + 1))
    else
    (vp_in (x4 + 1) 1600 ∧
    vp_in ((1000 * x1) + (x5 + 1)) 8000 ∧
    K6 (up2 I 6 (nx ((1000 * x1) + (x5 + 1))) (I 14 (nx (x4 + 1)))) ((x4 + 1) + 1) ((x5 + 1) + 1))
def M_copies_l6 (x1 : Int32) (Q : Int32 → HI → Prop) : Nat → HI → Int32 → Int32 → Prop
  | 0, _, _, _ => False
  | n + 1, I, x4, x5 =>
    vp_in x4 1600 ∧
    if (I 14 (nx x4)) = 0 then
    (vp_in ((1000 * x1) + x5) 8000 ∧
    Q (x5 + 1) (up2 I 6 (nx ((1000 * x1) + x5)) 0))
    else
    (vp_in x4 1600 ∧
    vp_in ((1000 * x1) + x5) 8000 ∧
    vp_in x4 1600 ∧
    if ((up2 I 6 (nx ((1000 * x1) + x5)) (I 14 (nx x4))) 14 (nx x4)) = 1 then
    (M_copies_b63 (up2 I 6 (nx ((1000 * x1) + x5)) (I 14 (nx x4))) x1 x4 x5 1 (fun I' x4' x5' => M_copies_l6 x1 Q n I' x4' x5') Q)
    else
    (vp_in x4 1600 ∧
    if ((up2 I 6 (nx ((1000 * x1) + x5)) (I 14 (nx x4))) 14 (nx x4)) = 2 then
    (M_copies_b63 (up2 I 6 (nx ((1000 * x1) + x5)) (I 14 (nx x4))) x1 x4 x5 1 (fun I' x4' x5' => M_copies_l6 x1 Q n I' x4' x5') Q)
    else
    (M_copies_b63 (up2 I 6 (nx ((1000 * x1) + x5)) (I 14 (nx x4))) x1 x4 x5 0 (fun I' x4' x5' => M_copies_l6 x1 Q n I' x4' x5') Q)))
def M_copies (I : HI) (x1 : Int32) (x2 : Int32) (x3 : Int32) (Q : Int32 → HI → Prop) : Prop :=
  ∃ nn, M_copies_l6 x1 Q nn I x2 x3
def M_rules_b169 (I : HI) (J : HJ) (x2 : Int32) (x3 : Int32) (x4 : Int32) (K106 : HI → Int32 → Prop) (Q : Int32 → HI → HJ → Prop) : Prop :=
  vp_in x3 8 ∧
    vp_in x2 16 ∧
    M_copies (up2 I 8 (nx x3) x4) x3 ((up2 I 8 (nx x3) x4) 13 (nx x2)) x4 (fun r11 I12 =>
    K106 I12 (x2 + 1))
def M_rules_l106 (J : HJ) (Q : Int32 → HI → HJ → Prop) : Nat → HI → Int32 → Prop
  | 0, _, _ => False
  | n + 1, I, x2 =>
    if (I 0 27) ≤ x2 then
    (Q 0 (up2 I 0 40 0) J)
    else
    (vp_in x2 16 ∧
    vp_in (I 11 (nx x2)) 8 ∧
    vp_in (I 11 (nx x2)) 8 ∧
    vp_in x2 16 ∧
    if ((up2 (up2 I 4 (nx (I 11 (nx x2))) 1) 7 (nx (I 11 (nx x2))) (-1)) 12 (nx x2)) = (-1) then
    (M_rules_b169 (up2 (up2 I 4 (nx (I 11 (nx x2))) 1) 7 (nx (I 11 (nx x2))) (-1)) J x2 (I 11 (nx x2)) 0 (fun I' x2' => M_rules_l106 J Q n I' x2') Q)
    else
    (vp_in (I 11 (nx x2)) 8 ∧
    vp_in x2 16 ∧
    M_copies (up2 (up2 (up2 I 4 (nx (I 11 (nx x2))) 1) 7 (nx (I 11 (nx x2))) (-1)) 7 (nx (I 11 (nx x2))) 0) (I 11 (nx x2)) ((up2 (up2 (up2 I 4 (nx (I 11 (nx x2))) 1) 7 (nx (I 11 (nx x2))) (-1)) 7 (nx (I 11 (nx x2))) 0) 12 (nx x2)) (0 : Int32) (fun r14 I15 =>
    M_rules_b169 I15 J x2 (I 11 (nx x2)) r14 (fun I' x2' => M_rules_l106 J Q n I' x2') Q)))
def M_rules_b92 (I : HI) (J : HJ) (Q : Int32 → HI → HJ → Prop) : Prop :=
  M_isGood I (fun r9 =>
    if r9 = 0 then
    (Q (I 0 17) I J)
    else
    (∃ nn, M_rules_l106 J Q nn I 0))
def M_rules_l71  (Q : Int32 → HI → HJ → Prop) : Nat → HI → HJ → Prop
  | 0, _, _ => False
  | n + 1, I, J =>
    M_isGood I (fun r7 =>
    if r7 = 0 then
    (M_rules_b92 I J Q)
    else
    (if (I 0 21) = 0 then
    (M_rules_b92 I J Q)
    else
    (M_rule I J (fun I17 J18 =>
    M_rules_l71 Q n I17 J18))))
def M_rules_b23 (I : HI) (J : HJ) (x1 : Int32) (t0 : Int32) (Q : Int32 → HI → HJ → Prop) : Prop :=
  M_right I t0 (1 : Int32) (fun r1 I2 =>
    if r1 = 0 then
    (Q 0 I2 J)
    else
    (M_goes (up2 (up2 (up2 (up2 (up2 (up2 (up2 I2 0 16 0) 0 18 (-1)) 0 17 0) 0 19 x1) 0 20 0) 0 28 0) 0 27 0) J (fun I4 J5 =>
    ∃ nn, M_rules_l71 Q nn I4 J5)))
def M_rules_b22 (I : HI) (J : HJ) (x1 : Int32) (Q : Int32 → HI → HJ → Prop) : Prop :=
  M_rules_b23 I J x1 0 Q
def M_rules (I : HI) (J : HJ) (x1 : Int32) (Q : Int32 → HI → HJ → Prop) : Prop :=
  if x1 < 0 then
    (M_rules_b22 (up2 I 0 0 0) J x1 Q)
    else
    (if ((up2 I 0 0 0) 0 16) < x1 then
    (M_rules_b22 (up2 I 0 0 0) J x1 Q)
    else
    (M_rules_b23 (up2 I 0 0 0) J x1 1 Q))
def M_fault (I : HI)  (Q : Int32 → HI → Prop) : Prop :=
  Q ((up2 I 0 0 0) 0 18) (up2 I 0 0 0)
def M_wears_l4  (Q : HI → Prop) : Nat → HI → Int32 → Int32 → Prop
  | 0, _, _, _ => False
  | n + 1, I, x2, x3 =>
    if (I 0 1) ≤ x3 then
    (Q I)
    else
    (¬ (I 0 2) = 0 ∧
    vp_in x3 8 ∧
    ¬ ((up2 I 17 (nx x3) (irm x2 (I 0 2))) 0 2) = 0 ∧
    M_wears_l4 Q n (up2 I 17 (nx x3) (irm x2 (I 0 2))) (x2 / ((up2 I 17 (nx x3) (irm x2 (I 0 2))) 0 2)) (x3 + 1))
def M_wears (I : HI) (x1 : Int32) (Q : HI → Prop) : Prop :=
  ∃ nn, M_wears_l4 Q nn I x1 0
def M_sum_l5 (I : HI) (r1 : Nat) (x2 : Int32) (Q : Int32 → Prop) : Nat → Int32 → Int32 → Prop
  | 0, _, _ => False
  | n + 1, x3, x4 =>
    if (I 0 1) ≤ x4 then
    (Q x3 )
    else
    (if ((x2 >>> (x4 &&& 31)) &&& 1) = 1 then
    (vp_in x4 8 ∧
    M_sum_l5 I r1 x2 Q n (x3 + (I r1 (nx x4))) (x4 + 1))
    else
    (M_sum_l5 I r1 x2 Q n (x3 + 0) (x4 + 1)))
def M_sum (I : HI) (r1 : Nat) (x2 : Int32) (Q : Int32 → Prop) : Prop :=
  ∃ nn, M_sum_l5 I r1 x2 Q nn 0 0
def M_valueOf (I : HI) (x1 : Int32) (x2 : Int32) (Q : Int32 → Prop) : Prop :=
  if (irm x2 16) = 6 then
    (Q x1 )
    else
    if (irm x2 16) = 7 then
    (Q (I 0 1) )
    else
    if (irm x2 16) = 8 then
    (Q (I 0 2) )
    else
    if (irm x2 16) = 9 then
    (vp_in x1 8 ∧
    if (((I 2 (nx x1)) >>> ((x2 / 16) &&& 31)) &&& 1) = 1 then
    (vp_in (x2 / 16) 8 ∧
    Q (I 17 (nx (x2 / 16))) )
    else
    (Q 0 ))
    else
    if (irm x2 16) = 10 then
    (M_hears I x1 (fun r1 =>
    if ((r1 >>> ((x2 / 16) &&& 31)) &&& 1) = 1 then
    (vp_in (x2 / 16) 8 ∧
    Q (I 18 (nx (x2 / 16))) )
    else
    (Q 0 )))
    else
    if (irm x2 16) = 11 then
    (vp_in x1 8 ∧
    M_sum I 17 (I 2 (nx x1)) (fun r3 =>
    Q r3 ))
    else
    (M_hears I x1 (fun r5 =>
    M_sum I 18 r5 (fun r7 =>
    Q r7 )))
def M_works  (x0 : Int32) (x1 : Int32) (x2 : Int32) (Q : Int32 → Prop) : Prop :=
  if x0 = 4 then
    (if x1 = 0 then
    (Q 0 )
    else
    (if x2 = 0 then
    (Q 0 )
    else
    (Q 1 )))
    else
    if x0 = 5 then
    (if x1 = 0 then
    (if x2 = 0 then
    (Q 0 )
    else
    (Q 1 ))
    else
    (Q 1 ))
    else
    if x0 = 6 then
    (if x2 ≤ x1 then
    (Q 0 )
    else
    (Q 1 ))
    else
    if x0 = 7 then
    (if x1 = x2 then
    (Q 1 )
    else
    (Q 0 ))
    else
    if x0 = 8 then
    (Q (x1 + x2) )
    else
    if x0 = 9 then
    (Q (x1 - x2) )
    else
    if x0 = 10 then
    (Q (x1 * x2) )
    else
    (if x2 = 0 then
    (Q 0 )
    else
    (¬ x2 = 0 ∧
    Q (x1 / x2) ))
def M_worth_b45 (I : HI) (x1 : Int32) (x3 : Int32) (x4 : Int32) (x5 : Int32) (K11 : HI → Int32 → Int32 → Prop) (Q : Int32 → HI → Prop) : Prop :=
  if x5 = 1 then
    (vp_in x4 8000 ∧
    vp_in x3 520 ∧
    K11 (up2 I 19 (nx x3) (I 6 (nx x4))) (x3 + 1) (x4 + 1))
    else
    (vp_in x4 8000 ∧
    M_valueOf I x1 (I 6 (nx x4)) (fun r1 =>
    vp_in x3 520 ∧
    K11 (up2 I 19 (nx x3) r1) (x3 + 1) (x4 + 1)))
def M_worth_l11 (x1 : Int32) (Q : Int32 → HI → Prop) : Nat → HI → Int32 → Int32 → Prop
  | 0, _, _, _ => False
  | n + 1, I, x3, x4 =>
    vp_in x4 8000 ∧
    if (I 6 (nx x4)) = 0 then
    (Q (I 19 0) I)
    else
    (vp_in x4 8000 ∧
    if (I 6 (nx x4)) = 1 then
    (M_worth_b45 I x1 x3 (x4 + 1) (I 6 (nx x4)) (fun I' x3' x4' => M_worth_l11 x1 Q n I' x3' x4') Q)
    else
    (if (I 6 (nx x4)) = 2 then
    (M_worth_b45 I x1 x3 (x4 + 1) (I 6 (nx x4)) (fun I' x3' x4' => M_worth_l11 x1 Q n I' x3' x4') Q)
    else
    (if (I 6 (nx x4)) = 3 then
    (vp_in (x3 - 1) 520 ∧
    if (I 19 (nx (x3 - 1))) = 0 then
    (vp_in (x3 - 1) 520 ∧
    M_worth_l11 x1 Q n (up2 I 19 (nx (x3 - 1)) 1) x3 (x4 + 1))
    else
    (vp_in (x3 - 1) 520 ∧
    M_worth_l11 x1 Q n (up2 I 19 (nx (x3 - 1)) 0) x3 (x4 + 1)))
    else
    (vp_in ((x3 + (-1)) - 1) 520 ∧
    vp_in (x3 + (-1)) 520 ∧
    M_works (I 6 (nx x4)) (I 19 (nx ((x3 + (-1)) - 1))) (I 19 (nx (x3 + (-1)))) (fun r3 =>
    vp_in ((x3 + (-1)) - 1) 520 ∧
    M_worth_l11 x1 Q n (up2 I 19 (nx ((x3 + (-1)) - 1)) r3) (x3 + (-1)) (x4 + 1))))))
def M_worth (I : HI) (x1 : Int32) (x2 : Int32) (Q : Int32 → HI → Prop) : Prop :=
  ∃ nn, M_worth_l11 x1 Q nn I 0 ((1000 * x1) + x2)
def M_viewOf_l68 (I : HI) (x4 : Int32) (Q : Int32 → Prop) : Nat → Int32 → Int32 → Int32 → Prop
  | 0, _, _, _ => False
  | n + 1, x2, x3, x5 =>
    if (I 0 1) ≤ x5 then
    (Q x2 )
    else
    (if ((x4 >>> (x5 &&& 31)) &&& 1) = 0 then
    (M_viewOf_l68 I x4 Q n x2 x3 (x5 + 1))
    else
    (vp_in x5 8 ∧
    M_viewOf_l68 I x4 Q n (x2 + (x3 * (I 18 (nx x5)))) (x3 * ((I 0 2) + 1)) (x5 + 1)))
def M_viewOf_l7 (I : HI) (x1 : Int32) (Q : Int32 → Prop) : Nat → Int32 → Int32 → Int32 → Prop
  | 0, _, _, _ => False
  | n + 1, x2, x3, x4 =>
    if (I 0 1) ≤ x4 then
    (M_hears I x1 (fun r1 =>
    ∃ nn, M_viewOf_l68 I r1 Q nn x2 x3 0))
    else
    (vp_in x1 8 ∧
    if (((I 2 (nx x1)) >>> (x4 &&& 31)) &&& 1) = 0 then
    (M_viewOf_l7 I x1 Q n x2 x3 (x4 + 1))
    else
    (vp_in x4 8 ∧
    M_viewOf_l7 I x1 Q n (x2 + (x3 * (I 17 (nx x4)))) (x3 * (I 0 2)) (x4 + 1)))
def M_viewOf (I : HI) (x1 : Int32) (Q : Int32 → Prop) : Prop :=
  ∃ nn, M_viewOf_l7 I x1 Q nn 0 1 0
def M_guesses_b67 (I : HI) (x1 : Int32) (Q : Int32 → HI → Prop) : Prop :=
  vp_in x1 8 ∧
    M_worth I x1 (I 8 (nx x1)) (fun r1 I2 =>
    ¬ (I2 0 2) = 0 ∧
    if 0 ≤ (irm r1 (I2 0 2)) then
    (Q (irm r1 (I2 0 2)) I2)
    else
    (Q ((irm r1 (I2 0 2)) + (I2 0 2)) I2))
def M_guesses (I : HI) (x1 : Int32) (Q : Int32 → HI → Prop) : Prop :=
  vp_in x1 8 ∧
    if (I 4 (nx x1)) = 2 then
    (Q 0 I)
    else
    (vp_in x1 8 ∧
    if (I 4 (nx x1)) = 0 then
    (M_viewOf I x1 (fun r7 =>
    vp_in ((1024 * x1) + r7) 8192 ∧
    Q (I 5 (nx ((1024 * x1) + r7))) I))
    else
    (vp_in x1 8 ∧
    if (I 7 (nx x1)) = (-1) then
    (M_guesses_b67 I x1 Q)
    else
    (vp_in x1 8 ∧
    M_worth I x1 (I 7 (nx x1)) (fun r4 I5 =>
    if r4 = 0 then
    (M_guesses_b67 I5 x1 Q)
    else
    (Q (I5 0 2) I5)))))
def M_worksRow_l15 (x2 : Int32) (K7 : HI → Int32 → Prop) (Q : HI → Prop) : Nat → HI → Int32 → Prop
  | 0, _, _ => False
  | n + 1, I, x3 =>
    if (I 0 1) ≤ x3 then
    (K7 I (x2 + 1))
    else
    (vp_in x3 8 ∧
    if (I 3 (nx x3)) = x2 then
    (M_guesses I x3 (fun r3 I4 =>
    vp_in x3 8 ∧
    M_worksRow_l15 x2 K7 Q n (up2 I4 18 (nx x3) r3) (x3 + 1)))
    else
    (M_worksRow_l15 x2 K7 Q n I (x3 + 1)))
def M_worksRow_l7  (Q : HI → Prop) : Nat → HI → Int32 → Prop
  | 0, _, _ => False
  | n + 1, I, x2 =>
    if 8 ≤ x2 then
    (Q I)
    else
    (∃ nn, M_worksRow_l15 x2 (fun I' x2' => M_worksRow_l7 Q n I' x2') Q nn I 0)
def M_worksRow (I : HI) (x1 : Int32) (Q : HI → Prop) : Prop :=
  M_wears I x1 (fun I1 =>
    ∃ nn, M_worksRow_l7 Q nn I1 0)
def M_worksAll_l44 (x1 : Int32) (K15 : HI → Int32 → Prop) (Q : HI → Prop) : Nat → HI → Int32 → Prop
  | 0, _, _ => False
  | n + 1, I, x2 =>
    if (I 0 1) ≤ x2 then
    (K15 I (x1 + 1))
    else
    (vp_in x2 8 ∧
    vp_in ((8 * x1) + x2) 52488 ∧
    vp_in x2 8 ∧
    vp_in x2 8 ∧
    if ((up2 I 22 (nx ((8 * x1) + x2)) (I 18 (nx x2))) 18 (nx x2)) = ((up2 I 22 (nx ((8 * x1) + x2)) (I 18 (nx x2))) 17 (nx x2)) then
    (vp_in x1 6561 ∧
    vp_in x1 6561 ∧
    M_worksAll_l44 x1 K15 Q n (up2 (up2 I 22 (nx ((8 * x1) + x2)) (I 18 (nx x2))) 20 (nx x1) (((up2 I 22 (nx ((8 * x1) + x2)) (I 18 (nx x2))) 20 (nx x1)) ||| ((1 : Int32) <<< (x2 &&& 31)))) (x2 + 1))
    else
    (vp_in x2 8 ∧
    if ((up2 I 22 (nx ((8 * x1) + x2)) (I 18 (nx x2))) 18 (nx x2)) = ((up2 I 22 (nx ((8 * x1) + x2)) (I 18 (nx x2))) 0 2) then
    (M_worksAll_l44 x1 K15 Q n (up2 I 22 (nx ((8 * x1) + x2)) (I 18 (nx x2))) (x2 + 1))
    else
    (vp_in x1 6561 ∧
    vp_in x1 6561 ∧
    M_worksAll_l44 x1 K15 Q n (up2 (up2 I 22 (nx ((8 * x1) + x2)) (I 18 (nx x2))) 21 (nx x1) (((up2 I 22 (nx ((8 * x1) + x2)) (I 18 (nx x2))) 21 (nx x1)) ||| ((1 : Int32) <<< (x2 &&& 31)))) (x2 + 1))))
def M_worksAll_l15  (Q : HI → Prop) : Nat → HI → Int32 → Prop
  | 0, _, _ => False
  | n + 1, I, x1 =>
    if (I 0 3) ≤ x1 then
    (Q I)
    else
    (M_worksRow I x1 (fun I1 =>
    vp_in x1 6561 ∧
    vp_in x1 6561 ∧
    ∃ nn, M_worksAll_l44 x1 (fun I' x1' => M_worksAll_l15 Q n I' x1') Q nn (up2 (up2 I1 20 (nx x1) 0) 21 (nx x1) 0) 0))
def M_worksAll (I : HI)  (Q : HI → Prop) : Prop :=
  if (I 0 40) = 0 then
    (∃ nn, M_worksAll_l15 Q nn (up2 I 0 40 1) 0)
    else
    (Q I)
def M_many_b34 (I : HI) (x2 : Int32) (x3 : Int32) (x5 : Int32) (t0 : Int32) (t1 : Int32) (K8 : Int32 → Int32 → Int32 → Prop) (Q : Int32 → Prop) : Prop :=
  ¬ (I 0 2) = 0 ∧
    K8 (x3 / (I 0 2)) (t1 + t0) (x5 + 1)
def M_many_l8 (I : HI) (x2 : Int32) (Q : Int32 → Prop) : Nat → Int32 → Int32 → Int32 → Prop
  | 0, _, _, _ => False
  | n + 1, x3, x4, x5 =>
    if (I 0 1) ≤ x5 then
    (Q x4 )
    else
    (¬ (I 0 2) = 0 ∧
    if (irm x3 (I 0 2)) = x2 then
    (M_many_b34 I x2 x3 x5 1 x4 (fun x3' x4' x5' => M_many_l8 I x2 Q n x3' x4' x5') Q)
    else
    (M_many_b34 I x2 x3 x5 0 x4 (fun x3' x4' x5' => M_many_l8 I x2 Q n x3' x4' x5') Q))
def M_many (I : HI) (x1 : Int32) (x2 : Int32) (Q : Int32 → Prop) : Prop :=
  ∃ nn, M_many_l8 I x2 Q nn x1 0 0
def M_counts_l4 (I : HI) (x1 : Int32) (Q : Int32 → Prop) : Nat → Int32 → Int32 → Prop
  | 0, _, _ => False
  | n + 1, x2, x3 =>
    if (I 0 2) ≤ x3 then
    (zb x2 ∧ Q x2 )
    else
    (if x2 = 0 then
    (M_counts_l4 I x1 Q n 0 (x3 + 1))
    else
    (M_many I x1 x3 (fun r1 =>
    vp_in x3 4 ∧
    if (I 1 (nx x3)) < r1 then
    (M_counts_l4 I x1 Q n 0 (x3 + 1))
    else
    (M_counts_l4 I x1 Q n 1 (x3 + 1)))))
def M_counts (I : HI) (x1 : Int32) (Q : Int32 → Prop) : Prop :=
  ∃ nn, M_counts_l4 I x1 Q nn 1 0
def M_isWon (I : HI) (x1 : Int32) (x2 : Int32) (Q : Int32 → Prop) : Prop :=
  M_bits x1 (fun r1 =>
    if (I 0 4) = 0 then
    (if r1 < (I 0 5) then
    (Q 0 )
    else
    (Q 1 ))
    else
    if (I 0 4) = 1 then
    (if r1 = (I 0 5) then
    (Q 1 )
    else
    (Q 0 ))
    else
    if (I 0 4) = 2 then
    (if x2 = 0 then
    (if r1 < (I 0 5) then
    (Q 0 )
    else
    (Q 1 ))
    else
    (Q 0 ))
    else
    (if (I 0 5) < ((I 0 1) - r1) then
    (Q 0 )
    else
    (Q 1 )))
def M_about_b23 (I : HI) (x1 : Int32) (x2 : Int32) (t0 : Int32) (Q : Int32 → HI → Prop) : Prop :=
  M_right I t0 (1 : Int32) (fun r4 I5 =>
    if r4 = 0 then
    (Q 0 I5)
    else
    (M_viewsOf I5 x1 (fun r7 =>
    if x2 = 0 then
    (vp_in x1 8 ∧
    Q (I5 2 (nx x1)) I5)
    else
    (if x2 = 1 then
    (vp_in x1 8 ∧
    Q (I5 3 (nx x1)) I5)
    else
    (if x2 = 2 then
    (M_hears I5 x1 (fun r9 =>
    Q r9 I5))
    else
    (if x2 = 3 then
    (if r7 ≤ 1024 then
    (Q r7 I5)
    else
    (Q (-1) I5))
    else
    (vp_in x1 8 ∧
    Q (I5 4 (nx x1)) I5)))))))
def M_about_b22 (I : HI) (x1 : Int32) (x2 : Int32) (Q : Int32 → HI → Prop) : Prop :=
  M_about_b23 I x1 x2 0 Q
def M_about (I : HI) (x1 : Int32) (x2 : Int32) (Q : Int32 → HI → Prop) : Prop :=
  M_isWearer I x1 (fun r1 I2 =>
    if r1 = 0 then
    (Q 0 I2)
    else
    (if x2 < 0 then
    (M_about_b22 I2 x1 x2 Q)
    else
    (if 4 < x2 then
    (M_about_b22 I2 x1 x2 Q)
    else
    (M_about_b23 I2 x1 x2 1 Q))))
def M_tell_b63 (I : HI) (x1 : Int32) (x2 : Int32) (x3 : Int32) (Q : Int32 → HI → Prop) : Prop :=
  vp_in ((1024 * x1) + x2) 8192 ∧
    Q 1 (up2 (up2 I 5 (nx ((1024 * x1) + x2)) x3) 0 40 0)
def M_tell (I : HI) (x1 : Int32) (x2 : Int32) (x3 : Int32) (Q : Int32 → HI → Prop) : Prop :=
  M_isWearer I x1 (fun r1 I2 =>
    if r1 = 0 then
    (Q 0 I2)
    else
    (M_viewsOf I2 x1 (fun r4 =>
    if 1024 < r4 then
    (Q 0 I2)
    else
    (if x2 < 0 then
    (Q 0 I2)
    else
    (if r4 ≤ x2 then
    (Q 0 I2)
    else
    (M_within x3 (0 : Int32) (I2 0 2) (fun r6 =>
    if r6 = 0 then
    (Q 0 I2)
    else
    (vp_in x1 8 ∧
    if (I2 4 (nx x1)) = 0 then
    (M_tell_b63 I2 x1 x2 x3 Q)
    else
    (M_blank I2 x1 (fun I8 =>
    M_tell_b63 I8 x1 x2 x3 Q))))))))))
def M_cell_b36 (I : HI) (x1 : Int32) (x2 : Int32) (t0 : Int32) (Q : Int32 → HI → Prop) : Prop :=
  M_right I t0 (1 : Int32) (fun r4 I5 =>
    if r4 = 0 then
    (Q 0 I5)
    else
    (vp_in ((1024 * x1) + x2) 8192 ∧
    Q (I5 5 (nx ((1024 * x1) + x2))) I5))
def M_cell_b35 (I : HI) (x1 : Int32) (x2 : Int32) (Q : Int32 → HI → Prop) : Prop :=
  M_cell_b36 I x1 x2 0 Q
def M_cell (I : HI) (x1 : Int32) (x2 : Int32) (Q : Int32 → HI → Prop) : Prop :=
  M_isWearer I x1 (fun r1 I2 =>
    if r1 = 0 then
    (Q 0 I2)
    else
    (vp_in x1 8 ∧
    if (I2 4 (nx x1)) = 0 then
    (if x2 < 0 then
    (M_cell_b35 I2 x1 x2 Q)
    else
    (M_viewsOf I2 x1 (fun r7 =>
    if r7 ≤ x2 then
    (M_cell_b35 I2 x1 x2 Q)
    else
    (M_cell_b36 I2 x1 x2 1 Q))))
    else
    (M_cell_b35 I2 x1 x2 Q)))
def M_isRow (I : HI) (x1 : Int32) (Q : Int32 → HI → Prop) : Prop :=
  if x1 < 0 then
    (M_right I (0 : Int32) (1 : Int32) (fun r1 I2 =>
    zb r1 ∧ Q r1 I2))
    else
    (if (I 0 3) ≤ x1 then
    (M_right I (0 : Int32) (1 : Int32) (fun r4 I5 =>
    zb r4 ∧ Q r4 I5))
    else
    (M_right I (1 : Int32) (1 : Int32) (fun r7 I8 =>
    zb r7 ∧ Q r7 I8)))
def M_in_l107 (x1 : Int32) (x2 : Int32) (Q : Int32 → HI → Prop) : Nat → HI → Int32 → Prop
  | 0, _, _ => False
  | n + 1, I, x4 =>
    if (I 0 1) ≤ x4 then
    (M_viewOf I x2 (fun r14 =>
    Q r14 I))
    else
    (vp_in ((8 * x1) + x4) 52488 ∧
    vp_in x4 8 ∧
    M_in_l107 x1 x2 Q n (up2 I 18 (nx x4) (I 22 (nx ((8 * x1) + x4)))) (x4 + 1))
def M_in_b69 (I : HI) (x1 : Int32) (x2 : Int32) (x3 : Int32) (t0 : Int32) (Q : Int32 → HI → Prop) : Prop :=
  M_right I t0 (1 : Int32) (fun r7 I8 =>
    if r7 = 0 then
    (Q 0 I8)
    else
    (M_worksAll I8 (fun I10 =>
    if x3 = 1 then
    (vp_in ((8 * x1) + x2) 52488 ∧
    Q (I10 22 (nx ((8 * x1) + x2))) I10)
    else
    (M_wears I10 x1 (fun I12 =>
    ∃ nn, M_in_l107 x1 x2 Q nn I12 0)))))
def M_in_b40 (I : HI) (x1 : Int32) (x2 : Int32) (x3 : Int32) (t0 : Int32) (Q : Int32 → HI → Prop) : Prop :=
  M_right I t0 (1 : Int32) (fun r4 I5 =>
    if r4 = 0 then
    (Q 0 I5)
    else
    (if x3 = 1 then
    (M_in_b69 I5 x1 x2 x3 1 Q)
    else
    (M_viewsOf I5 x2 (fun r16 =>
    if 1024 < r16 then
    (M_in_b69 I5 x1 x2 x3 0 Q)
    else
    (M_in_b69 I5 x1 x2 x3 1 Q)))))
def M_in_b39 (I : HI) (x1 : Int32) (x2 : Int32) (x3 : Int32) (Q : Int32 → HI → Prop) : Prop :=
  M_in_b40 I x1 x2 x3 0 Q
def M_in (I : HI) (x1 : Int32) (x2 : Int32) (x3 : Int32) (Q : Int32 → HI → Prop) : Prop :=
  M_isRow (up2 I 0 0 0) x1 (fun r1 I2 =>
    if r1 = 0 then
    (Q 0 I2)
    else
    (if x2 < 0 then
    (M_in_b39 I2 x1 x2 x3 Q)
    else
    (if (I2 0 1) ≤ x2 then
    (M_in_b39 I2 x1 x2 x3 Q)
    else
    (if x3 = 0 then
    (M_in_b40 I2 x1 x2 x3 1 Q)
    else
    (if x3 = 1 then
    (M_in_b40 I2 x1 x2 x3 1 Q)
    else
    (M_in_b39 I2 x1 x2 x3 Q))))))
def M_row_b95 (I : HI) (t0 : Int32) (Q : Int32 → HI → Prop) : Prop :=
  if t0 = 0 then
    (Q 0 I)
    else
    (Q 1 I)
def M_row_b28 (I : HI) (x1 : Int32) (x2 : Int32) (t0 : Int32) (Q : Int32 → HI → Prop) : Prop :=
  M_right I t0 (1 : Int32) (fun r4 I5 =>
    if r4 = 0 then
    (Q 0 I5)
    else
    (M_worksAll I5 (fun I7 =>
    if 2 ≤ x2 then
    (if x2 = 2 then
    (M_counts I7 x1 (fun r11 =>
    M_row_b95 I7 r11 Q))
    else
    (vp_in x1 6561 ∧
    vp_in x1 6561 ∧
    M_isWon I7 (I7 20 (nx x1)) (I7 21 (nx x1)) (fun r9 =>
    M_row_b95 I7 r9 Q)))
    else
    (if x2 = 0 then
    (vp_in x1 6561 ∧
    Q (I7 20 (nx x1)) I7)
    else
    (vp_in x1 6561 ∧
    Q (I7 21 (nx x1)) I7)))))
def M_row_b27 (I : HI) (x1 : Int32) (x2 : Int32) (Q : Int32 → HI → Prop) : Prop :=
  M_row_b28 I x1 x2 0 Q
def M_row (I : HI) (x1 : Int32) (x2 : Int32) (Q : Int32 → HI → Prop) : Prop :=
  M_isRow (up2 I 0 0 0) x1 (fun r1 I2 =>
    if r1 = 0 then
    (Q 0 I2)
    else
    (if x2 < 0 then
    (M_row_b27 I2 x1 x2 Q)
    else
    (if 3 < x2 then
    (M_row_b27 I2 x1 x2 Q)
    else
    (M_row_b28 I2 x1 x2 1 Q))))
def M_weight_l17 (I : HI) (x1 : Int32) (x4 : Int32) (K5 : Int64 → Int32 → Prop) (Q : Int64 → Prop) : Nat → Int64 → Int32 → Prop
  | 0, _, _ => False
  | n + 1, x2, x5 =>
    M_many I x1 x4 (fun r1 =>
    if r1 ≤ x5 then
    (K5 x2 (x4 + 1))
    else
    (vp_in x4 4 ∧
    M_weight_l17 I x1 x4 K5 Q n (x2 * (Int32.toInt64 ((I 1 (nx x4)) - x5))) (x5 + 1)))
def M_weight_l5 (I : HI) (x1 : Int32) (Q : Int64 → Prop) : Nat → Int64 → Int32 → Prop
  | 0, _, _ => False
  | n + 1, x2, x4 =>
    if (I 0 2) ≤ x4 then
    (Q x2 )
    else
    (∃ nn, M_weight_l17 I x1 x4 (fun x2' x4' => M_weight_l5 I x1 Q n x2' x4') Q nn x2 0)
def M_weight (I : HI) (x1 : Int32) (Q : Int64 → Prop) : Prop :=
  ∃ nn, M_weight_l5 I x1 Q nn (1 : Int64) 0
def M_won_b87 (I : HI) (x1 : Int32) (x2 : Int64) (x4 : Int32) (K38 : Int64 → Int32 → Prop) (Q : Int64 → HI → Prop) : Prop :=
  if 2 ≤ x1 then
    (M_weight I x4 (fun r8 =>
    K38 (x2 + r8) (x4 + 1)))
    else
    (K38 (x2 + (1 : Int64)) (x4 + 1))
def M_won_l38 (I : HI) (x1 : Int32) (Q : Int64 → HI → Prop) : Nat → Int64 → Int32 → Prop
  | 0, _, _ => False
  | n + 1, x2, x4 =>
    if (I 0 3) ≤ x4 then
    (Q x2 I)
    else
    (M_counts I x4 (fun r6 =>
    if r6 = 0 then
    (M_won_l38 I x1 Q n x2 (x4 + 1))
    else
    (if (irm x1 2) = 1 then
    (vp_in x4 6561 ∧
    vp_in x4 6561 ∧
    M_isWon I (I 20 (nx x4)) (I 21 (nx x4)) (fun r10 =>
    if r10 = 0 then
    (M_won_l38 I x1 Q n x2 (x4 + 1))
    else
    (M_won_b87 I x1 x2 x4 (fun x2' x4' => M_won_l38 I x1 Q n x2' x4') Q)))
    else
    (M_won_b87 I x1 x2 x4 (fun x2' x4' => M_won_l38 I x1 Q n x2' x4') Q))))
def M_won_b20 (I : HI) (x1 : Int32) (t0 : Int32) (Q : Int64 → HI → Prop) : Prop :=
  M_right I t0 (1 : Int32) (fun r1 I2 =>
    if r1 = 0 then
    (Q (0 : Int64) I2)
    else
    (M_worksAll I2 (fun I4 =>
    ∃ nn, M_won_l38 I4 x1 Q nn (0 : Int64) 0)))
def M_won_b19 (I : HI) (x1 : Int32) (Q : Int64 → HI → Prop) : Prop :=
  M_won_b20 I x1 0 Q
def M_won (I : HI) (x1 : Int32) (Q : Int64 → HI → Prop) : Prop :=
  if x1 < 0 then
    (M_won_b19 (up2 I 0 0 0) x1 Q)
    else
    (if 3 < x1 then
    (M_won_b19 (up2 I 0 0 0) x1 Q)
    else
    (M_won_b20 (up2 I 0 0 0) x1 1 Q))
def M_beaten_l13 (I : HI) (x1 : Int32) (Q : Int32 → HI → Prop) : Nat → Int32 → Int32 → Prop
  | 0, _, _ => False
  | n + 1, x2, x3 =>
    if (I 0 3) ≤ x3 then
    (Q (-1) I)
    else
    (if x1 < 0 then
    (Q (-1) I)
    else
    (M_counts I x3 (fun r3 =>
    if r3 = 0 then
    (M_beaten_l13 I x1 Q n x2 (x3 + 1))
    else
    (vp_in x3 6561 ∧
    vp_in x3 6561 ∧
    M_isWon I (I 20 (nx x3)) (I 21 (nx x3)) (fun r5 =>
    if r5 = 0 then
    (if x2 = x1 then
    (Q x3 I)
    else
    (M_beaten_l13 I x1 Q n (x2 + 1) (x3 + 1)))
    else
    (M_beaten_l13 I x1 Q n x2 (x3 + 1)))))))
def M_beaten (I : HI) (x1 : Int32) (Q : Int32 → HI → Prop) : Prop :=
  M_worksAll (up2 I 0 0 0) (fun I1 =>
    ∃ nn, M_beaten_l13 I1 x1 Q nn 0 0)
def M_tally_l13 (I : HI) (x1 : Int32) (Q : Int32 → HI → Prop) : Nat → Int32 → Int32 → Prop
  | 0, _, _ => False
  | n + 1, x2, x3 =>
    if (I 0 3) ≤ x3 then
    (Q x2 I)
    else
    (M_counts I x3 (fun r3 =>
    if r3 = 0 then
    (M_tally_l13 I x1 Q n x2 (x3 + 1))
    else
    (vp_in x3 6561 ∧
    M_bits (I 20 (nx x3)) (fun r5 =>
    if r5 = x1 then
    (M_tally_l13 I x1 Q n (x2 + 1) (x3 + 1))
    else
    (M_tally_l13 I x1 Q n x2 (x3 + 1))))))
def M_tally (I : HI) (x1 : Int32) (Q : Int32 → HI → Prop) : Prop :=
  M_worksAll (up2 I 0 0 0) (fun I1 =>
    ∃ nn, M_tally_l13 I1 x1 Q nn 0 0)
def M_rightOf_l18 (I : HI) (x1 : Int32) (Q : Int32 → HI → Prop) : Nat → Int32 → Int32 → Prop
  | 0, _, _ => False
  | n + 1, x2, x3 =>
    if (I 0 3) ≤ x3 then
    (Q x2 I)
    else
    (M_counts I x3 (fun r6 =>
    if r6 = 0 then
    (M_rightOf_l18 I x1 Q n x2 (x3 + 1))
    else
    (vp_in x3 6561 ∧
    if (((I 20 (nx x3)) >>> (x1 &&& 31)) &&& 1) = 1 then
    (M_rightOf_l18 I x1 Q n (x2 + 1) (x3 + 1))
    else
    (M_rightOf_l18 I x1 Q n x2 (x3 + 1)))))
def M_rightOf (I : HI) (x1 : Int32) (Q : Int32 → HI → Prop) : Prop :=
  M_isWearer I x1 (fun r1 I2 =>
    if r1 = 0 then
    (Q 0 I2)
    else
    (M_worksAll I2 (fun I4 =>
    ∃ nn, M_rightOf_l18 I4 x1 Q nn 0 0)))
def M_worstRow_l8 (I : HI) (Q : Int32 → HI → Prop) : Nat → Int32 → Int32 → Prop
  | 0, _, _ => False
  | n + 1, x1, x2 =>
    if (I 0 3) ≤ x2 then
    (Q x1 I)
    else
    (M_counts I x2 (fun r3 =>
    if r3 = 0 then
    (M_worstRow_l8 I Q n x1 (x2 + 1))
    else
    (if x1 = (-1) then
    (M_worstRow_l8 I Q n x2 (x2 + 1))
    else
    (vp_in x2 6561 ∧
    M_bits (I 21 (nx x2)) (fun r5 =>
    vp_in x1 6561 ∧
    M_bits (I 21 (nx x1)) (fun r7 =>
    if r5 ≤ r7 then
    (M_worstRow_l8 I Q n x1 (x2 + 1))
    else
    (M_worstRow_l8 I Q n x2 (x2 + 1))))))))
def M_worstRow (I : HI)  (Q : Int32 → HI → Prop) : Prop :=
  M_worksAll I (fun I1 =>
    ∃ nn, M_worstRow_l8 I1 Q nn (-1) 0)
def M_worst_b20 (I : HI) (x1 : Int32) (t0 : Int32) (Q : Int32 → HI → Prop) : Prop :=
  M_right I t0 (1 : Int32) (fun r1 I2 =>
    if r1 = 0 then
    (Q 0 I2)
    else
    (M_worstRow I2 (fun r4 I5 =>
    if x1 = 1 then
    (Q r4 I5)
    else
    (if r4 = (-1) then
    (Q r4 I5)
    else
    (vp_in r4 6561 ∧
    M_bits (I5 21 (nx r4)) (fun r7 =>
    Q r7 I5))))))
def M_worst (I : HI) (x1 : Int32) (Q : Int32 → HI → Prop) : Prop :=
  if x1 = 0 then
    (M_worst_b20 (up2 I 0 0 0) x1 1 Q)
    else
    (if x1 = 1 then
    (M_worst_b20 (up2 I 0 0 0) x1 1 Q)
    else
    (M_worst_b20 (up2 I 0 0 0) x1 0 Q))
def M_laysOut_l7 (x1 : Int32) (Q : HI → Prop) : Nat → HI → Int32 → Prop
  | 0, _, _ => False
  | n + 1, I, x2 =>
    if (I 0 1) ≤ x2 then
    (Q I)
    else
    (vp_in ((8 * x1) + x2) 52488 ∧
    vp_in x2 8 ∧
    M_laysOut_l7 x1 Q n (up2 I 18 (nx x2) (I 22 (nx ((8 * x1) + x2)))) (x2 + 1))
def M_laysOut (I : HI) (x1 : Int32) (Q : HI → Prop) : Prop :=
  M_wears I x1 (fun I1 =>
    ∃ nn, M_laysOut_l7 x1 Q nn I1 0)
def M_idle_l86 (x1 : Int32) (x3 : Int32) (x4 : Int32) (x5 : Int32) (K23 : HI → Int32 → Int32 → Prop) (K53 : HI → Int32 → Int32 → Prop) (Q : Int32 → HI → Prop) : Nat → HI → Int32 → Int32 → Prop
  | 0, _, _, _ => False
  | n + 1, I, x2, x6 =>
    if (I 0 2) ≤ x6 then
    (vp_in x4 8 ∧
    K53 (up2 I 17 (nx x4) x5) x2 (x4 + 1))
    else
    (vp_in x4 8 ∧
    M_guesses (up2 I 17 (nx x4) x6) x1 (fun r8 I9 =>
    vp_in x1 8 ∧
    if r8 = (I9 18 (nx x1)) then
    (M_idle_l86 x1 x3 x4 x5 K23 K53 Q n I9 x2 (x6 + 1))
    else
    (M_idle_l86 x1 x3 x4 x5 K23 K53 Q n I9 (x2 &&& (((1 : Int32) <<< (x4 &&& 31)) ^^^ (-1))) (x6 + 1))))
def M_idle_l53 (x1 : Int32) (x3 : Int32) (K23 : HI → Int32 → Int32 → Prop) (Q : Int32 → HI → Prop) : Nat → HI → Int32 → Int32 → Prop
  | 0, _, _, _ => False
  | n + 1, I, x2, x4 =>
    if (I 0 1) ≤ x4 then
    (K23 I x2 (x3 + 1))
    else
    (if ((x2 >>> (x4 &&& 31)) &&& 1) = 0 then
    (M_idle_l53 x1 x3 K23 Q n I x2 (x4 + 1))
    else
    (vp_in x4 8 ∧
    ∃ nn, M_idle_l86 x1 x3 x4 (I 17 (nx x4)) K23 (fun I' x2' x4' => M_idle_l53 x1 x3 K23 Q n I' x2' x4') Q nn I x2 0))
def M_idle_l23 (x1 : Int32) (Q : Int32 → HI → Prop) : Nat → HI → Int32 → Int32 → Prop
  | 0, _, _, _ => False
  | n + 1, I, x2, x3 =>
    if (I 0 3) ≤ x3 then
    (Q x2 I)
    else
    (if x2 = 0 then
    (Q x2 I)
    else
    (vp_in x1 8 ∧
    if (I 4 (nx x1)) = 2 then
    (Q x2 I)
    else
    (M_laysOut I x3 (fun I6 =>
    ∃ nn, M_idle_l53 x1 x3 (fun I' x2' x3' => M_idle_l23 x1 Q n I' x2' x3') Q nn I6 x2 0))))
def M_idle (I : HI) (x1 : Int32) (Q : Int32 → HI → Prop) : Prop :=
  M_isWearer I x1 (fun r1 I2 =>
    if r1 = 0 then
    (Q 0 I2)
    else
    (M_worksAll I2 (fun I4 =>
    vp_in x1 8 ∧
    ∃ nn, M_idle_l23 x1 Q nn I4 (I4 2 (nx x1)) 0)))
def M_otherwise_l92 (I : HI) (x1 : Int32) (x2 : Int32) (x3 : Int32) (Q : Int32 → HI → Prop) : Nat → Int32 → Int32 → Prop
  | 0, _, _ => False
  | n + 1, x4, x5 =>
    if (I 0 3) ≤ x5 then
    (vp_in x1 8 ∧
    vp_in x1 8 ∧
    vp_in x1 8 ∧
    Q x4 (up2 (up2 (up2 I 2 (nx x1) ((I 2 (nx x1)) ^^^ ((1 : Int32) <<< (x2 &&& 31)))) 4 (nx x1) x3) 0 40 0))
    else
    (M_counts I x5 (fun r9 =>
    if r9 = 0 then
    (M_otherwise_l92 I x1 x2 x3 Q n x4 (x5 + 1))
    else
    (vp_in x5 6561 ∧
    vp_in x5 6561 ∧
    M_isWon I (I 20 (nx x5)) (I 21 (nx x5)) (fun r11 =>
    if r11 = 0 then
    (M_otherwise_l92 I x1 x2 x3 Q n x4 (x5 + 1))
    else
    (M_otherwise_l92 I x1 x2 x3 Q n (x4 + 1) (x5 + 1))))))
def M_otherwise_b76 (I : HI) (x1 : Int32) (x2 : Int32) (x3 : Int32) (t0 : Int32) (t1 : Int32) (Q : Int32 → HI → Prop) : Prop :=
  vp_in t1 8 ∧
    M_worksAll (up2 (up2 I 4 (nx t1) t0) 0 40 0) (fun I7 =>
    ∃ nn, M_otherwise_l92 I7 x1 x2 x3 Q nn 0 0)
def M_otherwise_b26 (I : HI) (x1 : Int32) (x2 : Int32) (t0 : Int32) (Q : Int32 → HI → Prop) : Prop :=
  M_right I t0 (1 : Int32) (fun r4 I5 =>
    if r4 = 0 then
    (Q 0 I5)
    else
    (if x1 = x2 then
    (Q (-1) I5)
    else
    (vp_in x1 8 ∧
    vp_in x1 8 ∧
    vp_in x1 8 ∧
    if (I5 4 (nx x1)) = 1 then
    (M_otherwise_b76 (up2 I5 2 (nx x1) ((I5 2 (nx x1)) ^^^ ((1 : Int32) <<< (x2 &&& 31)))) x1 x2 (I5 4 (nx x1)) 1 x1 Q)
    else
    (M_otherwise_b76 (up2 I5 2 (nx x1) ((I5 2 (nx x1)) ^^^ ((1 : Int32) <<< (x2 &&& 31)))) x1 x2 (I5 4 (nx x1)) 2 x1 Q))))
def M_otherwise_b25 (I : HI) (x1 : Int32) (x2 : Int32) (Q : Int32 → HI → Prop) : Prop :=
  M_otherwise_b26 I x1 x2 0 Q
def M_otherwise (I : HI) (x1 : Int32) (x2 : Int32) (Q : Int32 → HI → Prop) : Prop :=
  M_isWearer I x1 (fun r1 I2 =>
    if r1 = 0 then
    (Q 0 I2)
    else
    (if x2 < 0 then
    (M_otherwise_b25 I2 x1 x2 Q)
    else
    (if (I2 0 1) ≤ x2 then
    (M_otherwise_b25 I2 x1 x2 Q)
    else
    (M_otherwise_b26 I2 x1 x2 1 Q))))
def M_swaps (I : HI) (x1 : Int32) (x2 : Int32) (Q : HI → Prop) : Prop :=
  vp_in x1 8 ∧
    vp_in x2 8 ∧
    vp_in x1 8 ∧
    vp_in x2 8 ∧
    Q (up2 (up2 I 23 (nx x1) (I 23 (nx x2))) 23 (nx x2) (I 23 (nx x1)))
def M_turns_l86  (Q : Int32 → HI → Prop) : Nat → HI → Int32 → Int32 → Prop
  | 0, _, _, _ => False
  | n + 1, I, x3, x4 =>
    if x4 ≤ x3 then
    (Q 1 I)
    else
    (M_swaps I x3 x4 (fun I3 =>
    M_turns_l86 Q n I3 (x3 + 1) (x4 + (-1))))
def M_turns_l47 (I : HI) (x1 : Int32) (Q : Int32 → HI → Prop) : Nat → Int32 → Prop
  | 0, _ => False
  | n + 1, x2 =>
    vp_in x2 8 ∧
    vp_in x1 8 ∧
    if (I 23 (nx x1)) ≤ (I 23 (nx x2)) then
    (M_swaps I x1 x2 (fun I1 =>
    ∃ nn, M_turns_l86 Q nn I1 (x1 + 1) ((I1 0 1) - 1)))
    else
    (M_turns_l47 I x1 Q n (x2 + (-1)))
def M_turns_b34 (I : HI) (x1 : Int32) (Q : Int32 → HI → Prop) : Prop :=
  if 0 ≤ x1 then
    (∃ nn, M_turns_l47 I x1 Q nn ((I 0 1) - 1))
    else
    (Q 0 I)
def M_turns_l7 (I : HI) (Q : Int32 → HI → Prop) : Nat → Int32 → Prop
  | 0, _ => False
  | n + 1, x1 =>
    if x1 < 0 then
    (M_turns_b34 I x1 Q)
    else
    (vp_in x1 8 ∧
    vp_in (x1 + 1) 8 ∧
    if (I 23 (nx x1)) ≤ (I 23 (nx (x1 + 1))) then
    (M_turns_b34 I x1 Q)
    else
    (M_turns_l7 I Q n (x1 + (-1))))
def M_turns (I : HI)  (Q : Int32 → HI → Prop) : Prop :=
  ∃ nn, M_turns_l7 I Q nn ((I 0 1) - 2)
def M_isAlike_l44 (I : HI) (x2 : Int32) (K4 : Int32 → Int32 → Prop) (Q : Int32 → Prop) : Nat → Int32 → Int32 → Prop
  | 0, _, _ => False
  | n + 1, x1, x3 =>
    if (I 0 1) ≤ x3 then
    (K4 x1 (x2 + 1))
    else
    (if x1 = 0 then
    (M_isAlike_l44 I x2 K4 Q n 0 (x3 + 1))
    else
    (vp_in x2 8 ∧
    vp_in (I 23 (nx x2)) 8 ∧
    vp_in x3 8 ∧
    vp_in x2 8 ∧
    if (((I 2 (nx (I 23 (nx x2)))) >>> ((I 23 (nx x3)) &&& 31)) &&& 1) = (((I 2 (nx x2)) >>> (x3 &&& 31)) &&& 1) then
    (M_isAlike_l44 I x2 K4 Q n 1 (x3 + 1))
    else
    (M_isAlike_l44 I x2 K4 Q n 0 (x3 + 1))))
def M_isAlike_l4 (I : HI) (Q : Int32 → Prop) : Nat → Int32 → Int32 → Prop
  | 0, _, _ => False
  | n + 1, x1, x2 =>
    if (I 0 1) ≤ x2 then
    (zb x1 ∧ Q x1 )
    else
    (if x1 = 0 then
    (∃ nn, M_isAlike_l44 I x2 (fun x1' x2' => M_isAlike_l4 I Q n x1' x2') Q nn 0 0)
    else
    (vp_in x2 8 ∧
    vp_in (I 23 (nx x2)) 8 ∧
    vp_in x2 8 ∧
    if (I 3 (nx (I 23 (nx x2)))) = (I 3 (nx x2)) then
    (∃ nn, M_isAlike_l44 I x2 (fun x1' x2' => M_isAlike_l4 I Q n x1' x2') Q nn 1 0)
    else
    (∃ nn, M_isAlike_l44 I x2 (fun x1' x2' => M_isAlike_l4 I Q n x1' x2') Q nn 0 0)))
def M_isAlike (I : HI)  (Q : Int32 → Prop) : Prop :=
  ∃ nn, M_isAlike_l4 I Q nn 1 0
def M_alike_l43  (Q : Int32 → HI → Prop) : Nat → HI → Int32 → Int32 → Prop
  | 0, _, _, _ => False
  | n + 1, I, x1, x2 =>
    if x2 = 0 then
    (Q x1 I)
    else
    (M_isAlike I (fun r1 =>
    if r1 = 0 then
    (M_turns I (fun r3 I4 =>
    M_alike_l43 Q n I4 x1 r3))
    else
    (M_turns I (fun r6 I7 =>
    M_alike_l43 Q n I7 (x1 + 1) r6))))
def M_alike_l18  (Q : Int32 → HI → Prop) : Nat → HI → Int32 → Prop
  | 0, _, _ => False
  | n + 1, I, x1 =>
    if (I 0 1) ≤ x1 then
    (∃ nn, M_alike_l43 Q nn I 0 1)
    else
    (vp_in x1 8 ∧
    M_alike_l18 Q n (up2 I 23 (nx x1) x1) (x1 + 1))
def M_alike (I : HI)  (Q : Int32 → HI → Prop) : Prop :=
  if ((up2 I 0 0 0) 0 1) ≤ 6 then
    (∃ nn, M_alike_l18 Q nn (up2 I 0 0 0) 0)
    else
    (Q (-1) (up2 I 0 0 0))
def M_ring_l70 (I : HI) (x1 : Int32) (x2 : Int32) (x3 : Int32) (x4 : Int32) (x5 : Int32) (K9 : Int32 → Int32 → Prop) (K30 : Int32 → Int32 → Int32 → Int32 → Prop) (Q : Int32 → HI → Prop) : Nat → Int32 → Int32 → Prop
  | 0, _, _ => False
  | n + 1, x6, x7 =>
    if (I 0 1) ≤ x7 then
    (K30 x1 x3 (x6 &&& (x3 ^^^ (-1))) (x5 + 1))
    else
    (if ((x4 >>> (x7 &&& 31)) &&& 1) = 1 then
    (vp_in x7 8 ∧
    M_ring_l70 I x1 x2 x3 x4 x5 K9 K30 Q n (x6 ||| (I 2 (nx x7))) (x7 + 1))
    else
    (M_ring_l70 I x1 x2 x3 x4 x5 K9 K30 Q n x6 (x7 + 1)))
def M_ring_b59 (I : HI) (x1 : Int32) (x2 : Int32) (x3 : Int32) (x4 : Int32) (x5 : Int32) (K9 : Int32 → Int32 → Prop) (K30 : Int32 → Int32 → Int32 → Int32 → Prop) (Q : Int32 → HI → Prop) : Prop :=
  ∃ nn, M_ring_l70 I x1 x2 (x3 ||| x4) x4 x5 K9 K30 Q nn 0 0
def M_ring_b46 (I : HI) (x1 : Int32) (x2 : Int32) (x3 : Int32) (x4 : Int32) (x5 : Int32) (K9 : Int32 → Int32 → Prop) (K30 : Int32 → Int32 → Int32 → Int32 → Prop) (Q : Int32 → HI → Prop) : Prop :=
  if ((x4 >>> (x2 &&& 31)) &&& 1) = 1 then
    (M_ring_b59 I x5 x2 x3 x4 x5 K9 K30 Q)
    else
    (M_ring_b59 I x1 x2 x3 x4 x5 K9 K30 Q)
def M_ring_l30 (I : HI) (x2 : Int32) (K9 : Int32 → Int32 → Prop) (Q : Int32 → HI → Prop) : Nat → Int32 → Int32 → Int32 → Int32 → Prop
  | 0, _, _, _, _ => False
  | n + 1, x1, x3, x4, x5 =>
    if x4 = 0 then
    (K9 x1 (x2 + 1))
    else
    (if x1 = (-1) then
    (M_ring_b46 I x1 x2 x3 x4 x5 K9 (fun x1' x3' x4' x5' => M_ring_l30 I x2 K9 Q n x1' x3' x4' x5') Q)
    else
    (if x1 ≤ x5 then
    (K9 x1 (x2 + 1))
    else
    (M_ring_b46 I x1 x2 x3 x4 x5 K9 (fun x1' x3' x4' x5' => M_ring_l30 I x2 K9 Q n x1' x3' x4' x5') Q)))
def M_ring_l9 (I : HI) (Q : Int32 → HI → Prop) : Nat → Int32 → Int32 → Prop
  | 0, _, _ => False
  | n + 1, x1, x2 =>
    if (I 0 1) ≤ x2 then
    (Q x1 I)
    else
    (vp_in x2 8 ∧
    ∃ nn, M_ring_l30 I x2 (fun x1' x2' => M_ring_l9 I Q n x1' x2') Q nn x1 0 (I 2 (nx x2)) 1)
def M_ring (I : HI)  (Q : Int32 → HI → Prop) : Prop :=
  ∃ nn, M_ring_l9 (up2 I 0 0 0) Q nn (-1) 0
def M_areAtOnce_l4 (I : HI) (Q : Int32 → Prop) : Nat → Int32 → Int32 → Prop
  | 0, _, _ => False
  | n + 1, x1, x2 =>
    if (I 0 1) ≤ x2 then
    (zb x1 ∧ Q x1 )
    else
    (if x1 = 0 then
    (M_areAtOnce_l4 I Q n 0 (x2 + 1))
    else
    (vp_in x2 8 ∧
    if (I 3 (nx x2)) = 0 then
    (M_viewsOf I x2 (fun r1 =>
    if 1024 < r1 then
    (M_areAtOnce_l4 I Q n 0 (x2 + 1))
    else
    (M_areAtOnce_l4 I Q n 1 (x2 + 1))))
    else
    (M_areAtOnce_l4 I Q n 0 (x2 + 1))))
def M_areAtOnce (I : HI)  (Q : Int32 → Prop) : Prop :=
  ∃ nn, M_areAtOnce_l4 I Q nn 1 0
def M_views_l17 (x1 : Int32) (K2 : HI → Int32 → Prop) (Q : HI → Prop) : Nat → HI → Int32 → Prop
  | 0, _, _ => False
  | n + 1, I, x2 =>
    if (I 0 1) ≤ x2 then
    (K2 I (x1 + 1))
    else
    (M_viewOf I x2 (fun r3 =>
    vp_in ((8 * x1) + x2) 52488 ∧
    M_views_l17 x1 K2 Q n (up2 I 25 (nx ((8 * x1) + x2)) r3) (x2 + 1)))
def M_views_l2  (Q : HI → Prop) : Nat → HI → Int32 → Prop
  | 0, _, _ => False
  | n + 1, I, x1 =>
    if (I 0 3) ≤ x1 then
    (Q I)
    else
    (M_wears I x1 (fun I1 =>
    ∃ nn, M_views_l17 x1 (fun I' x1' => M_views_l2 Q n I' x1') Q nn I1 0))
def M_views (I : HI)  (Q : HI → Prop) : Prop :=
  ∃ nn, M_views_l2 Q nn I 0
def M_hatIn_l5 (x1 : Int32) (x2 : Int32) (Q : Int32 → Prop) : Nat → Int32 → Int32 → Prop
  | 0, _, _ => False
  | n + 1, x3, x4 =>
    if x1 ≤ x4 then
    (¬ x2 = 0 ∧
    Q (irm x3 x2) )
    else
    (¬ x2 = 0 ∧
    M_hatIn_l5 x1 x2 Q n (x3 / x2) (x4 + 1))
def M_hatIn  (x0 : Int32) (x1 : Int32) (x2 : Int32) (Q : Int32 → Prop) : Prop :=
  ∃ nn, M_hatIn_l5 x1 x2 Q nn x0 0
def M_isSomeRight_b58 (I : HI) (x1 : Int32) (x3 : Int32) (x4 : Int32) (t0 : Int32) (K7 : Int32 → Int32 → Int32 → Prop) (Q : Int32 → Prop) : Prop :=
  ¬ (I 0 2) = 0 ∧
    K7 t0 (x3 / (I 0 2)) (x4 + 1)
def M_isSomeRight_l7 (I : HI) (x1 : Int32) (Q : Int32 → Prop) : Nat → Int32 → Int32 → Int32 → Prop
  | 0, _, _, _ => False
  | n + 1, x2, x3, x4 =>
    if (I 0 1) ≤ x4 then
    (zb x2 ∧ Q x2 )
    else
    (if x2 = 0 then
    (vp_in ((8 * x1) + x4) 52488 ∧
    vp_in ((1024 * x4) + (I 25 (nx ((8 * x1) + x4)))) 8192 ∧
    ¬ (I 0 2) = 0 ∧
    if (I 24 (nx ((1024 * x4) + (I 25 (nx ((8 * x1) + x4)))))) = (irm x3 (I 0 2)) then
    (M_isSomeRight_b58 I x1 x3 x4 1 (fun x2' x3' x4' => M_isSomeRight_l7 I x1 Q n x2' x3' x4') Q)
    else
    (M_isSomeRight_b58 I x1 x3 x4 0 (fun x2' x3' x4' => M_isSomeRight_l7 I x1 Q n x2' x3' x4') Q))
    else
    (M_isSomeRight_b58 I x1 x3 x4 1 (fun x2' x3' x4' => M_isSomeRight_l7 I x1 Q n x2' x3' x4') Q))
def M_isSomeRight (I : HI) (x1 : Int32) (Q : Int32 → Prop) : Prop :=
  ∃ nn, M_isSomeRight_l7 I x1 Q nn 0 x1 0
def M_search_l338 (x5 : Int32) (K318 : HI → Int32 → Prop) (Q : Int32 → HI → Prop) : Nat → HI → Int32 → Prop
  | 0, _, _ => False
  | n + 1, I, x6 =>
    if 1024 ≤ x6 then
    (K318 I (x5 + 1))
    else
    (vp_in ((1024 * x5) + x6) 8192 ∧
    if (I 24 (nx ((1024 * x5) + x6))) = (-1) then
    (vp_in ((1024 * x5) + x6) 8192 ∧
    M_search_l338 x5 K318 Q n (up2 I 5 (nx ((1024 * x5) + x6)) 0) (x6 + 1))
    else
    (vp_in ((1024 * x5) + x6) 8192 ∧
    vp_in ((1024 * x5) + x6) 8192 ∧
    M_search_l338 x5 K318 Q n (up2 I 5 (nx ((1024 * x5) + x6)) (I 24 (nx ((1024 * x5) + x6)))) (x6 + 1)))
def M_search_l318  (Q : Int32 → HI → Prop) : Nat → HI → Int32 → Prop
  | 0, _, _ => False
  | n + 1, I, x5 =>
    if (I 0 1) ≤ x5 then
    (Q 1 (up2 I 0 40 0))
    else
    (vp_in x5 8 ∧
    ∃ nn, M_search_l338 x5 (fun I' x5' => M_search_l318 Q n I' x5') Q nn (up2 I 4 (nx x5) 0) 0)
def M_search_b228 (I : HI) (x1 : Int32) (x2 : Int32) (x3 : Int32) (x5 : Int32) (x6 : Int32) (K76 : HI → Int32 → Int32 → Int32 → Prop) (Q : Int32 → HI → Prop) : Prop :=
  if x6 = 0 then
    (if (I 0 49) = x1 then
    (Q (-2) I)
    else
    (vp_in ((8 * x3) + x5) 52488 ∧
    M_hatIn x3 x5 ((up2 I 0 49 ((I 0 49) + 1)) 0 2) (fun r8 =>
    vp_in ((1024 * x5) + ((up2 I 0 49 ((I 0 49) + 1)) 25 (nx ((8 * x3) + x5)))) 8192 ∧
    vp_in x2 8192 ∧
    vp_in x2 8192 ∧
    K76 (up2 (up2 (up2 (up2 I 0 49 ((I 0 49) + 1)) 24 (nx ((1024 * x5) + ((up2 I 0 49 ((I 0 49) + 1)) 25 (nx ((8 * x3) + x5))))) r8) 26 (nx x2) x3) 27 (nx x2) x5) (x2 + 1) (x3 + 1) 0)))
    else
    (K76 I x2 (x3 + 1) 0)
def M_search_b156 (I : HI) (x1 : Int32) (x2 : Int32) (x3 : Int32) (x5 : Int32) (x6 : Int32) (K76 : HI → Int32 → Int32 → Int32 → Prop) (Q : Int32 → HI → Prop) : Prop :=
  if x6 = 0 then
    (if x5 = (I 0 1) then
    (if x2 = 0 then
    (Q 0 I)
    else
    (vp_in (x2 + (-1)) 8192 ∧
    vp_in (x2 + (-1)) 8192 ∧
    vp_in (((8 * (I 26 (nx (x2 + (-1))))) + ((I 27 (nx (x2 + (-1)))) + 1)) - 1) 52488 ∧
    vp_in ((1024 * (((I 27 (nx (x2 + (-1)))) + 1) - 1)) + (I 25 (nx (((8 * (I 26 (nx (x2 + (-1))))) + ((I 27 (nx (x2 + (-1)))) + 1)) - 1)))) 8192 ∧
    K76 (up2 I 24 (nx ((1024 * (((I 27 (nx (x2 + (-1)))) + 1) - 1)) + (I 25 (nx (((8 * (I 26 (nx (x2 + (-1))))) + ((I 27 (nx (x2 + (-1)))) + 1)) - 1))))) (-1)) (x2 + (-1)) (I 26 (nx (x2 + (-1)))) ((I 27 (nx (x2 + (-1)))) + 1)))
    else
    (M_search_b228 I x1 x2 x3 x5 x6 K76 Q))
    else
    (M_search_b228 I x1 x2 x3 x5 x6 K76 Q)
def M_search_l108 (I : HI) (x1 : Int32) (x2 : Int32) (x3 : Int32) (x6 : Int32) (K76 : HI → Int32 → Int32 → Int32 → Prop) (Q : Int32 → HI → Prop) : Nat → Int32 → Prop
  | 0, _ => False
  | n + 1, x5 =>
    if x6 = 0 then
    (if (I 0 1) ≤ x5 then
    (M_search_b156 I x1 x2 x3 x5 x6 K76 Q)
    else
    (vp_in ((8 * x3) + x5) 52488 ∧
    vp_in ((1024 * x5) + (I 25 (nx ((8 * x3) + x5)))) 8192 ∧
    if (I 24 (nx ((1024 * x5) + (I 25 (nx ((8 * x3) + x5)))))) = (-1) then
    (M_search_b156 I x1 x2 x3 x5 x6 K76 Q)
    else
    (M_search_l108 I x1 x2 x3 x6 K76 Q n (x5 + 1))))
    else
    (M_search_b156 I x1 x2 x3 x5 x6 K76 Q)
def M_search_l76 (x1 : Int32) (Q : Int32 → HI → Prop) : Nat → HI → Int32 → Int32 → Int32 → Prop
  | 0, _, _, _, _ => False
  | n + 1, I, x2, x3, x4 =>
    if (I 0 3) ≤ x3 then
    (∃ nn, M_search_l318 Q nn I 0)
    else
    (if x4 = 0 then
    (M_isSomeRight I x3 (fun r10 =>
    if r10 = 0 then
    (∃ nn, M_search_l108 I x1 x2 x3 0 (fun I' x2' x3' x4' => M_search_l76 x1 Q n I' x2' x3' x4') Q nn x4)
    else
    (∃ nn, M_search_l108 I x1 x2 x3 1 (fun I' x2' x3' x4' => M_search_l76 x1 Q n I' x2' x3' x4') Q nn x4)))
    else
    (∃ nn, M_search_l108 I x1 x2 x3 0 (fun I' x2' x3' x4' => M_search_l76 x1 Q n I' x2' x3' x4') Q nn x4))
def M_search_l44 (x1 : Int32) (Q : Int32 → HI → Prop) : Nat → HI → Int32 → Prop
  | 0, _, _ => False
  | n + 1, I, x2 =>
    if 8192 ≤ x2 then
    (∃ nn, M_search_l76 x1 Q nn (up2 I 0 49 0) 0 0 0)
    else
    (vp_in x2 8192 ∧
    M_search_l44 x1 Q n (up2 I 24 (nx x2) (-1)) (x2 + 1))
def M_search_b29 (I : HI) (x1 : Int32) (t0 : Int32) (Q : Int32 → HI → Prop) : Prop :=
  M_right I t0 (1 : Int32) (fun r3 I4 =>
    if r3 = 0 then
    (Q 0 I4)
    else
    (M_views I4 (fun I6 =>
    ∃ nn, M_search_l44 x1 Q nn I6 0)))
def M_search_b28 (I : HI) (x1 : Int32) (Q : Int32 → HI → Prop) : Prop :=
  M_search_b29 I x1 0 Q
def M_search (I : HI) (x1 : Int32) (Q : Int32 → HI → Prop) : Prop :=
  M_within x1 (0 : Int32) (5000 : Int32) (fun r1 =>
    if r1 = 0 then
    (M_search_b28 (up2 I 0 0 0) x1 Q)
    else
    (M_areAtOnce (up2 I 0 0 0) (fun r12 =>
    if r12 = 0 then
    (M_search_b28 (up2 I 0 0 0) x1 Q)
    else
    (M_search_b29 (up2 I 0 0 0) x1 1 Q))))
def M_steps (I : HI)  (Q : Int32 → HI → Prop) : Prop :=
  Q ((up2 I 0 0 0) 0 49) (up2 I 0 0 0)
def M_isWonBy_l4 (I : HI) (x1 : Int32) (Q : Int32 → Prop) : Nat → Int32 → Int32 → Prop
  | 0, _, _ => False
  | n + 1, x2, x3 =>
    if (I 0 1) ≤ x3 then
    (M_all I (fun r1 =>
    M_isWon I x2 (r1 &&& (x2 ^^^ (-1))) (fun r3 =>
    zb r3 ∧ Q r3 )))
    else
    (vp_in ((8 * x1) + x3) 2048 ∧
    ¬ (I 0 2) = 0 ∧
    vp_in x3 8 ∧
    if (irm (I 30 (nx ((8 * x1) + x3))) (I 0 2)) = (I 29 (nx x3)) then
    (M_isWonBy_l4 I x1 Q n (x2 ||| ((1 : Int32) <<< (x3 &&& 31))) (x3 + 1))
    else
    (M_isWonBy_l4 I x1 Q n x2 (x3 + 1)))
def M_isWonBy (I : HI) (x1 : Int32) (Q : Int32 → Prop) : Prop :=
  ∃ nn, M_isWonBy_l4 I x1 Q nn 0 0
def M_sums_l296 (I : HI) (x1 : Int32) (x2 : Int32) (x3 : Int32) (K261 : HI → Int32 → Prop) (K276 : HI → Int32 → Prop) (Q : Int32 → HI → Prop) : Nat → Int32 → Int32 → Prop
  | 0, _, _ => False
  | n + 1, x4, x5 =>
    if x5 ≤ 0 then
    (¬ (I 0 2) = 0 ∧
    ¬ (I 0 2) = 0 ∧
    vp_in ((1024 * x2) + x3) 8192 ∧
    K276 (up2 I 5 (nx ((1024 * x2) + x3)) (irm ((irm x4 (I 0 2)) + (I 0 2)) (I 0 2))) (x3 + 1))
    else
    (¬ (I 0 2) = 0 ∧
    ¬ (I 0 2) = 0 ∧
    M_sums_l296 I x1 x2 x3 K261 K276 Q n (x4 - (irm x5 (I 0 2))) (x5 / (I 0 2)))
def M_sums_l276 (x1 : Int32) (x2 : Int32) (K261 : HI → Int32 → Prop) (Q : Int32 → HI → Prop) : Nat → HI → Int32 → Prop
  | 0, _, _ => False
  | n + 1, I, x3 =>
    M_viewsOf I x2 (fun r8 =>
    if r8 ≤ x3 then
    (K261 I (x2 + 1))
    else
    (vp_in x2 8 ∧
    ∃ nn, M_sums_l296 I x1 x2 x3 K261 (fun I' x3' => M_sums_l276 x1 x2 K261 Q n I' x3') Q nn (I 28 (nx x2)) x3))
def M_sums_l261 (x1 : Int32) (Q : Int32 → HI → Prop) : Nat → HI → Int32 → Prop
  | 0, _, _ => False
  | n + 1, I, x2 =>
    if (I 0 1) ≤ x2 then
    (Q x1 (up2 I 0 40 0))
    else
    (M_blank I x2 (fun I6 =>
    ∃ nn, M_sums_l276 x1 x2 (fun I' x2' => M_sums_l261 x1 Q n I' x2') Q nn I6 0))
def M_sums_l216 (x1 : Int32) (x2 : Int32) (K110 : HI → Int32 → Int32 → Prop) (Q : Int32 → HI → Prop) : Nat → HI → Int32 → Prop
  | 0, _, _ => False
  | n + 1, I, x5 =>
    if (I 0 1) ≤ x5 then
    (K110 I x1 (x2 + 1))
    else
    (vp_in x5 8 ∧
    vp_in x5 8 ∧
    M_sums_l216 x1 x2 K110 Q n (up2 I 28 (nx x5) (I 29 (nx x5))) (x5 + 1))
def M_sums_l165 (I : HI) (x1 : Int32) (x2 : Int32) (K110 : HI → Int32 → Int32 → Prop) (Q : Int32 → HI → Prop) : Nat → Int32 → Int32 → Prop
  | 0, _, _ => False
  | n + 1, x4, x5 =>
    if (I 0 3) ≤ x5 then
    (if x1 < x4 then
    (∃ nn, M_sums_l216 x4 x2 K110 Q nn I 0)
    else
    (K110 I x1 (x2 + 1)))
    else
    (M_counts I x5 (fun r10 =>
    if r10 = 0 then
    (M_sums_l165 I x1 x2 K110 Q n x4 (x5 + 1))
    else
    (M_isWonBy I x5 (fun r12 =>
    if r12 = 0 then
    (M_sums_l165 I x1 x2 K110 Q n x4 (x5 + 1))
    else
    (M_sums_l165 I x1 x2 K110 Q n (x4 + 1) (x5 + 1))))))
def M_sums_l128 (x1 : Int32) (x2 : Int32) (K110 : HI → Int32 → Int32 → Prop) (Q : Int32 → HI → Prop) : Nat → HI → Int32 → Int32 → Prop
  | 0, _, _, _ => False
  | n + 1, I, x3, x4 =>
    if x4 < 0 then
    (∃ nn, M_sums_l165 I x1 x2 K110 Q nn 0 0)
    else
    (¬ (I 0 2) = 0 ∧
    vp_in x4 8 ∧
    ¬ ((up2 I 29 (nx x4) (irm x3 (I 0 2))) 0 2) = 0 ∧
    M_sums_l128 x1 x2 K110 Q n (up2 I 29 (nx x4) (irm x3 (I 0 2))) (x3 / ((up2 I 29 (nx x4) (irm x3 (I 0 2))) 0 2)) (x4 + (-1)))
def M_sums_l110  (Q : Int32 → HI → Prop) : Nat → HI → Int32 → Int32 → Prop
  | 0, _, _, _ => False
  | n + 1, I, x1, x2 =>
    if (I 0 3) ≤ x2 then
    (∃ nn, M_sums_l261 x1 Q nn (up2 I 0 50 (I 0 1)) 0)
    else
    (∃ nn, M_sums_l128 x1 x2 (fun I' x1' x2' => M_sums_l110 Q n I' x1' x2') Q nn I x2 ((I 0 1) - 1))
def M_sums_l54 (x1 : Int32) (K39 : HI → Int32 → Prop) (Q : Int32 → HI → Prop) : Nat → HI → Int32 → Prop
  | 0, _, _ => False
  | n + 1, I, x2 =>
    if (I 0 1) ≤ x2 then
    (K39 I (x1 + 1))
    else
    (vp_in x2 8 ∧
    M_sum I 17 (I 2 (nx x2)) (fun r16 =>
    vp_in x2 8 ∧
    vp_in ((8 * x1) + x2) 2048 ∧
    M_sums_l54 x1 K39 Q n (up2 I 30 (nx ((8 * x1) + x2)) (r16 + (I 17 (nx x2)))) (x2 + 1)))
def M_sums_l39  (Q : Int32 → HI → Prop) : Nat → HI → Int32 → Prop
  | 0, _, _ => False
  | n + 1, I, x1 =>
    if (I 0 3) ≤ x1 then
    (∃ nn, M_sums_l110 Q nn I (-1) 0)
    else
    (M_wears I x1 (fun I14 =>
    ∃ nn, M_sums_l54 x1 (fun I' x1' => M_sums_l39 Q n I' x1') Q nn I14 0))
def M_sums_b28 (I : HI) (t0 : Int32) (Q : Int32 → HI → Prop) : Prop :=
  M_right I t0 (1 : Int32) (fun r3 I4 =>
    if r3 = 0 then
    (Q 0 I4)
    else
    (∃ nn, M_sums_l39 Q nn I4 0))
def M_sums_b27 (I : HI) (Q : Int32 → HI → Prop) : Prop :=
  M_sums_b28 I 0 Q
def M_sums (I : HI)  (Q : Int32 → HI → Prop) : Prop :=
  M_areAtOnce (up2 I 0 0 0) (fun r1 =>
    if r1 = 0 then
    (M_sums_b27 (up2 I 0 0 0) Q)
    else
    (if 256 < ((up2 I 0 0 0) 0 3) then
    (M_sums_b27 (up2 I 0 0 0) Q)
    else
    (M_sums_b28 (up2 I 0 0 0) 1 Q)))
def M_constant_b22 (I : HI) (x1 : Int32) (t0 : Int32) (Q : Int32 → HI → Prop) : Prop :=
  M_right I t0 (1 : Int32) (fun r4 I5 =>
    if r4 = 0 then
    (Q 0 I5)
    else
    (vp_in x1 8 ∧
    Q (I5 28 (nx x1)) I5))
def M_constant (I : HI) (x1 : Int32) (Q : Int32 → HI → Prop) : Prop :=
  M_isWearer I x1 (fun r1 I2 =>
    if r1 = 0 then
    (Q 0 I2)
    else
    (if (I2 0 50) ≤ x1 then
    (M_constant_b22 I2 x1 0 Q)
    else
    (M_constant_b22 I2 x1 1 Q)))
def M_last_l3 (x0 : Int32) (Q : Int32 → Prop) : Nat → Int32 → Prop
  | 0, _ => False
  | n + 1, x1 =>
    if ((x0 >>> (x1 &&& 31)) &&& 1) = 0 then
    (M_last_l3 x0 Q n (x1 + (-1)))
    else
    (Q x1 )
def M_last  (x0 : Int32) (Q : Int32 → Prop) : Prop :=
  ∃ nn, M_last_l3 x0 Q nn 31
def M_balls_l21 (x1 : Int32) (K2 : HI → Int32 → Prop) (Q : HI → Prop) : Nat → HI → Int32 → Prop
  | 0, _, _ => False
  | n + 1, I, x2 =>
    if (I 0 1) ≤ x2 then
    (vp_in x1 32 ∧
    M_last (I 32 (nx x1)) (fun r1 =>
    vp_in x1 32 ∧
    K2 (up2 I 33 (nx x1) r1) (x1 + 1)))
    else
    (vp_in x1 32 ∧
    vp_in x1 32 ∧
    M_balls_l21 x1 K2 Q n (up2 I 32 (nx x1) ((I 32 (nx x1)) ||| ((1 : Int32) <<< ((x1 ^^^ ((1 : Int32) <<< (x2 &&& 31))) &&& 31)))) (x2 + 1))
def M_balls_l2  (Q : HI → Prop) : Nat → HI → Int32 → Prop
  | 0, _, _ => False
  | n + 1, I, x1 =>
    if (I 0 3) ≤ x1 then
    (Q I)
    else
    (vp_in x1 32 ∧
    ∃ nn, M_balls_l21 x1 (fun I' x1' => M_balls_l2 Q n I' x1') Q nn (up2 I 32 (nx x1) ((1 : Int32) <<< (x1 &&& 31))) 0)
def M_balls (I : HI)  (Q : HI → Prop) : Prop :=
  ∃ nn, M_balls_l2 Q nn I 0
def M_latest_l5 (I : HI) (x1 : Int32) (Q : Int32 → Prop) : Nat → Int32 → Int32 → Prop
  | 0, _, _ => False
  | n + 1, x2, x3 =>
    if (I 0 3) ≤ x3 then
    (Q x2 )
    else
    (if ((x1 >>> (x3 &&& 31)) &&& 1) = 1 then
    (vp_in x3 32 ∧
    if x2 ≤ (I 33 (nx x3)) then
    (M_latest_l5 I x1 Q n x2 (x3 + 1))
    else
    (vp_in x3 32 ∧
    M_latest_l5 I x1 Q n (I 33 (nx x3)) (x3 + 1)))
    else
    (M_latest_l5 I x1 Q n x2 (x3 + 1)))
def M_latest (I : HI) (x1 : Int32) (Q : Int32 → Prop) : Prop :=
  ∃ nn, M_latest_l5 I x1 Q nn 31 0
def M_covers_b119 (I : HI) (x1 : Int32) (x2 : Int32) (x3 : Int32) (t0 : Int32) (K38 : HI → Int32 → Prop) (Q : Int32 → HI → Prop) : Prop :=
  if t0 = 0 then
    (K38 I (x3 + (-1)))
    else
    (vp_in x3 33 ∧
    vp_in x3 33 ∧
    vp_in (I 31 (nx x3)) 32 ∧
    vp_in (x3 + 1) 33 ∧
    vp_in x3 33 ∧
    vp_in (x3 + 1) 33 ∧
    K38 (up2 (up2 I 34 (nx (x3 + 1)) ((I 34 (nx x3)) ||| (I 32 (nx (I 31 (nx x3)))))) 31 (nx (x3 + 1)) ((up2 I 34 (nx (x3 + 1)) ((I 34 (nx x3)) ||| (I 32 (nx (I 31 (nx x3)))))) 31 (nx x3))) (x3 + 1))
def M_covers_b118 (I : HI) (x1 : Int32) (x2 : Int32) (x3 : Int32) (K38 : HI → Int32 → Prop) (Q : Int32 → HI → Prop) : Prop :=
  M_covers_b119 I x1 x2 x3 0 K38 Q
def M_covers_l38 (x1 : Int32) (x2 : Int32) (Q : Int32 → HI → Prop) : Nat → HI → Int32 → Prop
  | 0, _, _ => False
  | n + 1, I, x3 =>
    if x3 < 0 then
    (Q 0 I)
    else
    (vp_in x3 33 ∧
    if (x2 &&& ((I 34 (nx x3)) ^^^ (-1))) = 0 then
    (Q 1 (up2 I 0 54 x3))
    else
    (vp_in x3 33 ∧
    vp_in x3 33 ∧
    if x1 ≤ x3 then
    (M_covers_b118 (up2 I 31 (nx x3) ((I 31 (nx x3)) + 1)) x1 x2 x3 (fun I' x3' => M_covers_l38 x1 x2 Q n I' x3') Q)
    else
    (vp_in x3 33 ∧
    M_latest (up2 I 31 (nx x3) ((I 31 (nx x3)) + 1)) (x2 &&& ((I 34 (nx x3)) ^^^ (-1))) (fun r1 =>
    if r1 < ((up2 I 31 (nx x3) ((I 31 (nx x3)) + 1)) 31 (nx x3)) then
    (M_covers_b118 (up2 I 31 (nx x3) ((I 31 (nx x3)) + 1)) x1 x2 x3 (fun I' x3' => M_covers_l38 x1 x2 Q n I' x3') Q)
    else
    (M_bits (x2 &&& ((I 34 (nx x3)) ^^^ (-1))) (fun r3 =>
    if ((x1 - x3) * (((up2 I 31 (nx x3) ((I 31 (nx x3)) + 1)) 0 1) + 1)) < r3 then
    (M_covers_b118 (up2 I 31 (nx x3) ((I 31 (nx x3)) + 1)) x1 x2 x3 (fun I' x3' => M_covers_l38 x1 x2 Q n I' x3') Q)
    else
    (M_covers_b119 (up2 I 31 (nx x3) ((I 31 (nx x3)) + 1)) x1 x2 x3 1 (fun I' x3' => M_covers_l38 x1 x2 Q n I' x3') Q)))))))
def M_covers_b21 (I : HI) (x1 : Int32) (t0 : Int32) (Q : Int32 → HI → Prop) : Prop :=
  ∃ nn, M_covers_l38 x1 t0 Q nn (up2 (up2 I 31 0 (-1)) 34 0 0) 0
def M_covers (I : HI) (x1 : Int32) (Q : Int32 → HI → Prop) : Prop :=
  if (I 0 3) = 32 then
    (M_covers_b21 I x1 (-1) Q)
    else
    (M_covers_b21 I x1 (((1 : Int32) <<< ((I 0 3) &&& 31)) - 1) Q)
def M_isGiven_l4 (I : HI) (x1 : Int32) (Q : Int32 → Prop) : Nat → Int32 → Int32 → Prop
  | 0, _, _ => False
  | n + 1, x2, x3 =>
    if (I 0 54) ≤ x3 then
    (zb x2 ∧ Q x2 )
    else
    (if x2 = 0 then
    (vp_in x3 33 ∧
    if (I 31 (nx x3)) = x1 then
    (M_isGiven_l4 I x1 Q n 1 (x3 + 1))
    else
    (M_isGiven_l4 I x1 Q n 0 (x3 + 1)))
    else
    (M_isGiven_l4 I x1 Q n 1 (x3 + 1)))
def M_isGiven (I : HI) (x1 : Int32) (Q : Int32 → Prop) : Prop :=
  ∃ nn, M_isGiven_l4 I x1 Q nn 0 0
def M_cover_l209 (x1 : Int32) (K194 : HI → Int32 → Prop) (Q : Int32 → HI → Prop) : Nat → HI → Int32 → Prop
  | 0, _, _ => False
  | n + 1, I, x2 =>
    if (I 0 3) ≤ x2 then
    (K194 I (x1 + 1))
    else
    (if ((x2 >>> (x1 &&& 31)) &&& 1) = 1 then
    (M_cover_l209 x1 K194 Q n I (x2 + 1))
    else
    (M_wears I x2 (fun I3 =>
    M_isGiven I3 x2 (fun r5 =>
    M_isGiven I3 (x2 ||| ((1 : Int32) <<< (x1 &&& 31))) (fun r7 =>
    M_viewOf I3 x1 (fun r9 =>
    if r5 = r7 then
    (if r5 = 0 then
    (vp_in ((1024 * x1) + r9) 8192 ∧
    M_cover_l209 x1 K194 Q n (up2 I3 5 (nx ((1024 * x1) + r9)) 2) (x2 + 1))
    else
    (vp_in ((1024 * x1) + r9) 8192 ∧
    M_cover_l209 x1 K194 Q n (up2 I3 5 (nx ((1024 * x1) + r9)) 0) (x2 + 1)))
    else
    (if r5 = 0 then
    (vp_in ((1024 * x1) + r9) 8192 ∧
    M_cover_l209 x1 K194 Q n (up2 I3 5 (nx ((1024 * x1) + r9)) 0) (x2 + 1))
    else
    (vp_in ((1024 * x1) + r9) 8192 ∧
    M_cover_l209 x1 K194 Q n (up2 I3 5 (nx ((1024 * x1) + r9)) 1) (x2 + 1)))))))))
def M_cover_l194  (Q : Int32 → HI → Prop) : Nat → HI → Int32 → Prop
  | 0, _, _ => False
  | n + 1, I, x1 =>
    if (I 0 1) ≤ x1 then
    (Q ((up2 I 0 40 0) 0 54) (up2 I 0 40 0))
    else
    (M_blank I x1 (fun I1 =>
    ∃ nn, M_cover_l209 x1 (fun I' x1' => M_cover_l194 Q n I' x1') Q nn I1 0))
def M_cover_l155  (Q : Int32 → HI → Prop) : Nat → HI → Int32 → Prop
  | 0, _, _ => False
  | n + 1, I, x1 =>
    if (I 0 1) ≤ x1 then
    (∃ nn, M_cover_l194 Q nn I 0)
    else
    (M_all I (fun r11 =>
    vp_in x1 8 ∧
    vp_in x1 8 ∧
    M_cover_l155 Q n (up2 (up2 I 2 (nx x1) (r11 &&& (((1 : Int32) <<< (x1 &&& 31)) ^^^ (-1)))) 3 (nx x1) 0) (x1 + 1)))
def M_cover_l119  (Q : Int32 → HI → Prop) : Nat → HI → Int32 → Prop
  | 0, _, _ => False
  | n + 1, I, x1 =>
    if (I 0 54) ≤ x1 then
    (∃ nn, M_cover_l155 Q nn I 0)
    else
    (vp_in ((32 * (I 0 1)) + x1) 192 ∧
    vp_in x1 33 ∧
    M_cover_l119 Q n (up2 I 31 (nx x1) (I 36 (nx ((32 * (I 0 1)) + x1)))) (x1 + 1))
def M_cover_b104 (I : HI) (Q : Int32 → HI → Prop) : Prop :=
  vp_in (I 0 1) 6 ∧
    ∃ nn, M_cover_l119 Q nn (up2 I 0 54 (I 35 (nx (I 0 1)))) 0
def M_cover_l70  (Q : Int32 → HI → Prop) : Nat → HI → Int32 → Prop
  | 0, _, _ => False
  | n + 1, I, x2 =>
    if (I 0 54) ≤ x2 then
    (M_cover_b104 I Q)
    else
    (vp_in x2 33 ∧
    vp_in ((32 * (I 0 1)) + x2) 192 ∧
    M_cover_l70 Q n (up2 I 36 (nx ((32 * (I 0 1)) + x2)) (I 31 (nx x2))) (x2 + 1))
def M_cover_l41  (Q : Int32 → HI → Prop) : Nat → HI → Int32 → Prop
  | 0, _, _ => False
  | n + 1, I, x1 =>
    M_covers I x1 (fun r15 I16 =>
    if r15 = 0 then
    (M_cover_l41 Q n I16 (x1 + 1))
    else
    (vp_in (I16 0 1) 6 ∧
    ∃ nn, M_cover_l70 Q nn (up2 I16 35 (nx (I16 0 1)) (I16 0 54)) 0))
def M_cover (I : HI)  (Q : Int32 → HI → Prop) : Prop :=
  if ((up2 I 0 0 0) 0 2) = 2 then
    (if ((up2 I 0 0 0) 0 1) ≤ 5 then
    (vp_in ((up2 I 0 0 0) 0 1) 6 ∧
    if ((up2 I 0 0 0) 35 (nx ((up2 I 0 0 0) 0 1))) = 0 then
    (M_balls (up2 I 0 0 0) (fun I13 =>
    ∃ nn, M_cover_l41 Q nn I13 1))
    else
    (M_cover_b104 (up2 I 0 0 0) Q))
    else
    (Q (-1) (up2 I 0 0 0)))
    else
    (Q (-1) (up2 I 0 0 0))
def M_given_b23 (I : HI) (x1 : Int32) (t0 : Int32) (Q : Int32 → HI → Prop) : Prop :=
  M_right I t0 (1 : Int32) (fun r1 I2 =>
    if r1 = 0 then
    (Q 0 I2)
    else
    (vp_in x1 33 ∧
    Q (I2 31 (nx x1)) I2))
def M_given_b22 (I : HI) (x1 : Int32) (Q : Int32 → HI → Prop) : Prop :=
  M_given_b23 I x1 0 Q
def M_given (I : HI) (x1 : Int32) (Q : Int32 → HI → Prop) : Prop :=
  if x1 < 0 then
    (M_given_b22 (up2 I 0 0 0) x1 Q)
    else
    (if ((up2 I 0 0 0) 0 54) ≤ x1 then
    (M_given_b22 (up2 I 0 0 0) x1 Q)
    else
    (M_given_b23 (up2 I 0 0 0) x1 1 Q))
def M_says (I : HI) (x1 : Int32) (x2 : Int32) (x3 : Int32) (x4 : Int32) (Q : HI → Prop) : Prop :=
  vp_in ((1000 * x1) + x2) 8000 ∧
    vp_in (((1000 * x1) + x2) + 1) 8000 ∧
    Q (up2 (up2 I 6 (nx ((1000 * x1) + x2)) x3) 6 (nx (((1000 * x1) + x2) + 1)) x4)
def M_line_l7  (Q : Int32 → HI → Prop) : Nat → HI → Int32 → Prop
  | 0, _, _ => False
  | n + 1, I, x1 =>
    if (I 0 1) ≤ x1 then
    (M_worstRow (up2 I 0 40 0) (fun r1 I2 =>
    if r1 = (-1) then
    (Q (-1) I2)
    else
    (vp_in r1 6561 ∧
    M_bits (I2 21 (nx r1)) (fun r4 =>
    Q r4 I2))))
    else
    (M_all I (fun r6 =>
    vp_in x1 8 ∧
    vp_in x1 8 ∧
    vp_in x1 8 ∧
    vp_in x1 8 ∧
    vp_in x1 8 ∧
    if x1 = 0 then
    (M_says (up2 (up2 (up2 (up2 (up2 I 2 (nx x1) (r6 &&& ((((1 : Int32) <<< ((x1 + 1) &&& 31)) - 1) ^^^ (-1)))) 3 (nx x1) x1) 4 (nx x1) 1) 7 (nx x1) (-1)) 8 (nx x1) 0) (0 : Int32) (0 : Int32) (2 : Int32) (11 : Int32) (fun I16 =>
    M_line_l7 Q n (up2 I16 6 2 0) (x1 + 1)))
    else
    (M_says (up2 (up2 (up2 (up2 (up2 I 2 (nx x1) (r6 &&& ((((1 : Int32) <<< ((x1 + 1) &&& 31)) - 1) ^^^ (-1)))) 3 (nx x1) x1) 4 (nx x1) 1) 7 (nx x1) (-1)) 8 (nx x1) 0) x1 (0 : Int32) (2 : Int32) (10 : Int32) (fun I8 =>
    M_says I8 x1 (2 : Int32) (2 : Int32) (11 : Int32) (fun I10 =>
    vp_in ((1000 * x1) + 4) 8000 ∧
    M_says (up2 I10 6 (nx ((1000 * x1) + 4)) 9) x1 (5 : Int32) (2 : Int32) (12 : Int32) (fun I12 =>
    M_says I12 x1 (7 : Int32) (2 : Int32) (10 : Int32) (fun I14 =>
    vp_in ((1000 * x1) + 9) 8000 ∧
    vp_in ((1000 * x1) + 10) 8000 ∧
    vp_in ((1000 * x1) + 11) 8000 ∧
    M_line_l7 Q n (up2 (up2 (up2 I14 6 (nx ((1000 * x1) + 9)) 9) 6 (nx ((1000 * x1) + 10)) 9) 6 (nx ((1000 * x1) + 11)) 0) (x1 + 1))))))))
def M_line (I : HI)  (Q : Int32 → HI → Prop) : Prop :=
  ∃ nn, M_line_l7 Q nn (up2 I 0 0 0) 0
def M_isWonIf_l87 (I : HI) (Q : Int32 → HI → Prop) : Nat → Int32 → Int32 → Int32 → Prop
  | 0, _, _, _ => False
  | n + 1, x4, x5, x6 =>
    if (I 0 1) ≤ x6 then
    (M_isWon I x4 x5 (fun r3 =>
    zb r3 ∧ Q r3 I))
    else
    (vp_in x6 8 ∧
    vp_in x6 8 ∧
    if (I 18 (nx x6)) = (I 17 (nx x6)) then
    (M_isWonIf_l87 I Q n (x4 ||| ((1 : Int32) <<< (x6 &&& 31))) x5 (x6 + 1))
    else
    (vp_in x6 8 ∧
    if (I 18 (nx x6)) = (I 0 2) then
    (M_isWonIf_l87 I Q n x4 x5 (x6 + 1))
    else
    (M_isWonIf_l87 I Q n x4 (x5 ||| ((1 : Int32) <<< (x6 &&& 31))) (x6 + 1))))
def M_isWonIf_l32 (x4 : Int32) (K22 : HI → Int32 → Prop) (Q : Int32 → HI → Prop) : Nat → HI → Int32 → Prop
  | 0, _, _ => False
  | n + 1, I, x5 =>
    if (I 0 1) ≤ x5 then
    (K22 I (x4 + 1))
    else
    (vp_in x5 8 ∧
    if (I 3 (nx x5)) = x4 then
    (M_guesses I x5 (fun r5 I6 =>
    vp_in x5 8 ∧
    M_isWonIf_l32 x4 K22 Q n (up2 I6 18 (nx x5) r5) (x5 + 1)))
    else
    (M_isWonIf_l32 x4 K22 Q n I (x5 + 1)))
def M_isWonIf_l22  (Q : Int32 → HI → Prop) : Nat → HI → Int32 → Prop
  | 0, _, _ => False
  | n + 1, I, x4 =>
    if 8 ≤ x4 then
    (∃ nn, M_isWonIf_l87 I Q nn 0 0 0)
    else
    (∃ nn, M_isWonIf_l32 x4 (fun I' x4' => M_isWonIf_l22 Q n I' x4') Q nn I 0)
def M_isWonIf (I : HI) (x1 : Int32) (x2 : Int32) (x3 : Int32) (Q : Int32 → HI → Prop) : Prop :=
  M_laysOut I x1 (fun I1 =>
    vp_in x2 8 ∧
    vp_in x2 8 ∧
    ∃ nn, M_isWonIf_l22 Q nn (up2 I1 18 (nx x2) x3) (((up2 I1 18 (nx x2) x3) 3 (nx x2)) + 1))
def M_weighs_l173 (x1 : Int32) (x2 : Int32) (x3 : Int32) (K165 : HI → Int32 → Prop) (Q : HI → Prop) : Nat → HI → Int32 → Prop
  | 0, _, _ => False
  | n + 1, I, x4 =>
    if (I 0 2) < x4 then
    (K165 I (x3 + 1))
    else
    (vp_in ((5 * x3) + x4) 1280 ∧
    if (I 0 62) < (I 37 (nx ((5 * x3) + x4))) then
    (vp_in ((5 * x3) + x4) 1280 ∧
    M_weighs_l173 x1 x2 x3 K165 Q n (up2 (up2 (up2 (up2 I 0 62 (I 37 (nx ((5 * x3) + x4)))) 0 63 x1) 0 64 x3) 0 65 x4) (x4 + 1))
    else
    (M_weighs_l173 x1 x2 x3 K165 Q n I (x4 + 1)))
def M_weighs_l165 (x1 : Int32) (x2 : Int32) (Q : HI → Prop) : Nat → HI → Int32 → Prop
  | 0, _, _ => False
  | n + 1, I, x3 =>
    if x2 ≤ x3 then
    (Q I)
    else
    (∃ nn, M_weighs_l173 x1 x2 x3 (fun I' x3' => M_weighs_l165 x1 x2 Q n I' x3') Q nn I 0)
def M_weighs_b146 (I : HI) (x1 : Int32) (x2 : Int32) (x3 : Int32) (x4 : Int32) (x5 : Int32) (x6 : Int32) (t0 : Int32) (t1 : Int32) (t2 : Int32) (K30 : HI → Int32 → Prop) (K90 : HI → Int32 → Prop) (Q : HI → Prop) : Prop :=
  vp_in t2 1280 ∧
    K90 (up2 I 37 (nx t2) (t1 + (t0 - x5))) (x6 + 1)
def M_weighs_l90 (x1 : Int32) (x2 : Int32) (x3 : Int32) (x4 : Int32) (x5 : Int32) (K30 : HI → Int32 → Prop) (Q : HI → Prop) : Nat → HI → Int32 → Prop
  | 0, _, _ => False
  | n + 1, I, x6 =>
    if (I 0 2) < x6 then
    (K30 I (x3 + 1))
    else
    (vp_in ((1024 * x1) + x4) 8192 ∧
    if x6 = (I 5 (nx ((1024 * x1) + x4))) then
    (M_weighs_l90 x1 x2 x3 x4 x5 K30 Q n I (x6 + 1))
    else
    (vp_in ((5 * x4) + x6) 1280 ∧
    M_isWonIf I x3 x1 x6 (fun r11 I12 =>
    if r11 = 0 then
    (M_weighs_b146 I12 x1 x2 x3 x4 x5 x6 0 (I 37 (nx ((5 * x4) + x6))) ((5 * x4) + x6) K30 (fun I' x6' => M_weighs_l90 x1 x2 x3 x4 x5 K30 Q n I' x6') Q)
    else
    (M_weighs_b146 I12 x1 x2 x3 x4 x5 x6 1 (I 37 (nx ((5 * x4) + x6))) ((5 * x4) + x6) K30 (fun I' x6' => M_weighs_l90 x1 x2 x3 x4 x5 K30 Q n I' x6') Q))))
def M_weighs_l30 (x1 : Int32) (x2 : Int32) (Q : HI → Prop) : Nat → HI → Int32 → Prop
  | 0, _, _ => False
  | n + 1, I, x3 =>
    if (I 0 3) ≤ x3 then
    (∃ nn, M_weighs_l165 x1 x2 Q nn I 0)
    else
    (M_counts I x3 (fun r3 =>
    if r3 = 0 then
    (M_weighs_l30 x1 x2 Q n I (x3 + 1))
    else
    (M_laysOut I x3 (fun I5 =>
    M_viewOf I5 x1 (fun r7 =>
    vp_in x3 6561 ∧
    vp_in x3 6561 ∧
    M_isWon I5 (I5 20 (nx x3)) (I5 21 (nx x3)) (fun r9 =>
    if r9 = 0 then
    (∃ nn, M_weighs_l90 x1 x2 x3 r7 0 (fun I' x3' => M_weighs_l30 x1 x2 Q n I' x3') Q nn I5 0)
    else
    (∃ nn, M_weighs_l90 x1 x2 x3 r7 1 (fun I' x3' => M_weighs_l30 x1 x2 Q n I' x3') Q nn I5 0)))))))
def M_weighs_l8 (x1 : Int32) (x2 : Int32) (Q : HI → Prop) : Nat → HI → Int32 → Prop
  | 0, _, _ => False
  | n + 1, I, x3 =>
    if (5 * x2) ≤ x3 then
    (∃ nn, M_weighs_l30 x1 x2 Q nn I 0)
    else
    (vp_in x3 1280 ∧
    M_weighs_l8 x1 x2 Q n (up2 I 37 (nx x3) 0) (x3 + 1))
def M_weighs (I : HI) (x1 : Int32) (Q : HI → Prop) : Prop :=
  M_viewsOf I x1 (fun r1 =>
    ∃ nn, M_weighs_l8 x1 r1 Q nn I 0)
def M_mend_b150 (I : HI) (x1 : Int32) (x3 : Int32) (t0 : Int32) (K85 : HI → Int32 → Int32 → Prop) (Q : Int32 → HI → Prop) : Prop :=
  if t0 = 0 then
    (K85 I x3 t0)
    else
    (vp_in ((1024 * (I 0 63)) + (I 0 64)) 8192 ∧
    K85 (up2 (up2 I 5 (nx ((1024 * (I 0 63)) + (I 0 64))) (I 0 65)) 0 40 0) (x3 + 1) t0)
def M_mend_l107 (x1 : Int32) (x3 : Int32) (K85 : HI → Int32 → Int32 → Prop) (Q : Int32 → HI → Prop) : Nat → HI → Int32 → Prop
  | 0, _, _ => False
  | n + 1, I, x5 =>
    if (I 0 1) ≤ x5 then
    (if (I 0 62) ≤ 0 then
    (M_mend_b150 I x1 x3 0 K85 Q)
    else
    (M_mend_b150 I x1 x3 1 K85 Q))
    else
    (vp_in x5 8 ∧
    if (I 4 (nx x5)) = 0 then
    (M_weighs I x5 (fun I8 =>
    M_mend_l107 x1 x3 K85 Q n I8 (x5 + 1)))
    else
    (M_mend_l107 x1 x3 K85 Q n I (x5 + 1)))
def M_mend_l85 (x1 : Int32) (Q : Int32 → HI → Prop) : Nat → HI → Int32 → Int32 → Prop
  | 0, _, _, _ => False
  | n + 1, I, x3, x4 =>
    if x4 = 0 then
    (Q x3 I)
    else
    (if x1 ≤ x3 then
    (Q x3 I)
    else
    (M_worksAll I (fun I6 =>
    ∃ nn, M_mend_l107 x1 x3 (fun I' x3' x4' => M_mend_l85 x1 Q n I' x3' x4') Q nn (up2 I6 0 62 0) 0)))
def M_mend_l26 (I : HI) (x1 : Int32) (Q : Int32 → HI → Prop) : Nat → Int32 → Int32 → Prop
  | 0, _, _ => False
  | n + 1, x2, x3 =>
    if (I 0 1) ≤ x3 then
    (if 256 < x2 then
    (Q (-1) I)
    else
    (if (I 0 3) ≤ 256 then
    (∃ nn, M_mend_l85 x1 Q nn I 0 1)
    else
    (Q (-1) I)))
    else
    (vp_in x3 8 ∧
    if (I 4 (nx x3)) = 0 then
    (M_viewsOf I x3 (fun r10 =>
    M_mend_l26 I x1 Q n (x2 + r10) (x3 + 1)))
    else
    (M_mend_l26 I x1 Q n (x2 + 0) (x3 + 1)))
def M_mend (I : HI) (x1 : Int32) (Q : Int32 → HI → Prop) : Prop :=
  M_within x1 (0 : Int32) (20 : Int32) (fun r1 =>
    M_right (up2 I 0 0 0) r1 (1 : Int32) (fun r3 I4 =>
    if r3 = 0 then
    (Q 0 I4)
    else
    (∃ nn, M_mend_l26 I4 x1 Q nn 0 0)))
def M_draw_l24 (x4 : Int32) (K12 : HI → Int32 → Int32 → Int32 → Prop) (Q : Int32 → HI → Prop) : Nat → HI → Int32 → Int32 → Int32 → Prop
  | 0, _, _, _, _ => False
  | n + 1, I, x2, x3, x5 =>
    vp_in x4 8 ∧
    if (I 4 (nx x4)) = 0 then
    (M_viewsOf I x4 (fun r1 =>
    if r1 ≤ x5 then
    (K12 I x2 x3 (x4 + 1))
    else
    (¬ (I 0 2) = 0 ∧
    vp_in ((1024 * x4) + x5) 8192 ∧
    M_draw_l24 x4 K12 Q n (up2 I 5 (nx ((1024 * x4) + x5)) (irm ((((x2 * 1103515245) + 12345) >>> (16 &&& 31)) &&& 32767) (I 0 2))) ((x2 * 1103515245) + 12345) (x3 + 1) (x5 + 1))))
    else
    (K12 I x2 x3 (x4 + 1))
def M_draw_l12  (Q : Int32 → HI → Prop) : Nat → HI → Int32 → Int32 → Int32 → Prop
  | 0, _, _, _, _ => False
  | n + 1, I, x2, x3, x4 =>
    if (I 0 1) ≤ x4 then
    (Q x3 (up2 I 0 40 0))
    else
    (∃ nn, M_draw_l24 x4 (fun I' x2' x3' x4' => M_draw_l12 Q n I' x2' x3' x4') Q nn I x2 x3 0)
def M_draw (I : HI) (x1 : Int32) (Q : Int32 → HI → Prop) : Prop :=
  ∃ nn, M_draw_l12 Q nn (up2 I 0 0 0) x1 0 0
def M_keep_l170 (x1 : Int32) (Q : Int32 → HI → Prop) : Nat → HI → Int32 → Prop
  | 0, _, _ => False
  | n + 1, I, x2 =>
    if 8000 ≤ x2 then
    (Q 1 I)
    else
    (vp_in x2 8000 ∧
    vp_in ((8000 * x1) + x2) 32000 ∧
    M_keep_l170 x1 Q n (up2 I 44 (nx ((8000 * x1) + x2)) (I 6 (nx x2))) (x2 + 1))
def M_keep_l137 (x1 : Int32) (Q : Int32 → HI → Prop) : Nat → HI → Int32 → Prop
  | 0, _, _ => False
  | n + 1, I, x2 =>
    if 8192 ≤ x2 then
    (∃ nn, M_keep_l170 x1 Q nn I 0)
    else
    (vp_in x2 8192 ∧
    vp_in ((8192 * x1) + x2) 32768 ∧
    M_keep_l137 x1 Q n (up2 I 43 (nx ((8192 * x1) + x2)) (I 5 (nx x2))) (x2 + 1))
def M_keep_l38 (x1 : Int32) (Q : Int32 → HI → Prop) : Nat → HI → Int32 → Prop
  | 0, _, _ => False
  | n + 1, I, x2 =>
    if 8 ≤ x2 then
    (∃ nn, M_keep_l137 x1 Q nn I 0)
    else
    (vp_in x2 8 ∧
    vp_in ((8 * x1) + x2) 32 ∧
    vp_in x2 8 ∧
    vp_in ((8 * x1) + x2) 32 ∧
    vp_in x2 8 ∧
    vp_in ((8 * x1) + x2) 32 ∧
    vp_in x2 8 ∧
    vp_in ((8 * x1) + x2) 32 ∧
    vp_in x2 8 ∧
    vp_in ((8 * x1) + x2) 32 ∧
    M_keep_l38 x1 Q n (up2 (up2 (up2 (up2 (up2 I 40 (nx ((8 * x1) + x2)) (I 2 (nx x2))) 41 (nx ((8 * x1) + x2)) ((up2 I 40 (nx ((8 * x1) + x2)) (I 2 (nx x2))) 3 (nx x2))) 42 (nx ((8 * x1) + x2)) ((up2 (up2 I 40 (nx ((8 * x1) + x2)) (I 2 (nx x2))) 41 (nx ((8 * x1) + x2)) ((up2 I 40 (nx ((8 * x1) + x2)) (I 2 (nx x2))) 3 (nx x2))) 4 (nx x2))) 45 (nx ((8 * x1) + x2)) ((up2 (up2 (up2 I 40 (nx ((8 * x1) + x2)) (I 2 (nx x2))) 41 (nx ((8 * x1) + x2)) ((up2 I 40 (nx ((8 * x1) + x2)) (I 2 (nx x2))) 3 (nx x2))) 42 (nx ((8 * x1) + x2)) ((up2 (up2 I 40 (nx ((8 * x1) + x2)) (I 2 (nx x2))) 41 (nx ((8 * x1) + x2)) ((up2 I 40 (nx ((8 * x1) + x2)) (I 2 (nx x2))) 3 (nx x2))) 4 (nx x2))) 7 (nx x2))) 46 (nx ((8 * x1) + x2)) ((up2 (up2 (up2 (up2 I 40 (nx ((8 * x1) + x2)) (I 2 (nx x2))) 41 (nx ((8 * x1) + x2)) ((up2 I 40 (nx ((8 * x1) + x2)) (I 2 (nx x2))) 3 (nx x2))) 42 (nx ((8 * x1) + x2)) ((up2 (up2 I 40 (nx ((8 * x1) + x2)) (I 2 (nx x2))) 41 (nx ((8 * x1) + x2)) ((up2 I 40 (nx ((8 * x1) + x2)) (I 2 (nx x2))) 3 (nx x2))) 4 (nx x2))) 45 (nx ((8 * x1) + x2)) ((up2 (up2 (up2 I 40 (nx ((8 * x1) + x2)) (I 2 (nx x2))) 41 (nx ((8 * x1) + x2)) ((up2 I 40 (nx ((8 * x1) + x2)) (I 2 (nx x2))) 3 (nx x2))) 42 (nx ((8 * x1) + x2)) ((up2 (up2 I 40 (nx ((8 * x1) + x2)) (I 2 (nx x2))) 41 (nx ((8 * x1) + x2)) ((up2 I 40 (nx ((8 * x1) + x2)) (I 2 (nx x2))) 3 (nx x2))) 4 (nx x2))) 7 (nx x2))) 8 (nx x2))) (x2 + 1))
def M_keep (I : HI) (x1 : Int32) (Q : Int32 → HI → Prop) : Prop :=
  M_within x1 (0 : Int32) (3 : Int32) (fun r1 =>
    if r1 = 0 then
    (Q 0 (up2 I 0 0 0))
    else
    (vp_in x1 4 ∧
    vp_in x1 4 ∧
    ∃ nn, M_keep_l38 x1 Q nn (up2 (up2 (up2 I 0 0 0) 38 (nx x1) ((up2 I 0 0 0) 0 1)) 39 (nx x1) ((up2 (up2 I 0 0 0) 38 (nx x1) ((up2 I 0 0 0) 0 1)) 0 2)) 0))
def M_take_l175 (x1 : Int32) (Q : Int32 → HI → Prop) : Nat → HI → Int32 → Prop
  | 0, _, _ => False
  | n + 1, I, x2 =>
    if 8000 ≤ x2 then
    (Q 1 I)
    else
    (vp_in ((8000 * x1) + x2) 32000 ∧
    vp_in x2 8000 ∧
    M_take_l175 x1 Q n (up2 I 6 (nx x2) (I 44 (nx ((8000 * x1) + x2)))) (x2 + 1))
def M_take_l142 (x1 : Int32) (Q : Int32 → HI → Prop) : Nat → HI → Int32 → Prop
  | 0, _, _ => False
  | n + 1, I, x2 =>
    if 8192 ≤ x2 then
    (∃ nn, M_take_l175 x1 Q nn I 0)
    else
    (vp_in ((8192 * x1) + x2) 32768 ∧
    vp_in x2 8192 ∧
    M_take_l142 x1 Q n (up2 I 5 (nx x2) (I 43 (nx ((8192 * x1) + x2)))) (x2 + 1))
def M_take_l43 (x1 : Int32) (Q : Int32 → HI → Prop) : Nat → HI → Int32 → Prop
  | 0, _, _ => False
  | n + 1, I, x2 =>
    if 8 ≤ x2 then
    (∃ nn, M_take_l142 x1 Q nn I 0)
    else
    (vp_in ((8 * x1) + x2) 32 ∧
    vp_in x2 8 ∧
    vp_in ((8 * x1) + x2) 32 ∧
    vp_in x2 8 ∧
    vp_in ((8 * x1) + x2) 32 ∧
    vp_in x2 8 ∧
    vp_in ((8 * x1) + x2) 32 ∧
    vp_in x2 8 ∧
    vp_in ((8 * x1) + x2) 32 ∧
    vp_in x2 8 ∧
    M_take_l43 x1 Q n (up2 (up2 (up2 (up2 (up2 I 2 (nx x2) (I 40 (nx ((8 * x1) + x2)))) 3 (nx x2) ((up2 I 2 (nx x2) (I 40 (nx ((8 * x1) + x2)))) 41 (nx ((8 * x1) + x2)))) 4 (nx x2) ((up2 (up2 I 2 (nx x2) (I 40 (nx ((8 * x1) + x2)))) 3 (nx x2) ((up2 I 2 (nx x2) (I 40 (nx ((8 * x1) + x2)))) 41 (nx ((8 * x1) + x2)))) 42 (nx ((8 * x1) + x2)))) 7 (nx x2) ((up2 (up2 (up2 I 2 (nx x2) (I 40 (nx ((8 * x1) + x2)))) 3 (nx x2) ((up2 I 2 (nx x2) (I 40 (nx ((8 * x1) + x2)))) 41 (nx ((8 * x1) + x2)))) 4 (nx x2) ((up2 (up2 I 2 (nx x2) (I 40 (nx ((8 * x1) + x2)))) 3 (nx x2) ((up2 I 2 (nx x2) (I 40 (nx ((8 * x1) + x2)))) 41 (nx ((8 * x1) + x2)))) 42 (nx ((8 * x1) + x2)))) 45 (nx ((8 * x1) + x2)))) 8 (nx x2) ((up2 (up2 (up2 (up2 I 2 (nx x2) (I 40 (nx ((8 * x1) + x2)))) 3 (nx x2) ((up2 I 2 (nx x2) (I 40 (nx ((8 * x1) + x2)))) 41 (nx ((8 * x1) + x2)))) 4 (nx x2) ((up2 (up2 I 2 (nx x2) (I 40 (nx ((8 * x1) + x2)))) 3 (nx x2) ((up2 I 2 (nx x2) (I 40 (nx ((8 * x1) + x2)))) 41 (nx ((8 * x1) + x2)))) 42 (nx ((8 * x1) + x2)))) 7 (nx x2) ((up2 (up2 (up2 I 2 (nx x2) (I 40 (nx ((8 * x1) + x2)))) 3 (nx x2) ((up2 I 2 (nx x2) (I 40 (nx ((8 * x1) + x2)))) 41 (nx ((8 * x1) + x2)))) 4 (nx x2) ((up2 (up2 I 2 (nx x2) (I 40 (nx ((8 * x1) + x2)))) 3 (nx x2) ((up2 I 2 (nx x2) (I 40 (nx ((8 * x1) + x2)))) 41 (nx ((8 * x1) + x2)))) 42 (nx ((8 * x1) + x2)))) 45 (nx ((8 * x1) + x2)))) 46 (nx ((8 * x1) + x2)))) (x2 + 1))
def M_take (I : HI) (x1 : Int32) (Q : Int32 → HI → Prop) : Prop :=
  M_within x1 (0 : Int32) (3 : Int32) (fun r1 =>
    if r1 = 0 then
    (Q 0 (up2 I 0 0 0))
    else
    (vp_in x1 4 ∧
    if ((up2 I 0 0 0) 38 (nx x1)) = 0 then
    (Q 0 (up2 I 0 0 0))
    else
    (vp_in x1 4 ∧
    vp_in x1 4 ∧
    M_anew (up2 I 0 0 0) ((up2 I 0 0 0) 38 (nx x1)) ((up2 I 0 0 0) 39 (nx x1)) (fun I3 =>
    ∃ nn, M_take_l43 x1 Q nn I3 0))))
def M_count_l34 (I : HI) (x1 : Int32) (Q : Int32 → HI → Prop) : Nat → Int32 → Int32 → Prop
  | 0, _, _ => False
  | n + 1, x2, x3 =>
    if (I 0 1) ≤ x3 then
    (if x1 = 0 then
    (Q (I 0 1) I)
    else
    if x1 = 1 then
    (Q (I 0 2) I)
    else
    if x1 = 2 then
    (Q (I 0 3) I)
    else
    if x1 = 3 then
    (Q (I 0 4) I)
    else
    if x1 = 4 then
    (Q (I 0 5) I)
    else
    if x1 = 5 then
    (Q (I 0 16) I)
    else
    (Q x2 I))
    else
    (vp_in x3 8 ∧
    if (I 4 (nx x3)) = 1 then
    (M_count_l34 I x1 Q n (x2 + 1) (x3 + 1))
    else
    (M_count_l34 I x1 Q n (x2 + 0) (x3 + 1)))
def M_count_b21 (I : HI) (x1 : Int32) (t0 : Int32) (Q : Int32 → HI → Prop) : Prop :=
  M_right I t0 (1 : Int32) (fun r1 I2 =>
    if r1 = 0 then
    (Q 0 I2)
    else
    (∃ nn, M_count_l34 I2 x1 Q nn 0 0))
def M_count_b20 (I : HI) (x1 : Int32) (Q : Int32 → HI → Prop) : Prop :=
  M_count_b21 I x1 0 Q
def M_count (I : HI) (x1 : Int32) (Q : Int32 → HI → Prop) : Prop :=
  if x1 < 0 then
    (M_count_b20 (up2 I 0 0 0) x1 Q)
    else
    (if 6 < x1 then
    (M_count_b20 (up2 I 0 0 0) x1 Q)
    else
    (M_count_b21 (up2 I 0 0 0) x1 1 Q))
