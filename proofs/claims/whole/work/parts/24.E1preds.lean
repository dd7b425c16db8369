theorem yk_X6_read : hYV yX6_read cX6_read 5 none 3 := ⟨kw883, kw884, kw106, kw885, by decide +kernel, by decide +kernel, by decide +kernel⟩
theorem yk_X10_line : hYV yX10_line cX10_line 1 (some .int) 0 := ⟨kw706, kw707, kw101, kw708, by decide +kernel, by decide +kernel, by decide +kernel⟩
theorem yk_X10_rules : hYV yX10_rules cX10_rules 2 (some .int) 1 := ⟨kw863, kw864, kw101, kw865, by decide +kernel, by decide +kernel, by decide +kernel⟩
def Rd_read_l68 (b : Nat) (Q : HI → HR → HR → HL → Prop) : Nat → HI → HR → HR → HL → Int32 → Nat → Nat → Prop
  | 0, _, _, _, _, _, _, _ => False
  | n + 1, I, T, F, L, x4, cl, sl =>
    cl ≤ 85 ∧ sl ≤ b ∧
    (if 16 < x4 then
    (Q I T F L)
    else
    (if (I 28 8) = 128 then
    (Q I T F L)
    else
    (if (I 28 8) = 130 then
    (Q I T F L)
    else
    (if (I 28 8) = 141 then
    (if x4 = 16 then
    (Rd_stop I (2 : Int32) (fun I9 =>
    Rd_read_l68 b Q n I9 T F L (x4 + 1) cl sl))
    else
    (∃ eb3, cl + 5 ≤ 85 ∧ sl + eb3 ≤ b ∧
    Rd_readRule I T F L eb3 (fun I4 T5 F6 L7 =>
    Geo F6 L7 ∧
    F6 28 3 = some 34 ∧
    Rd_read_l68 b Q n I4 T5 F6 L7 (x4 + 1) (cl + 5) (sl + eb3))))
    else
    (Rd_stop I (1 : Int32) (fun I11 =>
    Rd_read_l68 b Q n I11 T F L (x4 + 1) cl sl))))))
def Rd_read_l40 (I : HI) (F : HR) (L : HL) (b : Nat) (Q : HI → HR → HR → HL → Prop) : Nat → HR → Int32 → Prop
  | 0, _, _ => False
  | n + 1, T, x4 =>
    if 8 ≤ x4 then
    (Rd_next I (fun I1 =>
    ∃ nn, Rd_read_l68 b Q nn I1 T F L 0 0 0))
    else
    (vp_in x4 8 ∧
    Rd_read_l40 I F L b Q n (up2 T 29 (nx x4) none) (x4 + 1))
def Rd_read (I : HI) (T : HR) (F : HR) (L : HL) (x2 : Int32) (x3 : Int32) (b : Nat) (Q : HI → HR → HR → HL → Prop) : Prop :=
  Geo (up2 F 28 3 (some 34)) L ∧
    ∃ nn, Rd_read_l40 (up2 (up2 (up2 (up2 (up2 (up2 I 28 4 x2) 28 5 x3) 28 0 0) 28 1 (-1)) 28 6 0) 28 8 128) (up2 F 28 3 (some 34)) L b Q nn T 0
def H_line (I : HI) (T : HR) (F : HR) (L : HL)  (Q : Int32 → HI → HR → HR → HL → Prop) : Prop :=
  ∃ eg1, F 0 13 = some eg1 ∧ (eg1, 8, 0) ∈ L ∧
    ∃ eg4, F 0 14 = some eg4 ∧ (eg4, 8, 0) ∈ L ∧
    ∃ en7 ek8 el9 eq10 ev11, FrmSh F L eg1 en7 ek8 el9 eq10 ev11 ∧
    ∃ en13 ek14 el15 eq16 ev17, FrmSh F L eg4 en13 ek14 el15 eq16 ev17 ∧
    Net_standInLine I T L 1 eg1 en7 ek8 el9 eq10 ev11 eg4 en13 ek14 el15 eq16 ev17 (fun I19 T20 =>
    Led_spoil I19 (fun I22 =>
    H_worst I22 T20 F L (0 : Int32) (fun a24 I25 =>
    Q a24 I25 T20 F L) (fun I25 => False)))
def H_rules_b12 (I : HI) (T : HR) (F : HR) (L : HL) (b : Nat) (Q : Int32 → HI → HR → HR → HL → Prop) (Xc : HI → HR → HR → HL → Prop) : Prop :=
  Xc I T F L
def H_rules (I : HI) (T : HR) (F : HR) (L : HL) (x1 : Int32) (b : Nat) (Q : Int32 → HI → HR → HR → HL → Prop) (Xc : HI → HR → HR → HL → Prop) : Prop :=
  if x1 < 0 then
    (H_rules_b12 I T F L b Q Xc)
    else
    (if x1 ≤ (I 0 8) then
    (Rd_read (up2 I 0 8 0) T F L x1 ((up2 I 0 8 0) 1 0) b (fun I1 T2 F3 L4 =>
    Geo F3 L4 ∧
    if (I1 28 0) = 0 then
    (Net_follow I1 T2 L4 1 (fun T6 =>
    Led_spoil I1 (fun I8 =>
    Q (I8 28 0) I8 T6 F3 L4)))
    else
    (Q (I1 28 0) I1 T2 F3 L4)))
    else
    (H_rules_b12 I T F L b Q Xc))
