theorem yk_X5_standInLine : hYV yX5_standInLine cX5_standInLine 2 none 0 := ⟨kw682, kw683, kw105, kw684, by decide +kernel, by decide +kernel, by decide +kernel⟩
theorem yk_X6_read : hYV yX6_read cX6_read 5 none 3 := ⟨kw882, kw883, kw109, kw884, by decide +kernel, by decide +kernel, by decide +kernel⟩
theorem yk_X10_line : hYV yX10_line cX10_line 1 (some .int) 0 := ⟨kw678, kw679, kw104, kw680, by decide +kernel, by decide +kernel, by decide +kernel⟩
theorem yk_X10_rules : hYV yX10_rules cX10_rules 2 (some .int) 1 := ⟨kw862, kw863, kw104, kw864, by decide +kernel, by decide +kernel, by decide +kernel⟩
def Net_standInLine_l2 (r0 : Nat) (Q : HI → HR → HR → HL → Prop) : Nat → HI → HR → HR → HL → Int32 → Nat → Nat → Prop
  | 0, _, _, _, _, _, _, _ => False
  | n + 1, I, T, F, L, x1, cl, sl =>
    cl ≤ 40 ∧ sl ≤ 264 ∧
    (if (I r0 0) ≤ x1 then
    (Q I T F L)
    else
    (Net_othersOf I r0 x1 (fun a1 =>
    Net_lookAt I r0 x1 ((a1 >>> (x1 &&& 31)) <<< (x1 &&& 31)) (fun I3 =>
    Net_guessIn I3 r0 x1 x1 (fun I5 =>
    if x1 = 0 then
    (cl + 5 ≤ 40 ∧ sl + 9 ≤ 264 ∧
    Frm_ofFirstInLine I5 T F L (fun eq14 I15 T16 F17 L18 =>
    Geo F17 L18 ∧
    NetSh F17 L18 r0 ∧
    (eq14, 8, 0) ∈ L18 ∧
    vp_in x1 8 ∧
    Net_standInLine_l2 r0 Q n I15 (up2 T16 (r0 + 6) (nx x1) (some eq14)) F17 L18 (x1 + 1) (cl + 5) (sl + 9)))
    else
    (cl + 5 ≤ 40 ∧ sl + 33 ≤ 264 ∧
    Frm_ofNextInLine I5 T F L (fun eq7 I8 T9 F10 L11 =>
    Geo F10 L11 ∧
    NetSh F10 L11 r0 ∧
    (eq7, 8, 0) ∈ L11 ∧
    vp_in x1 8 ∧
    Net_standInLine_l2 r0 Q n I8 (up2 T9 (r0 + 6) (nx x1) (some eq7)) F10 L11 (x1 + 1) (cl + 5) (sl + 33))))))))
def Net_standInLine (I : HI) (T : HR) (F : HR) (L : HL) (r0 : Nat) (Q : HI → HR → HR → HL → Prop) : Prop :=
  ∃ nn, Net_standInLine_l2 r0 Q nn I T F L 0 0 0
def Rd_read_l68 (b : Nat) (Q : HI → HR → HR → HL → Prop) : Nat → HI → HR → HR → HL → Int32 → Nat → Nat → Prop
  | 0, _, _, _, _, _, _, _ => False
  | n + 1, I, T, F, L, x4, cl, sl =>
    cl ≤ 85 ∧ sl ≤ b ∧
    (if 16 < x4 then
    (Q I T F L)
    else
    (if (I 28 8) = 128 then
    (Q I T F L)
    else
    (if (I 28 8) = 130 then
    (Q I T F L)
    else
    (if (I 28 8) = 141 then
    (if x4 = 16 then
    (Rd_stop I (2 : Int32) (fun I9 =>
    Rd_read_l68 b Q n I9 T F L (x4 + 1) cl sl))
    else
    (∃ eb3, cl + 5 ≤ 85 ∧ sl + eb3 ≤ b ∧
    Rd_readRule I T F L eb3 (fun I4 T5 F6 L7 =>
    Geo F6 L7 ∧
    F6 28 3 = some 34 ∧
    Rd_read_l68 b Q n I4 T5 F6 L7 (x4 + 1) (cl + 5) (sl + eb3))))
    else
    (Rd_stop I (1 : Int32) (fun I11 =>
    Rd_read_l68 b Q n I11 T F L (x4 + 1) cl sl))))))
def Rd_read_l40 (I : HI) (F : HR) (L : HL) (b : Nat) (Q : HI → HR → HR → HL → Prop) : Nat → HR → Int32 → Prop
  | 0, _, _ => False
  | n + 1, T, x4 =>
    if 8 ≤ x4 then
    (Rd_next I (fun I1 =>
    ∃ nn, Rd_read_l68 b Q nn I1 T F L 0 0 0))
    else
    (vp_in x4 8 ∧
    Rd_read_l40 I F L b Q n (up2 T 29 (nx x4) none) (x4 + 1))
def Rd_read (I : HI) (T : HR) (F : HR) (L : HL) (x2 : Int32) (x3 : Int32) (b : Nat) (Q : HI → HR → HR → HL → Prop) : Prop :=
  Geo (up2 F 28 3 (some 34)) L ∧
    ∃ nn, Rd_read_l40 (up2 (up2 (up2 (up2 (up2 (up2 I 28 4 x2) 28 5 x3) 28 0 0) 28 1 (-1)) 28 6 0) 28 8 128) (up2 F 28 3 (some 34)) L b Q nn T 0
def H_line (I : HI) (T : HR) (F : HR) (L : HL)  (Q : Int32 → HI → HR → HR → HL → Prop) : Prop :=
  Net_standInLine I T F L 1 (fun I1 T2 F3 L4 =>
    Geo F3 L4 ∧
    Led_spoil I1 (fun I6 =>
    H_worst I6 T2 F3 L4 (0 : Int32) (fun a8 I9 =>
    Q a8 I9 T2 F3 L4) (fun I9 => False)))
def H_rules_b12 (I : HI) (T : HR) (F : HR) (L : HL) (b : Nat) (Q : Int32 → HI → HR → HR → HL → Prop) (Xc : HI → HR → HR → HL → Prop) : Prop :=
  Xc I T F L
def H_rules (I : HI) (T : HR) (F : HR) (L : HL) (x1 : Int32) (b : Nat) (Q : Int32 → HI → HR → HR → HL → Prop) (Xc : HI → HR → HR → HL → Prop) : Prop :=
  if x1 < 0 then
    (H_rules_b12 I T F L b Q Xc)
    else
    (if x1 ≤ (I 0 8) then
    (Rd_read (up2 I 0 8 0) T F L x1 ((up2 I 0 8 0) 1 0) b (fun I1 T2 F3 L4 =>
    Geo F3 L4 ∧
    if (I1 28 0) = 0 then
    (Net_follow I1 T2 L4 1 (fun T6 =>
    Led_spoil I1 (fun I8 =>
    Q (I8 28 0) I8 T6 F3 L4)))
    else
    (Q (I1 28 0) I1 T2 F3 L4)))
    else
    (H_rules_b12 I T F L b Q Xc))
