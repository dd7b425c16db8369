def Jd_max  (x0 : Int32) (x1 : Int32) (Q : Int32 → Prop) : Prop :=
  if x0 < x1 then
    (Q x1 )
    else
    (Q x0 )
def Cov_noteNear_l30 (x1 : Int32) (K2 : HI → Int32 → Prop) (Q : HI → Prop) : Nat → HI → Int32 → Prop
  | 0, _, _ => False
  | n + 1, I, x2 =>
    if (I 44 2) ≤ x2 then
    (K2 I (x1 + 1))
    else
    (vp_in x1 32 ∧
    vp_in x1 32 ∧
    vp_in x1 32 ∧
    Jd_max ((up2 I 46 (nx x1) ((I 46 (nx x1)) ||| ((1 : Int32) <<< ((x1 ^^^ ((1 : Int32) <<< (x2 &&& 31))) &&& 31)))) 47 (nx x1)) (x1 ^^^ ((1 : Int32) <<< (x2 &&& 31))) (fun a1 =>
    vp_in x1 32 ∧
    Cov_noteNear_l30 x1 K2 Q n (up2 (up2 I 46 (nx x1) ((I 46 (nx x1)) ||| ((1 : Int32) <<< ((x1 ^^^ ((1 : Int32) <<< (x2 &&& 31))) &&& 31)))) 47 (nx x1) a1) (x2 + 1)))
def Cov_noteNear_l2  (Q : HI → Prop) : Nat → HI → Int32 → Prop
  | 0, _, _ => False
  | n + 1, I, x1 =>
    if ((1 : Int32) <<< ((I 44 2) &&& 31)) ≤ x1 then
    (Q I)
    else
    (vp_in x1 32 ∧
    vp_in x1 32 ∧
    ∃ nn, Cov_noteNear_l30 x1 (fun I' x1' => Cov_noteNear_l2 Q n I' x1') Q nn (up2 (up2 I 46 (nx x1) ((1 : Int32) <<< (x1 &&& 31))) 47 (nx x1) x1) 0)
def Cov_noteNear (I : HI)  (Q : HI → Prop) : Prop :=
  ∃ nn, Cov_noteNear_l2 Q nn I 0
def Jd_bitCount  (x0 : Int32) (Q : Int32 → Prop) : Prop :=
  Q ((((((((x0 - ((iu x0 1) &&& 1431655765)) &&& 858993459) + ((iu (x0 - ((iu x0 1) &&& 1431655765)) 2) &&& 858993459)) + (iu (((x0 - ((iu x0 1) &&& 1431655765)) &&& 858993459) + ((iu (x0 - ((iu x0 1) &&& 1431655765)) 2) &&& 858993459)) 4)) &&& 252645135) + (iu (((((x0 - ((iu x0 1) &&& 1431655765)) &&& 858993459) + ((iu (x0 - ((iu x0 1) &&& 1431655765)) 2) &&& 858993459)) + (iu (((x0 - ((iu x0 1) &&& 1431655765)) &&& 858993459) + ((iu (x0 - ((iu x0 1) &&& 1431655765)) 2) &&& 858993459)) 4)) &&& 252645135) 8)) + (iu ((((((x0 - ((iu x0 1) &&& 1431655765)) &&& 858993459) + ((iu (x0 - ((iu x0 1) &&& 1431655765)) 2) &&& 858993459)) + (iu (((x0 - ((iu x0 1) &&& 1431655765)) &&& 858993459) + ((iu (x0 - ((iu x0 1) &&& 1431655765)) 2) &&& 858993459)) 4)) &&& 252645135) + (iu (((((x0 - ((iu x0 1) &&& 1431655765)) &&& 858993459) + ((iu (x0 - ((iu x0 1) &&& 1431655765)) 2) &&& 858993459)) + (iu (((x0 - ((iu x0 1) &&& 1431655765)) &&& 858993459) + ((iu (x0 - ((iu x0 1) &&& 1431655765)) 2) &&& 858993459)) 4)) &&& 252645135) 8)) 16)) &&& 63) 
def Jd_min  (x0 : Int32) (x1 : Int32) (Q : Int32 → Prop) : Prop :=
  if x1 < x0 then
    (Q x1 )
    else
    (Q x0 )
def Cov_lastUseful_l11 (I : HI) (x1 : Int32) (Q : Int32 → Prop) : Nat → Int32 → Int32 → Prop
  | 0, _, _ => False
  | n + 1, x2, x3 =>
    if ((1 : Int32) <<< ((I 44 2) &&& 31)) ≤ x3 then
    (Q x2 )
    else
    (if ((iu x1 x3) &&& 1) = 1 then
    (vp_in x3 32 ∧
    Jd_min x2 (I 47 (nx x3)) (fun a1 =>
    Cov_lastUseful_l11 I x1 Q n a1 (x3 + 1)))
    else
    (Cov_lastUseful_l11 I x1 Q n x2 (x3 + 1)))
def Cov_lastUseful (I : HI) (x1 : Int32) (Q : Int32 → Prop) : Prop :=
  ∃ nn, Cov_lastUseful_l11 I x1 Q nn (((1 : Int32) <<< ((I 44 2) &&& 31)) - 1) 0
def Cov_choose_l53 (RO : HI → Int32 → Int32 → (Int32 → HI → Prop) → Prop) (x1 : Int32) (x2 : Int32) (x4 : Int32) (Q : Int32 → HI → Prop) : Nat → HI → Int32 → Prop
  | 0, _, _ => False
  | n + 1, I, x5 =>
    if x4 < x5 then
    (Q 0 I)
    else
    (vp_in x1 7 ∧
    vp_in x5 32 ∧
    RO (up2 I 45 (nx x1) x5) (x1 + 1) (x2 &&& (((up2 I 45 (nx x1) x5) 46 (nx x5)) ^^^ (-1))) (fun a5 I6 =>
    if a5 = 0 then
    (Cov_choose_l53 RO x1 x2 x4 Q n I6 (x5 + 1))
    else
    (Q 1 I6)))
def Cov_choose_o (RO : HI → Int32 → Int32 → (Int32 → HI → Prop) → Prop) (I : HI) (x1 : Int32) (x2 : Int32) (Q : Int32 → HI → Prop) : Prop :=
  if x2 = 0 then
    (Q 1 I)
    else
    (if ((I 44 0) - x1) ≤ 0 then
    (Q 0 I)
    else
    (Jd_bitCount x2 (fun a1 =>
    if a1 ≤ (((I 44 0) - x1) * ((I 44 2) + 1)) then
    (Cov_lastUseful I x2 (fun a3 =>
    vp_in (x1 - 1) 7 ∧
    ∃ nn, Cov_choose_l53 RO x1 x2 a3 Q nn I ((I 45 (nx (x1 - 1))) + 1)))
    else
    (Q 0 I))))
def Cov_choose : Nat → HI → Int32 → Int32 → (Int32 → HI → Prop) → Prop
  | 0 => fun _ _ _ _ => False
  | d + 1 => Cov_choose_o (Cov_choose d)
def Cov_seek_l49 (x3 : Int32) (Q : HI → Prop) : Nat → HI → Int32 → Prop
  | 0, _, _ => False
  | n + 1, I, x4 =>
    if x4 = 0 then
    (if 7 ≤ (I 44 0) then
    (Q I)
    else
    (Cov_choose 8 (up2 (up2 I 44 0 ((I 44 0) + 1)) 45 0 0) (1 : Int32) (x3 &&& (((up2 (up2 I 44 0 ((I 44 0) + 1)) 45 0 0) 46 0) ^^^ (-1))) (fun a3 I4 =>
    Cov_seek_l49 x3 Q n I4 a3)))
    else
    (Q I)
def Cov_seek_b40 (I : HI) (t0 : Int32) (Q : HI → Prop) : Prop :=
  ∃ nn, Cov_seek_l49 t0 Q nn (up2 I 44 0 0) 0
def Cov_seek (I : HI) (x1 : Int32) (Q : HI → Prop) : Prop :=
  if (I 44 2) = x1 then
    (Q I)
    else
    (Cov_noteNear (up2 I 44 2 x1) (fun I1 =>
    if ((1 : Int32) <<< ((I1 44 2) &&& 31)) = 32 then
    (Cov_seek_b40 I1 (-1) Q)
    else
    (Cov_seek_b40 I1 (((1 : Int32) <<< (((1 : Int32) <<< ((I1 44 2) &&& 31)) &&& 31)) - 1) Q)))
def Net_othersOf (I : HI) (r0 : Nat) (x1 : Int32) (Q : Int32 → Prop) : Prop :=
  Q ((((1 : Int32) <<< ((I r0 0) &&& 31)) - 1) &&& (((1 : Int32) <<< (x1 &&& 31)) ^^^ (-1))) 
def Net_countViews_b56 (I : HI) (r0 : Nat) (x1 : Int32) (x2 : Int32) (x3 : Int32) (K4 : Int32 → Int32 → Prop) (Q : Int32 → Prop) : Prop :=
  if x2 ≤ 1024 then
    (K4 x2 (x3 + 1))
    else
    (Q (-1) )
def Net_countViews_b33 (I : HI) (r0 : Nat) (x1 : Int32) (x2 : Int32) (x3 : Int32) (K4 : Int32 → Int32 → Prop) (Q : Int32 → Prop) : Prop :=
  vp_in x1 8 ∧
    if (((I (r0 + 3) (nx x1)) >>> (x3 &&& 31)) &&& 1) = 1 then
    (Net_countViews_b56 I r0 x1 (x2 * ((I r0 1) + 1)) x3 K4 Q)
    else
    (Net_countViews_b56 I r0 x1 x2 x3 K4 Q)
def Net_countViews_l4 (I : HI) (r0 : Nat) (x1 : Int32) (Q : Int32 → Prop) : Nat → Int32 → Int32 → Prop
  | 0, _, _ => False
  | n + 1, x2, x3 =>
    if (I r0 0) ≤ x3 then
    (Q x2 )
    else
    (vp_in x1 8 ∧
    if (((I (r0 + 1) (nx x1)) >>> (x3 &&& 31)) &&& 1) = 1 then
    (Net_countViews_b33 I r0 x1 (x2 * (I r0 1)) x3 (fun x2' x3' => Net_countViews_l4 I r0 x1 Q n x2' x3') Q)
    else
    (Net_countViews_b33 I r0 x1 x2 x3 (fun x2' x3' => Net_countViews_l4 I r0 x1 Q n x2' x3') Q))
def Net_countViews (I : HI) (r0 : Nat) (x1 : Int32) (Q : Int32 → Prop) : Prop :=
  ∃ nn, Net_countViews_l4 I r0 x1 Q nn 1 0
def Net_clearTable_l13 (r0 : Nat) (x1 : Int32) (Q : HI → Prop) : Nat → HI → Int32 → Prop
  | 0, _, _ => False
  | n + 1, I, x2 =>
    vp_in x1 8 ∧
    if (I (r0 + 4) (nx x1)) ≤ x2 then
    (Q I)
    else
    (vp_in ((x1 * 1024) + x2) 8192 ∧
    Net_clearTable_l13 r0 x1 Q n (up2 I (r0 + 7) (nx ((x1 * 1024) + x2)) (vp_nar .byte 0)) (x2 + 1))
def Net_clearTable (I : HI) (r0 : Nat) (x1 : Int32) (Q : HI → Prop) : Prop :=
  Net_countViews I r0 x1 (fun a1 =>
    vp_in x1 8 ∧
    ∃ nn, Net_clearTable_l13 r0 x1 Q nn (up2 I (r0 + 4) (nx x1) a1) 0)
def Net_startTable (I : HI) (T : HR) (L : HL) (r0 : Nat) (x1 : Int32) (Q : HI → HR → Prop) : Prop :=
  vp_in x1 8 ∧
    Net_clearTable I r0 x1 (fun I1 =>
    Q I1 (up2 T (r0 + 6) (nx x1) none))
def Net_lookAtAllAtOnce_l2 (L : HL) (r0 : Nat) (Q : HI → HR → Prop) : Nat → HI → HR → Int32 → Prop
  | 0, _, _, _ => False
  | n + 1, I, T, x1 =>
    if (I r0 0) ≤ x1 then
    (Q I T)
    else
    (Net_othersOf I r0 x1 (fun a1 =>
    vp_in x1 8 ∧
    vp_in x1 8 ∧
    vp_in x1 8 ∧
    vp_in x1 8 ∧
    Net_startTable (up2 (up2 (up2 (up2 I (r0 + 1) (nx x1) a1) (r0 + 2) (nx x1) 0) (r0 + 3) (nx x1) 0) (r0 + 5) (nx x1) x1) T L r0 x1 (fun I3 T4 =>
    Net_lookAtAllAtOnce_l2 L r0 Q n I3 T4 (x1 + 1))))
def Net_lookAtAllAtOnce (I : HI) (T : HR) (L : HL) (r0 : Nat) (Q : HI → HR → Prop) : Prop :=
  ∃ nn, Net_lookAtAllAtOnce_l2 L r0 Q nn I T 0
def Cov_isChosen_l2 (I : HI) (x1 : Int32) (Q : Int32 → Prop) : Nat → Int32 → Prop
  | 0, _ => False
  | n + 1, x2 =>
    if (I 44 0) ≤ x2 then
    (Q 0 )
    else
    (vp_in x2 7 ∧
    if (I 45 (nx x2)) = x1 then
    (Q 1 )
    else
    (Cov_isChosen_l2 I x1 Q n (x2 + 1)))
def Cov_isChosen (I : HI) (x1 : Int32) (Q : Int32 → Prop) : Prop :=
  ∃ nn, Cov_isChosen_l2 I x1 Q nn 0
def Cov_guessBetween  (x0 : Int32) (x1 : Int32) (Q : Int32 → Prop) : Prop :=
  if x0 = 0 then
    (if x1 = 0 then
    (Q 2 )
    else
    (Q 0 ))
    else
    (if x1 = 0 then
    (Q 1 )
    else
    (Q 0 ))
def Net_setGuess (I : HI) (r0 : Nat) (x1 : Int32) (x2 : Int32) (x3 : Int32) (Q : HI → Prop) : Prop :=
  vp_in ((x1 * 1024) + x2) 8192 ∧
    Q (up2 I (r0 + 7) (nx ((x1 * 1024) + x2)) (vp_nar .byte (ib x3)))
def Cov_settle_l16 (T : HR) (L : HL) (r1 : Nat) (x2 : Int32) (K6 : HI → Int32 → Prop) (Q : HI → HR → Prop) : Nat → HI → Int32 → Prop
  | 0, _, _ => False
  | n + 1, I, x3 =>
    vp_in x2 8 ∧
    if (I (r1 + 4) (nx x2)) ≤ x3 then
    (K6 I (x2 + 1))
    else
    (Cov_isChosen I (((x3 >>> (x2 &&& 31)) <<< ((x2 + 1) &&& 31)) ||| (x3 &&& (((1 : Int32) <<< (x2 &&& 31)) - 1))) (fun a4 =>
    Cov_isChosen I ((((x3 >>> (x2 &&& 31)) <<< ((x2 + 1) &&& 31)) ||| (x3 &&& (((1 : Int32) <<< (x2 &&& 31)) - 1))) ||| ((1 : Int32) <<< (x2 &&& 31))) (fun a6 =>
    Cov_guessBetween a4 a6 (fun a8 =>
    Net_setGuess I r1 x2 x3 a8 (fun I10 =>
    Cov_settle_l16 T L r1 x2 K6 Q n I10 (x3 + 1))))))
def Cov_settle_l6 (T : HR) (L : HL) (r1 : Nat) (Q : HI → HR → Prop) : Nat → HI → Int32 → Prop
  | 0, _, _ => False
  | n + 1, I, x2 =>
    if (I 44 2) ≤ x2 then
    (Q I T)
    else
    (∃ nn, Cov_settle_l16 T L r1 x2 (fun I' x2' => Cov_settle_l6 T L r1 Q n I' x2') Q nn I 0)
def Cov_settle (I : HI) (T : HR) (L : HL) (r1 : Nat) (Q : HI → HR → Prop) : Prop :=
  Net_lookAtAllAtOnce I T L r1 (fun I1 T2 =>
    ∃ nn, Cov_settle_l6 T2 L r1 Q nn I1 0)
def Frm_join (I : HI) (f0 : Nat) (n0 : Nat) (k0 : Nat) (l0 : Nat) (q0 : Nat) (v0 : Nat) (x1 : Int32) (Q : Int32 → Prop) : Prop :=
  vp_in x1 n0 ∧
    vp_in (I l0 (nx x1)) n0 ∧
    vp_in x1 n0 ∧
    vp_in (I q0 (nx x1)) n0 ∧
    vp_in x1 n0 ∧
    if (I k0 (nx x1)) = 42 then
    (Q ((I v0 (nx (I l0 (nx x1)))) * (I v0 (nx (I q0 (nx x1))))) )
    else
    if (I k0 (nx x1)) = 43 then
    (Q ((I v0 (nx (I l0 (nx x1)))) + (I v0 (nx (I q0 (nx x1))))) )
    else
    if (I k0 (nx x1)) = 45 then
    (Q ((I v0 (nx (I l0 (nx x1)))) - (I v0 (nx (I q0 (nx x1))))) )
    else
    if (I k0 (nx x1)) = 47 then
    (if (I v0 (nx (I q0 (nx x1)))) = 0 then
    (Q 0 )
    else
    (¬ (I v0 (nx (I q0 (nx x1)))) = 0 ∧
    Q ((I v0 (nx (I l0 (nx x1)))) / (I v0 (nx (I q0 (nx x1))))) ))
    else
    if (I k0 (nx x1)) = 60 then
    (if (I v0 (nx (I q0 (nx x1)))) ≤ (I v0 (nx (I l0 (nx x1)))) then
    (Q 0 )
    else
    (Q 1 ))
    else
    if (I k0 (nx x1)) = 61 then
    (if (I v0 (nx (I l0 (nx x1)))) = (I v0 (nx (I q0 (nx x1)))) then
    (Q 1 )
    else
    (Q 0 ))
    else
    if (I k0 (nx x1)) = 151 then
    (if (I v0 (nx (I l0 (nx x1)))) = 0 then
    (Q 1 )
    else
    (Q 0 ))
    else
    if (I k0 (nx x1)) = 152 then
    (if (I v0 (nx (I l0 (nx x1)))) = 0 then
    (Q 0 )
    else
    (if (I v0 (nx (I q0 (nx x1)))) = 0 then
    (Q 0 )
    else
    (Q 1 )))
    else
    (if (I v0 (nx (I l0 (nx x1)))) = 0 then
    (if (I v0 (nx (I q0 (nx x1)))) = 0 then
    (Q 0 )
    else
    (Q 1 ))
    else
    (Q 1 ))
def Frm_sumOf_l4 (I : HI) (r0 : Nat) (x1 : Int32) (Q : Int32 → Prop) : Nat → Int32 → Int32 → Prop
  | 0, _, _ => False
  | n + 1, x2, x3 =>
    if 8 ≤ x3 then
    (Q x2 )
    else
    (if ((x1 >>> (x3 &&& 31)) &&& 1) = 1 then
    (vp_in x3 8 ∧
    Frm_sumOf_l4 I r0 x1 Q n (x2 + (I r0 (nx x3))) (x3 + 1))
    else
    (Frm_sumOf_l4 I r0 x1 Q n x2 (x3 + 1)))
def Frm_sumOf (I : HI) (r0 : Nat) (x1 : Int32) (Q : Int32 → Prop) : Prop :=
  ∃ nn, Frm_sumOf_l4 I r0 x1 Q nn 0 0
def Frm_look (I : HI) (f0 : Nat) (n0 : Nat) (k0 : Nat) (l0 : Nat) (q0 : Nat) (v0 : Nat) (x1 : Int32) (r2 : Nat) (x3 : Int32) (r4 : Nat) (Q : Int32 → Prop) : Prop :=
  vp_in x1 n0 ∧
    vp_in x1 n0 ∧
    if (I k0 (nx x1)) = 131 then
    (Q (I l0 (nx x1)) )
    else
    if (I k0 (nx x1)) = 144 then
    (Q x3 )
    else
    if (I k0 (nx x1)) = 145 then
    (Q (I r2 0) )
    else
    if (I k0 (nx x1)) = 146 then
    (Q (I r2 1) )
    else
    if (I k0 (nx x1)) = 147 then
    (vp_in x3 8 ∧
    Frm_sumOf I (r4 + 1) ((I (r2 + 1) (nx x3)) &&& ((1 : Int32) <<< ((I l0 (nx x1)) &&& 31))) (fun a1 =>
    Q a1 ))
    else
    if (I k0 (nx x1)) = 148 then
    (vp_in x3 8 ∧
    Frm_sumOf I (r4 + 2) ((I (r2 + 3) (nx x3)) &&& ((1 : Int32) <<< ((I l0 (nx x1)) &&& 31))) (fun a3 =>
    Q a3 ))
    else
    if (I k0 (nx x1)) = 149 then
    (vp_in x3 8 ∧
    Frm_sumOf I (r4 + 1) (I (r2 + 1) (nx x3)) (fun a5 =>
    Q a5 ))
    else
    (vp_in x3 8 ∧
    Frm_sumOf I (r4 + 2) (I (r2 + 3) (nx x3)) (fun a7 =>
    Q a7 ))
def Jd_floorMod  (x0 : Int32) (x1 : Int32) (Q : Int32 → Prop) : Prop :=
  ¬ x1 = 0 ∧
    if 0 ≤ (x0 ^^^ x1) then
    (Q (irm x0 x1) )
    else
    (if (irm x0 x1) = 0 then
    (Q (irm x0 x1) )
    else
    (Q ((irm x0 x1) + x1) ))
def Frm_guess_b72 (I : HI) (f0 : Nat) (n0 : Nat) (k0 : Nat) (l0 : Nat) (q0 : Nat) (v0 : Nat) (r1 : Nat) (r3 : Nat) (x2 : Int32) (x5 : Int32) (t0 : Int32) (K6 : HI → Int32 → Int32 → Prop) (Q : Int32 → HI → Prop) : Prop :=
  vp_in x5 n0 ∧
    if x5 = (((up2 I v0 (nx x5) t0) f0 4) - 1) then
    (if t0 = 0 then
    (K6 (up2 I v0 (nx x5) t0) t0 (x5 + 1))
    else
    (Q ((up2 I v0 (nx x5) t0) r1 1) (up2 I v0 (nx x5) t0)))
    else
    (K6 (up2 I v0 (nx x5) t0) t0 (x5 + 1))
def Frm_guess_b47 (I : HI) (f0 : Nat) (n0 : Nat) (k0 : Nat) (l0 : Nat) (q0 : Nat) (v0 : Nat) (r1 : Nat) (r3 : Nat) (x2 : Int32) (x5 : Int32) (t0 : Int32) (K6 : HI → Int32 → Int32 → Prop) (Q : Int32 → HI → Prop) : Prop :=
  if t0 = 0 then
    (Frm_look I f0 n0 k0 l0 q0 v0 x5 r1 x2 r3 (fun a3 =>
    Frm_guess_b72 I f0 n0 k0 l0 q0 v0 r1 r3 x2 x5 a3 K6 Q))
    else
    (Frm_join I f0 n0 k0 l0 q0 v0 x5 (fun a5 =>
    Frm_guess_b72 I f0 n0 k0 l0 q0 v0 r1 r3 x2 x5 a5 K6 Q))
def Frm_guess_l6 (f0 : Nat) (n0 : Nat) (k0 : Nat) (l0 : Nat) (q0 : Nat) (v0 : Nat) (r1 : Nat) (r3 : Nat) (x2 : Int32) (Q : Int32 → HI → Prop) : Nat → HI → Int32 → Int32 → Prop
  | 0, _, _, _ => False
  | n + 1, I, x4, x5 =>
    if (Int32.ofNat n0) ≤ x5 then
    (Jd_floorMod x4 (I r1 1) (fun a1 =>
    Q a1 I))
    else
    (vp_in x5 n0 ∧
    if (I k0 (nx x5)) < 128 then
    (Frm_guess_b47 I f0 n0 k0 l0 q0 v0 r1 r3 x2 x5 1 (fun I' x4' x5' => Frm_guess_l6 f0 n0 k0 l0 q0 v0 r1 r3 x2 Q n I' x4' x5') Q)
    else
    (vp_in x5 n0 ∧
    if (I k0 (nx x5)) < 151 then
    (Frm_guess_b47 I f0 n0 k0 l0 q0 v0 r1 r3 x2 x5 0 (fun I' x4' x5' => Frm_guess_l6 f0 n0 k0 l0 q0 v0 r1 r3 x2 Q n I' x4' x5') Q)
    else
    (Frm_guess_b47 I f0 n0 k0 l0 q0 v0 r1 r3 x2 x5 1 (fun I' x4' x5' => Frm_guess_l6 f0 n0 k0 l0 q0 v0 r1 r3 x2 Q n I' x4' x5') Q)))
def Frm_guess (I : HI) (f0 : Nat) (n0 : Nat) (k0 : Nat) (l0 : Nat) (q0 : Nat) (v0 : Nat) (r1 : Nat) (x2 : Int32) (r3 : Nat) (Q : Int32 → HI → Prop) : Prop :=
  ∃ nn, Frm_guess_l6 f0 n0 k0 l0 q0 v0 r1 r3 x2 Q nn I 0 0
def Jud_weigh_l19 (r1 : Nat) (x2 : Int32) (Q : Int64 → HI → Prop) : Nat → HI → Int64 → Int32 → Prop
  | 0, _, _, _ => False
  | n + 1, I, x3, x5 =>
    if x2 ≤ x5 then
    (Q x3 I)
    else
    (vp_in x5 8 ∧
    vp_in (I (r1 + 1) (nx x5)) 4 ∧
    vp_in (I (r1 + 1) (nx x5)) 4 ∧
    vp_in (I (r1 + 1) (nx x5)) 4 ∧
    Jud_weigh_l19 r1 x2 Q n (up2 I 25 (nx (I (r1 + 1) (nx x5))) ((I 25 (nx (I (r1 + 1) (nx x5)))) - 1)) (x3 * (Int32.toInt64 (I 25 (nx (I (r1 + 1) (nx x5)))))) (x5 + 1))
def Jud_weigh (I : HI) (r1 : Nat) (x2 : Int32) (Q : Int64 → HI → Prop) : Prop :=
  ∃ nn, Jud_weigh_l19 r1 x2 Q nn (cp2 I 24 0 25 0 4) (1 : Int64) 0
def Jud_isWon (I : HI) (x1 : Int32) (x2 : Int32) (x3 : Int32) (Q : Int32 → Prop) : Prop :=
  Jd_bitCount x1 (fun a1 =>
    if (I 23 1) = 0 then
    (if a1 < (I 23 2) then
    (Q 0 )
    else
    (Q 1 ))
    else
    if (I 23 1) = 1 then
    (if a1 = (I 23 2) then
    (Q 1 )
    else
    (Q 0 ))
    else
    if (I 23 1) = 2 then
    (if x2 = 0 then
    (if a1 < (I 23 2) then
    (Q 0 )
    else
    (Q 1 ))
    else
    (Q 0 ))
    else
    (if (I 23 2) < (x3 - a1) then
    (Q 0 )
    else
    (Q 1 )))
def Led_spoil (I : HI)  (Q : HI → Prop) : Prop :=
  Q (up2 I 26 1 0)
def Sc_dress_l5 (r0 : Nat) (r1 : Nat) (Q : HI → Prop) : Nat → HI → Int32 → Int32 → Prop
  | 0, _, _, _ => False
  | n + 1, I, x3, x4 =>
    if (I r1 0) ≤ x4 then
    (Q I)
    else
    (¬ (I r1 1) = 0 ∧
    vp_in x4 8 ∧
    ¬ ((up2 I (r0 + 1) (nx x4) (irm x3 (I r1 1))) r1 1) = 0 ∧
    Sc_dress_l5 r0 r1 Q n (up2 I (r0 + 1) (nx x4) (irm x3 (I r1 1))) (x3 / ((up2 I (r0 + 1) (nx x4) (irm x3 (I r1 1))) r1 1)) (x4 + 1))
def Sc_dress (I : HI) (r0 : Nat) (r1 : Nat) (x2 : Int32) (Q : HI → Prop) : Prop :=
  ∃ nn, Sc_dress_l5 r0 r1 Q nn I x2 0
def Sc_viewOf_b129 (I : HI) (r0 : Nat) (r1 : Nat) (x3 : Int32) (x4 : Int32) (x5 : Int32) (x6 : Int32) (K83 : Int32 → Int32 → Int32 → Int32 → Prop) (Q : Int32 → Prop) : Prop :=
  K83 x3 x4 (x5 >>> (1 &&& 31)) (x6 + 1)
def Sc_viewOf_l83 (I : HI) (r0 : Nat) (r1 : Nat) (Q : Int32 → Prop) : Nat → Int32 → Int32 → Int32 → Int32 → Prop
  | 0, _, _, _, _ => False
  | n + 1, x3, x4, x5, x6 =>
    if (I r1 0) ≤ x6 then
    (Q x3 )
    else
    (if x5 = 0 then
    (Q x3 )
    else
    (if (x5 &&& 1) = 1 then
    (vp_in x6 8 ∧
    Sc_viewOf_b129 I r0 r1 (x3 + ((I (r0 + 2) (nx x6)) * x4)) (x4 * ((I r1 1) + 1)) x5 x6 (fun x3' x4' x5' x6' => Sc_viewOf_l83 I r0 r1 Q n x3' x4' x5' x6') Q)
    else
    (Sc_viewOf_b129 I r0 r1 x3 x4 x5 x6 (fun x3' x4' x5' x6' => Sc_viewOf_l83 I r0 r1 Q n x3' x4' x5' x6') Q)))
def Sc_viewOf_b72 (I : HI) (r0 : Nat) (r1 : Nat) (x2 : Int32) (x3 : Int32) (x4 : Int32) (Q : Int32 → Prop) : Prop :=
  vp_in x2 8 ∧
    ∃ nn, Sc_viewOf_l83 I r0 r1 Q nn x3 x4 (I (r1 + 3) (nx x2)) 0
def Sc_viewOf_b60 (I : HI) (r0 : Nat) (r1 : Nat) (x2 : Int32) (x3 : Int32) (x4 : Int32) (x5 : Int32) (x6 : Int32) (K16 : Int32 → Int32 → Int32 → Int32 → Prop) (Q : Int32 → Prop) : Prop :=
  K16 x3 x4 (x5 >>> (1 &&& 31)) (x6 + 1)
def Sc_viewOf_l16 (I : HI) (r0 : Nat) (r1 : Nat) (x2 : Int32) (Q : Int32 → Prop) : Nat → Int32 → Int32 → Int32 → Int32 → Prop
  | 0, _, _, _, _ => False
  | n + 1, x3, x4, x5, x6 =>
    if (I r1 0) ≤ x6 then
    (Sc_viewOf_b72 I r0 r1 x2 x3 x4 Q)
    else
    (if x5 = 0 then
    (Sc_viewOf_b72 I r0 r1 x2 x3 x4 Q)
    else
    (if (x5 &&& 1) = 1 then
    (vp_in x6 8 ∧
    Sc_viewOf_b60 I r0 r1 x2 (x3 + ((I (r0 + 1) (nx x6)) * x4)) (x4 * (I r1 1)) x5 x6 (fun x3' x4' x5' x6' => Sc_viewOf_l16 I r0 r1 x2 Q n x3' x4' x5' x6') Q)
    else
    (Sc_viewOf_b60 I r0 r1 x2 x3 x4 x5 x6 (fun x3' x4' x5' x6' => Sc_viewOf_l16 I r0 r1 x2 Q n x3' x4' x5' x6') Q)))
def Sc_viewOf (I : HI) (r0 : Nat) (r1 : Nat) (x2 : Int32) (Q : Int32 → Prop) : Prop :=
  vp_in x2 8 ∧
    ∃ nn, Sc_viewOf_l16 I r0 r1 x2 Q nn 0 1 (I (r1 + 1) (nx x2)) 0
def Net_guessAt (I : HI) (r0 : Nat) (x1 : Int32) (x2 : Int32) (Q : Int32 → Prop) : Prop :=
  vp_in ((x1 * 1024) + x2) 8192 ∧
    Q (I (r0 + 7) (nx ((x1 * 1024) + x2))) 
def Sc_guessOf (I : HI) (T : HR) (F : HR) (L : HL) (r0 : Nat) (r1 : Nat) (x2 : Int32) (Q : Int32 → HI → Prop) : Prop :=
  vp_in x2 8 ∧
    (T (r1 + 6) (nx x2) = none →
    vp_in x2 8 ∧
    if (I (r1 + 4) (nx x2)) = (-1) then
    (Q 0 I)
    else
    (Sc_viewOf I r0 r1 x2 (fun a2 =>
    Net_guessAt I r1 x2 a2 (fun a4 =>
    Q a4 I)))) ∧ (∀ ef1, T (r1 + 6) (nx x2) = some ef1 →
    ∃ en6 ek7 el8 eq9 ev10, FrmSh F L ef1 en6 ek7 el8 eq9 ev10 ∧
    Frm_guess I ef1 en6 ek7 el8 eq9 ev10 r1 x2 r0 (fun a12 I13 =>
    Q a12 I13))
def Sc_guessAll_l2 (T : HR) (F : HR) (L : HL) (r0 : Nat) (r1 : Nat) (Q : HI → Prop) : Nat → HI → Int32 → Prop
  | 0, _, _ => False
  | n + 1, I, x2 =>
    if (I r1 0) ≤ x2 then
    (Q I)
    else
    (vp_in x2 8 ∧
    Sc_guessOf I T F L r0 r1 (I (r1 + 5) (nx x2)) (fun a1 I2 =>
    vp_in (I (r1 + 5) (nx x2)) 8 ∧
    Sc_guessAll_l2 T F L r0 r1 Q n (up2 I2 (r0 + 2) (nx (I (r1 + 5) (nx x2))) a1) (x2 + 1)))
def Sc_guessAll (I : HI) (T : HR) (F : HR) (L : HL) (r0 : Nat) (r1 : Nat) (Q : HI → Prop) : Prop :=
  ∃ nn, Sc_guessAll_l2 T F L r0 r1 Q nn I 0
def Sc_rightOnes_l4 (I : HI) (r0 : Nat) (r1 : Nat) (Q : Int32 → Prop) : Nat → Int32 → Int32 → Prop
  | 0, _, _ => False
  | n + 1, x2, x3 =>
    if (I r1 0) ≤ x3 then
    (Q x2 )
    else
    (vp_in x3 8 ∧
    vp_in x3 8 ∧
    if (I (r0 + 2) (nx x3)) = (I (r0 + 1) (nx x3)) then
    (Sc_rightOnes_l4 I r0 r1 Q n (x2 ||| ((1 : Int32) <<< (x3 &&& 31))) (x3 + 1))
    else
    (Sc_rightOnes_l4 I r0 r1 Q n x2 (x3 + 1)))
def Sc_rightOnes (I : HI) (r0 : Nat) (r1 : Nat) (Q : Int32 → Prop) : Prop :=
  ∃ nn, Sc_rightOnes_l4 I r0 r1 Q nn 0 0
def Sc_wrongOnes_l4 (I : HI) (r0 : Nat) (r1 : Nat) (Q : Int32 → Prop) : Nat → Int32 → Int32 → Prop
  | 0, _, _ => False
  | n + 1, x2, x3 =>
    if (I r1 0) ≤ x3 then
    (Q x2 )
    else
    (vp_in x3 8 ∧
    vp_in x3 8 ∧
    if (I (r0 + 2) (nx x3)) = (I (r0 + 1) (nx x3)) then
    (Sc_wrongOnes_l4 I r0 r1 Q n x2 (x3 + 1))
    else
    (vp_in x3 8 ∧
    if (I (r0 + 2) (nx x3)) = (I r1 1) then
    (Sc_wrongOnes_l4 I r0 r1 Q n x2 (x3 + 1))
    else
    (Sc_wrongOnes_l4 I r0 r1 Q n (x2 ||| ((1 : Int32) <<< (x3 &&& 31))) (x3 + 1))))
def Sc_wrongOnes (I : HI) (r0 : Nat) (r1 : Nat) (Q : Int32 → Prop) : Prop :=
  ∃ nn, Sc_wrongOnes_l4 I r0 r1 Q nn 0 0
def Led_fill_b51 (I : HI) (T : HR) (F : HR) (L : HL) (r1 : Nat) (r3 : Nat) (x4 : Int32) (t0 : Int32) (K3 : HI → Int32 → Prop) (Q : HI → Prop) : Prop :=
  Sc_rightOnes I r3 r1 (fun a8 =>
    Sc_wrongOnes I r3 r1 (fun a10 =>
    vp_in x4 6561 ∧
    K3 (up2 I 27 (nx x4) ((a8 ||| (a10 <<< (8 &&& 31))) ||| t0)) (x4 + 1)))
def Led_fill_l3 (T : HR) (F : HR) (L : HL) (r1 : Nat) (r3 : Nat) (Q : HI → Prop) : Nat → HI → Int32 → Prop
  | 0, _, _ => False
  | n + 1, I, x4 =>
    if (I r1 2) ≤ x4 then
    (Q (up2 I 26 1 1))
    else
    (if (I 26 1) = 0 then
    (Sc_dress I r3 r1 x4 (fun I1 =>
    Sc_guessAll I1 T F L r3 r1 (fun I3 =>
    Jud_weigh I3 r3 (I3 r1 0) (fun a5 I6 =>
    if (lg_cmp a5 (0 : Int64)) ≤ 0 then
    (Led_fill_b51 I6 T F L r1 r3 x4 0 (fun I' x4' => Led_fill_l3 T F L r1 r3 Q n I' x4') Q)
    else
    (Led_fill_b51 I6 T F L r1 r3 x4 65536 (fun I' x4' => Led_fill_l3 T F L r1 r3 Q n I' x4') Q)))))
    else
    (Q (up2 I 26 1 1)))
def Led_fill (I : HI) (T : HR) (F : HR) (L : HL) (r1 : Nat) (r3 : Nat) (Q : HI → Prop) : Prop :=
  ∃ nn, Led_fill_l3 T F L r1 r3 Q nn I 0
def Led_counts (I : HI) (x1 : Int32) (Q : Int32 → Prop) : Prop :=
  vp_in x1 6561 ∧
    if ((I 27 (nx x1)) &&& 65536) = 0 then
    (Q 0 )
    else
    (Q 1 )
def Led_isWon (I : HI) (x1 : Int32) (x3 : Int32) (Q : Int32 → Prop) : Prop :=
  vp_in x1 6561 ∧
    vp_in x1 6561 ∧
    Jud_isWon I ((I 27 (nx x1)) &&& 255) (((I 27 (nx x1)) >>> (8 &&& 31)) &&& 255) x3 (fun a1 =>
    zb a1 ∧ Q a1 )
def Led_wrongIn (I : HI) (x1 : Int32) (Q : Int32 → Prop) : Prop :=
  vp_in x1 6561 ∧
    Jd_bitCount (((I 27 (nx x1)) >>> (8 &&& 31)) &&& 255) (fun a1 =>
    Q a1 )
def Led_countRows_l6 (I : HI) (r1 : Nat) (x3 : Int32) (Q : Int32 → Prop) : Nat → Int32 → Int32 → Prop
  | 0, _, _ => False
  | n + 1, x4, x5 =>
    if (I r1 2) ≤ x5 then
    (Q x4 )
    else
    (Led_counts I x5 (fun a1 =>
    if a1 = 0 then
    (Led_countRows_l6 I r1 x3 Q n x4 (x5 + 1))
    else
    (if x3 = 0 then
    (Led_countRows_l6 I r1 x3 Q n (x4 + 1) (x5 + 1))
    else
    (Led_isWon I x5 (I r1 0) (fun a3 =>
    if a3 = 0 then
    (Led_countRows_l6 I r1 x3 Q n x4 (x5 + 1))
    else
    (Led_countRows_l6 I r1 x3 Q n (x4 + 1) (x5 + 1)))))))
def Led_countRows (I : HI) (r1 : Nat) (x3 : Int32) (Q : Int32 → Prop) : Prop :=
  ∃ nn, Led_countRows_l6 I r1 x3 Q nn 0 0
def Led_sumWeights_b43 (I : HI) (r1 : Nat) (r3 : Nat) (x4 : Int32) (x5 : Int64) (x7 : Int32) (K6 : HI → Int64 → Int32 → Prop) (Q : Int64 → HI → Prop) : Prop :=
  Sc_dress I r3 r1 x7 (fun I3 =>
    Jud_weigh I3 r3 (I3 r1 0) (fun a5 I6 =>
    K6 I6 (x5 + a5) (x7 + 1)))
def Led_sumWeights_l6 (r1 : Nat) (r3 : Nat) (x4 : Int32) (Q : Int64 → HI → Prop) : Nat → HI → Int64 → Int32 → Prop
  | 0, _, _, _ => False
  | n + 1, I, x5, x7 =>
    if (I r1 2) ≤ x7 then
    (Q x5 I)
    else
    (Led_counts I x7 (fun a1 =>
    if a1 = 0 then
    (Led_sumWeights_l6 r1 r3 x4 Q n I x5 (x7 + 1))
    else
    (if x4 = 0 then
    (Led_sumWeights_b43 I r1 r3 x4 x5 x7 (fun I' x5' x7' => Led_sumWeights_l6 r1 r3 x4 Q n I' x5' x7') Q)
    else
    (Led_isWon I x7 (I r1 0) (fun a8 =>
    if a8 = 0 then
    (Led_sumWeights_l6 r1 r3 x4 Q n I x5 (x7 + 1))
    else
    (Led_sumWeights_b43 I r1 r3 x4 x5 x7 (fun I' x5' x7' => Led_sumWeights_l6 r1 r3 x4 Q n I' x5' x7') Q))))))
def Led_sumWeights (I : HI) (r1 : Nat) (r3 : Nat) (x4 : Int32) (Q : Int64 → HI → Prop) : Prop :=
  ∃ nn, Led_sumWeights_l6 r1 r3 x4 Q nn I (0 : Int64) 0
def Led_rowBeaten_l6 (I : HI) (r1 : Nat) (x3 : Int32) (Q : Int32 → Prop) : Nat → Int32 → Int32 → Prop
  | 0, _, _ => False
  | n + 1, x4, x5 =>
    if (I r1 2) ≤ x5 then
    (Q (-1) )
    else
    (Led_counts I x5 (fun a1 =>
    if a1 = 0 then
    (Led_rowBeaten_l6 I r1 x3 Q n x4 (x5 + 1))
    else
    (Led_isWon I x5 (I r1 0) (fun a3 =>
    if a3 = 0 then
    (if x4 = x3 then
    (Q x5 )
    else
    (Led_rowBeaten_l6 I r1 x3 Q n (x4 + 1) (x5 + 1)))
    else
    (Led_rowBeaten_l6 I r1 x3 Q n x4 (x5 + 1))))))
def Led_rowBeaten (I : HI) (r1 : Nat) (x3 : Int32) (Q : Int32 → Prop) : Prop :=
  ∃ nn, Led_rowBeaten_l6 I r1 x3 Q nn 0 0
def Led_rowsWithRight_l5 (I : HI) (r1 : Nat) (x2 : Int32) (Q : Int32 → Prop) : Nat → Int32 → Int32 → Prop
  | 0, _, _ => False
  | n + 1, x3, x4 =>
    if (I r1 2) ≤ x4 then
    (Q x3 )
    else
    (Led_counts I x4 (fun a1 =>
    if a1 = 0 then
    (Led_rowsWithRight_l5 I r1 x2 Q n x3 (x4 + 1))
    else
    (vp_in x4 6561 ∧
    Jd_bitCount ((I 27 (nx x4)) &&& 255) (fun a3 =>
    if a3 = x2 then
    (Led_rowsWithRight_l5 I r1 x2 Q n (x3 + 1) (x4 + 1))
    else
    (Led_rowsWithRight_l5 I r1 x2 Q n x3 (x4 + 1))))))
def Led_rowsWithRight (I : HI) (r1 : Nat) (x2 : Int32) (Q : Int32 → Prop) : Prop :=
  ∃ nn, Led_rowsWithRight_l5 I r1 x2 Q nn 0 0
def Led_rowsRightFor_l5 (I : HI) (r1 : Nat) (x2 : Int32) (Q : Int32 → Prop) : Nat → Int32 → Int32 → Prop
  | 0, _, _ => False
  | n + 1, x3, x4 =>
    if (I r1 2) ≤ x4 then
    (Q x3 )
    else
    (Led_counts I x4 (fun a1 =>
    if a1 = 0 then
    (Led_rowsRightFor_l5 I r1 x2 Q n x3 (x4 + 1))
    else
    (vp_in x4 6561 ∧
    if (((I 27 (nx x4)) >>> (x2 &&& 31)) &&& 1) = 1 then
    (Led_rowsRightFor_l5 I r1 x2 Q n (x3 + 1) (x4 + 1))
    else
    (Led_rowsRightFor_l5 I r1 x2 Q n x3 (x4 + 1)))))
def Led_rowsRightFor (I : HI) (r1 : Nat) (x2 : Int32) (Q : Int32 → Prop) : Prop :=
  ∃ nn, Led_rowsRightFor_l5 I r1 x2 Q nn 0 0
def Led_worstRow_l4 (I : HI) (r1 : Nat) (Q : Int32 → Prop) : Nat → Int32 → Int32 → Prop
  | 0, _, _ => False
  | n + 1, x2, x3 =>
    if (I r1 2) ≤ x3 then
    (Q x2 )
    else
    (Led_counts I x3 (fun a1 =>
    if a1 = 0 then
    (Led_worstRow_l4 I r1 Q n x2 (x3 + 1))
    else
    (if x2 = (-1) then
    (Led_worstRow_l4 I r1 Q n x3 (x3 + 1))
    else
    (Led_wrongIn I x3 (fun a3 =>
    Led_wrongIn I x2 (fun a5 =>
    if a3 ≤ a5 then
    (Led_worstRow_l4 I r1 Q n x2 (x3 + 1))
    else
    (Led_worstRow_l4 I r1 Q n x3 (x3 + 1))))))))
def Led_worstRow (I : HI) (r1 : Nat) (Q : Int32 → Prop) : Prop :=
  ∃ nn, Led_worstRow_l4 I r1 Q nn (-1) 0
def Jd_fillI_l5 (r0 : Nat) (n0 : Nat) (x1 : Int32) (x3 : Int32) (Q : HI → Prop) : Nat → HI → Int32 → Prop
  | 0, _, _ => False
  | n + 1, I, x2 =>
    if x3 ≤ x2 then
    (Q I)
    else
    (vp_in x2 n0 ∧
    Jd_fillI_l5 r0 n0 x1 x3 Q n (up2 I r0 (nx x2) x1) (x2 + 1))
def Jd_fillI (I : HI) (r0 : Nat) (n0 : Nat) (x1 : Int32) (Q : HI → Prop) : Prop :=
  ∃ nn, Jd_fillI_l5 r0 n0 x1 (Int32.ofNat n0) Q nn I 0
def Sc_play (I : HI) (T : HR) (F : HR) (L : HL) (r0 : Nat) (r1 : Nat) (x2 : Int32) (Q : HI → Prop) : Prop :=
  Sc_dress I r0 r1 x2 (fun I1 =>
    Sc_guessAll I1 T F L r0 r1 (fun I3 =>
    Q I3))
def Men_isWon (I : HI) (r0 : Nat) (r1 : Nat) (Q : Int32 → Prop) : Prop :=
  Sc_rightOnes I r0 r1 (fun a1 =>
    Sc_wrongOnes I r0 r1 (fun a3 =>
    Jud_isWon I a1 a3 (I r1 0) (fun a5 =>
    zb a5 ∧ Q a5 )))
def Net_hasTable (I : HI) (T : HR) (r0 : Nat) (x1 : Int32) (Q : Int32 → Prop) : Prop :=
  vp_in x1 8 ∧
    (T (r0 + 6) (nx x1) = none →
    vp_in x1 8 ∧
    if (I (r0 + 4) (nx x1)) = (-1) then
    (Q 0 )
    else
    (Q 1 )) ∧ (∀ ef1, T (r0 + 6) (nx x1) = some ef1 →
    Q 0 )
def Sc_copy (I : HI) (r0 : Nat) (r1 : Nat) (Q : HI → Prop) : Prop :=
  Q (cp2 (cp2 I (r1 + 1) 0 (r0 + 1) 0 8) (r1 + 2) 0 (r0 + 2) 0 8)
def Sc_guessAnew_l10 (T : HR) (F : HR) (L : HL) (r0 : Nat) (r1 : Nat) (x2 : Int32) (Q : HI → Prop) : Nat → HI → Int32 → Prop
  | 0, _, _ => False
  | n + 1, I, x4 =>
    if (I r1 0) ≤ x4 then
    (Q I)
    else
    (vp_in x4 8 ∧
    vp_in (I (r1 + 5) (nx x4)) 8 ∧
    vp_in x2 8 ∧
    if (I (r1 + 2) (nx (I (r1 + 5) (nx x4)))) ≤ (I (r1 + 2) (nx x2)) then
    (Sc_guessAnew_l10 T F L r0 r1 x2 Q n I (x4 + 1))
    else
    (Sc_guessOf I T F L r0 r1 (I (r1 + 5) (nx x4)) (fun a1 I2 =>
    vp_in (I (r1 + 5) (nx x4)) 8 ∧
    Sc_guessAnew_l10 T F L r0 r1 x2 Q n (up2 I2 (r0 + 2) (nx (I (r1 + 5) (nx x4))) a1) (x4 + 1))))
def Sc_guessAnew (I : HI) (T : HR) (F : HR) (L : HL) (r0 : Nat) (r1 : Nat) (x2 : Int32) (x3 : Int32) (Q : HI → Prop) : Prop :=
  vp_in x2 8 ∧
    ∃ nn, Sc_guessAnew_l10 T F L r0 r1 x2 Q nn (up2 I (r0 + 2) (nx x2) x3) 0
def Men_noteGains_b125 (I : HI) (T : HR) (F : HR) (L : HL) (r1 : Nat) (x3 : Int32) (x4 : Int32) (x5 : Int32) (x6 : Int32) (x7 : Int32) (t0 : Int32) (t1 : Int32) (t2 : Int32) (K24 : HI → Int32 → Int32 → Prop) (K65 : HI → Int32 → Prop) (Q : HI → Prop) : Prop :=
  vp_in t2 1280 ∧
    K65 (up2 I 49 (nx t2) (t1 + (t0 - x3))) (x7 + 1)
def Men_noteGains_l65 (T : HR) (F : HR) (L : HL) (r1 : Nat) (x3 : Int32) (x4 : Int32) (x5 : Int32) (x6 : Int32) (K24 : HI → Int32 → Int32 → Prop) (Q : HI → Prop) : Nat → HI → Int32 → Prop
  | 0, _, _ => False
  | n + 1, I, x7 =>
    if (I r1 1) < x7 then
    (vp_in x5 8 ∧
    K24 I (x4 + (I (r1 + 4) (nx x5))) (x5 + 1))
    else
    (Sc_copy I 53 50 (fun I7 =>
    Sc_guessAnew I7 T F L 53 r1 x5 x7 (fun I9 =>
    vp_in (x6 + x7) 1280 ∧
    Men_isWon I9 53 r1 (fun a11 =>
    if a11 = 0 then
    (Men_noteGains_b125 I9 T F L r1 x3 x4 x5 x6 x7 0 (I9 49 (nx (x6 + x7))) (x6 + x7) K24 (fun I' x7' => Men_noteGains_l65 T F L r1 x3 x4 x5 x6 K24 Q n I' x7') Q)
    else
    (Men_noteGains_b125 I9 T F L r1 x3 x4 x5 x6 x7 1 (I9 49 (nx (x6 + x7))) (x6 + x7) K24 (fun I' x7' => Men_noteGains_l65 T F L r1 x3 x4 x5 x6 K24 Q n I' x7') Q)))))
def Men_noteGains_l24 (T : HR) (F : HR) (L : HL) (r1 : Nat) (x3 : Int32) (Q : HI → Prop) : Nat → HI → Int32 → Int32 → Prop
  | 0, _, _, _ => False
  | n + 1, I, x4, x5 =>
    if (I r1 0) ≤ x5 then
    (Q I)
    else
    (Net_hasTable I T r1 x5 (fun a3 =>
    if a3 = 0 then
    (Men_noteGains_l24 T F L r1 x3 Q n I x4 (x5 + 1))
    else
    (Sc_viewOf I 50 r1 x5 (fun a5 =>
    ∃ nn, Men_noteGains_l65 T F L r1 x3 x4 x5 ((x4 + a5) * 5) (fun I' x4' x5' => Men_noteGains_l24 T F L r1 x3 Q n I' x4' x5') Q nn I 0))))
def Men_noteGains (I : HI) (T : HR) (F : HR) (L : HL) (r1 : Nat) (Q : HI → Prop) : Prop :=
  Men_isWon I 50 r1 (fun a1 =>
    if a1 = 0 then
    (∃ nn, Men_noteGains_l24 T F L r1 0 Q nn I 0 0)
    else
    (∃ nn, Men_noteGains_l24 T F L r1 1 Q nn I 0 0))
def Men_takeBest_l49 (I : HI) (T : HR) (r1 : Nat) (x5 : Int32) (x6 : Int32) (x7 : Int32) (K13 : Int32 → Int32 → Int32 → Int32 → Int32 → Prop) (Q : Int32 → HI → Prop) : Nat → Int32 → Int32 → Int32 → Int32 → Prop
  | 0, _, _, _, _ => False
  | n + 1, x2, x3, x4, x8 =>
    if x7 ≤ x8 then
    (K13 x2 x3 x4 (x5 + x7) (x6 + 1))
    else
    (vp_in (x5 + x8) 1280 ∧
    if (I 49 (nx (x5 + x8))) ≤ x2 then
    (Men_takeBest_l49 I T r1 x5 x6 x7 K13 Q n x2 x3 x4 (x8 + 1))
    else
    (vp_in (x5 + x8) 1280 ∧
    Men_takeBest_l49 I T r1 x5 x6 x7 K13 Q n (I 49 (nx (x5 + x8))) x6 x8 (x8 + 1)))
def Men_takeBest_l13 (I : HI) (T : HR) (r1 : Nat) (Q : Int32 → HI → Prop) : Nat → Int32 → Int32 → Int32 → Int32 → Int32 → Prop
  | 0, _, _, _, _, _ => False
  | n + 1, x2, x3, x4, x5, x6 =>
    if (I r1 0) ≤ x6 then
    (if x3 = (-1) then
    (Q 0 I)
    else
    (Net_setGuess I r1 x3 (x4 / 5) (irm x4 5) (fun I1 =>
    Q 1 I1)))
    else
    (Net_hasTable I T r1 x6 (fun a3 =>
    if a3 = 0 then
    (∃ nn, Men_takeBest_l49 I T r1 x5 x6 0 (fun x2' x3' x4' x5' x6' => Men_takeBest_l13 I T r1 Q n x2' x3' x4' x5' x6') Q nn x2 x3 x4 0)
    else
    (vp_in x6 8 ∧
    ∃ nn, Men_takeBest_l49 I T r1 x5 x6 ((I (r1 + 4) (nx x6)) * 5) (fun x2' x3' x4' x5' x6' => Men_takeBest_l13 I T r1 Q n x2' x3' x4' x5' x6') Q nn x2 x3 x4 0)))
def Men_takeBest (I : HI) (T : HR) (r1 : Nat) (Q : Int32 → HI → Prop) : Prop :=
  ∃ nn, Men_takeBest_l13 I T r1 Q nn 0 (-1) 0 0 0
def Men_mendOne_l10 (T : HR) (F : HR) (L : HL) (r1 : Nat) (Q : Int32 → HI → Prop) : Nat → HI → Int32 → Prop
  | 0, _, _ => False
  | n + 1, I, x3 =>
    if (I r1 2) ≤ x3 then
    (Men_takeBest I T r1 (fun a3 I4 =>
    zb a3 ∧ Q a3 I4))
    else
    (Sc_play I T F L 50 r1 x3 (fun I6 =>
    Jud_weigh I6 50 (I6 r1 0) (fun a8 I9 =>
    if (lg_cmp a8 (0 : Int64)) ≤ 0 then
    (Men_mendOne_l10 T F L r1 Q n I9 (x3 + 1))
    else
    (Men_noteGains I9 T F L r1 (fun I11 =>
    Men_mendOne_l10 T F L r1 Q n I11 (x3 + 1))))))
def Men_mendOne (I : HI) (T : HR) (F : HR) (L : HL) (r1 : Nat) (Q : Int32 → HI → Prop) : Prop :=
  Jd_fillI I 49 1280 (0 : Int32) (fun I1 =>
    ∃ nn, Men_mendOne_l10 T F L r1 Q nn I1 0)
def Net_fits_l27 (x0 : Int32) (x1 : Int32) (Q : Int32 → Prop) : Nat → Int32 → Int32 → Prop
  | 0, _, _ => False
  | n + 1, x2, x3 =>
    if x0 ≤ x3 then
    (if 6561 < x2 then
    (Q 0 )
    else
    (Q 1 ))
    else
    (Net_fits_l27 x0 x1 Q n (x2 * x1) (x3 + 1))
def Net_fits  (x0 : Int32) (x1 : Int32) (Q : Int32 → Prop) : Prop :=
  if x0 < 1 then
    (Q 0 )
    else
    (if 8 < x0 then
    (Q 0 )
    else
    (if x1 < 2 then
    (Q 0 )
    else
    (if x1 ≤ 4 then
    (∃ nn, Net_fits_l27 x0 x1 Q nn 1 0)
    else
    (Q 0 ))))
def Net_open_l17 (T : HR) (L : HL) (r0 : Nat) (Q : HI → HR → Prop) : Nat → HI → Int32 → Prop
  | 0, _, _ => False
  | n + 1, I, x3 =>
    if (I r0 0) ≤ x3 then
    (Net_lookAtAllAtOnce I T L r0 (fun I1 T2 =>
    Q I1 T2))
    else
    (Net_open_l17 T L r0 Q n (up2 I r0 2 ((I r0 2) * (I r0 1))) (x3 + 1))
def Net_open (I : HI) (T : HR) (L : HL) (r0 : Nat) (x1 : Int32) (x2 : Int32) (Q : HI → HR → Prop) : Prop :=
  ∃ nn, Net_open_l17 T L r0 Q nn (up2 (up2 (up2 I r0 0 x1) r0 1 x2) r0 2 1) 0
def Net_copy_l122 (I : HI) (L : HL) (r0 : Nat) (r1 : Nat) (Q : HI → HR → Prop) : Nat → HR → Int32 → Prop
  | 0, _, _ => False
  | n + 1, T, x2 =>
    if 8 ≤ x2 then
    (Q I T)
    else
    (vp_in x2 8 ∧
    vp_in x2 8 ∧
    (∀ f, (T (r1 + 6) (nx x2)) = some f → (f, 8, 0) ∈ L) ∧
    Net_copy_l122 I L r0 r1 Q n (up2 T (r0 + 6) (nx x2) (T (r1 + 6) (nx x2))) (x2 + 1))
def Net_copy (I : HI) (T : HR) (L : HL) (r0 : Nat) (r1 : Nat) (Q : HI → HR → Prop) : Prop :=
  ¬ (((cp2 (cp2 (cp2 (cp2 (cp2 (up2 (up2 (up2 I r0 0 (I r1 0)) r0 1 ((up2 I r0 0 (I r1 0)) r1 1)) r0 2 ((up2 (up2 I r0 0 (I r1 0)) r0 1 ((up2 I r0 0 (I r1 0)) r1 1)) r1 2)) (r1 + 1) 0 (r0 + 1) 0 8) (r1 + 2) 0 (r0 + 2) 0 8) (r1 + 3) 0 (r0 + 3) 0 8) (r1 + 4) 0 (r0 + 4) 0 8) (r1 + 5) 0 (r0 + 5) 0 8) r0 0) * 1024) < 0 ∧
    0 + nx (((cp2 (cp2 (cp2 (cp2 (cp2 (up2 (up2 (up2 I r0 0 (I r1 0)) r0 1 ((up2 I r0 0 (I r1 0)) r1 1)) r0 2 ((up2 (up2 I r0 0 (I r1 0)) r0 1 ((up2 I r0 0 (I r1 0)) r1 1)) r1 2)) (r1 + 1) 0 (r0 + 1) 0 8) (r1 + 2) 0 (r0 + 2) 0 8) (r1 + 3) 0 (r0 + 3) 0 8) (r1 + 4) 0 (r0 + 4) 0 8) (r1 + 5) 0 (r0 + 5) 0 8) r0 0) * 1024) ≤ 8192 ∧
    0 + nx (((cp2 (cp2 (cp2 (cp2 (cp2 (up2 (up2 (up2 I r0 0 (I r1 0)) r0 1 ((up2 I r0 0 (I r1 0)) r1 1)) r0 2 ((up2 (up2 I r0 0 (I r1 0)) r0 1 ((up2 I r0 0 (I r1 0)) r1 1)) r1 2)) (r1 + 1) 0 (r0 + 1) 0 8) (r1 + 2) 0 (r0 + 2) 0 8) (r1 + 3) 0 (r0 + 3) 0 8) (r1 + 4) 0 (r0 + 4) 0 8) (r1 + 5) 0 (r0 + 5) 0 8) r0 0) * 1024) ≤ 8192 ∧
    (∀ i, i < nx (((cp2 (cp2 (cp2 (cp2 (cp2 (up2 (up2 (up2 I r0 0 (I r1 0)) r0 1 ((up2 I r0 0 (I r1 0)) r1 1)) r0 2 ((up2 (up2 I r0 0 (I r1 0)) r0 1 ((up2 I r0 0 (I r1 0)) r1 1)) r1 2)) (r1 + 1) 0 (r0 + 1) 0 8) (r1 + 2) 0 (r0 + 2) 0 8) (r1 + 3) 0 (r0 + 3) 0 8) (r1 + 4) 0 (r0 + 4) 0 8) (r1 + 5) 0 (r0 + 5) 0 8) r0 0) * 1024) → fits .byte (.int ((cp2 (cp2 (cp2 (cp2 (cp2 (up2 (up2 (up2 I r0 0 (I r1 0)) r0 1 ((up2 I r0 0 (I r1 0)) r1 1)) r0 2 ((up2 (up2 I r0 0 (I r1 0)) r0 1 ((up2 I r0 0 (I r1 0)) r1 1)) r1 2)) (r1 + 1) 0 (r0 + 1) 0 8) (r1 + 2) 0 (r0 + 2) 0 8) (r1 + 3) 0 (r0 + 3) 0 8) (r1 + 4) 0 (r0 + 4) 0 8) (r1 + 5) 0 (r0 + 5) 0 8) (r1 + 7) (0 + i))) = true) ∧
    ∃ nn, Net_copy_l122 (cp2 (cp2 (cp2 (cp2 (cp2 (cp2 (up2 (up2 (up2 I r0 0 (I r1 0)) r0 1 ((up2 I r0 0 (I r1 0)) r1 1)) r0 2 ((up2 (up2 I r0 0 (I r1 0)) r0 1 ((up2 I r0 0 (I r1 0)) r1 1)) r1 2)) (r1 + 1) 0 (r0 + 1) 0 8) (r1 + 2) 0 (r0 + 2) 0 8) (r1 + 3) 0 (r0 + 3) 0 8) (r1 + 4) 0 (r0 + 4) 0 8) (r1 + 5) 0 (r0 + 5) 0 8) (r1 + 7) 0 (r0 + 7) 0 (nx (((cp2 (cp2 (cp2 (cp2 (cp2 (up2 (up2 (up2 I r0 0 (I r1 0)) r0 1 ((up2 I r0 0 (I r1 0)) r1 1)) r0 2 ((up2 (up2 I r0 0 (I r1 0)) r0 1 ((up2 I r0 0 (I r1 0)) r1 1)) r1 2)) (r1 + 1) 0 (r0 + 1) 0 8) (r1 + 2) 0 (r0 + 2) 0 8) (r1 + 3) 0 (r0 + 3) 0 8) (r1 + 4) 0 (r0 + 4) 0 8) (r1 + 5) 0 (r0 + 5) 0 8) r0 0) * 1024))) L r0 r1 Q nn T 0
def Net_lookAt (I : HI) (r0 : Nat) (x1 : Int32) (x2 : Int32) (Q : HI → Prop) : Prop :=
  vp_in x1 8 ∧
    if (I (r0 + 1) (nx x1)) = x2 then
    (Q I)
    else
    (vp_in x1 8 ∧
    Net_clearTable (up2 I (r0 + 1) (nx x1) x2) r0 x1 (fun I1 =>
    Q I1))
def Net_orderByRounds_l12 (r0 : Nat) (x2 : Int32) (K4 : HI → Int32 → Int32 → Prop) (Q : HI → Prop) : Nat → HI → Int32 → Int32 → Prop
  | 0, _, _, _ => False
  | n + 1, I, x1, x3 =>
    if (I r0 0) ≤ x3 then
    (K4 I x1 (x2 + 1))
    else
    (vp_in x3 8 ∧
    if (I (r0 + 2) (nx x3)) = x2 then
    (vp_in x1 8 ∧
    Net_orderByRounds_l12 r0 x2 K4 Q n (up2 I (r0 + 5) (nx x1) x3) (x1 + 1) (x3 + 1))
    else
    (Net_orderByRounds_l12 r0 x2 K4 Q n I x1 (x3 + 1)))
def Net_orderByRounds_l4 (r0 : Nat) (Q : HI → Prop) : Nat → HI → Int32 → Int32 → Prop
  | 0, _, _, _ => False
  | n + 1, I, x1, x2 =>
    if 7 < x2 then
    (Q I)
    else
    (∃ nn, Net_orderByRounds_l12 r0 x2 (fun I' x1' x2' => Net_orderByRounds_l4 r0 Q n I' x1' x2') Q nn I x1 0)
def Net_orderByRounds (I : HI) (r0 : Nat) (Q : HI → Prop) : Prop :=
  ∃ nn, Net_orderByRounds_l4 r0 Q nn I 0 0
def Net_earlierThan_l4 (I : HI) (r0 : Nat) (x1 : Int32) (Q : Int32 → Prop) : Nat → Int32 → Int32 → Prop
  | 0, _, _ => False
  | n + 1, x2, x3 =>
    if (I r0 0) ≤ x3 then
    (Q x2 )
    else
    (vp_in x3 8 ∧
    if x1 ≤ (I (r0 + 2) (nx x3)) then
    (Net_earlierThan_l4 I r0 x1 Q n x2 (x3 + 1))
    else
    (Net_earlierThan_l4 I r0 x1 Q n (x2 ||| ((1 : Int32) <<< (x3 &&& 31))) (x3 + 1)))
def Net_earlierThan (I : HI) (r0 : Nat) (x1 : Int32) (Q : Int32 → Prop) : Prop :=
  ∃ nn, Net_earlierThan_l4 I r0 x1 Q nn 0 0
def Net_guessIn_l13 (r0 : Nat) (Q : HI → Prop) : Nat → HI → Int32 → Prop
  | 0, _, _ => False
  | n + 1, I, x3 =>
    if (I r0 0) ≤ x3 then
    (Q I)
    else
    (vp_in x3 8 ∧
    Net_earlierThan I r0 (I (r0 + 2) (nx x3)) (fun a3 =>
    vp_in x3 8 ∧
    if (I (r0 + 3) (nx x3)) = a3 then
    (Net_guessIn_l13 r0 Q n I (x3 + 1))
    else
    (vp_in x3 8 ∧
    Net_clearTable (up2 I (r0 + 3) (nx x3) a3) r0 x3 (fun I5 =>
    Net_guessIn_l13 r0 Q n I5 (x3 + 1)))))
def Net_guessIn (I : HI) (r0 : Nat) (x1 : Int32) (x2 : Int32) (Q : HI → Prop) : Prop :=
  vp_in x1 8 ∧
    Net_orderByRounds (up2 I (r0 + 2) (nx x1) x2) r0 (fun I1 =>
    ∃ nn, Net_guessIn_l13 r0 Q nn I1 0)
def Net_kindOfRule (I : HI) (T : HR) (r0 : Nat) (x1 : Int32) (Q : Int32 → Prop) : Prop :=
  vp_in x1 8 ∧
    (T (r0 + 6) (nx x1) = none →
    vp_in x1 8 ∧
    if (I (r0 + 4) (nx x1)) = (-1) then
    (Q 2 )
    else
    (Q 0 )) ∧ (∀ ef1, T (r0 + 6) (nx x1) = some ef1 →
    Q 1 )
def Net_follow_l2 (I : HI) (L : HL) (r0 : Nat) (Q : HR → Prop) : Nat → HR → Int32 → Prop
  | 0, _, _ => False
  | n + 1, T, x2 =>
    if (I r0 0) ≤ x2 then
    (Q T)
    else
    (vp_in x2 8 ∧
    (T 29 (nx x2) = none →
    Net_follow_l2 I L r0 Q n T (x2 + 1)) ∧ (∀ ef1, T 29 (nx x2) = some ef1 →
    vp_in x2 8 ∧
    vp_in x2 8 ∧
    (∀ f, (T 29 (nx x2)) = some f → (f, 8, 0) ∈ L) ∧
    Net_follow_l2 I L r0 Q n (up2 T (r0 + 6) (nx x2) (T 29 (nx x2))) (x2 + 1)))
def Net_follow (I : HI) (T : HR) (L : HL) (r0 : Nat) (Q : HR → Prop) : Prop :=
  ∃ nn, Net_follow_l2 I L r0 Q nn T 0
def Net_countTexts_l4 (I : HI) (T : HR) (r0 : Nat) (Q : Int32 → Prop) : Nat → Int32 → Int32 → Prop
  | 0, _, _ => False
  | n + 1, x1, x2 =>
    if (I r0 0) ≤ x2 then
    (Q x1 )
    else
    (vp_in x2 8 ∧
    (T (r0 + 6) (nx x2) = none →
    Net_countTexts_l4 I T r0 Q n (x1 + 0) (x2 + 1)) ∧ (∀ ef1, T (r0 + 6) (nx x2) = some ef1 →
    Net_countTexts_l4 I T r0 Q n (x1 + 1) (x2 + 1)))
def Net_countTexts (I : HI) (T : HR) (r0 : Nat) (Q : Int32 → Prop) : Prop :=
  ∃ nn, Net_countTexts_l4 I T r0 Q nn 0 0
def Net_viewsInTables_l4 (I : HI) (T : HR) (r0 : Nat) (Q : Int32 → Prop) : Nat → Int32 → Int32 → Prop
  | 0, _, _ => False
  | n + 1, x1, x2 =>
    if (I r0 0) ≤ x2 then
    (Q x1 )
    else
    (Net_hasTable I T r0 x2 (fun a1 =>
    if a1 = 0 then
    (Net_viewsInTables_l4 I T r0 Q n (x1 + 0) (x2 + 1))
    else
    (vp_in x2 8 ∧
    Net_viewsInTables_l4 I T r0 Q n (x1 + (I (r0 + 4) (nx x2))) (x2 + 1))))
def Net_viewsInTables (I : HI) (T : HR) (r0 : Nat) (Q : Int32 → Prop) : Prop :=
  ∃ nn, Net_viewsInTables_l4 I T r0 Q nn 0 0
def Net_standInLine_l2 (L : HL) (r0 : Nat) (f1 : Nat) (n1 : Nat) (k1 : Nat) (l1 : Nat) (q1 : Nat) (v1 : Nat) (f2 : Nat) (n2 : Nat) (k2 : Nat) (l2 : Nat) (q2 : Nat) (v2 : Nat) (Q : HI → HR → Prop) : Nat → HI → HR → Int32 → Prop
  | 0, _, _, _ => False
  | n + 1, I, T, x3 =>
    if (I r0 0) ≤ x3 then
    (Q I T)
    else
    (Net_othersOf I r0 x3 (fun a1 =>
    Net_lookAt I r0 x3 ((a1 >>> (x3 &&& 31)) <<< (x3 &&& 31)) (fun I3 =>
    Net_guessIn I3 r0 x3 x3 (fun I5 =>
    if x3 = 0 then
    (vp_in x3 8 ∧
    Net_standInLine_l2 L r0 f1 n1 k1 l1 q1 v1 f2 n2 k2 l2 q2 v2 Q n I5 (up2 T (r0 + 6) (nx x3) (some f1)) (x3 + 1))
    else
    (vp_in x3 8 ∧
    Net_standInLine_l2 L r0 f1 n1 k1 l1 q1 v1 f2 n2 k2 l2 q2 v2 Q n I5 (up2 T (r0 + 6) (nx x3) (some f2)) (x3 + 1))))))
def Net_standInLine (I : HI) (T : HR) (L : HL) (r0 : Nat) (f1 : Nat) (n1 : Nat) (k1 : Nat) (l1 : Nat) (q1 : Nat) (v1 : Nat) (f2 : Nat) (n2 : Nat) (k2 : Nat) (l2 : Nat) (q2 : Nat) (v2 : Nat) (Q : HI → HR → Prop) : Prop :=
  ∃ nn, Net_standInLine_l2 L r0 f1 n1 k1 l1 q1 v1 f2 n2 k2 l2 q2 v2 Q nn I T 0
def Net_drawTables_l19 (T : HR) (r0 : Nat) (x4 : Int32) (K7 : HI → Int32 → Int32 → Int32 → Prop) (Q : Int32 → HI → Prop) : Nat → HI → Int32 → Int32 → Int32 → Prop
  | 0, _, _, _, _ => False
  | n + 1, I, x2, x3, x5 =>
    Net_hasTable I T r0 x4 (fun a1 =>
    if a1 = 0 then
    (K7 I x2 x3 (x4 + 1))
    else
    (vp_in x4 8 ∧
    if (I (r0 + 4) (nx x4)) ≤ x5 then
    (K7 I x2 x3 (x4 + 1))
    else
    (¬ (I r0 1) = 0 ∧
    Net_setGuess I r0 x4 x5 (irm ((iu ((x3 * 1103515245) + 12345) 16) &&& 32767) (I r0 1)) (fun I3 =>
    Net_drawTables_l19 T r0 x4 K7 Q n I3 (x2 + 1) ((x3 * 1103515245) + 12345) (x5 + 1)))))
def Net_drawTables_l7 (T : HR) (r0 : Nat) (Q : Int32 → HI → Prop) : Nat → HI → Int32 → Int32 → Int32 → Prop
  | 0, _, _, _, _ => False
  | n + 1, I, x2, x3, x4 =>
    if (I r0 0) ≤ x4 then
    (Q x2 I)
    else
    (∃ nn, Net_drawTables_l19 T r0 x4 (fun I' x2' x3' x4' => Net_drawTables_l7 T r0 Q n I' x2' x3' x4') Q nn I x2 x3 0)
def Net_drawTables (I : HI) (T : HR) (r0 : Nat) (x1 : Int32) (Q : Int32 → HI → Prop) : Prop :=
  ∃ nn, Net_drawTables_l7 T r0 Q nn I 0 x1 0
def Net_seenByAnyOf_l4 (I : HI) (r0 : Nat) (x1 : Int32) (Q : Int32 → Prop) : Nat → Int32 → Int32 → Prop
  | 0, _, _ => False
  | n + 1, x2, x3 =>
    if (I r0 0) ≤ x3 then
    (Q x2 )
    else
    (if ((x1 >>> (x3 &&& 31)) &&& 1) = 1 then
    (vp_in x3 8 ∧
    Net_seenByAnyOf_l4 I r0 x1 Q n (x2 ||| (I (r0 + 1) (nx x3))) (x3 + 1))
    else
    (Net_seenByAnyOf_l4 I r0 x1 Q n x2 (x3 + 1)))
def Net_seenByAnyOf (I : HI) (r0 : Nat) (x1 : Int32) (Q : Int32 → Prop) : Prop :=
  ∃ nn, Net_seenByAnyOf_l4 I r0 x1 Q nn 0 0
def Net_shortestRing_l19 (I : HI) (r0 : Nat) (x2 : Int32) (K4 : Int32 → Int32 → Prop) (Q : Int32 → Prop) : Nat → Int32 → Int32 → Int32 → Prop
  | 0, _, _, _ => False
  | n + 1, x1, x3, x4 =>
    if (I r0 0) < x4 then
    (K4 x1 (x2 + 1))
    else
    (Net_seenByAnyOf I r0 x3 (fun a1 =>
    if ((a1 >>> (x2 &&& 31)) &&& 1) = 1 then
    (if x1 = (-1) then
    (Net_shortestRing_l19 I r0 x2 K4 Q n x4 a1 (x4 + 1))
    else
    (if x1 ≤ x4 then
    (Net_shortestRing_l19 I r0 x2 K4 Q n x1 a1 (x4 + 1))
    else
    (Net_shortestRing_l19 I r0 x2 K4 Q n x4 a1 (x4 + 1))))
    else
    (Net_shortestRing_l19 I r0 x2 K4 Q n x1 a1 (x4 + 1))))
def Net_shortestRing_l4 (I : HI) (r0 : Nat) (Q : Int32 → Prop) : Nat → Int32 → Int32 → Prop
  | 0, _, _ => False
  | n + 1, x1, x2 =>
    if (I r0 0) ≤ x2 then
    (Q x1 )
    else
    (∃ nn, Net_shortestRing_l19 I r0 x2 (fun x1' x2' => Net_shortestRing_l4 I r0 Q n x1' x2') Q nn x1 ((1 : Int32) <<< (x2 &&& 31)) 1)
def Net_shortestRing (I : HI) (r0 : Nat) (Q : Int32 → Prop) : Prop :=
  ∃ nn, Net_shortestRing_l4 I r0 Q nn (-1) 0
def Net_suits_b99 (I : HI) (r0 : Nat) (x1 : Int32) (x2 : Int32) (x3 : Int32) (x4 : Int32) (t0 : Int32) (K26 : Int32 → Prop) (Q : Int32 → Prop) : Prop :=
  if x4 = 0 then
    (Q 0 )
    else
    (if t0 = 0 then
    (Q 0 )
    else
    (K26 (x3 + 1)))
def Net_suits_b64 (I : HI) (r0 : Nat) (x1 : Int32) (x2 : Int32) (x3 : Int32) (t0 : Int32) (K26 : Int32 → Prop) (Q : Int32 → Prop) : Prop :=
  vp_in x3 8 ∧
    vp_in x3 6 ∧
    vp_in (I (r0 + 8) (nx x3)) 8 ∧
    if (((I (r0 + 1) (nx x3)) >>> (x1 &&& 31)) &&& 1) = (((I (r0 + 1) (nx (I (r0 + 8) (nx x3)))) >>> (x2 &&& 31)) &&& 1) then
    (Net_suits_b99 I r0 x1 x2 x3 t0 1 K26 Q)
    else
    (Net_suits_b99 I r0 x1 x2 x3 t0 0 K26 Q)
def Net_suits_l26 (I : HI) (r0 : Nat) (x1 : Int32) (x2 : Int32) (Q : Int32 → Prop) : Nat → Int32 → Prop
  | 0, _ => False
  | n + 1, x3 =>
    if x1 ≤ x3 then
    (Q 1 )
    else
    (vp_in x1 8 ∧
    vp_in x2 8 ∧
    vp_in x3 6 ∧
    if (((I (r0 + 1) (nx x1)) >>> (x3 &&& 31)) &&& 1) = (((I (r0 + 1) (nx x2)) >>> ((I (r0 + 8) (nx x3)) &&& 31)) &&& 1) then
    (Net_suits_b64 I r0 x1 x2 x3 1 (fun x3' => Net_suits_l26 I r0 x1 x2 Q n x3') Q)
    else
    (Net_suits_b64 I r0 x1 x2 x3 0 (fun x3' => Net_suits_l26 I r0 x1 x2 Q n x3') Q))
def Net_suits (I : HI) (r0 : Nat) (x1 : Int32) (Q : Int32 → Prop) : Prop :=
  vp_in x1 6 ∧
    vp_in x1 8 ∧
    vp_in (I (r0 + 8) (nx x1)) 8 ∧
    if (I (r0 + 2) (nx x1)) = (I (r0 + 2) (nx (I (r0 + 8) (nx x1)))) then
    (∃ nn, Net_suits_l26 I r0 x1 (I (r0 + 8) (nx x1)) Q nn 0)
    else
    (Q 0 )
def Net_placeFrom_l21 (RO : HI → Nat → Int32 → Int32 → (Int32 → HI → Prop) → Prop) (r0 : Nat) (x1 : Int32) (x2 : Int32) (Q : Int32 → HI → Prop) : Nat → HI → Int32 → Int32 → Prop
  | 0, _, _, _ => False
  | n + 1, I, x3, x4 =>
    if (I r0 0) ≤ x4 then
    (Q x3 I)
    else
    (vp_in x1 6 ∧
    if ((x2 >>> (x4 &&& 31)) &&& 1) = 0 then
    (Net_suits (up2 I (r0 + 8) (nx x1) x4) r0 x1 (fun a1 =>
    if a1 = 0 then
    (Net_placeFrom_l21 RO r0 x1 x2 Q n (up2 I (r0 + 8) (nx x1) x4) x3 (x4 + 1))
    else
    (RO (up2 I (r0 + 8) (nx x1) x4) r0 (x1 + 1) (x2 ||| ((1 : Int32) <<< (x4 &&& 31))) (fun a3 I4 =>
    Net_placeFrom_l21 RO r0 x1 x2 Q n I4 (x3 + a3) (x4 + 1)))))
    else
    (Net_placeFrom_l21 RO r0 x1 x2 Q n (up2 I (r0 + 8) (nx x1) x4) x3 (x4 + 1)))
def Net_placeFrom_o (RO : HI → Nat → Int32 → Int32 → (Int32 → HI → Prop) → Prop) (I : HI) (r0 : Nat) (x1 : Int32) (x2 : Int32) (Q : Int32 → HI → Prop) : Prop :=
  if (I r0 0) ≤ x1 then
    (Q 1 I)
    else
    (if x1 < 6 then
    (∃ nn, Net_placeFrom_l21 RO r0 x1 x2 Q nn I 0 0)
    else
    (Q 1 I))
def Net_placeFrom : Nat → HI → Nat → Int32 → Int32 → (Int32 → HI → Prop) → Prop
  | 0 => fun _ _ _ _ _ => False
  | d + 1 => Net_placeFrom_o (Net_placeFrom d)
def Net_countPlacings (I : HI) (r0 : Nat) (Q : Int32 → HI → Prop) : Prop :=
  if (I r0 0) ≤ 6 then
    (Net_placeFrom 8 I r0 (0 : Int32) (0 : Int32) (fun a1 I2 =>
    Q a1 I2))
    else
    (Q (-1) I)
def Rd_isNumber (I : HI)  (Q : Int32 → Prop) : Prop :=
  if (I 28 8) = 131 then
    (Q 1 )
    else
    (if (I 28 8) = 132 then
    (Q 1 )
    else
    (Q 0 ))
def Rd_isWord (I : HI)  (Q : Int32 → Prop) : Prop :=
  if (I 28 8) < 140 then
    (Q 0 )
    else
    (Q 1 )
def Rd_stop (I : HI) (x1 : Int32) (Q : HI → Prop) : Prop :=
  if (I 28 8) = 130 then
    (Q I)
    else
    (Q (up2 (up2 (up2 I 28 0 x1) 28 1 ((up2 I 28 0 x1) 28 7)) 28 8 130))
def Rd_isLetter  (x0 : Int32) (Q : Int32 → Prop) : Prop :=
  if x0 < 97 then
    (Q 0 )
    else
    (if 122 < x0 then
    (Q 0 )
    else
    (Q 1 ))
def Rd_isDigit  (x0 : Int32) (Q : Int32 → Prop) : Prop :=
  if x0 < 48 then
    (Q 0 )
    else
    (if 57 < x0 then
    (Q 0 )
    else
    (Q 1 ))
def Rd_scanNumber_b85 (I : HI) (Q : HI → Prop) : Prop :=
  if ((I 28 6) - (I 28 7)) ≤ 3 then
    (Q (up2 I 28 8 131))
    else
    (Q (up2 I 28 8 132))
def Rd_scanNumber_b69 (I : HI) (t0 : Int32) (K5 : HI → Prop) (Q : HI → Prop) : Prop :=
  K5 (up2 (up2 I 28 9 t0) 28 6 (((up2 I 28 9 t0) 28 6) + 1))
def Rd_scanNumber_l5  (Q : HI → Prop) : Nat → HI → Prop
  | 0, _ => False
  | n + 1, I =>
    if (I 28 4) ≤ (I 28 6) then
    (Rd_scanNumber_b85 I Q)
    else
    (vp_in (I 28 6) 500 ∧
    Rd_isDigit (I 34 (nx (I 28 6))) (fun a1 =>
    if a1 = 0 then
    (Rd_scanNumber_b85 I Q)
    else
    (if 1000 ≤ (I 28 9) then
    (Rd_scanNumber_b69 I (I 28 9) (fun I' => Rd_scanNumber_l5 Q n I') Q)
    else
    (vp_in (I 28 6) 500 ∧
    Rd_scanNumber_b69 I ((((I 28 9) * 10) + (I 34 (nx (I 28 6)))) - 48) (fun I' => Rd_scanNumber_l5 Q n I') Q))))
def Rd_scanNumber (I : HI)  (Q : HI → Prop) : Prop :=
  ∃ nn, Rd_scanNumber_l5 Q nn (up2 I 28 9 0)
def Rd_isSign_b12 (x0 : Int32) (Q : Int32 → Prop) : Prop :=
  if x0 = 45 then
    (Q 1 )
    else
    (if x0 = 47 then
    (Q 1 )
    else
    (if x0 < 59 then
    (Q 0 )
    else
    (if 61 < x0 then
    (Q 0 )
    else
    (Q 1 ))))
def Rd_isSign  (x0 : Int32) (Q : Int32 → Prop) : Prop :=
  if x0 < 40 then
    (Rd_isSign_b12 x0 Q)
    else
    (if x0 ≤ 43 then
    (Q 1 )
    else
    (Rd_isSign_b12 x0 Q))
def Rd_add (I : HI) (x1 : Int32) (x2 : Int32) (x3 : Int32) (Q : Int32 → HI → Prop) : Prop :=
  if (I 28 8) = 130 then
    (Q 0 I)
    else
    (if (I 28 13) < 500 then
    (vp_in (I 28 13) 500 ∧
    vp_in ((up2 I 31 (nx (I 28 13)) x1) 28 13) 500 ∧
    vp_in ((up2 (up2 I 31 (nx (I 28 13)) x1) 32 (nx ((up2 I 31 (nx (I 28 13)) x1) 28 13)) x2) 28 13) 500 ∧
    Q (((up2 (up2 (up2 (up2 I 31 (nx (I 28 13)) x1) 32 (nx ((up2 I 31 (nx (I 28 13)) x1) 28 13)) x2) 33 (nx ((up2 (up2 I 31 (nx (I 28 13)) x1) 32 (nx ((up2 I 31 (nx (I 28 13)) x1) 28 13)) x2) 28 13)) x3) 28 13 (((up2 (up2 (up2 I 31 (nx (I 28 13)) x1) 32 (nx ((up2 I 31 (nx (I 28 13)) x1) 28 13)) x2) 33 (nx ((up2 (up2 I 31 (nx (I 28 13)) x1) 32 (nx ((up2 I 31 (nx (I 28 13)) x1) 28 13)) x2) 28 13)) x3) 28 13) + 1)) 28 13) - 1) (up2 (up2 (up2 (up2 I 31 (nx (I 28 13)) x1) 32 (nx ((up2 I 31 (nx (I 28 13)) x1) 28 13)) x2) 33 (nx ((up2 (up2 I 31 (nx (I 28 13)) x1) 32 (nx ((up2 I 31 (nx (I 28 13)) x1) 28 13)) x2) 28 13)) x3) 28 13 (((up2 (up2 (up2 I 31 (nx (I 28 13)) x1) 32 (nx ((up2 I 31 (nx (I 28 13)) x1) 28 13)) x2) 33 (nx ((up2 (up2 I 31 (nx (I 28 13)) x1) 32 (nx ((up2 I 31 (nx (I 28 13)) x1) 28 13)) x2) 28 13)) x3) 28 13) + 1)))
    else
    (Q 0 I))
def Sc_dressNext_b38 (I : HI) (r0 : Nat) (r1 : Nat) (x2 : Int32) (Q : HI → Prop) : Prop :=
  if (I r1 0) ≤ x2 then
    (Q I)
    else
    (vp_in x2 8 ∧
    vp_in x2 8 ∧
    Q (up2 I (r0 + 1) (nx x2) ((I (r0 + 1) (nx x2)) + 1)))
def Sc_dressNext_l2 (r0 : Nat) (r1 : Nat) (Q : HI → Prop) : Nat → HI → Int32 → Prop
  | 0, _, _ => False
  | n + 1, I, x2 =>
    if (I r1 0) ≤ x2 then
    (Sc_dressNext_b38 I r0 r1 x2 Q)
    else
    (vp_in x2 8 ∧
    if (I (r0 + 1) (nx x2)) = ((I r1 1) - 1) then
    (vp_in x2 8 ∧
    Sc_dressNext_l2 r0 r1 Q n (up2 I (r0 + 1) (nx x2) 0) (x2 + 1))
    else
    (Sc_dressNext_b38 I r0 r1 x2 Q))
def Sc_dressNext (I : HI) (r0 : Nat) (r1 : Nat) (Q : HI → Prop) : Prop :=
  ∃ nn, Sc_dressNext_l2 r0 r1 Q nn I 0
def Sc_changesGuess_b64 (I : HI) (T : HR) (F : HR) (L : HL) (r0 : Nat) (r1 : Nat) (x3 : Int32) (x4 : Int32) (x5 : Int32) (Q : Int32 → HI → Prop) : Prop :=
  vp_in x3 8 ∧
    zb x5 ∧ Q x5 (up2 I (r0 + 1) (nx x3) x4)
def Sc_changesGuess_l14 (T : HR) (F : HR) (L : HL) (r0 : Nat) (r1 : Nat) (x2 : Int32) (x3 : Int32) (x4 : Int32) (Q : Int32 → HI → Prop) : Nat → HI → Int32 → Int32 → Prop
  | 0, _, _, _ => False
  | n + 1, I, x5, x6 =>
    if (I r1 1) ≤ x6 then
    (Sc_changesGuess_b64 I T F L r0 r1 x3 x4 x5 Q)
    else
    (if x5 = 0 then
    (vp_in x3 8 ∧
    Sc_guessOf (up2 I (r0 + 1) (nx x3) x6) T F L r0 r1 x2 (fun a1 I2 =>
    vp_in x2 8 ∧
    if a1 = (I2 (r0 + 2) (nx x2)) then
    (Sc_changesGuess_l14 T F L r0 r1 x2 x3 x4 Q n I2 0 (x6 + 1))
    else
    (Sc_changesGuess_l14 T F L r0 r1 x2 x3 x4 Q n I2 1 (x6 + 1))))
    else
    (Sc_changesGuess_b64 I T F L r0 r1 x3 x4 x5 Q))
def Sc_changesGuess (I : HI) (T : HR) (F : HR) (L : HL) (r0 : Nat) (r1 : Nat) (x2 : Int32) (x3 : Int32) (Q : Int32 → HI → Prop) : Prop :=
  vp_in x3 8 ∧
    ∃ nn, Sc_changesGuess_l14 T F L r0 r1 x2 x3 (I (r0 + 1) (nx x3)) Q nn I 0 0
def Sc_looksThatMatter_l6 (T : HR) (F : HR) (L : HL) (r0 : Nat) (r1 : Nat) (x2 : Int32) (x3 : Int32) (Q : Int32 → HI → Prop) : Nat → HI → Int32 → Int32 → Prop
  | 0, _, _, _ => False
  | n + 1, I, x4, x5 =>
    if (I r1 0) ≤ x5 then
    (Q x4 I)
    else
    (if ((x3 >>> (x5 &&& 31)) &&& 1) = 1 then
    (Sc_changesGuess I T F L r0 r1 x2 x5 (fun a1 I2 =>
    if a1 = 0 then
    (Sc_looksThatMatter_l6 T F L r0 r1 x2 x3 Q n I2 x4 (x5 + 1))
    else
    (Sc_looksThatMatter_l6 T F L r0 r1 x2 x3 Q n I2 (x4 ||| ((1 : Int32) <<< (x5 &&& 31))) (x5 + 1))))
    else
    (Sc_looksThatMatter_l6 T F L r0 r1 x2 x3 Q n I x4 (x5 + 1)))
def Sc_looksThatMatter (I : HI) (T : HR) (F : HR) (L : HL) (r0 : Nat) (r1 : Nat) (x2 : Int32) (x3 : Int32) (Q : Int32 → HI → Prop) : Prop :=
  ∃ nn, Sc_looksThatMatter_l6 T F L r0 r1 x2 x3 Q nn I 0 0
def Jd_fillB_l5 (r0 : Nat) (n0 : Nat) (x1 : Int32) (x3 : Int32) (Q : HI → Prop) : Nat → HI → Int32 → Prop
  | 0, _, _ => False
  | n + 1, I, x2 =>
    if x3 ≤ x2 then
    (Q I)
    else
    (vp_in x2 n0 ∧
    Jd_fillB_l5 r0 n0 x1 x3 Q n (up2 I r0 (nx x2) (vp_nar .byte x1)) (x2 + 1))
def Jd_fillB (I : HI) (r0 : Nat) (n0 : Nat) (x1 : Int32) (Q : HI → Prop) : Prop :=
  ∃ nn, Jd_fillB_l5 r0 n0 x1 (Int32.ofNat n0) Q nn I 0
def Se_cellOf (I : HI) (r1 : Nat) (r2 : Nat) (x3 : Int32) (Q : Int32 → Prop) : Prop :=
  Sc_viewOf I r2 r1 x3 (fun a1 =>
    Q ((x3 * 1024) + a1) )
def Se_someoneIsRight_l2 (I : HI) (r1 : Nat) (r2 : Nat) (Q : Int32 → Prop) : Nat → Int32 → Prop
  | 0, _ => False
  | n + 1, x3 =>
    if (I r1 0) ≤ x3 then
    (Q 0 )
    else
    (Se_cellOf I r1 r2 x3 (fun a1 =>
    vp_in a1 8192 ∧
    vp_in x3 8 ∧
    if (I 36 (nx a1)) = ((I (r2 + 1) (nx x3)) + 1) then
    (Q 1 )
    else
    (Se_someoneIsRight_l2 I r1 r2 Q n (x3 + 1))))
def Se_someoneIsRight (I : HI) (r1 : Nat) (r2 : Nat) (Q : Int32 → Prop) : Prop :=
  ∃ nn, Se_someoneIsRight_l2 I r1 r2 Q nn 0
def Se_rowNotRight_l9 (r1 : Nat) (r2 : Nat) (Q : Int32 → HI → Prop) : Nat → HI → Int32 → Prop
  | 0, _, _ => False
  | n + 1, I, x4 =>
    if (I r1 2) ≤ x4 then
    (Q (I r1 2) I)
    else
    (Se_someoneIsRight I r1 r2 (fun a3 =>
    if a3 = 0 then
    (Q x4 I)
    else
    (Sc_dressNext I r2 r1 (fun I5 =>
    Se_rowNotRight_l9 r1 r2 Q n I5 (x4 + 1)))))
def Se_rowNotRight (I : HI) (r1 : Nat) (r2 : Nat) (x3 : Int32) (Q : Int32 → HI → Prop) : Prop :=
  Sc_dress I r2 r1 x3 (fun I1 =>
    ∃ nn, Se_rowNotRight_l9 r1 r2 Q nn I1 x3)
def Se_unsettledWearer_l3 (I : HI) (r1 : Nat) (r2 : Nat) (Q : Int32 → Prop) : Nat → Int32 → Prop
  | 0, _ => False
  | n + 1, x4 =>
    if (I r1 0) ≤ x4 then
    (Q (-1) )
    else
    (Se_cellOf I r1 r2 x4 (fun a1 =>
    vp_in a1 8192 ∧
    if (I 36 (nx a1)) = 0 then
    (Q x4 )
    else
    (Se_unsettledWearer_l3 I r1 r2 Q n (x4 + 1))))
def Se_unsettledWearer (I : HI) (r1 : Nat) (r2 : Nat) (x3 : Int32) (Q : Int32 → Prop) : Prop :=
  ∃ nn, Se_unsettledWearer_l3 I r1 r2 Q nn x3
def Se_seek_b228 (I : HI) (r1 : Nat) (r2 : Nat) (x5 : Int32) (Q : Int32 → HI → Prop) : Prop :=
  if (I r1 2) ≤ x5 then
    (Q 1 I)
    else
    (Q (-2) I)
def Se_seek_l31 (r1 : Nat) (r2 : Nat) (x3 : Int32) (Q : Int32 → HI → Prop) : Nat → HI → Int32 → Int32 → Int32 → Int32 → Prop
  | 0, _, _, _, _, _ => False
  | n + 1, I, x4, x5, x6, x7 =>
    if ((2 * x3) + 1) < x7 then
    (Se_seek_b228 I r1 r2 x5 Q)
    else
    (if (I r1 2) ≤ x5 then
    (Se_seek_b228 I r1 r2 x5 Q)
    else
    (Sc_dress I r2 r1 x5 (fun I6 =>
    Se_unsettledWearer I6 r1 r2 x6 (fun a8 =>
    if a8 = (-1) then
    (if x4 = 0 then
    (Q 0 I6)
    else
    (vp_in (x4 + (-1)) 5000 ∧
    Sc_dress I6 r2 r1 (I6 37 (nx (x4 + (-1)))) (fun I10 =>
    vp_in (x4 + (-1)) 5000 ∧
    Se_cellOf I10 r1 r2 (I10 38 (nx (x4 + (-1)))) (fun a12 =>
    vp_in a12 8192 ∧
    vp_in (x4 + (-1)) 5000 ∧
    Se_seek_l31 r1 r2 x3 Q n (up2 I10 36 (nx a12) (vp_nar .byte 0)) (x4 + (-1)) (I6 37 (nx (x4 + (-1)))) (((up2 I10 36 (nx a12) (vp_nar .byte 0)) 38 (nx (x4 + (-1)))) + 1) (x7 + 1)))))
    else
    (if x3 ≤ (I6 35 0) then
    (Q (-2) I6)
    else
    (if x4 < 5000 then
    (Se_cellOf I6 r1 r2 a8 (fun a14 =>
    vp_in a8 8 ∧
    vp_in a14 8192 ∧
    vp_in x4 5000 ∧
    vp_in x4 5000 ∧
    Se_rowNotRight (up2 (up2 (up2 (up2 I6 36 (nx a14) (vp_nar .byte (ib ((I6 (r2 + 1) (nx a8)) + 1)))) 37 (nx x4) (vp_nar .short (ihs x5))) 38 (nx x4) (vp_nar .byte (ib a8))) 35 0 (((up2 (up2 (up2 I6 36 (nx a14) (vp_nar .byte (ib ((I6 (r2 + 1) (nx a8)) + 1)))) 37 (nx x4) (vp_nar .short (ihs x5))) 38 (nx x4) (vp_nar .byte (ib a8))) 35 0) + 1)) r1 r2 (x5 + 1) (fun a16 I17 =>
    Se_seek_l31 r1 r2 x3 Q n I17 (x4 + 1) a16 0 (x7 + 1))))
    else
    (Q (-2) I6)))))))
def Se_seek (I : HI) (r1 : Nat) (r2 : Nat) (x3 : Int32) (Q : Int32 → HI → Prop) : Prop :=
  Jd_fillB I 36 8192 (0 : Int32) (fun I1 =>
    Se_rowNotRight (up2 I1 35 0 0) r1 r2 (0 : Int32) (fun a3 I4 =>
    ∃ nn, Se_seek_l31 r1 r2 x3 Q nn I4 0 a3 0 0))
def Se_settle_l17 (T : HR) (L : HL) (r1 : Nat) (x2 : Int32) (K2 : HI → HR → Int32 → Prop) (Q : HI → HR → Prop) : Nat → HI → Int32 → Prop
  | 0, _, _ => False
  | n + 1, I, x3 =>
    vp_in x2 8 ∧
    if (I (r1 + 4) (nx x2)) ≤ x3 then
    (K2 I T (x2 + 1))
    else
    (vp_in ((x2 * 1024) + x3) 8192 ∧
    if 0 ≤ ((I 36 (nx ((x2 * 1024) + x3))) - 1) then
    (Net_setGuess I r1 x2 x3 ((I 36 (nx ((x2 * 1024) + x3))) - 1) (fun I4 =>
    Se_settle_l17 T L r1 x2 K2 Q n I4 (x3 + 1)))
    else
    (Net_setGuess I r1 x2 x3 (0 : Int32) (fun I6 =>
    Se_settle_l17 T L r1 x2 K2 Q n I6 (x3 + 1))))
def Se_settle_l2 (L : HL) (r1 : Nat) (Q : HI → HR → Prop) : Nat → HI → HR → Int32 → Prop
  | 0, _, _, _ => False
  | n + 1, I, T, x2 =>
    if (I r1 0) ≤ x2 then
    (Q I T)
    else
    (Net_startTable I T L r1 x2 (fun I1 T2 =>
    ∃ nn, Se_settle_l17 T2 L r1 x2 (fun I' T' x2' => Se_settle_l2 L r1 Q n I' T' x2') Q nn I1 0))
def Se_settle (I : HI) (T : HR) (L : HL) (r1 : Nat) (Q : HI → HR → Prop) : Prop :=
  ∃ nn, Se_settle_l2 L r1 Q nn I T 0
def Su_needsOf_l26 (I : HI) (r1 : Nat) (r2 : Nat) (x3 : Int32) (x4 : Int32) (K5 : Int32 → Int32 → Prop) (Q : Int32 → Prop) : Nat → Int32 → Int32 → Prop
  | 0, _, _ => False
  | n + 1, x5, x6 =>
    if (I r1 0) ≤ x6 then
    (¬ (I r1 1) = 0 ∧
    K5 (x3 ||| ((1 : Int32) <<< (((4 * x4) + (irm x5 (I r1 1))) &&& 31))) (x4 + 1))
    else
    (vp_in x4 8 ∧
    vp_in x6 8 ∧
    Su_needsOf_l26 I r1 r2 x3 x4 K5 Q n (x5 + ((((I (r1 + 1) (nx x4)) >>> (x6 &&& 31)) &&& 1) * (I (r2 + 1) (nx x6)))) (x6 + 1))
def Su_needsOf_l5 (I : HI) (r1 : Nat) (r2 : Nat) (Q : Int32 → Prop) : Nat → Int32 → Int32 → Prop
  | 0, _, _ => False
  | n + 1, x3, x4 =>
    if (I r1 0) ≤ x4 then
    (Q x3 )
    else
    (vp_in x4 8 ∧
    ∃ nn, Su_needsOf_l26 I r1 r2 x3 x4 (fun x3' x4' => Su_needsOf_l5 I r1 r2 Q n x3' x4') Q nn (I (r2 + 1) (nx x4)) 0)
def Su_needsOf (I : HI) (r1 : Nat) (r2 : Nat) (Q : Int32 → Prop) : Prop :=
  ∃ nn, Su_needsOf_l5 I r1 r2 Q nn 0 0
def Su_noteNeeds_l6 (r1 : Nat) (r3 : Nat) (Q : Int32 → HI → Prop) : Nat → HI → Int32 → Int32 → Prop
  | 0, _, _, _ => False
  | n + 1, I, x4, x5 =>
    if (I r1 2) ≤ x5 then
    (Q x4 I)
    else
    (if 256 ≤ x4 then
    (Q x4 I)
    else
    (Sc_dress I r3 r1 x5 (fun I1 =>
    Jud_weigh I1 r3 (I1 r1 0) (fun a3 I4 =>
    if (lg_cmp a3 (0 : Int64)) ≤ 0 then
    (Su_noteNeeds_l6 r1 r3 Q n I4 x4 (x5 + 1))
    else
    (Su_needsOf I4 r1 r3 (fun a6 =>
    vp_in x4 256 ∧
    Su_noteNeeds_l6 r1 r3 Q n (up2 I4 42 (nx x4) a6) (x4 + 1) (x5 + 1)))))))
def Su_noteNeeds (I : HI) (r1 : Nat) (r3 : Nat) (Q : Int32 → HI → Prop) : Prop :=
  ∃ nn, Su_noteNeeds_l6 r1 r3 Q nn I 0 0
def Su_rowsWonByTried_l43 (I : HI) (r1 : Nat) (x2 : Int32) (x3 : Int32) (Q : Int32 → Prop) : Nat → Int32 → Int32 → Prop
  | 0, _, _ => False
  | n + 1, x4, x5 =>
    if x2 ≤ x5 then
    (Q x4 )
    else
    (vp_in x5 256 ∧
    Jd_bitCount ((I 42 (nx x5)) &&& x3) (fun a1 =>
    vp_in a1 9 ∧
    if (I 43 (nx a1)) = 0 then
    (Su_rowsWonByTried_l43 I r1 x2 x3 Q n x4 (x5 + 1))
    else
    (Su_rowsWonByTried_l43 I r1 x2 x3 Q n (x4 + 1) (x5 + 1))))
def Su_rowsWonByTried_l5 (I : HI) (r1 : Nat) (x2 : Int32) (Q : Int32 → Prop) : Nat → Int32 → Int32 → Prop
  | 0, _, _ => False
  | n + 1, x3, x4 =>
    if (I r1 0) ≤ x4 then
    (∃ nn, Su_rowsWonByTried_l43 I r1 x2 x3 Q nn 0 0)
    else
    (vp_in x4 8 ∧
    Su_rowsWonByTried_l5 I r1 x2 Q n (x3 ||| ((1 : Int32) <<< (((4 * x4) + (I 41 (nx x4))) &&& 31))) (x4 + 1))
def Su_rowsWonByTried (I : HI) (r1 : Nat) (x2 : Int32) (Q : Int32 → Prop) : Prop :=
  ∃ nn, Su_rowsWonByTried_l5 I r1 x2 Q nn 0 0
def Su_advance_b39 (I : HI) (r1 : Nat) (x2 : Int32) (Q : HI → Prop) : Prop :=
  if x2 < 0 then
    (Q I)
    else
    (vp_in x2 8 ∧
    vp_in x2 8 ∧
    Q (up2 I 41 (nx x2) ((I 41 (nx x2)) + 1)))
def Su_advance_l7 (r1 : Nat) (Q : HI → Prop) : Nat → HI → Int32 → Prop
  | 0, _, _ => False
  | n + 1, I, x2 =>
    if x2 < 0 then
    (Su_advance_b39 I r1 x2 Q)
    else
    (vp_in x2 8 ∧
    if (I 41 (nx x2)) = ((I r1 1) - 1) then
    (vp_in x2 8 ∧
    Su_advance_l7 r1 Q n (up2 I 41 (nx x2) 0) (x2 + (-1)))
    else
    (Su_advance_b39 I r1 x2 Q))
def Su_advance (I : HI) (r1 : Nat) (Q : HI → Prop) : Prop :=
  ∃ nn, Su_advance_l7 r1 Q nn I ((I r1 0) - 1)
def Su_seek_l87 (r1 : Nat) (r3 : Nat) (x4 : Int32) (Q : Int32 → HI → Prop) : Nat → HI → Int32 → Int32 → Prop
  | 0, _, _, _ => False
  | n + 1, I, x5, x6 =>
    if (I r1 2) ≤ x6 then
    (Q x5 I)
    else
    (Su_rowsWonByTried I r1 x4 (fun a6 =>
    if a6 ≤ x5 then
    (Su_advance I r1 (fun I8 =>
    Su_seek_l87 r1 r3 x4 Q n I8 x5 (x6 + 1)))
    else
    (Su_advance (cp2 I 41 0 40 0 8) r1 (fun I10 =>
    Su_seek_l87 r1 r3 x4 Q n I10 a6 (x6 + 1)))))
def Su_seek_l12 (r1 : Nat) (r3 : Nat) (x4 : Int32) (Q : Int32 → HI → Prop) : Nat → HI → Int32 → Prop
  | 0, _, _ => False
  | n + 1, I, x5 =>
    if (I r1 0) < x5 then
    (Jd_fillI (up2 I 39 1 (I r1 0)) 41 8 (0 : Int32) (fun I4 =>
    ∃ nn, Su_seek_l87 r1 r3 x4 Q nn I4 (-1) 0))
    else
    (Jud_isWon I (((1 : Int32) <<< (x5 &&& 31)) - 1) ((((1 : Int32) <<< ((I r1 0) &&& 31)) - 1) &&& ((((1 : Int32) <<< (x5 &&& 31)) - 1) ^^^ (-1))) (I r1 0) (fun a12 =>
    vp_in x5 9 ∧
    Su_seek_l12 r1 r3 x4 Q n (up2 I 43 (nx x5) (vp_nar .boolean a12)) (x5 + 1)))
def Su_seek (I : HI) (r1 : Nat) (r3 : Nat) (Q : Int32 → HI → Prop) : Prop :=
  Su_noteNeeds I r1 r3 (fun a1 I2 =>
    ∃ nn, Su_seek_l12 r1 r3 a1 Q nn I2 0)
def Su_sumOfDigits_l7 (x1 : Int32) (Q : Int32 → Prop) : Nat → Int32 → Int32 → Int32 → Prop
  | 0, _, _, _ => False
  | n + 1, x2, x3, x4 =>
    if 8 ≤ x4 then
    (Q x2 )
    else
    (¬ x1 = 0 ∧
    ¬ x1 = 0 ∧
    Su_sumOfDigits_l7 x1 Q n (x2 + (irm x3 x1)) (x3 / x1) (x4 + 1))
def Su_sumOfDigits  (x0 : Int32) (x1 : Int32) (Q : Int32 → Prop) : Prop :=
  ∃ nn, Su_sumOfDigits_l7 x1 Q nn 0 x0 0
def Su_settle_l17 (T : HR) (L : HL) (r1 : Nat) (x2 : Int32) (K2 : HI → HR → Int32 → Prop) (Q : HI → HR → Prop) : Nat → HI → Int32 → Prop
  | 0, _, _ => False
  | n + 1, I, x3 =>
    vp_in x2 8 ∧
    if (I (r1 + 4) (nx x2)) ≤ x3 then
    (K2 I T (x2 + 1))
    else
    (vp_in x2 8 ∧
    Su_sumOfDigits x3 (I r1 1) (fun a4 =>
    Jd_floorMod ((I 40 (nx x2)) - a4) (I r1 1) (fun a6 =>
    Net_setGuess I r1 x2 x3 a6 (fun I8 =>
    Su_settle_l17 T L r1 x2 K2 Q n I8 (x3 + 1)))))
def Su_settle_l2 (L : HL) (r1 : Nat) (Q : HI → HR → Prop) : Nat → HI → HR → Int32 → Prop
  | 0, _, _, _ => False
  | n + 1, I, T, x2 =>
    if (I r1 0) ≤ x2 then
    (Q I T)
    else
    (Net_startTable I T L r1 x2 (fun I1 T2 =>
    ∃ nn, Su_settle_l17 T2 L r1 x2 (fun I' T' x2' => Su_settle_l2 L r1 Q n I' T' x2') Q nn I1 0))
def Su_settle (I : HI) (T : HR) (L : HL) (r1 : Nat) (Q : HI → HR → Prop) : Prop :=
  ∃ nn, Su_settle_l2 L r1 Q nn I T 0
def H_hall (I : HI) (T : HR) (L : HL) (x1 : Int32) (x2 : Int32) (Q : Int32 → HI → HR → Prop) : Prop :=
  Net_fits x1 x2 (fun a1 =>
    if a1 = 0 then
    (Q 0 I T)
    else
    (Net_open I T L 1 x1 x2 (fun I3 T4 =>
    Led_spoil I3 (fun I6 =>
    Q 1 I6 T4))))
def H_heap (I : HI) (x1 : Int32) (x2 : Int32) (Q : Int32 → HI → Prop) : Prop :=
  if x1 < 0 then
    (Q 0 I)
    else
    (if (I 1 1) ≤ x1 then
    (Q 0 I)
    else
    (if x2 < 0 then
    (Q 0 I)
    else
    (if x2 ≤ 9 then
    (vp_in x1 4 ∧
    Led_spoil (up2 I 24 (nx x1) x2) (fun I1 =>
    Q 1 I1))
    else
    (Q 0 I))))
def H_law (I : HI) (x1 : Int32) (x2 : Int32) (Q : Int32 → HI → Prop) : Prop :=
  if x1 < 0 then
    (Q 0 I)
    else
    (if 3 < x1 then
    (Q 0 I)
    else
    (if x2 < 0 then
    (Q 0 I)
    else
    (if x2 ≤ 8 then
    (Q 1 (up2 (up2 I 23 1 x1) 23 2 x2))
    else
    (Q 0 I))))
def H_putBytes_l3 (x1 : Int32) (Q : HI → Prop) : Nat → HI → Int32 → Prop
  | 0, _, _ => False
  | n + 1, I, x2 =>
    if x2 < 0 then
    (Q I)
    else
    (if 500 ≤ (I 0 8) then
    (Q I)
    else
    (vp_in (I 0 8) 500 ∧
    H_putBytes_l3 x1 Q n (up2 (up2 I 34 (nx (I 0 8)) ((iu x1 x2) &&& 255)) 0 8 (((up2 I 34 (nx (I 0 8)) ((iu x1 x2) &&& 255)) 0 8) + 1)) (x2 + (-8))))
def H_putBytes (I : HI) (x1 : Int32) (Q : HI → Prop) : Prop :=
  ∃ nn, H_putBytes_l3 x1 Q nn I 24
def H_feed (I : HI) (x1 : Int32) (x2 : Int32) (x3 : Int32) (x4 : Int32) (x5 : Int32) (Q : Int32 → HI → Prop) : Prop :=
  if ((I 0 8) + 20) ≤ 500 then
    (H_putBytes I x1 (fun I1 =>
    H_putBytes I1 x2 (fun I3 =>
    H_putBytes I3 x3 (fun I5 =>
    H_putBytes I5 x4 (fun I7 =>
    H_putBytes I7 x5 (fun I9 =>
    Q (I9 0 8) I9))))))
    else
    (Q (-1) I)
def H_fault (I : HI)  (Q : Int32 → Prop) : Prop :=
  Q (I 28 1) 
def H_beaten (I : HI) (T : HR) (F : HR) (L : HL) (x1 : Int32) (Q : Int32 → HI → Prop) : Prop :=
  Led_fill I T F L 1 20 (fun I1 =>
    Led_rowBeaten I1 1 x1 (fun a3 =>
    Q a3 I1))
def H_tally (I : HI) (T : HR) (F : HR) (L : HL) (x1 : Int32) (Q : Int32 → HI → Prop) : Prop :=
  Led_fill I T F L 1 20 (fun I1 =>
    Led_rowsWithRight I1 1 x1 (fun a3 =>
    Q a3 I1))
def H_alike (I : HI)  (Q : Int32 → HI → Prop) : Prop :=
  Net_countPlacings I 1 (fun a1 I2 =>
    Q a1 I2)
def H_ring (I : HI)  (Q : Int32 → Prop) : Prop :=
  Net_shortestRing I 1 (fun a1 =>
    Q a1 )
def H_steps (I : HI)  (Q : Int32 → Prop) : Prop :=
  Q (I 35 0) 
def H_cover (I : HI) (T : HR) (L : HL)  (Q : Int32 → HI → HR → Prop) : Prop :=
  if (I 1 1) = 2 then
    (if (I 1 0) ≤ 5 then
    (Cov_seek I (I 1 0) (fun I1 =>
    Cov_settle I1 T L 1 (fun I3 T4 =>
    Led_spoil I3 (fun I6 =>
    Q (I6 44 0) I6 T4))))
    else
    (Q (-1) I T))
    else
    (Q (-1) I T)
def H_draw (I : HI) (T : HR) (x1 : Int32) (Q : Int32 → HI → Prop) : Prop :=
  Led_spoil I (fun I1 =>
    Net_drawTables I1 T 1 x1 (fun a3 I4 =>
    Q a3 I4))
def H_take (I : HI) (T : HR) (F : HR) (L : HL) (x1 : Int32) (Q : Int32 → HI → HR → Prop) : Prop :=
  if x1 < 0 then
    (Q 0 I T)
    else
    (if 4 ≤ x1 then
    (Q 0 I T)
    else
    (vp_in x1 4 ∧
    (T 19 (nx x1) = none →
    Q 0 I T) ∧ (∀ ef1, T 19 (nx x1) = some ef1 →
    vp_in x1 4 ∧
    ∃ ef2, T 19 (nx x1) = some ef2 ∧ NetSh F L ef2 ∧
    Net_copy I T L 1 ef2 (fun I4 T5 =>
    Led_spoil I4 (fun I7 =>
    Q 1 I7 T5)))))
