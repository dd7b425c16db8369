def pB {α : Type} (J : HJ) (Q : α → HI → HR → HR → HL → Prop) : α → HS → Prop := fun r u => ∃ I T F L, u = (I, J, T, F, L) ∧ Q r I T F L
def pBv (J : HJ) (Q : HI → HR → HR → HL → Prop) : HS → Prop := fun u => ∃ I T F L, u = (I, J, T, F, L) ∧ Q I T F L
theorem tx_up1 {F : HR} {L : HL} {q : Nat} (g : Nat → Option Nat) (hG : Geo F L) (hf : ∀ p ∈ L, p.1 < q) (h : F 28 3 = some 34) : up1 F q g 28 3 = some 34 := by
  rw [up1_ne _ _ (Nat.ne_of_lt (hf _ (gl_28 hG)))]
  exact h
theorem mem_last (L : HL) (x : Nat × Nat × Nat) : x ∈ L ++ [x] := List.mem_append_right _ (List.mem_singleton.mpr rfl)
theorem hn_1_10 : hN2 RX1 10 1 5 := ⟨RX1, TX1, tyX1, rfl, inX1, tyX1_ok, kw436, kw437, kw111, by decide⟩
theorem hn_4_15 : hN2 RX4 15 7 2 := ⟨RX7, TX7, tyX7, rfl, inX7, tyX7_ok, kw421, kw239, kw103, by decide⟩
theorem hn_5_27 : hN2 RX5 27 1 5 := ⟨RX1, TX1, tyX1, rfl, inX1, tyX1_ok, kw140, kw437, kw111, by decide⟩
theorem hn_6_18 : hN2 RX6 18 1 5 := ⟨RX1, TX1, tyX1, rfl, inX1, tyX1_ok, kw298, kw437, kw111, by decide⟩
theorem hn_10_23 : hN2 RX10 23 7 2 := ⟨RX7, TX7, tyX7, rfl, inX7, tyX7_ok, kw238, kw239, kw103, by decide⟩
theorem hn_10_30 : hN2 RX10 30 2 4 := ⟨RX2, TX2, tyX2, rfl, inX2, tyX2_ok, kw257, kw258, kw104, by decide⟩
theorem hn_10_37 : hN2 RX10 37 3 2 := ⟨RX3, TX3, tyX3, rfl, inX3, tyX3_ok, kw279, kw280, kw105, by decide⟩
theorem hn_10_44 : hN2 RX10 44 6 14 := ⟨RX6, TX6, tyX6, rfl, inX6, tyX6_ok, kw292, kw293, kw106, by decide⟩
theorem hn_10_59 : hN2 RX10 59 8 4 := ⟨RX8, TX8, tyX8, rfl, inX8, tyX8_ok, kw345, kw346, kw107, by decide⟩
theorem hn_10_66 : hN2 RX10 66 9 5 := ⟨RX9, TX9, tyX9, rfl, inX9, tyX9_ok, kw366, kw367, kw108, by decide⟩
theorem hn_10_7 : hN2 RX10 7 5 11 := ⟨RX5, TX5, tyX5, rfl, inX5, tyX5_ok, kw134, kw135, kw102, by decide⟩
theorem hn_10_73 : hN2 RX10 73 0 5 := ⟨RX0, TX0, tyX0, rfl, inX0, tyX0_ok, kw391, kw392, kw109, by decide⟩
theorem hn_10_80 : hN2 RX10 80 4 3 := ⟨RX4, TX4, tyX4, rfl, inX4, tyX4_ok, kw415, kw416, kw110, by decide⟩
theorem yk_J7_copyOf_59c91 : hYS yJ7_copyOf_59c91 cJ7_copyOf_59c91 3 (some (.array .int)) 2 := ⟨kw1017, kw122, kw1018, by decide +kernel, by decide +kernel, by decide +kernel⟩
theorem yi_X1_init : hYI yX1_init cX1_init 5 4 := ⟨kw439, kw111, kw440, rfl, by decide +kernel, by decide +kernel, by decide +kernel⟩
theorem yk_X1_ofFirstInLine : hYS yX1_ofFirstInLine cX1_ofFirstInLine 0 (some (.object "HatHall$Formula")) 0 := ⟨kw434, kw111, kw435, by decide +kernel, by decide +kernel, by decide +kernel⟩
theorem yk_X1_ofNextInLine : hYS yX1_ofNextInLine cX1_ofNextInLine 3 (some (.object "HatHall$Formula")) 0 := ⟨kw459, kw111, kw460, by decide +kernel, by decide +kernel, by decide +kernel⟩
theorem yk_X6_readRule : hYV yX6_readRule cX6_readRule 3 none 0 := ⟨kw966, kw21, kw106, kw967, by decide +kernel, by decide +kernel, by decide +kernel⟩
def Jd_copyOf (I : HI) (T : HR) (F : HR) (L : HL) (r0 : Nat) (n0 : Nat) (x1 : Int32) (Q : Nat → HI → HR → HR → HL → Prop) : Prop :=
  if x1 = (Int32.ofNat n0) then
    (False)
    else
    (∀ eq1, (∀ p ∈ L, p.1 < eq1) →
    ¬ x1 < 0 ∧ nx x1 ≤ 65536 ∧
    Jd_min (Int32.ofNat n0) x1 (fun a5 =>
    ¬ a5 < 0 ∧
    0 + nx a5 ≤ n0 ∧
    0 + nx a5 ≤ nx x1 ∧
    Q eq1 (cp2 (up1 I eq1 (fun _ => 0)) r0 0 eq1 0 (nx a5)) T F (L ++ [(eq1, 0, nx x1)])))
def Frm_init (I : HI) (T : HR) (F : HR) (L : HL) (f0 : Nat) (r1 : Nat) (n1 : Nat) (r2 : Nat) (n2 : Nat) (r3 : Nat) (n3 : Nat) (x4 : Int32) (Q : HI → HR → HR → HL → Prop) : Prop :=
  ∀ eq1, (∀ p ∈ L, p.1 < eq1) →
    n1 ≤ 65536 ∧
    Q (up1 (up2 I f0 4 x4) eq1 (fun _ => 0)) T (up2 (up2 (up2 (up2 F f0 0 (some r1)) f0 1 (some r2)) f0 2 (some r3)) f0 3 (some eq1)) (L ++ [(eq1, 0, n1)])
def Frm_ofFirstInLine (I : HI) (T : HR) (F : HR) (L : HL)  (Q : Nat → HI → HR → HR → HL → Prop) : Prop :=
  ∀ eq1, (∀ p ∈ L, p.1 < eq1) →
    ∀ eq5, (∀ p ∈ (L ++ [(eq1, 8, 0)]), p.1 < eq5) →
    ∀ eq9, (∀ p ∈ ((L ++ [(eq1, 8, 0)]) ++ [(eq5, 0, 1)]), p.1 < eq9) →
    ∀ eq13, (∀ p ∈ (((L ++ [(eq1, 8, 0)]) ++ [(eq5, 0, 1)]) ++ [(eq9, 0, 1)]), p.1 < eq13) →
    Frm_init (up2 (up1 (up2 (up1 (up2 (up1 (up1 I eq1 (fun _ => 0)) eq5 (fun _ => 0)) eq5 0 149) eq9 (fun _ => 0)) eq9 0 0) eq13 (fun _ => 0)) eq13 0 0) T (up1 F eq1 (fun _ => none)) ((((L ++ [(eq1, 8, 0)]) ++ [(eq5, 0, 1)]) ++ [(eq9, 0, 1)]) ++ [(eq13, 0, 1)]) eq1 eq5 1 eq9 1 eq13 1 (0 : Int32) (fun I17 T18 F19 L20 =>
    Geo F19 L20 ∧
    (eq1, 8, 0) ∈ L20 ∧
    Q eq1 I17 T18 F19 L20)
def Frm_ofNextInLine (I : HI) (T : HR) (F : HR) (L : HL)  (Q : Nat → HI → HR → HR → HL → Prop) : Prop :=
  ∀ eq1, (∀ p ∈ L, p.1 < eq1) →
    ∀ eq5, (∀ p ∈ (L ++ [(eq1, 0, 7)]), p.1 < eq5) →
    ∀ eq9, (∀ p ∈ ((L ++ [(eq1, 0, 7)]) ++ [(eq5, 0, 7)]), p.1 < eq9) →
    ∀ eq13, (∀ p ∈ (((L ++ [(eq1, 0, 7)]) ++ [(eq5, 0, 7)]) ++ [(eq9, 0, 7)]), p.1 < eq13) →
    Frm_init (up1 (up2 (up2 (up2 (up2 (up2 (up2 (up2 (up1 (up2 (up2 (up2 (up2 (up2 (up2 (up2 (up1 (up2 (up2 (up2 (up2 (up2 (up2 (up2 (up1 I eq1 (fun _ => 0)) eq1 0 148) eq1 1 149) eq1 2 45) eq1 3 150) eq1 4 148) eq1 5 45) eq1 6 45) eq5 (fun _ => 0)) eq5 0 0) eq5 1 0) eq5 2 0) eq5 3 0) eq5 4 0) eq5 5 3) eq5 6 2) eq9 (fun _ => 0)) eq9 0 0) eq9 1 0) eq9 2 1) eq9 3 0) eq9 4 0) eq9 5 4) eq9 6 5) eq13 (fun _ => 0)) T (up1 F eq13 (fun _ => none)) ((((L ++ [(eq1, 0, 7)]) ++ [(eq5, 0, 7)]) ++ [(eq9, 0, 7)]) ++ [(eq13, 8, 0)]) eq13 eq1 7 eq5 7 eq9 7 (0 : Int32) (fun I17 T18 F19 L20 =>
    Geo F19 L20 ∧
    (eq9, 0, 7) ∈ L20 ∧
    (eq5, 0, 7) ∈ L20 ∧
    (eq1, 0, 7) ∈ L20 ∧
    (eq13, 8, 0) ∈ L20 ∧
    Q eq13 I17 T18 F19 L20)
def Rd_readRule_b45 (I : HI) (T : HR) (F : HR) (L : HL) (b : Nat) (x1 : Int32) (x2 : Int32) (Q : HI → HR → HR → HL → Prop) : Prop :=
  Rd_expect I (143 : Int32) (fun I6 =>
    Rd_readOr 8 I6 (0 : Int32) (fun a8 I9 =>
    Rd_expect I9 (59 : Int32) (fun I11 =>
    if (I11 28 8) = 130 then
    (Q I11 T F L)
    else
    (∀ eq13, (∀ p ∈ L, p.1 < eq13) →
    0 + 5 ≤ b ∧
    0 + 5 + (nx ((up1 I11 eq13 (fun _ => 0)) 28 13)) ≤ b ∧
    Jd_copyOf (up1 I11 eq13 (fun _ => 0)) T (up1 F eq13 (fun _ => none)) (L ++ [(eq13, 8, 0)]) 31 500 ((up1 I11 eq13 (fun _ => 0)) 28 13) (fun eq17 I18 T19 F20 L21 =>
    Geo F20 L21 ∧
    F20 28 3 = some 34 ∧
    (eq13, 8, 0) ∈ L21 ∧
    (eq17, 0, nx ((up1 I11 eq13 (fun _ => 0)) 28 13)) ∈ L21 ∧
    0 + 5 + (nx ((up1 I11 eq13 (fun _ => 0)) 28 13)) + (nx (I18 28 13)) ≤ b ∧
    Jd_copyOf I18 T19 F20 L21 32 500 (I18 28 13) (fun eq24 I25 T26 F27 L28 =>
    Geo F27 L28 ∧
    F27 28 3 = some 34 ∧
    (eq17, 0, nx ((up1 I11 eq13 (fun _ => 0)) 28 13)) ∈ L28 ∧
    (eq13, 8, 0) ∈ L28 ∧
    (eq24, 0, nx (I18 28 13)) ∈ L28 ∧
    0 + 5 + (nx ((up1 I11 eq13 (fun _ => 0)) 28 13)) + (nx (I18 28 13)) + (nx (I25 28 13)) ≤ b ∧
    Jd_copyOf I25 T26 F27 L28 33 500 (I25 28 13) (fun eq31 I32 T33 F34 L35 =>
    Geo F34 L35 ∧
    F34 28 3 = some 34 ∧
    (eq24, 0, nx (I18 28 13)) ∈ L35 ∧
    (eq17, 0, nx ((up1 I11 eq13 (fun _ => 0)) 28 13)) ∈ L35 ∧
    (eq13, 8, 0) ∈ L35 ∧
    (eq31, 0, nx (I25 28 13)) ∈ L35 ∧
    0 + 5 + (nx ((up1 I11 eq13 (fun _ => 0)) 28 13)) + (nx (I18 28 13)) + (nx (I25 28 13)) + (nx ((up1 I11 eq13 (fun _ => 0)) 28 13)) ≤ b ∧
    Frm_init I32 T33 F34 L35 eq13 eq17 (nx ((up1 I11 eq13 (fun _ => 0)) 28 13)) eq24 (nx (I18 28 13)) eq31 (nx (I25 28 13)) x2 (fun I38 T39 F40 L41 =>
    Geo F40 L41 ∧
    F40 28 3 = some 34 ∧
    (eq13, 8, 0) ∈ L41 ∧
    vp_in x1 8 ∧
    Q I38 (up2 T39 29 (nx x1) (some eq13)) F40 L41))))))))
def Rd_readRule (I : HI) (T : HR) (F : HR) (L : HL) (b : Nat) (Q : HI → HR → HR → HL → Prop) : Prop :=
  Rd_next I (fun I1 =>
    Rd_readNumber I1 (I1 28 5) (fun a3 I4 =>
    if ((up2 I4 28 13 0) 28 8) = 142 then
    (Rd_next (up2 I4 28 13 0) (fun I43 =>
    Rd_readOr 8 I43 (0 : Int32) (fun a45 I46 =>
    Rd_readRule_b45 I46 T F L b a3 (I46 28 13) Q)))
    else
    (Rd_readRule_b45 (up2 I4 28 13 0) T F L b a3 0 Q)))
