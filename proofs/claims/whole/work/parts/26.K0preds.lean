theorem yi_X0_init : hYI yX0_init cX0_init 1 0 := ⟨kw394, kw109, kw395, rfl, by decide +kernel, by decide +kernel, by decide +kernel⟩
theorem yi_X2_init : hYI yX2_init cX2_init 1 0 := ⟨kw260, kw104, kw261, rfl, by decide +kernel, by decide +kernel, by decide +kernel⟩
theorem yi_X3_init : hYI yX3_init cX3_init 1 0 := ⟨kw282, kw105, kw283, rfl, by decide +kernel, by decide +kernel, by decide +kernel⟩
theorem yi_X5_init : hYI yX5_init cX5_init 1 0 := ⟨kw137, kw102, kw138, rfl, by decide +kernel, by decide +kernel, by decide +kernel⟩
theorem yi_X6_init : hYI yX6_init cX6_init 1 0 := ⟨kw295, kw106, kw296, rfl, by decide +kernel, by decide +kernel, by decide +kernel⟩
theorem yi_X7_init : hYI yX7_init cX7_init 1 0 := ⟨kw241, kw103, kw242, rfl, by decide +kernel, by decide +kernel, by decide +kernel⟩
theorem yi_X8_init : hYI yX8_init cX8_init 1 0 := ⟨kw348, kw107, kw349, rfl, by decide +kernel, by decide +kernel, by decide +kernel⟩
theorem yi_X9_init : hYI yX9_init cX9_init 1 0 := ⟨kw369, kw108, kw370, rfl, by decide +kernel, by decide +kernel, by decide +kernel⟩
theorem yi_X4_init : hYI yX4_init cX4_init 1 0 := ⟨kw418, kw110, kw419, rfl, by decide +kernel, by decide +kernel, by decide +kernel⟩
theorem yi_X10_init : hYI yX10_init cX10_init 1 0 := ⟨kw129, kw101, kw130, rfl, by decide +kernel, by decide +kernel, by decide +kernel⟩
theorem yi_X11_init : hYI yX11_init cX11_init 1 0 := ⟨kw1321, kw112, kw1322, rfl, by decide +kernel, by decide +kernel, by decide +kernel⟩
theorem ng_10_25 : Cond.methodLinkNest "HatHall" 25 yX7_init "HatHall" ∈ hx_ng := List.mem_append_right _ (List.mem_append_right _ (List.mem_of_getElem? (i := 0) rfl))
theorem ng_10_32 : Cond.methodLinkNest "HatHall" 32 yX2_init "HatHall" ∈ hx_ng := List.mem_append_right _ (List.mem_append_right _ (List.mem_of_getElem? (i := 1) rfl))
theorem ng_10_39 : Cond.methodLinkNest "HatHall" 39 yX3_init "HatHall" ∈ hx_ng := List.mem_append_right _ (List.mem_append_right _ (List.mem_of_getElem? (i := 2) rfl))
theorem ng_10_46 : Cond.methodLinkNest "HatHall" 46 yX6_init "HatHall" ∈ hx_ng := List.mem_append_right _ (List.mem_append_right _ (List.mem_of_getElem? (i := 3) rfl))
theorem ng_10_61 : Cond.methodLinkNest "HatHall" 61 yX8_init "HatHall" ∈ hx_ng := List.mem_append_right _ (List.mem_append_right _ (List.mem_of_getElem? (i := 4) rfl))
theorem ng_10_68 : Cond.methodLinkNest "HatHall" 68 yX9_init "HatHall" ∈ hx_ng := List.mem_append_right _ (List.mem_append_right _ (List.mem_of_getElem? (i := 5) rfl))
theorem ng_10_75 : Cond.methodLinkNest "HatHall" 75 yX0_init "HatHall" ∈ hx_ng := List.mem_append_right _ (List.mem_append_right _ (List.mem_of_getElem? (i := 6) rfl))
theorem ng_10_82 : Cond.methodLinkNest "HatHall" 82 yX4_init "HatHall" ∈ hx_ng := List.mem_append_right _ (List.mem_append_right _ (List.mem_of_getElem? (i := 7) rfl))
theorem ng_4_17 : Cond.methodLinkNest "HatHall$Mender" 17 yX7_init "HatHall" ∈ hx_ng := List.mem_append_right _ (List.mem_append_right _ (List.mem_of_getElem? (i := 8) rfl))
theorem yk_X10_keep : hYV yX10_keep cX10_keep 2 (some .boolean) 1 := ⟨kw823, kw824, kw101, kw825, by decide +kernel, by decide +kernel, by decide +kernel⟩
section
variable {p : Program} {l : Launch} {e : Env} {R : Room} {s : State} {m : MethodId} {args : Array Value} {below : List Frame} {meth : Method} {c : Code} {H : Heap} {locs : List Loc} {cells slots : Nat} {Q : State → Prop}
theorem hm_szK {g : JFrame} {z N n0 q : Nat} (hm : z + N < H.size) (hs : s.heap.size = z + n0) (he : n0 + cells = N + 1) (hq : q = N + 1) (k : H.size = z + q → W p l e R s m args below meth c H locs cells slots Q g) : W p l e R s m args below meth c H locs cells slots Q g :=
  hm_sz (z := z) (N := N + 1) hm (by omega) (fun h => k (by rw [hq]; exact h))
end
def Cov_init (I : HI) (T : HR) (F : HR) (L : HL) (r0 : Nat) (Q : HI → HR → HR → HL → Prop) : Prop :=
  Q (up1 (up1 (up2 (up1 (up2 I r0 0 0) (r0 + 1) (fun _ => 0)) r0 2 0) (r0 + 2) (fun _ => 0)) (r0 + 3) (fun _ => 0)) T (up2 (up2 (up2 F r0 1 (some (r0 + 1))) r0 3 (some (r0 + 2))) r0 4 (some (r0 + 3))) (((L ++ [(r0 + 1, 0, 7)]) ++ [(r0 + 2, 0, 32)]) ++ [(r0 + 3, 0, 32)])
def Jud_init (I : HI) (T : HR) (F : HR) (L : HL) (r0 : Nat) (Q : HI → HR → HR → HL → Prop) : Prop :=
  Q (up1 (up2 (up2 (up2 (up2 (up2 (up2 (up1 I (r0 + 1) (fun _ => 0)) (r0 + 1) 0 8) (r0 + 1) 1 8) (r0 + 1) 2 8) (r0 + 1) 3 8) r0 1 0) r0 2 1) (r0 + 2) (fun _ => 0)) T (up2 (up2 F r0 0 (some (r0 + 1))) r0 3 (some (r0 + 2))) ((L ++ [(r0 + 1, 0, 4)]) ++ [(r0 + 2, 0, 4)])
def Led_init (I : HI) (T : HR) (F : HR) (L : HL) (r0 : Nat) (Q : HI → HR → HR → HL → Prop) : Prop :=
  Q (up2 (up1 I (r0 + 1) (fun _ => 0)) r0 1 0) T (up2 F r0 0 (some (r0 + 1))) (L ++ [(r0 + 1, 0, 6561)])
def Net_init (I : HI) (T : HR) (F : HR) (L : HL) (r0 : Nat) (Q : HI → HR → HR → HL → Prop) : Prop :=
  NetSh (up2 (up2 (up2 (up2 (up2 (up2 (up2 (up2 F r0 3 (some (r0 + 1))) r0 4 (some (r0 + 2))) r0 5 (some (r0 + 3))) r0 6 (some (r0 + 4))) r0 7 (some (r0 + 5))) r0 8 (some (r0 + 6))) r0 9 (some (r0 + 7))) r0 10 (some (r0 + 8))) ((((((((L ++ [(r0 + 1, 0, 8)]) ++ [(r0 + 2, 0, 8)]) ++ [(r0 + 3, 0, 8)]) ++ [(r0 + 4, 0, 8)]) ++ [(r0 + 5, 0, 8)]) ++ [(r0 + 6, 5, 8)]) ++ [(r0 + 7, 1, 8192)]) ++ [(r0 + 8, 0, 6)]) r0 ∧
    Net_open (up1 (up1 (up1 (up1 (up1 (up1 (up1 I (r0 + 1) (fun _ => 0)) (r0 + 2) (fun _ => 0)) (r0 + 3) (fun _ => 0)) (r0 + 4) (fun _ => 0)) (r0 + 5) (fun _ => 0)) (r0 + 7) (fun _ => 0)) (r0 + 8) (fun _ => 0)) (up1 T (r0 + 6) (fun _ => none)) ((((((((L ++ [(r0 + 1, 0, 8)]) ++ [(r0 + 2, 0, 8)]) ++ [(r0 + 3, 0, 8)]) ++ [(r0 + 4, 0, 8)]) ++ [(r0 + 5, 0, 8)]) ++ [(r0 + 6, 5, 8)]) ++ [(r0 + 7, 1, 8192)]) ++ [(r0 + 8, 0, 6)]) r0 (2 : Int32) (2 : Int32) (fun I17 T18 =>
    Q I17 T18 (up2 (up2 (up2 (up2 (up2 (up2 (up2 (up2 F r0 3 (some (r0 + 1))) r0 4 (some (r0 + 2))) r0 5 (some (r0 + 3))) r0 6 (some (r0 + 4))) r0 7 (some (r0 + 5))) r0 8 (some (r0 + 6))) r0 9 (some (r0 + 7))) r0 10 (some (r0 + 8))) ((((((((L ++ [(r0 + 1, 0, 8)]) ++ [(r0 + 2, 0, 8)]) ++ [(r0 + 3, 0, 8)]) ++ [(r0 + 4, 0, 8)]) ++ [(r0 + 5, 0, 8)]) ++ [(r0 + 6, 5, 8)]) ++ [(r0 + 7, 1, 8192)]) ++ [(r0 + 8, 0, 6)]))
def Rd_init (I : HI) (T : HR) (F : HR) (L : HL) (r0 : Nat) (Q : HI → HR → HR → HL → Prop) : Prop :=
  Q (up2 (up1 (up1 (up1 (up2 (up2 (up2 (up2 (up2 (up2 (up1 (up2 (up2 I r0 0 0) r0 1 (-1)) (r0 + 2) (fun _ => 0)) r0 4 0) r0 5 0) r0 6 0) r0 7 0) r0 8 128) r0 9 0) (r0 + 3) (fun _ => 0)) (r0 + 4) (fun _ => 0)) (r0 + 5) (fun _ => 0)) r0 13 0) (up1 T (r0 + 1) (fun _ => none)) (up2 (up2 (up2 (up2 (up2 F r0 2 (some (r0 + 1))) r0 3 (some (r0 + 2))) r0 10 (some (r0 + 3))) r0 11 (some (r0 + 4))) r0 12 (some (r0 + 5))) (((((L ++ [(r0 + 1, 5, 8)]) ++ [(r0 + 2, 0, 0)]) ++ [(r0 + 3, 0, 500)]) ++ [(r0 + 4, 0, 500)]) ++ [(r0 + 5, 0, 500)])
def Sc_init (I : HI) (T : HR) (F : HR) (L : HL) (r0 : Nat) (Q : HI → HR → HR → HL → Prop) : Prop :=
  Q (up1 (up1 I (r0 + 1) (fun _ => 0)) (r0 + 2) (fun _ => 0)) T (up2 (up2 F r0 0 (some (r0 + 1))) r0 1 (some (r0 + 2))) ((L ++ [(r0 + 1, 0, 8)]) ++ [(r0 + 2, 0, 8)])
def Se_init (I : HI) (T : HR) (F : HR) (L : HL) (r0 : Nat) (Q : HI → HR → HR → HL → Prop) : Prop :=
  Q (up1 (up1 (up1 (up2 I r0 0 (-1)) (r0 + 1) (fun _ => 0)) (r0 + 2) (fun _ => 0)) (r0 + 3) (fun _ => 0)) T (up2 (up2 (up2 F r0 1 (some (r0 + 1))) r0 2 (some (r0 + 2))) r0 3 (some (r0 + 3))) (((L ++ [(r0 + 1, 1, 8192)]) ++ [(r0 + 2, 2, 5000)]) ++ [(r0 + 3, 1, 5000)])
def Su_init (I : HI) (T : HR) (F : HR) (L : HL) (r0 : Nat) (Q : HI → HR → HR → HL → Prop) : Prop :=
  Q (up1 (up1 (up1 (up2 (up1 I (r0 + 1) (fun _ => 0)) r0 1 0) (r0 + 2) (fun _ => 0)) (r0 + 3) (fun _ => 0)) (r0 + 4) (fun _ => 0)) T (up2 (up2 (up2 (up2 F r0 0 (some (r0 + 1))) r0 2 (some (r0 + 2))) r0 3 (some (r0 + 3))) r0 4 (some (r0 + 4))) ((((L ++ [(r0 + 1, 0, 8)]) ++ [(r0 + 2, 0, 8)]) ++ [(r0 + 3, 0, 256)]) ++ [(r0 + 4, 3, 9)])
def Men_init (I : HI) (T : HR) (F : HR) (L : HL) (r0 : Nat) (Q : HI → HR → HR → HL → Prop) : Prop :=
  Sc_init (up1 (up1 I (r0 + 1) (fun _ => 0)) (r0 + 2) (fun _ => 0)) T (up1 (up2 F r0 0 (some (r0 + 1))) (r0 + 2) (fun _ => none)) ((L ++ [(r0 + 1, 0, 1280)]) ++ [(r0 + 2, 14, 0)]) (r0 + 2) (fun I5 T6 F7 L8 =>
    (r0, 11, 0) ∈ L8 ∧
    (r0 + 2, 14, 0) ∈ L8 ∧
    (r0 + 4, 0, 8) ∈ L8 ∧
    Sc_init (up1 I5 (r0 + 5) (fun _ => 0)) T6 (up1 (up2 F7 r0 1 (some (r0 + 2))) (r0 + 5) (fun _ => none)) (L8 ++ [(r0 + 5, 14, 0)]) (r0 + 5) (fun I13 T14 F15 L16 =>
    (r0, 11, 0) ∈ L16 ∧
    (r0 + 5, 14, 0) ∈ L16 ∧
    (r0 + 7, 0, 8) ∈ L16 ∧
    Q I13 T14 (up2 F15 r0 2 (some (r0 + 5))) L16))
def H_init (I : HI) (T : HR) (F : HR) (L : HL)  (Q : HI → HR → HR → HL → Prop) : Prop :=
  Net_init (up1 I 1 (fun _ => 0)) T (up1 F 1 (fun _ => none)) (L ++ [(1, 12, 0)]) 1 (fun I3 T4 F5 L6 =>
    (0, 17, 0) ∈ L6 ∧
    (1, 12, 0) ∈ L6 ∧
    (9, 0, 6) ∈ L6 ∧
    Net_init (up1 I3 10 (fun _ => 0)) T4 (up1 (up2 F5 0 0 (some 1)) 10 (fun _ => none)) (L6 ++ [(10, 12, 0)]) 10 (fun I11 T12 F13 L14 =>
    (0, 17, 0) ∈ L14 ∧
    (10, 12, 0) ∈ L14 ∧
    (18, 0, 6) ∈ L14 ∧
    Sc_init (up1 I11 20 (fun _ => 0)) (up1 T12 19 (fun _ => none)) (up1 (up2 (up2 F13 0 1 (some 10)) 0 2 (some 19)) 20 (fun _ => none)) ((L14 ++ [(19, 6, 4)]) ++ [(20, 14, 0)]) 20 (fun I21 T22 F23 L24 =>
    (0, 17, 0) ∈ L24 ∧
    (20, 14, 0) ∈ L24 ∧
    (22, 0, 8) ∈ L24 ∧
    Jud_init (up1 I21 23 (fun _ => 0)) T22 (up1 (up2 F23 0 3 (some 20)) 23 (fun _ => none)) (L24 ++ [(23, 9, 0)]) 23 (fun I29 T30 F31 L32 =>
    (0, 17, 0) ∈ L32 ∧
    (23, 9, 0) ∈ L32 ∧
    (25, 0, 4) ∈ L32 ∧
    Led_init (up1 I29 26 (fun _ => 0)) T30 (up1 (up2 F31 0 4 (some 23)) 26 (fun _ => none)) (L32 ++ [(26, 10, 0)]) 26 (fun I37 T38 F39 L40 =>
    (0, 17, 0) ∈ L40 ∧
    (26, 10, 0) ∈ L40 ∧
    (27, 0, 6561) ∈ L40 ∧
    Rd_init (up1 I37 28 (fun _ => 0)) T38 (up1 (up2 F39 0 5 (some 26)) 28 (fun _ => none)) (L40 ++ [(28, 13, 0)]) 28 (fun I45 T46 F47 L48 =>
    (0, 17, 0) ∈ L48 ∧
    (28, 13, 0) ∈ L48 ∧
    (33, 0, 500) ∈ L48 ∧
    Se_init (up1 (up2 (up1 I45 34 (fun _ => 0)) 0 8 0) 35 (fun _ => 0)) T46 (up1 (up2 (up2 F47 0 6 (some 28)) 0 7 (some 34)) 35 (fun _ => none)) ((L48 ++ [(34, 0, 500)]) ++ [(35, 15, 0)]) 35 (fun I55 T56 F57 L58 =>
    (0, 17, 0) ∈ L58 ∧
    (35, 15, 0) ∈ L58 ∧
    (38, 1, 5000) ∈ L58 ∧
    Su_init (up1 I55 39 (fun _ => 0)) T56 (up1 (up2 F57 0 9 (some 35)) 39 (fun _ => none)) (L58 ++ [(39, 16, 0)]) 39 (fun I63 T64 F65 L66 =>
    (0, 17, 0) ∈ L66 ∧
    (39, 16, 0) ∈ L66 ∧
    (43, 3, 9) ∈ L66 ∧
    Cov_init (up1 I63 44 (fun _ => 0)) T64 (up1 (up2 F65 0 10 (some 39)) 44 (fun _ => none)) (L66 ++ [(44, 7, 0)]) 44 (fun I71 T72 F73 L74 =>
    (0, 17, 0) ∈ L74 ∧
    (44, 7, 0) ∈ L74 ∧
    (47, 0, 32) ∈ L74 ∧
    Men_init (up1 I71 48 (fun _ => 0)) T72 (up1 (up2 F73 0 11 (some 44)) 48 (fun _ => none)) (L74 ++ [(48, 11, 0)]) 48 (fun I79 T80 F81 L82 =>
    (0, 17, 0) ∈ L82 ∧
    (48, 11, 0) ∈ L82 ∧
    (55, 0, 8) ∈ L82 ∧
    Geo (up2 F81 0 12 (some 48)) L82 ∧
    Frm_ofFirstInLine I79 T80 (up2 F81 0 12 (some 48)) L82 (fun eq85 I86 T87 F88 L89 =>
    Geo F88 L89 ∧
    (0, 17, 0) ∈ L89 ∧
    (eq85, 8, 0) ∈ L89 ∧
    Geo (up2 F88 0 13 (some eq85)) L89 ∧
    Frm_ofNextInLine I86 T87 (up2 F88 0 13 (some eq85)) L89 (fun eq92 I93 T94 F95 L96 =>
    Geo F95 L96 ∧
    (0, 17, 0) ∈ L96 ∧
    (eq92, 8, 0) ∈ L96 ∧
    Geo (up2 F95 0 14 (some eq92)) L96 ∧
    Q I93 T94 (up2 F95 0 14 (some eq92)) L96))))))))))))
def H_keep_b33 (I : HI) (T : HR) (F : HR) (L : HL) (x1 : Int32) (Q : Int32 → HI → HR → HR → HL → Prop) : Prop :=
  vp_in x1 4 ∧
    ∃ ef2, T 19 (nx x1) = some ef2 ∧ NetSh F L ef2 ∧
    Net_copy I T L ef2 1 (fun I4 T5 =>
    Q 1 I4 T5 F L)
def H_keep (I : HI) (T : HR) (F : HR) (L : HL) (x1 : Int32) (Q : Int32 → HI → HR → HR → HL → Prop) : Prop :=
  if x1 < 0 then
    (Q 0 I T F L)
    else
    (if x1 < 4 then
    (vp_in x1 4 ∧
    (T 19 (nx x1) = none →
    ∀ eq7, (∀ p ∈ L, p.1 < eq7) →
    Net_init (up1 I eq7 (fun _ => 0)) T (up1 F eq7 (fun _ => none)) (L ++ [(eq7, 12, 0)]) eq7 (fun I11 T12 F13 L14 =>
    Geo F13 L14 ∧
    (eq7, 12, 0) ∈ L14 ∧
    vp_in x1 4 ∧
    H_keep_b33 I11 (up2 T12 19 (nx x1) (some eq7)) F13 L14 x1 Q)) ∧ (∀ ef1, T 19 (nx x1) = some ef1 →
    H_keep_b33 I T F L x1 Q))
    else
    (Q 0 I T F L))
def M_init (I : HI) (F : HR) (L : HL)  (Q : HI → Prop) : Prop :=
  up2 (up2 (up2 (up2 (up2 (up2 (up2 (up2 (up2 (up2 (up2 (up2 (up2 (up2 (up2 (up2 (up2 (up2 (up2 (up2 (up2 (up2 (up2 (up2 (up2 (up2 (up2 (up2 (up2 (up2 (up2 (up2 (up2 (up2 (up2 (up2 (up2 (up2 (up2 (up2 (up2 (up2 (up2 (up2 (up2 (up2 F 0 6 (some 1)) 0 7 (some 2)) 0 8 (some 3)) 0 9 (some 4)) 0 10 (some 5)) 0 11 (some 6)) 0 12 (some 7)) 0 13 (some 8)) 0 14 (some 9)) 0 15 (some 10)) 0 31 (some 11)) 0 32 (some 12)) 0 33 (some 13)) 0 34 (some 14)) 0 35 (some 15)) 0 36 (some 16)) 0 37 (some 17)) 0 38 (some 18)) 0 39 (some 19)) 0 41 (some 20)) 0 42 (some 21)) 0 43 (some 22)) 0 44 (some 23)) 0 45 (some 24)) 0 46 (some 25)) 0 47 (some 26)) 0 48 (some 27)) 0 51 (some 28)) 0 52 (some 29)) 0 53 (some 30)) 0 55 (some 31)) 0 56 (some 32)) 0 57 (some 33)) 0 58 (some 34)) 0 59 (some 35)) 0 60 (some 36)) 0 61 (some 37)) 0 66 (some 38)) 0 67 (some 39)) 0 68 (some 40)) 0 69 (some 41)) 0 70 (some 42)) 0 71 (some 43)) 0 72 (some 44)) 0 73 (some 45)) 0 74 (some 46) = FM ∧ (((((((((((((((((((((((((((((((((((((((((((((L ++ [(1, 0, 4)]) ++ [(2, 0, 8)]) ++ [(3, 0, 8)]) ++ [(4, 0, 8)]) ++ [(5, 0, 8192)]) ++ [(6, 0, 8000)]) ++ [(7, 0, 8)]) ++ [(8, 0, 8)]) ++ [(9, 0, 8)]) ++ [(10, 0, 500)]) ++ [(11, 0, 16)]) ++ [(12, 0, 16)]) ++ [(13, 0, 16)]) ++ [(14, 0, 1600)]) ++ [(15, 0, 520)]) ++ [(16, 3, 9)]) ++ [(17, 0, 8)]) ++ [(18, 0, 8)]) ++ [(19, 0, 520)]) ++ [(20, 0, 6561)]) ++ [(21, 0, 6561)]) ++ [(22, 0, 52488)]) ++ [(23, 0, 8)]) ++ [(24, 0, 8192)]) ++ [(25, 0, 52488)]) ++ [(26, 0, 8192)]) ++ [(27, 0, 8192)]) ++ [(28, 0, 8)]) ++ [(29, 0, 8)]) ++ [(30, 0, 2048)]) ++ [(31, 0, 33)]) ++ [(32, 0, 32)]) ++ [(33, 0, 32)]) ++ [(34, 0, 33)]) ++ [(35, 0, 6)]) ++ [(36, 0, 192)]) ++ [(37, 0, 1280)]) ++ [(38, 0, 4)]) ++ [(39, 0, 4)]) ++ [(40, 0, 32)]) ++ [(41, 0, 32)]) ++ [(42, 0, 32)]) ++ [(43, 0, 32768)]) ++ [(44, 0, 32000)]) ++ [(45, 0, 32)]) ++ [(46, 0, 32)] = LM ∧
    M_anew (up1 (up1 (up1 (up1 (up1 (up1 (up1 (up1 (up1 (up1 (up1 (up1 (up1 (up1 (up1 (up1 (up1 (up1 (up1 (up2 (up1 (up1 (up1 (up1 (up1 (up1 (up1 (up1 (up1 (up1 (up1 (up1 (up1 (up1 (up1 (up1 (up1 (up2 (up1 (up1 (up1 (up1 (up1 (up1 (up1 (up1 (up1 (up2 (up2 (up2 (up2 (up1 (up2 (up2 (up2 (up2 I 0 1 2) 0 2 2) 0 3 4) 0 5 1) 1 (fun _ => 0)) 1 0 8) 1 1 8) 1 2 8) 1 3 8) 2 (fun _ => 0)) 3 (fun _ => 0)) 4 (fun _ => 0)) 5 (fun _ => 0)) 6 (fun _ => 0)) 7 (fun _ => 0)) 8 (fun _ => 0)) 9 (fun _ => 0)) 10 (fun _ => 0)) 0 18 (-1)) 11 (fun _ => 0)) 12 (fun _ => 0)) 13 (fun _ => 0)) 14 (fun _ => 0)) 15 (fun _ => 0)) 16 (fun _ => 0)) 17 (fun _ => 0)) 18 (fun _ => 0)) 19 (fun _ => 0)) 20 (fun _ => 0)) 21 (fun _ => 0)) 22 (fun _ => 0)) 23 (fun _ => 0)) 24 (fun _ => 0)) 25 (fun _ => 0)) 26 (fun _ => 0)) 27 (fun _ => 0)) 0 49 (-1)) 28 (fun _ => 0)) 29 (fun _ => 0)) 30 (fun _ => 0)) 31 (fun _ => 0)) 32 (fun _ => 0)) 33 (fun _ => 0)) 34 (fun _ => 0)) 35 (fun _ => 0)) 36 (fun _ => 0)) 37 (fun _ => 0)) 38 (fun _ => 0)) 39 (fun _ => 0)) 40 (fun _ => 0)) 41 (fun _ => 0)) 42 (fun _ => 0)) 43 (fun _ => 0)) 44 (fun _ => 0)) 45 (fun _ => 0)) 46 (fun _ => 0)) (2 : Int32) (2 : Int32) (fun I93 =>
    Q I93)
