abbrev hx_atN : List Cond := hx_atS RX10 190 "java/util/NoSuchElementException" 13 prog_26_method_4_code ["java/lang/RuntimeException", "java/lang/Exception"]
abbrev hx_atI : List Cond := hx_atS RX10 147 "java/lang/IllegalArgumentException" 7 prog_16_method_2_code ["java/lang/RuntimeException", "java/lang/Exception"]
def hx_isng : Cond → Bool
  | .castable _ _ => true
  | .declares _ => true
  | .methodLinkNest _ _ _ _ => true
  | _ => false
def hx_ng : List Cond := hx_atN.filter (fun w => !goodWord w) ++ (hx_atI.filter (fun w => !goodWord w) ++ [Cond.methodLinkNest "HatHall" 25 yX7_init "HatHall", Cond.methodLinkNest "HatHall" 32 yX2_init "HatHall", Cond.methodLinkNest "HatHall" 39 yX3_init "HatHall", Cond.methodLinkNest "HatHall" 46 yX6_init "HatHall", Cond.methodLinkNest "HatHall" 61 yX8_init "HatHall", Cond.methodLinkNest "HatHall" 68 yX9_init "HatHall", Cond.methodLinkNest "HatHall" 75 yX0_init "HatHall", Cond.methodLinkNest "HatHall" 82 yX4_init "HatHall", Cond.methodLinkNest "HatHall$Mender" 17 yX7_init "HatHall"])
theorem hx_ng_ok : ∀ w ∈ hx_ng, hx_isng w = true := by decide +kernel
theorem hx_gN : ∀ w ∈ hx_atN.filter goodWord, w ∈ tb := by decide +kernel
theorem hx_gI : ∀ w ∈ hx_atI.filter goodWord, w ∈ tb := by decide +kernel
theorem hx_oN : ∀ w ∈ Cond.classLink RX10 186 "java/util/NoSuchElementException" :: Cond.initialized "java/util/NoSuchElementException" :: hx_atN, vx_ot w = true := by decide +kernel
theorem hx_oI : ∀ w ∈ Cond.classLink RX10 143 "java/lang/IllegalArgumentException" :: Cond.initialized "java/lang/IllegalArgumentException" :: hx_atI, vx_ot w = true := by decide +kernel
def hx_strs : List (String × Nat × String) := [("HatHall", 268, "no such thing of the worst row"), ("HatHall", 363, "no such wearer"), ("HatHall", 145, "the tape has not so many bytes"), ("HatHall$Reader", 136, "wearer pass guess me n q sees hears seen heard not and or "), ("HatHall", 188, "nothing such is known of a wearer"), ("HatHall", 205, "no such guess in a table"), ("HatHall", 365, "no such row"), ("HatHall", 214, "nothing such is known of a wearer in a row"), ("HatHall", 242, "nothing such is known of a row"), ("HatHall", 244, "no such sum"), ("HatHall", 300, "steps must be 0 to 5000"), ("HatHall", 367, "not all guess in round 0 with tables"), ("HatHall", 314, "there are too many rows"), ("HatHall", 323, "no constant of that wearer"), ("HatHall", 334, "no such row is given up"), ("HatHall", 346, "most must be 0 to 20"), ("HatHall", 361, "nothing such is counted")]
def wbytes : List Int32 := [119, 101, 97, 114, 101, 114, 32, 112, 97, 115, 115, 32, 103, 117, 101, 115, 115, 32, 109, 101, 32, 110, 32, 113, 32, 115, 101, 101, 115, 32, 104, 101, 97, 114, 115, 32, 115, 101, 101, 110, 32, 104, 101, 97, 114, 100, 32, 110, 111, 116, 32, 97, 110, 100, 32, 111, 114, 32]
/-- the letter at place i of the words' text -/
def wch (i : Nat) : Int32 := wbytes.getD i 0
theorem hx_ng_onT {w : Cond} (h : hx_isng w = true) : w.onTables = true := by cases w <;> first | rfl | (exact absurd h (by simp [hx_isng]))
theorem hx_ng_warm {w : Cond} {s U : State} (h : hx_isng w = true) (hW : s.WarmedH U.vm) (hZ : va_Nw w s) : va_Nw w U := by
  cases w with
  | castable a b => exact va_Nw.warmC hW hZ
  | declares a => exact va_Nw.warmD hW hZ
  | methodLinkNest a b c d => exact va_Nw.warmM hW hZ
  | _ => exact absurd h (by simp [hx_isng])
def hx_word (A : Nat → Prop) (s : State) (H : Heap) : Prop := ∃ wa wv : Nat, vk_R "HatHall$Reader" 136 "wearer pass guess me n q sees hears seen heard not and or " wa s ∧ va_O "java/lang/String" wa A s H ∧ va_OF "java/lang/String" "coder" "B" (.int 0) wa A s H ∧ va_OF "java/lang/String" "value" "[B" (.ref wv) wa A s H ∧ va_T .byte wv 58 (fun j => .int (wch j)) A s H ∧ va_Z "java/lang/String" "COMPACT_STRINGS" "Z" (.int 1) A s H ∧ va_Zq "jdk/internal/util/Preconditions" "SIOOBE_FORMATTER" "Ljava/util/function/BiFunction;" A s H
/-- what stands beside the class's world: words that the good ones leave out, the texts, the statics of a throw -/
def EvC : HE := fun A s => (∀ w ∈ hx_ng, va_Nw w s) ∧ va_AO "HatHall$Formula" s ∧ va_AO "HatHall$Net" s ∧ vx_Zq Bundle.tN "UNASSIGNED_STACK" Bundle.steD A s s.heap ∧ vx_Zq Bundle.tN "SUPPRESSED_SENTINEL" Bundle.listD A s s.heap ∧ (∀ q ∈ hx_strs, ∃ sa : Nat, vk_R q.1 q.2.1 q.2.2 sa s) ∧ hx_word A s s.heap
theorem EvC_cl : hCl EvC := by
  refine ⟨fun A A' s U locs h hS hW hAA => ?_, fun A U g mk a h => ?_⟩
  · obtain ⟨h1, h2, h3, h4, h5, h6, wa, wv, g1, g2, g3, g4, g5, g6, g7⟩ := h
    refine ⟨fun w hw => hx_ng_warm (hx_ng_ok w hw) hW (h1 w hw), va_AO.moved hW.alike h2, va_AO.moved hW.alike h3, vx_Zq.narrow (vx_Zq.moved hW.alike (h4.kept hS.2.1)) hAA, vx_Zq.narrow (vx_Zq.moved hW.alike (h5.kept hS.2.1)) hAA,
      fun q hq => (h6 q hq).elim fun sa hsa => ⟨sa, vk_R.warm hW hsa⟩, wa, wv, vk_R.warm hW g1, (va_O.moved hW.alike (g2.kept hS.2.1)).narrow hAA, (va_OF.moved hW.alike (g3.kept hS.2.1)).narrow hAA, (va_OF.moved hW.alike (g4.kept hS.2.1)).narrow hAA, (va_T.moved hW.alike (g5.kept hS.2.1)).narrow hAA, (va_Z.moved hW.alike (g6.kept hS.2.1)).narrow hAA, va_Zq.narrow (va_Zq.moved hW.alike (g7.kept hS.2.1)) hAA⟩
  · obtain ⟨h1, h2, h3, h4, h5, h6, wa, wv, g1, g2, g3, g4, g5, g6, g7⟩ := h
    have hal : U.vm.Alike (U.calling g mk a).vm := Vm.Alike.refl U.vm
    exact ⟨fun w hw => va_Nw.same (u := U) (hx_ng_onT (hx_ng_ok w hw)) rfl (h1 w hw), va_AO.moved hal h2, va_AO.moved hal h3, vx_Zq.moved hal h4, vx_Zq.moved hal h5,
      fun q hq => (h6 q hq).elim fun sa hsa => ⟨sa, vk_R.same rfl hsa⟩, wa, wv, vk_R.same rfl g1, va_O.moved hal g2, va_OF.moved hal g3, va_OF.moved hal g4, va_T.moved hal g5, va_Z.moved hal g6, va_Zq.moved hal g7⟩
theorem hx_hat {L : List Cond} {args : Array Value} {s : State} (hg : ∀ w ∈ L.filter goodWord, w ∈ tb) (hn : ∀ w ∈ L.filter (fun w => !goodWord w), w ∈ hx_ng) (hts : ∀ w ∈ tb, w.before args s = true) (h1 : ∀ w ∈ hx_ng, va_Nw w s) : ∀ w ∈ L, w.before args s = true := by
  intro w hw
  by_cases g : goodWord w = true
  · exact hts w (hg w (List.mem_filter.mpr ⟨hw, g⟩))
  · have h2 := hn w (List.mem_filter.mpr ⟨hw, by simp [g]⟩)
    exact va_Nw.use (hx_ng_onT (hx_ng_ok w h2)) (h1 w h2)
theorem hx_nN : ∀ w ∈ hx_atN.filter (fun w => !goodWord w), w ∈ hx_ng := fun w h => List.mem_append.mpr (Or.inl h)
theorem hx_nI : ∀ w ∈ hx_atI.filter (fun w => !goodWord w), w ∈ hx_ng := fun w h => List.mem_append.mpr (Or.inr (List.mem_append.mpr (Or.inl h)))
theorem hx_none {c : Code} (h : c.exceptionTable.isEmpty = true) {pc : Nat} : ∀ x ∈ c.exceptionTable.toList, covers x pc = false := by
  intro x hx
  rw [Array.isEmpty_iff] at h
  rw [h] at hx
  cases hx
def pX (cls : String) (D : va_G) (cA : Nat → ClassId) (z : Nat) (A : Nat → Prop) : String → HS → State → Prop := fun E u t => E = cls ∧ hB D cA z A u t

section HXM
variable {p : Program} {l : Launch} {e : Env} {R : Room} {s : State} {m : MethodId} {args : Array Value} {below : List Frame} {meth : Method} {c : Code} {H : Heap} {locs : List Loc} {cells slots mc ms : Nat} {Q : State → Prop}
variable {cc : ByteArray} {pc nL : Nat} {ls : Array Slot} {rest st0 : List Value} {D : va_G} {cA : Nat → ClassId} {z : Nat} {S : HS} {A : Nat → Prop} {own : String} {Ev : HE} {Qc : Array Value → State → Outcome → State → Prop}
set_option maxHeartbeats 2000000 in
theorem hm_thrN {is : Nat} {text : String} {px : HS → Prop} (hlt : l.stackTraces = false) (X : hX p m c s args RX10 cc nL) (hxt : c.exceptionTable.isEmpty = true) (hlk : meth.locks = false) (w : hW D cA z EvC S A s H locs) (hq : (RX10, is, text) ∈ hx_strs) (hp : px S) (hsize : ls.size = nL)
    (d0 : decode cc pc = .ok (.new 186, 3)) (d3 : decode cc (pc + 3) = .ok (.dup, 1)) (d4 : decode cc (pc + 4) = .ok (.ldc is, 2)) (d6 : decode cc (pc + 6) = .ok (.invokespecial 190, 3)) (d9 : decode cc (pc + 9) = .ok (.athrow, 1))
    (hR : 6 ≤ R.frames ∧ (rest.map fun v => v.category).sum + 90 ≤ R.locals) (hRc : cells + 1 ≤ R.cells) (hRs : slots + 6 ≤ R.slots) (hc : cells + 1 ≤ mc) (hs : slots + 6 ≤ ms) :
    W p l e R s m args below meth c H locs cells slots (vx_MQ below Qc (vx_X px (pX "java/util/NoSuchElementException" D cA z A) A) args s mc ms A) (F0 m pc ls rest) := by
  obtain ⟨h1, -, -, h4, h5, h6, -⟩ := w.2.2.2.2.2
  obtain ⟨sa, hsa⟩ := h6 _ hq
  refine hx_throwS (own := RX10) (cls := "java/util/NoSuchElementException") (names := ["java/lang/RuntimeException", "java/lang/Exception"]) (ik := 186) (ic := 190) (ix := 13) (rx := prog_26_method_4_code) (sa := sa) (text := text) (A := A) X.1 X.2.1 hlt (by decide +kernel) (by decide +kernel) (by decide +kernel) (by decide +kernel) X.2.2.2.1 (by decide +kernel) (by decide +kernel) (X.2.2.2.2 _ kw733) (X.2.2.2.2 _ kw116) hsa (hx_hat hx_gN hx_nN X.2.2.2.2 h1) hx_oN h4 h5 w.2.2.2.1 (hsize.trans X.2.2.1.symm) d0 d3 d4 d6 d9 (hx_none hxt) (by have := hR.1; simp only [List.length_cons, List.length_nil]; omega) (by have := hR.2; simp only [List.length_cons, List.length_nil]; omega) hRc hRs hlk (fun t hal hsz hkp => ?_) w.2.2.2.1.2.2 hc hs
  refine ⟨S, hp, ⟨rfl, w.2.1.kept (fun k q hk => hkp q.1 ((w.2.1 k q hk).lt)), va_K.moved hal w.1, w.2.2.1⟩, Nat.le_trans w.2.2.2.1.1 hsz, fun q h1 h2 => ?_⟩
  rw [hkp q (Nat.lt_of_lt_of_le h1 w.2.2.2.1.1)]
  exact w.2.2.2.1.2.1 q h1 h2
set_option maxHeartbeats 2000000 in
theorem hm_thrI {is : Nat} {text : String} {px : HS → Prop} (hlt : l.stackTraces = false) (X : hX p m c s args RX10 cc nL) (hxt : c.exceptionTable.isEmpty = true) (hlk : meth.locks = false) (w : hW D cA z EvC S A s H locs) (hq : (RX10, is, text) ∈ hx_strs) (hp : px S) (hsize : ls.size = nL)
    (d0 : decode cc pc = .ok (.new 143, 3)) (d3 : decode cc (pc + 3) = .ok (.dup, 1)) (d4 : decode cc (pc + 4) = .ok (.ldc is, 2)) (d6 : decode cc (pc + 6) = .ok (.invokespecial 147, 3)) (d9 : decode cc (pc + 9) = .ok (.athrow, 1))
    (hR : 6 ≤ R.frames ∧ (rest.map fun v => v.category).sum + 90 ≤ R.locals) (hRc : cells + 1 ≤ R.cells) (hRs : slots + 6 ≤ R.slots) (hc : cells + 1 ≤ mc) (hs : slots + 6 ≤ ms) :
    W p l e R s m args below meth c H locs cells slots (vx_MQ below Qc (vx_X px (pX "java/lang/IllegalArgumentException" D cA z A) A) args s mc ms A) (F0 m pc ls rest) := by
  obtain ⟨h1, -, -, h4, h5, h6, -⟩ := w.2.2.2.2.2
  obtain ⟨sa, hsa⟩ := h6 _ hq
  refine hx_throwS (own := RX10) (cls := "java/lang/IllegalArgumentException") (names := ["java/lang/RuntimeException", "java/lang/Exception"]) (ik := 143) (ic := 147) (ix := 7) (rx := prog_16_method_2_code) (sa := sa) (text := text) (A := A) X.1 X.2.1 hlt (by decide +kernel) (by decide +kernel) (by decide +kernel) (by decide +kernel) X.2.2.2.1 (by decide +kernel) (by decide +kernel) (X.2.2.2.2 _ kw866) (X.2.2.2.2 _ kw117) hsa (hx_hat hx_gI hx_nI X.2.2.2.2 h1) hx_oI h4 h5 w.2.2.2.1 (hsize.trans X.2.2.1.symm) d0 d3 d4 d6 d9 (hx_none hxt) (by have := hR.1; simp only [List.length_cons, List.length_nil]; omega) (by have := hR.2; simp only [List.length_cons, List.length_nil]; omega) hRc hRs hlk (fun t hal hsz hkp => ?_) w.2.2.2.1.2.2 hc hs
  refine ⟨S, hp, ⟨rfl, w.2.1.kept (fun k q hk => hkp q.1 ((w.2.1 k q hk).lt)), va_K.moved hal w.1, w.2.2.1⟩, Nat.le_trans w.2.2.2.1.1 hsz, fun q h1 h2 => ?_⟩
  rw [hkp q (Nat.lt_of_lt_of_le h1 w.2.2.2.1.1)]
  exact w.2.2.2.1.2.1 q h1 h2
set_option maxHeartbeats 2000000 in
theorem hm_thrNW {is : Nat} {text : String} {px : HS → Prop} (hlt : l.stackTraces = false) (X : hX p m c s args RX10 cc nL) (hxt : c.exceptionTable.isEmpty = true) (hlk : meth.locks = false) (w : hW D cA z EvC S A s H locs) (hq : (RX10, is, text) ∈ hx_strs) (hp : px S) (hsize : ls.size = nL)
    (d0 : decode cc pc = .ok (.new 186, 3)) (d3 : decode cc (pc + 3) = .ok (.dup, 1)) (d4 : decode cc (pc + 4) = .ok (.ldc_w is, 3)) (d6 : decode cc (pc + 7) = .ok (.invokespecial 190, 3)) (d9 : decode cc (pc + 10) = .ok (.athrow, 1))
    (hR : 6 ≤ R.frames ∧ (rest.map fun v => v.category).sum + 90 ≤ R.locals) (hRc : cells + 1 ≤ R.cells) (hRs : slots + 6 ≤ R.slots) (hc : cells + 1 ≤ mc) (hs : slots + 6 ≤ ms) :
    W p l e R s m args below meth c H locs cells slots (vx_MQ below Qc (vx_X px (pX "java/util/NoSuchElementException" D cA z A) A) args s mc ms A) (F0 m pc ls rest) := by
  obtain ⟨h1, -, -, h4, h5, h6, -⟩ := w.2.2.2.2.2
  obtain ⟨sa, hsa⟩ := h6 _ hq
  refine hx_throwSW (own := RX10) (cls := "java/util/NoSuchElementException") (names := ["java/lang/RuntimeException", "java/lang/Exception"]) (ik := 186) (ic := 190) (ix := 13) (rx := prog_26_method_4_code) (sa := sa) (text := text) (A := A) X.1 X.2.1 hlt (by decide +kernel) (by decide +kernel) (by decide +kernel) (by decide +kernel) X.2.2.2.1 (by decide +kernel) (by decide +kernel) (X.2.2.2.2 _ kw733) (X.2.2.2.2 _ kw116) hsa (hx_hat hx_gN hx_nN X.2.2.2.2 h1) hx_oN h4 h5 w.2.2.2.1 (hsize.trans X.2.2.1.symm) d0 d3 d4 d6 d9 (hx_none hxt) (by have := hR.1; simp only [List.length_cons, List.length_nil]; omega) (by have := hR.2; simp only [List.length_cons, List.length_nil]; omega) hRc hRs hlk (fun t hal hsz hkp => ?_) w.2.2.2.1.2.2 hc hs
  refine ⟨S, hp, ⟨rfl, w.2.1.kept (fun k q hk => hkp q.1 ((w.2.1 k q hk).lt)), va_K.moved hal w.1, w.2.2.1⟩, Nat.le_trans w.2.2.2.1.1 hsz, fun q h1 h2 => ?_⟩
  rw [hkp q (Nat.lt_of_lt_of_le h1 w.2.2.2.1.1)]
  exact w.2.2.2.1.2.1 q h1 h2
set_option maxHeartbeats 2000000 in
theorem hm_thrIW {is : Nat} {text : String} {px : HS → Prop} (hlt : l.stackTraces = false) (X : hX p m c s args RX10 cc nL) (hxt : c.exceptionTable.isEmpty = true) (hlk : meth.locks = false) (w : hW D cA z EvC S A s H locs) (hq : (RX10, is, text) ∈ hx_strs) (hp : px S) (hsize : ls.size = nL)
    (d0 : decode cc pc = .ok (.new 143, 3)) (d3 : decode cc (pc + 3) = .ok (.dup, 1)) (d4 : decode cc (pc + 4) = .ok (.ldc_w is, 3)) (d6 : decode cc (pc + 7) = .ok (.invokespecial 147, 3)) (d9 : decode cc (pc + 10) = .ok (.athrow, 1))
    (hR : 6 ≤ R.frames ∧ (rest.map fun v => v.category).sum + 90 ≤ R.locals) (hRc : cells + 1 ≤ R.cells) (hRs : slots + 6 ≤ R.slots) (hc : cells + 1 ≤ mc) (hs : slots + 6 ≤ ms) :
    W p l e R s m args below meth c H locs cells slots (vx_MQ below Qc (vx_X px (pX "java/lang/IllegalArgumentException" D cA z A) A) args s mc ms A) (F0 m pc ls rest) := by
  obtain ⟨h1, -, -, h4, h5, h6, -⟩ := w.2.2.2.2.2
  obtain ⟨sa, hsa⟩ := h6 _ hq
  refine hx_throwSW (own := RX10) (cls := "java/lang/IllegalArgumentException") (names := ["java/lang/RuntimeException", "java/lang/Exception"]) (ik := 143) (ic := 147) (ix := 7) (rx := prog_16_method_2_code) (sa := sa) (text := text) (A := A) X.1 X.2.1 hlt (by decide +kernel) (by decide +kernel) (by decide +kernel) (by decide +kernel) X.2.2.2.1 (by decide +kernel) (by decide +kernel) (X.2.2.2.2 _ kw866) (X.2.2.2.2 _ kw117) hsa (hx_hat hx_gI hx_nI X.2.2.2.2 h1) hx_oI h4 h5 w.2.2.2.1 (hsize.trans X.2.2.1.symm) d0 d3 d4 d6 d9 (hx_none hxt) (by have := hR.1; simp only [List.length_cons, List.length_nil]; omega) (by have := hR.2; simp only [List.length_cons, List.length_nil]; omega) hRc hRs hlk (fun t hal hsz hkp => ?_) w.2.2.2.1.2.2 hc hs
  refine ⟨S, hp, ⟨rfl, w.2.1.kept (fun k q hk => hkp q.1 ((w.2.1 k q hk).lt)), va_K.moved hal w.1, w.2.2.1⟩, Nat.le_trans w.2.2.2.1.1 hsz, fun q h1 h2 => ?_⟩
  rw [hkp q (Nat.lt_of_lt_of_le h1 w.2.2.2.1.1)]
  exact w.2.2.2.1.2.1 q h1 h2
variable {y : MethodName} {ccY : ByteArray} {maxL idx n b ci k9 : Nat} {ret : Option FieldType} {rm : Room} {As : List Value}
theorem hm_xrunV {XC : String → State → State → Prop} {free : Addr → Prop} (hcl : hCl Ev) (X : hX p m c s args own cc nL) (w : hW D cA z Ev S A s H locs) (hM : vx_Met l y (hws0 y ccY maxL ret) rm (hPc D cA z Ev S H.size (.ref (z + b) :: As)) Qc XC mc ms free)
    (hy : hYV y ccY maxL ret n) (hl : Cond.methodLink own idx y ∈ tb) {TT : u_T} {N : Nat} (hc : hclasses[ci]? = some (y.cls, TT, N)) (hs : (b, ci + 7, k9) ∈ S.2.2.2.2) (hn : As.length = n) (hsize : ls.size = nL) (hst : st0 = As.reverse ++ .ref (z + b) :: rest) (hrc : rm.cells = mc) (hrs : rm.slots = ms)
    (hr8 : (rest.map fun v => v.category).sum ≤ 8) (hR : rm.frames + 1 ≤ R.frames ∧ 8 + (maxL + 11) + rm.locals ≤ R.locals) (hf : cells + mc ≤ R.cells ∧ slots + ms ≤ R.slots) (hdg : decode cc pc = .ok (.invokevirtual idx, 3)) :
    vx_Run p l e R s m args below meth c H locs cells slots mc ms (F0 m pc ls st0) rest (Qc (Value.ref (z + b) :: As).toArray) XC free := by
  have hp := hW_pre hcl w (.ref (z + b) :: As)
  exact vx_runV (C := y.cls) X hM (cwV n X.2.2.2.2 (hG_V hy hl) rfl hrc hrs ⟨rfl, hy.2.2.2.2.1, hy.2.2.2.2.2.1, hy.2.2.2.2.2.2⟩ hR) ⟨hp.1, hW_recv w hc hs, hp.2⟩ rfl hn hsize hst (lv_room hr8) hdg hf
theorem hm_xcalli {post : Int32 → HS → Prop} {px : HS → Prop} {cls : String} {a : Array Value} (w : hW D cA z Ev S A s H locs) (hr : vx_Run p l e R s m args below meth c H locs cells slots mc ms (F0 m pc ls st0) rest (va_Qi post (hB D cA z (hA z S.2.2.2.2 H.size)) (hA z S.2.2.2.2 H.size) a) (vx_X px (pX cls D cA z (hA z S.2.2.2.2 H.size)) (hA z S.2.2.2.2 H.size)) (hA z S.2.2.2.2 H.size))
    (kx : ∀ (ce : Cell) (q9 : Addr) (u : HS) (H : Heap) (locs : List Loc), px u → hW D cA z Ev u A s H locs → H[q9]? = some ce → ce.vm = .none → s.vm.findClass cls = some ce.cls → vx_W p l e R s m args below meth c H locs (cells + mc) (slots + ms) Q (F0 m pc ls rest) q9)
    (kk : ∀ (r : Int32) (u : HS) (H : Heap) (locs : List Loc), post r u → hW D cA z Ev u A s H locs → W p l e R s m args below meth c H locs (cells + mc) (slots + ms) Q (F0 m (pc + 3) ls (.int r :: rest))) : W p l e R s m args below meth c H locs cells slots Q (F0 m pc ls st0) :=
  vx_calli hr w.2.2.2.1 (fun q _ h => hA_sub w.2.2.1 w.2.2.2.1 w.2.2.2.2.1 q h) (hA_sub w.2.2.1 w.2.2.2.1 w.2.2.2.2.1) (fun q _ h => hA_sub w.2.2.1 w.2.2.2.1 w.2.2.2.2.1 q h)
    (fun E ce q9 u t H1 locs1 ht hvm hp hb _ _ hS hq hv hcl => kx ce q9 u H1 locs1 hp (hW_back w ht hvm hb.2 hS) hq hv (by rw [← hb.1]; exact hcl))
    (fun r u t H1 locs1 ht hvm hp hb _ _ hS => kk r u H1 locs1 hp (hW_back w ht hvm hb hS))
theorem hm_xcalll {post : Int64 → HS → Prop} {px : HS → Prop} {cls : String} {a : Array Value} (w : hW D cA z Ev S A s H locs) (hr : vx_Run p l e R s m args below meth c H locs cells slots mc ms (F0 m pc ls st0) rest (va_Ql post (hB D cA z (hA z S.2.2.2.2 H.size)) (hA z S.2.2.2.2 H.size) a) (vx_X px (pX cls D cA z (hA z S.2.2.2.2 H.size)) (hA z S.2.2.2.2 H.size)) (hA z S.2.2.2.2 H.size))
    (kx : ∀ (ce : Cell) (q9 : Addr) (u : HS) (H : Heap) (locs : List Loc), px u → hW D cA z Ev u A s H locs → H[q9]? = some ce → ce.vm = .none → s.vm.findClass cls = some ce.cls → vx_W p l e R s m args below meth c H locs (cells + mc) (slots + ms) Q (F0 m pc ls rest) q9)
    (kk : ∀ (r : Int64) (u : HS) (H : Heap) (locs : List Loc), post r u → hW D cA z Ev u A s H locs → W p l e R s m args below meth c H locs (cells + mc) (slots + ms) Q (F0 m (pc + 3) ls (.long r :: rest))) : W p l e R s m args below meth c H locs cells slots Q (F0 m pc ls st0) :=
  vx_calll hr w.2.2.2.1 (fun q _ h => hA_sub w.2.2.1 w.2.2.2.1 w.2.2.2.2.1 q h) (hA_sub w.2.2.1 w.2.2.2.1 w.2.2.2.2.1) (fun q _ h => hA_sub w.2.2.1 w.2.2.2.1 w.2.2.2.2.1 q h)
    (fun E ce q9 u t H1 locs1 ht hvm hp hb _ _ hS hq hv hcl => kx ce q9 u H1 locs1 hp (hW_back w ht hvm hb.2 hS) hq hv (by rw [← hb.1]; exact hcl))
    (fun r u t H1 locs1 ht hvm hp hb _ _ hS => kk r u H1 locs1 hp (hW_back w ht hvm hb hS))
theorem hm_xcallv {post : HS → Prop} {px : HS → Prop} {cls : String} {a : Array Value} (w : hW D cA z Ev S A s H locs) (hr : vx_Run p l e R s m args below meth c H locs cells slots mc ms (F0 m pc ls st0) rest (va_Qv post (hB D cA z (hA z S.2.2.2.2 H.size)) (hA z S.2.2.2.2 H.size) a) (vx_X px (pX cls D cA z (hA z S.2.2.2.2 H.size)) (hA z S.2.2.2.2 H.size)) (hA z S.2.2.2.2 H.size))
    (kx : ∀ (ce : Cell) (q9 : Addr) (u : HS) (H : Heap) (locs : List Loc), px u → hW D cA z Ev u A s H locs → H[q9]? = some ce → ce.vm = .none → s.vm.findClass cls = some ce.cls → vx_W p l e R s m args below meth c H locs (cells + mc) (slots + ms) Q (F0 m pc ls rest) q9)
    (kk : ∀ (u : HS) (H : Heap) (locs : List Loc), post u → hW D cA z Ev u A s H locs → W p l e R s m args below meth c H locs (cells + mc) (slots + ms) Q (F0 m (pc + 3) ls (rest))) : W p l e R s m args below meth c H locs cells slots Q (F0 m pc ls st0) :=
  vx_callv hr w.2.2.2.1 (fun q _ h => hA_sub w.2.2.1 w.2.2.2.1 w.2.2.2.2.1 q h) (hA_sub w.2.2.1 w.2.2.2.1 w.2.2.2.2.1) (fun q _ h => hA_sub w.2.2.1 w.2.2.2.1 w.2.2.2.2.1 q h)
    (fun E ce q9 u t H1 locs1 ht hvm hp hb _ _ hS hq hv hcl => kx ce q9 u H1 locs1 hp (hW_back w ht hvm hb.2 hS) hq hv (by rw [← hb.1]; exact hcl))
    (fun u t H1 locs1 ht hvm hp hb _ _ hS => kk u H1 locs1 hp (hW_back w ht hvm hb hS))
/-- a thrown thing that this method doesn't catch -/
theorem hm_xout {px : HS → Prop} {cls : String} {ce : Cell} {q9 : Addr} (hxt : c.exceptionTable.isEmpty = true) (hlk : meth.locks = false) (w : hW D cA z Ev S A s H locs) (hp : px S) (hcell : H[q9]? = some ce) (hv : ce.vm = .none) (hcl : s.vm.findClass cls = some ce.cls) (hc : cells ≤ mc) (hs : slots ≤ ms) :
    vx_W p l e R s m args below meth c H locs cells slots (vx_MQ below Qc (vx_X px (pX cls D cA z A) A) args s mc ms A) (F0 m pc ls rest) q9 :=
  vx_out (hx_none hxt) hlk hcell hv hcl (fun t ht hal => ⟨S, hp, ⟨rfl, by rw [ht]; exact w.2.1, va_K.moved hal w.1, w.2.2.1⟩, w.2.2.2.1.F ht⟩) w.2.2.2.1.2.2 hc hs
end HXM
theorem hm_xmet {l : Launch} {y : MethodName} {cc : ByteArray} {maxL sz mc ms : Nat} {ret : Option FieldType} {rm : Room} {D : va_G} {cA : Nat → ClassId} {z : Nat} {Ev : HE} (S : HS) (av : List Value) {Qc : Array Value → State → Outcome → State → Prop} {XC : String → State → State → Prop} {A : Nat → Prop} (hAe : A = hA z S.2.2.2.2 sz) (hpl : plainName y.cls = true) (hlen : (lg_sl av).length ≤ maxL)
    (body : ∀ (p : Program) (e : Env) (s : State) (m : MethodId) (below : List Frame) (meth : Method) (c : Code) (ls : Array Slot), hX p m c s av.toArray y.cls cc maxL → meth.sig.returnType = ret → meth.locks = false → meth.name = y.name → c.exceptionTable.isEmpty = true → s.heap.size = sz → hW D cA z Ev S A s s.heap [] → lv_has ls maxL (lv_args 0 av) →
      W p l e rm s m av.toArray below meth c s.heap [] 0 0 (vx_MQ below Qc XC av.toArray s mc ms A) (F0 m 0 ls [])) : vx_Met l y (hws0 y cc maxL ret) rm (hPc D cA z Ev S sz av) Qc XC mc ms A := by
  subst hAe
  refine vx_ofW (cc := cc) (maxL := maxL) (ret := ret) hpl rfl ?_
  intro p e s m args below meth c s₁ B hml _ hv
  obtain ⟨rfl, hsz, hP, hK, hD0, hE⟩ := hv
  subst hsz
  have hts := atoms_spec (ws := hws0 y cc maxL ret) B.pre
  have hl := lv_entry av (n := maxL) hlen
  rw [lg_entry_eq]
  generalize (lg_sl av ++ List.replicate (maxL - (lg_sl av).length) Slot.unset).toArray = ls at hl ⊢
  refine body p e s m below meth c ls ⟨B.exec, B.bytes, hml, findClass_of_methodNamed B.named, fun w hw => hts w (List.mem_cons_of_mem _ hw)⟩ B.returns B.notSynchronized (name_of_methodNamed B.named B.method).1 (B.noHandlers (hts _ List.mem_cons_self)) rfl ⟨hK, hP, ⟨hD0.1, fun k q hq => ?_⟩, va_S.rf, fun q h => Or.inr h, hE⟩ hl
  obtain ⟨pp, hp1, rfl⟩ := hws_of hq
  exact Or.inl ⟨pp, List.mem_of_getElem? hp1, rfl⟩
