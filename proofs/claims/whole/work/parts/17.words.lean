theorem dJ0_coder_7d493_0 : decode cJ0_coder_7d493 0 = .ok (.getstatic 38, 3) := by decide +kernel
theorem dJ0_coder_7d493_3 : decode cJ0_coder_7d493 3 = .ok (.ifCond .eq 10, 3) := by decide +kernel
theorem dJ0_coder_7d493_6 : decode cJ0_coder_7d493 6 = .ok (.aload_n 0, 1) := by decide +kernel
theorem dJ0_coder_7d493_7 : decode cJ0_coder_7d493 7 = .ok (.getfield 15, 3) := by decide +kernel
theorem dJ0_coder_7d493_10 : decode cJ0_coder_7d493 10 = .ok (.goto 4, 3) := by decide +kernel
theorem dJ0_coder_7d493_13 : decode cJ0_coder_7d493 13 = .ok (.iconst 1, 1) := by decide +kernel
theorem dJ0_coder_7d493_14 : decode cJ0_coder_7d493 14 = .ok (.ireturn, 1) := by decide +kernel
theorem dJ0_isLatin1_aae02_0 : decode cJ0_isLatin1_aae02 0 = .ok (.getstatic 38, 3) := by decide +kernel
theorem dJ0_isLatin1_aae02_3 : decode cJ0_isLatin1_aae02 3 = .ok (.ifCond .eq 14, 3) := by decide +kernel
theorem dJ0_isLatin1_aae02_6 : decode cJ0_isLatin1_aae02 6 = .ok (.aload_n 0, 1) := by decide +kernel
theorem dJ0_isLatin1_aae02_7 : decode cJ0_isLatin1_aae02 7 = .ok (.getfield 15, 3) := by decide +kernel
theorem dJ0_isLatin1_aae02_10 : decode cJ0_isLatin1_aae02 10 = .ok (.ifCond .ne 7, 3) := by decide +kernel
theorem dJ0_isLatin1_aae02_13 : decode cJ0_isLatin1_aae02 13 = .ok (.iconst 1, 1) := by decide +kernel
theorem dJ0_isLatin1_aae02_14 : decode cJ0_isLatin1_aae02 14 = .ok (.goto 4, 3) := by decide +kernel
theorem dJ0_isLatin1_aae02_17 : decode cJ0_isLatin1_aae02 17 = .ok (.iconst 0, 1) := by decide +kernel
theorem dJ0_isLatin1_aae02_18 : decode cJ0_isLatin1_aae02 18 = .ok (.ireturn, 1) := by decide +kernel
theorem dJ0_length_8abf5_0 : decode cJ0_length_8abf5 0 = .ok (.aload_n 0, 1) := by decide +kernel
theorem dJ0_length_8abf5_1 : decode cJ0_length_8abf5 1 = .ok (.getfield 9, 3) := by decide +kernel
theorem dJ0_length_8abf5_4 : decode cJ0_length_8abf5 4 = .ok (.arraylength, 1) := by decide +kernel
theorem dJ0_length_8abf5_5 : decode cJ0_length_8abf5 5 = .ok (.aload_n 0, 1) := by decide +kernel
theorem dJ0_length_8abf5_6 : decode cJ0_length_8abf5 6 = .ok (.invokevirtual 335, 3) := by decide +kernel
theorem dJ0_length_8abf5_9 : decode cJ0_length_8abf5 9 = .ok (.ishr, 1) := by decide +kernel
theorem dJ0_length_8abf5_10 : decode cJ0_length_8abf5 10 = .ok (.ireturn, 1) := by decide +kernel
theorem dJ3_checkIndex_8e157_0 : decode cJ3_checkIndex_8e157 0 = .ok (.iload_n 0, 1) := by decide +kernel
theorem dJ3_checkIndex_8e157_1 : decode cJ3_checkIndex_8e157 1 = .ok (.ifCond .lt 8, 3) := by decide +kernel
theorem dJ3_checkIndex_8e157_4 : decode cJ3_checkIndex_8e157 4 = .ok (.iload_n 0, 1) := by decide +kernel
theorem dJ3_checkIndex_8e157_5 : decode cJ3_checkIndex_8e157 5 = .ok (.iload_n 1, 1) := by decide +kernel
theorem dJ3_checkIndex_8e157_6 : decode cJ3_checkIndex_8e157 6 = .ok (.if_icmp .lt 10, 3) := by decide +kernel
theorem dJ3_checkIndex_8e157_9 : decode cJ3_checkIndex_8e157 9 = .ok (.aload_n 2, 1) := by decide +kernel
theorem dJ3_checkIndex_8e157_10 : decode cJ3_checkIndex_8e157 10 = .ok (.iload_n 0, 1) := by decide +kernel
theorem dJ3_checkIndex_8e157_11 : decode cJ3_checkIndex_8e157 11 = .ok (.iload_n 1, 1) := by decide +kernel
theorem dJ3_checkIndex_8e157_12 : decode cJ3_checkIndex_8e157 12 = .ok (.invokestatic 95, 3) := by decide +kernel
theorem dJ3_checkIndex_8e157_15 : decode cJ3_checkIndex_8e157 15 = .ok (.athrow, 1) := by decide +kernel
theorem dJ3_checkIndex_8e157_16 : decode cJ3_checkIndex_8e157 16 = .ok (.iload_n 0, 1) := by decide +kernel
theorem dJ3_checkIndex_8e157_17 : decode cJ3_checkIndex_8e157 17 = .ok (.ireturn, 1) := by decide +kernel
theorem dJ0_checkIndex_df160_0 : decode cJ0_checkIndex_df160 0 = .ok (.iload_n 0, 1) := by decide +kernel
theorem dJ0_checkIndex_df160_1 : decode cJ0_checkIndex_df160 1 = .ok (.iload_n 1, 1) := by decide +kernel
theorem dJ0_checkIndex_df160_2 : decode cJ0_checkIndex_df160 2 = .ok (.getstatic 1053, 3) := by decide +kernel
theorem dJ0_checkIndex_df160_5 : decode cJ0_checkIndex_df160 5 = .ok (.invokestatic 1059, 3) := by decide +kernel
theorem dJ0_checkIndex_df160_8 : decode cJ0_checkIndex_df160 8 = .ok (.pop, 1) := by decide +kernel
theorem dJ0_checkIndex_df160_9 : decode cJ0_checkIndex_df160 9 = .ok (.return_, 1) := by decide +kernel
theorem dJ1_charAt_3b067_0 : decode cJ1_charAt_3b067 0 = .ok (.iload_n 1, 1) := by decide +kernel
theorem dJ1_charAt_3b067_1 : decode cJ1_charAt_3b067 1 = .ok (.aload_n 0, 1) := by decide +kernel
theorem dJ1_charAt_3b067_2 : decode cJ1_charAt_3b067 2 = .ok (.arraylength, 1) := by decide +kernel
theorem dJ1_charAt_3b067_3 : decode cJ1_charAt_3b067 3 = .ok (.invokestatic 9, 3) := by decide +kernel
theorem dJ1_charAt_3b067_6 : decode cJ1_charAt_3b067 6 = .ok (.aload_n 0, 1) := by decide +kernel
theorem dJ1_charAt_3b067_7 : decode cJ1_charAt_3b067 7 = .ok (.iload_n 1, 1) := by decide +kernel
theorem dJ1_charAt_3b067_8 : decode cJ1_charAt_3b067 8 = .ok (.baload, 1) := by decide +kernel
theorem dJ1_charAt_3b067_9 : decode cJ1_charAt_3b067 9 = .ok (.sipush 255, 3) := by decide +kernel
theorem dJ1_charAt_3b067_12 : decode cJ1_charAt_3b067 12 = .ok (.iand, 1) := by decide +kernel
theorem dJ1_charAt_3b067_13 : decode cJ1_charAt_3b067 13 = .ok (.i2c, 1) := by decide +kernel
theorem dJ1_charAt_3b067_14 : decode cJ1_charAt_3b067 14 = .ok (.ireturn, 1) := by decide +kernel
theorem dJ0_charAt_5068e_0 : decode cJ0_charAt_5068e 0 = .ok (.aload_n 0, 1) := by decide +kernel
theorem dJ0_charAt_5068e_1 : decode cJ0_charAt_5068e 1 = .ok (.invokevirtual 492, 3) := by decide +kernel
theorem dJ0_charAt_5068e_4 : decode cJ0_charAt_5068e 4 = .ok (.ifCond .eq 12, 3) := by decide +kernel
theorem dJ0_charAt_5068e_7 : decode cJ0_charAt_5068e 7 = .ok (.aload_n 0, 1) := by decide +kernel
theorem dJ0_charAt_5068e_8 : decode cJ0_charAt_5068e 8 = .ok (.getfield 9, 3) := by decide +kernel
theorem dJ0_charAt_5068e_11 : decode cJ0_charAt_5068e 11 = .ok (.iload_n 1, 1) := by decide +kernel
theorem dJ0_charAt_5068e_12 : decode cJ0_charAt_5068e 12 = .ok (.invokestatic 495, 3) := by decide +kernel
theorem dJ0_charAt_5068e_15 : decode cJ0_charAt_5068e 15 = .ok (.ireturn, 1) := by decide +kernel
theorem dJ0_charAt_5068e_16 : decode cJ0_charAt_5068e 16 = .ok (.aload_n 0, 1) := by decide +kernel
theorem dJ0_charAt_5068e_17 : decode cJ0_charAt_5068e 17 = .ok (.getfield 9, 3) := by decide +kernel
theorem dJ0_charAt_5068e_20 : decode cJ0_charAt_5068e 20 = .ok (.iload_n 1, 1) := by decide +kernel
theorem dJ0_charAt_5068e_21 : decode cJ0_charAt_5068e 21 = .ok (.invokestatic 498, 3) := by decide +kernel
theorem dJ0_charAt_5068e_24 : decode cJ0_charAt_5068e 24 = .ok (.ireturn, 1) := by decide +kernel
theorem yk_J0_coder_7d493 : hYV yJ0_coder_7d493 cJ0_coder_7d493 1 (some .byte) 0 := ⟨kw907, kw908, kw118, kw909, by decide +kernel, by decide +kernel, by decide +kernel⟩
theorem yk_J0_isLatin1_aae02 : hYV yJ0_isLatin1_aae02 cJ0_isLatin1_aae02 1 (some .boolean) 0 := ⟨kw917, kw918, kw118, kw919, by decide +kernel, by decide +kernel, by decide +kernel⟩
theorem yk_J0_length_8abf5 : hYV yJ0_length_8abf5 cJ0_length_8abf5 1 (some .int) 0 := ⟨kw903, kw904, kw118, kw905, by decide +kernel, by decide +kernel, by decide +kernel⟩
theorem yk_J3_checkIndex_8e157 : hYS yJ3_checkIndex_8e157 cJ3_checkIndex_8e157 3 (some .int) 3 := ⟨kw929, kw120, kw930, by decide +kernel, by decide +kernel, by decide +kernel⟩
theorem yk_J0_checkIndex_df160 : hYS yJ0_checkIndex_df160 cJ0_checkIndex_df160 2 none 2 := ⟨kw924, kw118, kw925, by decide +kernel, by decide +kernel, by decide +kernel⟩
theorem yk_J1_charAt_3b067 : hYS yJ1_charAt_3b067 cJ1_charAt_3b067 2 (some .char) 2 := ⟨kw921, kw119, kw922, by decide +kernel, by decide +kernel, by decide +kernel⟩
theorem yk_J0_charAt_5068e : hYV yJ0_charAt_5068e cJ0_charAt_5068e 2 (some .char) 1 := ⟨kw913, kw914, kw118, kw915, by decide +kernel, by decide +kernel, by decide +kernel⟩
/-! the words' text: String.length and charAt on it -/
def SW (A : Nat → Prop) (wa wv : Nat) (U : State) : Prop := va_O "java/lang/String" wa A U U.heap ∧ va_OF "java/lang/String" "coder" "B" (.int 0) wa A U U.heap ∧ va_OF "java/lang/String" "value" "[B" (.ref wv) wa A U U.heap ∧ va_T .byte wv 58 (fun j => .int (wch j)) A U U.heap ∧ va_Z "java/lang/String" "COMPACT_STRINGS" "Z" (.int 1) A U U.heap ∧ va_Zq "jdk/internal/util/Preconditions" "SIOOBE_FORMATTER" "Ljava/util/function/BiFunction;" A U U.heap
theorem SW.moved {A : Nat → Prop} {wa wv : Nat} {s U : State} (hh : U.heap = s.heap) (hal : s.vm.Alike U.vm) (h : SW A wa wv s) : SW A wa wv U := by
  obtain ⟨g2, g3, g4, g5, g6, g7⟩ := h
  unfold SW
  rw [hh]
  exact ⟨va_O.moved hal g2, va_OF.moved hal g3, va_OF.moved hal g4, va_T.moved hal g5, va_Z.moved hal g6, va_Zq.moved hal g7⟩
theorem SW.pre {A : Nat → Prop} {wa wv : Nat} {s : State} {H : Heap} (hH : H = s.heap) (h : SW A wa wv s) (av : List Value) : FrameBlind (va_Pc av (SW A wa wv)) ∧ ∀ U : State, U.heap = H → s.WarmedH U.vm → va_Pc av (SW A wa wv) av.toArray U :=
  ⟨fun a U g mk q => ⟨q.1, SW.moved (s := U) (U := U.calling g mk a) rfl (Vm.Alike.refl U.vm) q.2⟩, fun U hU hW => ⟨rfl, SW.moved (hU.trans hH) hW.alike h⟩⟩
theorem SW.recv {A : Nat → Prop} {wa wv : Nat} {s : State} (h : SW A wa wv s) : ∃ cellB : Cell, s.heap[wa]? = some cellB ∧ cellB.vm.isStatics = false ∧ s.vm.findClass "java/lang/String" = some cellB.cls := by
  obtain ⟨cell, h1, h2, h3, -⟩ := h.1
  exact ⟨cell, h1, h2, h3⟩
theorem sw_met {l : Launch} {y : MethodName} {cc : ByteArray} {maxL wa wv : Nat} {ret : Option FieldType} {rm : Room} {A : Nat → Prop} (av : List Value) {post : Int32 → Prop} (hpl : plainFor y = true) (hlen : (lg_sl av).length ≤ maxL)
    (body : ∀ (p : Program) (e : Env) (s : State) (m : MethodId) (below : List Frame) (meth : Method) (c : Code) (ls : Array Slot), hX p m c s av.toArray y.cls cc maxL → meth.sig.returnType = ret → meth.locks = false → SW A wa wv s → lv_has ls maxL (lv_args 0 av) →
      W p l e rm s m av.toArray below meth c s.heap [] 0 0 (MQ below (vp_Si post) av.toArray s 0 0 (fun _ => False)) (F0 m 0 ls [])) : Met l y (hws0 y cc maxL ret) rm (va_Pc av (SW A wa wv)) (vp_Si post) 0 0 (fun _ => False) := by
  refine va_MetF (cc := cc) (maxL := maxL) (ret := ret) hpl rfl ?_
  intro p e s m args below meth c s₁ B hml hv
  obtain ⟨rfl, hE⟩ := hv
  have hts := atoms_spec (ws := hws0 y cc maxL ret) B.pre
  have hl := lv_entry av (n := maxL) hlen
  rw [lg_entry_eq]
  generalize (lg_sl av ++ List.replicate (maxL - (lg_sl av).length) Slot.unset).toArray = ls at hl ⊢
  exact body p e s m below meth c ls ⟨B.exec, B.bytes, hml, findClass_of_methodNamed B.named, fun w hw => hts w (List.mem_cons_of_mem _ hw)⟩ B.returns B.notSynchronized hE hl
section SWR
variable {p : Program} {l : Launch} {e : Env} {R : Room} {s : State} {m : MethodId} {args : Array Value} {below : List Frame} {meth : Method} {c : Code} {cells slots : Nat} {Q : State → Prop}
variable {cc : ByteArray} {pc nL : Nat} {ls : Array Slot} {rest st0 : List Value} {A : Nat → Prop} {own : String} {wa wv : Nat}
theorem sw_ret {post : Int32 → Prop} {v : Int32} {ty : FieldType} (X : hX p m c s args own cc nL) (hr : meth.sig.returnType = some ty) (hn : narrow ty (.int v) = .int v) (hlk : meth.locks = false) (h : post v) (hdg : decode cc pc = .ok (.ireturn, 1)) :
    W p l e R s m args below meth c s.heap [] 0 0 (MQ below (vp_Si post) args s 0 0 (fun _ => False)) (F0 m pc ls [.int v]) :=
  W.zret X.1 X.2.1 hr hn (fun t ht hW => ⟨v, rfl, h, ht⟩) (fun q hq => by cases hq) hdg hlk
variable {y : MethodName} {ccY : ByteArray} {maxL idx n : Nat} {ret : Option FieldType} {rm : Room} {As : List Value} {H : Heap} {locs : List Loc}
theorem sw_callV {post : Int32 → Prop} (X : hX p m c s args own cc nL) (hpre : FrameBlind (va_Pc (.ref wa :: As) (SW A wa wv)) ∧ ∀ U : State, U.heap = H → s.WarmedH U.vm → va_Pc (.ref wa :: As) (SW A wa wv) (Value.ref wa :: As).toArray U) (hrv : ∃ cellB : Cell, H[wa]? = some cellB ∧ cellB.vm.isStatics = false ∧ s.vm.findClass y.cls = some cellB.cls)
    (hM : Met l y (hws0 y ccY maxL ret) rm (va_Pc (.ref wa :: As) (SW A wa wv)) (vp_Si post) 0 0 (fun _ => False)) (hy : hYV y ccY maxL ret n) (hl : Cond.methodLink own idx y ∈ tb) (hn : As.length = n) (hsize : ls.size = nL) (hst : st0 = As.reverse ++ .ref wa :: rest) (hrc : rm.cells = 0) (hrs : rm.slots = 0)
    (hr8 : (rest.map fun v => v.category).sum ≤ 8) (hR : rm.frames + 1 ≤ R.frames ∧ 8 + (maxL + 11) + rm.locals ≤ R.locals) (hf : cells ≤ R.cells ∧ slots ≤ R.slots) (hdg : decode cc pc = .ok (.invokevirtual idx, 3))
    (kk : ∀ r : Int32, post r → W p l e R s m args below meth c H locs cells slots Q (F0 m (pc + 3) ls (.int r :: rest))) : W p l e R s m args below meth c H locs cells slots Q (F0 m pc ls st0) :=
  vp_callSi (va_Run.run (va_runV (C := y.cls) X hM (cwV n X.2.2.2.2 (hG_V hy hl) rfl hrc hrs ⟨rfl, hy.2.2.2.2.1, hy.2.2.2.2.2.1, hy.2.2.2.2.2.2⟩ hR) ⟨hpre.1, hrv, hpre.2⟩ rfl hn hsize hst (lv_room hr8) hdg hf)) kk
theorem sw_callS {post : Int32 → Prop} (X : hX p m c s args own cc nL) (hpre : FrameBlind (va_Pc As (SW A wa wv)) ∧ ∀ U : State, U.heap = H → s.WarmedH U.vm → va_Pc As (SW A wa wv) As.toArray U)
    (hM : Met l y (hws0 y ccY maxL ret) rm (va_Pc As (SW A wa wv)) (vp_Si post) 0 0 (fun _ => False)) (hy : hYS y ccY maxL ret n) (hl : Cond.methodLink own idx y ∈ tb) (hn : As.length = n) (hsize : ls.size = nL) (hst : st0 = As.reverse ++ rest) (hrc : rm.cells = 0) (hrs : rm.slots = 0)
    (hr8 : (rest.map fun v => v.category).sum ≤ 8) (hR : rm.frames + 1 ≤ R.frames ∧ 8 + (maxL + 11) + rm.locals ≤ R.locals) (hf : cells ≤ R.cells ∧ slots ≤ R.slots) (hdg : decode cc pc = .ok (.invokestatic idx, 3))
    (kk : ∀ r : Int32, post r → W p l e R s m args below meth c H locs cells slots Q (F0 m (pc + 3) ls (.int r :: rest))) : W p l e R s m args below meth c H locs cells slots Q (F0 m pc ls st0) :=
  vp_callSi (va_Run.run (va_runS X hM (va_cwS n X.2.2.2.2 (hG_S hy hl) rfl hrc hrs ⟨hy.2.2.2.1, hy.2.2.2.2.1, hy.2.2.2.2.2⟩ hR) ⟨hpre.1, hpre.2⟩ rfl hn hsize hst (lv_room hr8) hdg hf)) kk
end SWR
theorem con_J0_coder_7d493 {l : Launch} {A : Nat → Prop} {wa wv : Nat}  : Met l yJ0_coder_7d493 (hws0 yJ0_coder_7d493 cJ0_coder_7d493 1 (some .byte)) { frames := 0, cells := 0, slots := 0, locals := 0 } (va_Pc [.ref wa] (SW A wa wv)) (vp_Si (fun r => r = 0)) 0 0 (fun _ => False) := by
  refine sw_met [.ref wa] (by decide +kernel) (Nat.le_of_ble_eq_true rfl) ?_
  intro p e s m below meth c ls X hr hlk hw hl
  have hx := X.1
  have hb := X.2.1
  have hS : va_S A s.heap s.heap [] := va_S.rf
  have hl : lv_has ls 1 [(0, .ref wa)] := hl
  refine va_gets hx hb hw.2.2.2.2.1 hS X.2.2.2.1 (X.2.2.2.2 _ kw910) (fun _ h => h) dJ0_coder_7d493_0 ?_
  refine lv_if_eq (tgt := 13) hx hb dJ0_coder_7d493_3 (by decide) (fun hc => absurd hc (by decide)) (fun hc => ?_)
  refine lv_aload_n hx hb dJ0_coder_7d493_6 rfl (lv_at hl 0 rfl) ?_
  refine vk_getf hx hb hw.2.1 hS X.2.2.2.1 (X.2.2.2.2 _ kw1954) (fun _ h => h) dJ0_coder_7d493_7 ?_
  refine lv_goto (tgt := 14) hx hb dJ0_coder_7d493_10 (by decide) ?_
  exact sw_ret X hr rfl hlk rfl dJ0_coder_7d493_14

theorem con_J0_isLatin1_aae02 {l : Launch} {A : Nat → Prop} {wa wv : Nat}  : Met l yJ0_isLatin1_aae02 (hws0 yJ0_isLatin1_aae02 cJ0_isLatin1_aae02 1 (some .boolean)) { frames := 0, cells := 0, slots := 0, locals := 0 } (va_Pc [.ref wa] (SW A wa wv)) (vp_Si (fun r => r = 1)) 0 0 (fun _ => False) := by
  refine sw_met [.ref wa] (by decide +kernel) (Nat.le_of_ble_eq_true rfl) ?_
  intro p e s m below meth c ls X hr hlk hw hl
  have hx := X.1
  have hb := X.2.1
  have hS : va_S A s.heap s.heap [] := va_S.rf
  have hl : lv_has ls 1 [(0, .ref wa)] := hl
  refine va_gets hx hb hw.2.2.2.2.1 hS X.2.2.2.1 (X.2.2.2.2 _ kw910) (fun _ h => h) dJ0_isLatin1_aae02_0 ?_
  refine lv_if_eq (tgt := 17) hx hb dJ0_isLatin1_aae02_3 (by decide) (fun hc => absurd hc (by decide)) (fun hc => ?_)
  refine lv_aload_n hx hb dJ0_isLatin1_aae02_6 rfl (lv_at hl 0 rfl) ?_
  refine vk_getf hx hb hw.2.1 hS X.2.2.2.1 (X.2.2.2.2 _ kw1954) (fun _ h => h) dJ0_isLatin1_aae02_7 ?_
  refine lv_if_ne (tgt := 17) hx hb dJ0_isLatin1_aae02_10 (by decide) (fun hc => absurd rfl hc) (fun hc => ?_)
  refine lv_iconst (v := 1) hx hb dJ0_isLatin1_aae02_13 (by decide) ?_
  refine lv_goto (tgt := 18) hx hb dJ0_isLatin1_aae02_14 (by decide) ?_
  exact sw_ret X hr rfl hlk rfl dJ0_isLatin1_aae02_18

theorem con_J0_length_8abf5 {l : Launch} {A : Nat → Prop} {wa wv : Nat}  : Met l yJ0_length_8abf5 (hws0 yJ0_length_8abf5 cJ0_length_8abf5 1 (some .int)) { frames := 1, cells := 0, slots := 0, locals := 40 } (va_Pc [.ref wa] (SW A wa wv)) (vp_Si (fun r => r = 58)) 0 0 (fun _ => False) := by
  refine sw_met [.ref wa] (by decide +kernel) (Nat.le_of_ble_eq_true rfl) ?_
  intro p e s m below meth c ls X hr hlk hw hl
  have hx := X.1
  have hb := X.2.1
  have hS : va_S A s.heap s.heap [] := va_S.rf
  have hl : lv_has ls 1 [(0, .ref wa)] := hl
  refine lv_aload_n hx hb dJ0_length_8abf5_0 rfl (lv_at hl 0 rfl) ?_
  refine vk_getf hx hb hw.2.2.1 hS X.2.2.2.1 (X.2.2.2.2 _ kw1953) (fun _ h => h) dJ0_length_8abf5_1 ?_
  refine va_tlen (v := 58) hx hb hw.2.2.2.1 hS (by decide) dJ0_length_8abf5_4 ?_
  refine lv_aload_n hx hb dJ0_length_8abf5_5 rfl (lv_at hl 0 rfl) ?_
  refine sw_callV (rest := [_]) X (SW.pre rfl hw _) hw.recv con_J0_coder_7d493 yk_J0_coder_7d493 kw906 rfl hl.1 rfl rfl rfl (Nat.le_of_ble_eq_true rfl) ⟨(Nat.le_of_ble_eq_true rfl), (Nat.le_of_ble_eq_true rfl)⟩ ⟨Nat.zero_le _, Nat.zero_le _⟩ dJ0_length_8abf5_6 (fun r hr0 => ?_)
  subst hr0
  refine lv_ishr hx hb dJ0_length_8abf5_9 ?_
  exact sw_ret X hr rfl hlk (by decide) dJ0_length_8abf5_10

theorem con_J3_checkIndex_8e157 {l : Launch} {A : Nat → Prop} {wa wv : Nat} {fa : Nat} {i : Int32} (h0 : ¬ i < 0) (h1 : i < 58) : Met l yJ3_checkIndex_8e157 (hws0 yJ3_checkIndex_8e157 cJ3_checkIndex_8e157 3 (some .int)) { frames := 0, cells := 0, slots := 0, locals := 0 } (va_Pc [.int i, .int 58, (.ref fa)] (SW A wa wv)) (vp_Si (fun r => r = i)) 0 0 (fun _ => False) := by
  refine sw_met [.int i, .int 58, (.ref fa)] (by decide +kernel) (Nat.le_of_ble_eq_true rfl) ?_
  intro p e s m below meth c ls X hr hlk hw hl
  have hx := X.1
  have hb := X.2.1
  have hS : va_S A s.heap s.heap [] := va_S.rf
  have hl : lv_has ls 3 [(0, .int i), (1, .int 58), (2, (.ref fa))] := hl
  refine lv_iload_n hx hb dJ3_checkIndex_8e157_0 rfl (lv_at hl 0 rfl) ?_
  refine lv_if_lt (tgt := 9) hx hb dJ3_checkIndex_8e157_1 (by decide) (fun hc => absurd hc h0) (fun hc => ?_)
  refine lv_iload_n hx hb dJ3_checkIndex_8e157_4 rfl (lv_at hl 0 rfl) ?_
  refine lv_iload_n hx hb dJ3_checkIndex_8e157_5 rfl (lv_at hl 1 rfl) ?_
  refine lv_icmp_lt (tgt := 16) hx hb dJ3_checkIndex_8e157_6 (by decide) (fun hc => ?_) (fun hc => absurd h1 hc)
  refine lv_iload_n hx hb dJ3_checkIndex_8e157_16 rfl (lv_at hl 0 rfl) ?_
  exact sw_ret X hr rfl hlk rfl dJ3_checkIndex_8e157_17

theorem con_J3_checkIndex_8e157N {l : Launch} {A : Nat → Prop} {wa wv : Nat} {i : Int32} (h0 : ¬ i < 0) (h1 : i < 58) : Met l yJ3_checkIndex_8e157 (hws0 yJ3_checkIndex_8e157 cJ3_checkIndex_8e157 3 (some .int)) { frames := 0, cells := 0, slots := 0, locals := 0 } (va_Pc [.int i, .int 58, .null] (SW A wa wv)) (vp_Si (fun r => r = i)) 0 0 (fun _ => False) := by
  refine sw_met [.int i, .int 58, .null] (by decide +kernel) (Nat.le_of_ble_eq_true rfl) ?_
  intro p e s m below meth c ls X hr hlk hw hl
  have hx := X.1
  have hb := X.2.1
  have hS : va_S A s.heap s.heap [] := va_S.rf
  have hl : lv_has ls 3 [(0, .int i), (1, .int 58), (2, .null)] := hl
  refine lv_iload_n hx hb dJ3_checkIndex_8e157_0 rfl (lv_at hl 0 rfl) ?_
  refine lv_if_lt (tgt := 9) hx hb dJ3_checkIndex_8e157_1 (by decide) (fun hc => absurd hc h0) (fun hc => ?_)
  refine lv_iload_n hx hb dJ3_checkIndex_8e157_4 rfl (lv_at hl 0 rfl) ?_
  refine lv_iload_n hx hb dJ3_checkIndex_8e157_5 rfl (lv_at hl 1 rfl) ?_
  refine lv_icmp_lt (tgt := 16) hx hb dJ3_checkIndex_8e157_6 (by decide) (fun hc => ?_) (fun hc => absurd h1 hc)
  refine lv_iload_n hx hb dJ3_checkIndex_8e157_16 rfl (lv_at hl 0 rfl) ?_
  exact sw_ret X hr rfl hlk rfl dJ3_checkIndex_8e157_17

theorem con_J0_checkIndex_df160 {l : Launch} {A : Nat → Prop} {wa wv : Nat} {i : Int32} (h0 : ¬ i < 0) (h1 : i < 58) : Met l yJ0_checkIndex_df160 (hws0 yJ0_checkIndex_df160 cJ0_checkIndex_df160 2 none) { frames := 1, cells := 0, slots := 0, locals := 40 } (va_Pc [.int i, .int 58] (SW A wa wv)) (va_Sv (fun _ => True)) 0 0 (fun _ => False) := by
  refine va_MetF (cc := cJ0_checkIndex_df160) (maxL := 2) (ret := none) (by decide +kernel) rfl ?_
  intro p e s m args below meth c s₁ B hml hv
  obtain ⟨rfl, hw⟩ := hv
  have hts := atoms_spec (ws := hws0 yJ0_checkIndex_df160 cJ0_checkIndex_df160 2 none) B.pre
  have hl := lv_entry [.int i, .int 58] (n := 2) (Nat.le_of_ble_eq_true rfl)
  rw [lg_entry_eq]
  generalize (lg_sl [.int i, .int 58] ++ List.replicate (2 - (lg_sl [.int i, .int 58]).length) Slot.unset).toArray = ls at hl ⊢
  have X : hX p m c s _ "java/lang/String" cJ0_checkIndex_df160 2 := ⟨B.exec, B.bytes, hml, findClass_of_methodNamed B.named, fun w hw => hts w (List.mem_cons_of_mem _ hw)⟩
  have hr := B.returns
  have hlk := B.notSynchronized
  have hx := X.1
  have hb := X.2.1
  have hS : va_S A s.heap s.heap [] := va_S.rf
  have hl : lv_has ls 2 [(0, .int i), (1, .int 58)] := hl
  refine lv_iload_n hx hb dJ0_checkIndex_df160_0 rfl (lv_at hl 0 rfl) ?_
  refine lv_iload_n hx hb dJ0_checkIndex_df160_1 rfl (lv_at hl 1 rfl) ?_
  rcases hw.2.2.2.2.2 with hz | ⟨fa, hz⟩
  · refine va_gets hx hb hz hS X.2.2.2.1 (X.2.2.2.2 _ kw926) (fun _ h => h) dJ0_checkIndex_df160_2 ?_
    refine sw_callS (rest := []) X (SW.pre rfl hw _) (con_J3_checkIndex_8e157N h0 h1) yk_J3_checkIndex_8e157 kw928 rfl hl.1 rfl rfl rfl (Nat.le_of_ble_eq_true rfl) ⟨(Nat.le_of_ble_eq_true rfl), (Nat.le_of_ble_eq_true rfl)⟩ ⟨Nat.zero_le _, Nat.zero_le _⟩ dJ0_checkIndex_df160_5 (fun r hr0 => ?_)
    refine lv_pop hx hb dJ0_checkIndex_df160_8 rfl ?_
    exact W.vret X.1 X.2.1 hr (fun t ht hW => ⟨rfl, trivial, ht⟩) (fun q hq => by cases hq) dJ0_checkIndex_df160_9 hlk
  · refine va_gets hx hb hz hS X.2.2.2.1 (X.2.2.2.2 _ kw926) (fun _ h => h) dJ0_checkIndex_df160_2 ?_
    refine sw_callS (rest := []) X (SW.pre rfl hw _) (con_J3_checkIndex_8e157 h0 h1) yk_J3_checkIndex_8e157 kw928 rfl hl.1 rfl rfl rfl (Nat.le_of_ble_eq_true rfl) ⟨(Nat.le_of_ble_eq_true rfl), (Nat.le_of_ble_eq_true rfl)⟩ ⟨Nat.zero_le _, Nat.zero_le _⟩ dJ0_checkIndex_df160_5 (fun r hr0 => ?_)
    refine lv_pop hx hb dJ0_checkIndex_df160_8 rfl ?_
    exact W.vret X.1 X.2.1 hr (fun t ht hW => ⟨rfl, trivial, ht⟩) (fun q hq => by cases hq) dJ0_checkIndex_df160_9 hlk

theorem wch_c : ∀ i, i < 58 → ((wch i &&& 255).toUInt32 % 65536).toInt32 = wch i ∧ narrow .char (.int (wch i)) = .int (wch i) := by decide +kernel
theorem con_J1_charAt_3b067 {l : Launch} {A : Nat → Prop} {wa wv : Nat} {i : Int32} (hin : vp_in i 58) : Met l yJ1_charAt_3b067 (hws0 yJ1_charAt_3b067 cJ1_charAt_3b067 2 (some .char)) { frames := 2, cells := 0, slots := 0, locals := 80 } (va_Pc [.ref wv, .int i] (SW A wa wv)) (vp_Si (fun r => r = wch (nx i))) 0 0 (fun _ => False) := by
  refine sw_met [.ref wv, .int i] (by decide +kernel) (Nat.le_of_ble_eq_true rfl) ?_
  intro p e s m below meth c ls X hr hlk hw hl
  have hx := X.1
  have hb := X.2.1
  have hS : va_S A s.heap s.heap [] := va_S.rf
  have hl : lv_has ls 2 [(0, .ref wv), (1, .int i)] := hl
  have h0 : ¬ i < 0 := fun h => hin (Or.inl h)
  have hlt : nx i < 58 := Nat.lt_of_not_le fun h => hin (Or.inr h)
  have h1 : i < 58 := by
    rw [Int32.lt_iff_toInt_lt]
    have e1 : (58 : Int32).toInt = 58 := by decide
    have e2 : i.toNatClampNeg < 58 := hlt
    have e3 : i.toNatClampNeg = i.toInt.toNat := rfl
    omega
  refine lv_iload_n hx hb dJ1_charAt_3b067_0 rfl (lv_at hl 1 rfl) ?_
  refine lv_aload_n hx hb dJ1_charAt_3b067_1 rfl (lv_at hl 0 rfl) ?_
  refine va_tlen (v := 58) hx hb hw.2.2.2.1 hS (by decide) dJ1_charAt_3b067_2 ?_
  refine va_csv (va_Run.run (va_runS (rest := []) X (con_J0_checkIndex_df160 (A := A) (wa := wa) (wv := wv) h0 h1) (va_cwS 2 X.2.2.2.2 (hG_S yk_J0_checkIndex_df160 kw923) rfl rfl rfl ⟨yk_J0_checkIndex_df160.2.2.2.1, yk_J0_checkIndex_df160.2.2.2.2.1, yk_J0_checkIndex_df160.2.2.2.2.2⟩ ⟨(Nat.le_of_ble_eq_true rfl), (Nat.le_of_ble_eq_true rfl)⟩) ⟨(SW.pre rfl hw _).1, (SW.pre rfl hw _).2⟩ rfl rfl hl.1 rfl (lv_room (Nat.le_of_ble_eq_true rfl)) dJ1_charAt_3b067_3 ⟨Nat.zero_le _, Nat.zero_le _⟩)) (fun _ => ?_)
  refine lv_aload_n hx hb dJ1_charAt_3b067_6 rfl (lv_at hl 0 rfl) ?_
  refine lv_iload_n hx hb dJ1_charAt_3b067_7 rfl (lv_at hl 1 rfl) ?_
  refine va_tb (v := .int (wch (nx i))) hx hb hw.2.2.2.1 hS hin rfl dJ1_charAt_3b067_8 ?_
  refine lv_sipush (v := 255) hx hb dJ1_charAt_3b067_9 (by decide) ?_
  refine lv_iand hx hb dJ1_charAt_3b067_12 ?_
  refine lv_i2c (v := wch (nx i)) hx hb dJ1_charAt_3b067_13 (wch_c _ hlt).1 ?_
  exact sw_ret X hr (wch_c _ hlt).2 hlk rfl dJ1_charAt_3b067_14

theorem con_J0_charAt_5068e {l : Launch} {A : Nat → Prop} {wa wv : Nat} {i : Int32} (hin : vp_in i 58) : Met l yJ0_charAt_5068e (hws0 yJ0_charAt_5068e cJ0_charAt_5068e 2 (some .char)) { frames := 3, cells := 0, slots := 0, locals := 130 } (va_Pc [.ref wa, .int i] (SW A wa wv)) (vp_Si (fun r => r = wch (nx i))) 0 0 (fun _ => False) := by
  refine sw_met [.ref wa, .int i] (by decide +kernel) (Nat.le_of_ble_eq_true rfl) ?_
  intro p e s m below meth c ls X hr hlk hw hl
  have hx := X.1
  have hb := X.2.1
  have hS : va_S A s.heap s.heap [] := va_S.rf
  have hl : lv_has ls 2 [(0, .ref wa), (1, .int i)] := hl
  have hlt : nx i < 58 := Nat.lt_of_not_le fun h => hin (Or.inr h)
  refine lv_aload_n hx hb dJ0_charAt_5068e_0 rfl (lv_at hl 0 rfl) ?_
  refine sw_callV (rest := []) X (SW.pre rfl hw _) hw.recv con_J0_isLatin1_aae02 yk_J0_isLatin1_aae02 kw916 rfl hl.1 rfl rfl rfl (Nat.le_of_ble_eq_true rfl) ⟨(Nat.le_of_ble_eq_true rfl), (Nat.le_of_ble_eq_true rfl)⟩ ⟨Nat.zero_le _, Nat.zero_le _⟩ dJ0_charAt_5068e_1 (fun r hr0 => ?_)
  subst hr0
  refine lv_if_eq (tgt := 16) hx hb dJ0_charAt_5068e_4 (by decide) (fun hc => absurd hc (by decide)) (fun hc => ?_)
  refine lv_aload_n hx hb dJ0_charAt_5068e_7 rfl (lv_at hl 0 rfl) ?_
  refine vk_getf hx hb hw.2.2.1 hS X.2.2.2.1 (X.2.2.2.2 _ kw1953) (fun _ h => h) dJ0_charAt_5068e_8 ?_
  refine lv_iload_n hx hb dJ0_charAt_5068e_11 rfl (lv_at hl 1 rfl) ?_
  refine sw_callS (rest := []) X (SW.pre rfl hw _) (con_J1_charAt_3b067 hin) yk_J1_charAt_3b067 kw920 rfl hl.1 rfl rfl rfl (Nat.le_of_ble_eq_true rfl) ⟨(Nat.le_of_ble_eq_true rfl), (Nat.le_of_ble_eq_true rfl)⟩ ⟨Nat.zero_le _, Nat.zero_le _⟩ dJ0_charAt_5068e_12 (fun r hr0 => ?_)
  subst hr0
  exact sw_ret X hr (wch_c _ hlt).2 hlk rfl dJ0_charAt_5068e_15

section SWX
variable {p : Program} {l : Launch} {e : Env} {R : Room} {s : State} {m : MethodId} {args : Array Value} {below : List Frame} {meth : Method} {c : Code} {H : Heap} {locs : List Loc} {cells slots : Nat} {Q : State → Prop}
variable {cc : ByteArray} {pc nL : Nat} {ls : Array Slot} {rest : List Value} {A : Nat → Prop} {own : String} {wa wv : Nat}
/-- the facts on the words' text at a heap that has changed within A alone -/
theorem SW.at {A : Nat → Prop} {s : State} {H : Heap} {locs : List Loc} (h : SW A wa wv s) (hS : va_S A s.heap H locs) (av : List Value) : (FrameBlind (va_Pc av (SW A wa wv)) ∧ ∀ U : State, U.heap = H → s.WarmedH U.vm → va_Pc av (SW A wa wv) av.toArray U) ∧ ∃ cellB : Cell, H[wa]? = some cellB ∧ cellB.vm.isStatics = false ∧ s.vm.findClass "java/lang/String" = some cellB.cls := by
  obtain ⟨g2, g3, g4, g5, g6, g7⟩ := h
  refine ⟨⟨fun a U g mk q => ⟨q.1, SW.moved (s := U) (U := U.calling g mk a) rfl (Vm.Alike.refl U.vm) q.2⟩, fun U hU hW => ⟨rfl, ?_⟩⟩, ?_⟩
  · unfold SW
    rw [hU]
    exact ⟨va_O.moved hW.alike (g2.kept hS.2.1), va_OF.moved hW.alike (g3.kept hS.2.1), va_OF.moved hW.alike (g4.kept hS.2.1), va_T.moved hW.alike (g5.kept hS.2.1), va_Z.moved hW.alike (g6.kept hS.2.1), va_Zq.moved hW.alike (g7.kept hS.2.1)⟩
  · obtain ⟨cell, h1, h2, h3, -⟩ := g2.kept hS.2.1
    exact ⟨cell, h1, h2, h3⟩
theorem hm_wlen {idx : Nat} (X : hX p m c s args own cc nL) (h : SW A wa wv s) (hS : va_S A s.heap H locs) (hl : Cond.methodLink own idx yJ0_length_8abf5 ∈ tb) (hsize : ls.size = nL) (hr8 : (rest.map fun v => v.category).sum ≤ 8) (hR : 6 ≤ R.frames ∧ 200 ≤ R.locals) (hf : cells ≤ R.cells ∧ slots ≤ R.slots) (hdg : decode cc pc = .ok (.invokevirtual idx, 3))
    (kk : W p l e R s m args below meth c H locs cells slots Q (F0 m (pc + 3) ls (.int 58 :: rest))) : W p l e R s m args below meth c H locs cells slots Q (F0 m pc ls (.ref wa :: rest)) :=
  sw_callV (As := []) X (h.at hS _).1 (h.at hS []).2 con_J0_length_8abf5 yk_J0_length_8abf5 hl rfl hsize rfl rfl rfl hr8 ⟨Nat.le_trans (Nat.le_of_ble_eq_true rfl) hR.1, Nat.le_trans (Nat.le_of_ble_eq_true rfl) hR.2⟩ hf hdg (fun r hr => by subst hr; exact kk)
theorem hm_wch {idx : Nat} {i : Int32} (X : hX p m c s args own cc nL) (h : SW A wa wv s) (hS : va_S A s.heap H locs) (hin : vp_in i 58) (hl : Cond.methodLink own idx yJ0_charAt_5068e ∈ tb) (hsize : ls.size = nL) (hr8 : (rest.map fun v => v.category).sum ≤ 8) (hR : 6 ≤ R.frames ∧ 200 ≤ R.locals) (hf : cells ≤ R.cells ∧ slots ≤ R.slots) (hdg : decode cc pc = .ok (.invokevirtual idx, 3))
    (kk : W p l e R s m args below meth c H locs cells slots Q (F0 m (pc + 3) ls (.int (wch (nx i)) :: rest))) : W p l e R s m args below meth c H locs cells slots Q (F0 m pc ls (.int i :: .ref wa :: rest)) :=
  sw_callV (As := [.int i]) X (h.at hS _).1 (h.at hS []).2 (con_J0_charAt_5068e hin) yk_J0_charAt_5068e hl rfl hsize rfl rfl rfl hr8 ⟨Nat.le_trans (Nat.le_of_ble_eq_true rfl) hR.1, Nat.le_trans (Nat.le_of_ble_eq_true rfl) hR.2⟩ hf hdg (fun r hr => by subst hr; exact kk)
end SWX
