/-! a long's array in the class's region; methods with a table of their own -/
section
variable {p : Program} {l : Launch} {e : Env} {R : Room} {s : State} {m : MethodId} {args : Array Value} {below : List Frame} {meth : Method} {c : Code} {H : Heap} {locs : List Loc} {cells slots : Nat} {Q : State → Prop}
variable {cc : ByteArray} {pc nL : Nat} {ls : Array Slot} {rest st0 : List Value} {D : va_G} {cA : Nat → ClassId} {z : Nat} {I : HI} {J : HJ} {T F : HR} {L : HL} {S : HS} {A : Nat → Prop} {own : String} {Ev : HE}
theorem hm_lald (X : hX p m c s args own cc nL) (w : hW D cA z Ev (I, J, T, F, L) A s H locs) {a n : Nat} {i : Int32} (hs : (a, 4, n) ∈ L) (hin : vp_in i n) (hdg : decode cc pc = .ok (.laload, 1))
    (kk : W p l e R s m args below meth c H locs cells slots Q (F0 m (pc + 1) ls (.long (J a i.toNatClampNeg) :: rest))) : W p l e R s m args below meth c H locs cells slots Q (F0 m pc ls (.int i :: .ref (z + a) :: rest)) := by
  obtain ⟨q, hi⟩ := List.getElem?_of_mem hs
  exact va_lald X.1 X.2.1 w.1 w.2.1 q 4 (hws_get (S := (I, J, T, F, L)) hi) rfl hin hdg kk
theorem hm_last (X : hX p m c s args own cc nL) (w : hW D cA z Ev (I, J, T, F, L) A s H locs) {a n : Nat} {i : Int32} {v : Int64} (hs : (a, 4, n) ∈ L) (hin : vp_in i n) (hdg : decode cc pc = .ok (.lastore, 1))
    (kk : ∀ (H : Heap) (locs : List Loc), hW D cA z Ev (I, up2 J a i.toNatClampNeg v, T, F, L) A s H locs → W p l e R s m args below meth c H locs cells slots Q (F0 m (pc + 1) ls rest)) : W p l e R s m args below meth c H locs cells slots Q (F0 m pc ls (.long v :: .int i :: .ref (z + a) :: rest)) := by
  obtain ⟨q, hi⟩ := List.getElem?_of_mem hs
  have hset : (hws cA z (I, J, T, F, L)).set q (z + a, .inl (cA 4, n, .inr (.inl (vp_updL (J a) i.toNatClampNeg v)))) = hws cA z (I, up2 J a i.toNatClampNeg v, T, F, L) := by
    rw [← hws_set (S := (I, J, T, F, L)) (S' := (I, up2 J a i.toNatClampNeg v, T, F, L)) rfl w.2.2.1 hi (fun b hb => ⟨rfl, up2_ne _ _ _ hb, rfl, rfl⟩)]
    simp only [hc, hc_e, up2_at]
    rfl
  refine va_last X.1 X.2.1 w.1 w.2.1 w.2.2.1 w.2.2.2.1 q 4 (hws_get (S := (I, J, T, F, L)) hi) rfl hin hdg (fun H1 locs1 g1 g2 g3 => ?_)
  rw [hset] at g1 g2
  exact kk H1 locs1 ⟨w.1, g1, g2, g3, w.2.2.2.2⟩
theorem hx_cast {E : String} {c0 : ClassId} (h : s.vm.findClass E = some c0) : (Cond.castable E E).before args s = true := by
  have h1 : s.vm.assignable c0 c0 = true := by
    show s.vm.assignableAux (255 + 1) c0 c0 = true
    rw [Vm.assignableAux]
    simp only [beq_self_eq_true, Bool.true_or]
  simp [Cond.before, Cond.holds, Cond.value, h, h1]
abbrev hwsW (y : MethodName) (cc : ByteArray) (maxL : Nat) (ret : Option FieldType) (hh : List (Nat × Nat × Nat × Nat)) : List Cond := Cond.codeWith y cc maxL ret hh :: tb
def hYW (y : MethodName) (cc : ByteArray) (maxL : Nat) (ret : Option FieldType) (hh : List (Nat × Nat × Nat × Nat)) (n : Nat) : Prop := Cond.static y ∈ tb ∧ Cond.initialized y.cls ∈ tb ∧ Cond.codeWith y cc maxL ret hh ∈ tb ∧ y.cls ≠ "java/lang/invoke/MethodHandle" ∧ y.cls ≠ "java/lang/invoke/VarHandle" ∧ (parseMethodDescriptor y.desc).map (fun d => d.parameters.length) = some n
theorem hG_SW {idx : Nat} {y : MethodName} {cc : ByteArray} {maxL n : Nat} {ret : Option FieldType} {hh : List (Nat × Nat × Nat × Nat)} (h : hYW y cc maxL ret hh n) (hl : Cond.methodLink own idx y ∈ tb) : GoodIn tb (va_wsS own idx y (hwsW y cc maxL ret hh)) := by
  obtain ⟨h1, h2, h4, -⟩ := h
  intro w hw
  simp only [va_wsS, List.cons_append, List.nil_append, List.mem_cons] at hw
  rcases hw with rfl | rfl | rfl | rfl | hw
  · exact tb_good hl
  · exact tb_good h1
  · exact tb_good h2
  · exact tb_good h4
  · exact tb_good hw
theorem hm_runSW {y : MethodName} {ccY : ByteArray} {maxL idx n mc ms : Nat} {ret : Option FieldType} {hh : List (Nat × Nat × Nat × Nat)} {rm : Room} {As : List Value} {Qc : Array Value → State → Outcome → State → Prop} {free : Addr → Prop} (hcl : hCl Ev) (X : hX p m c s args own cc nL) (w : hW D cA z Ev S A s H locs) (hM : Met l y (hwsW y ccY maxL ret hh) rm (hPc D cA z Ev S H.size As) Qc mc ms free)
    (hy : hYW y ccY maxL ret hh n) (hl : Cond.methodLink own idx y ∈ tb) (hn : As.length = n) (hsize : ls.size = nL) (hst : st0 = As.reverse ++ rest) (hrc : rm.cells = mc) (hrs : rm.slots = ms)
    (hr8 : (rest.map fun v => v.category).sum ≤ 8) (hR : rm.frames + 1 ≤ R.frames ∧ 8 + (maxL + 11) + rm.locals ≤ R.locals) (hf : cells + mc ≤ R.cells ∧ slots + ms ≤ R.slots) (hdg : decode cc pc = .ok (.invokestatic idx, 3)) :
    va_Run p l e R s m args below meth c H locs cells slots mc ms (F0 m pc ls st0) rest (Qc As.toArray) free := by
  have hp := hW_pre hcl w As
  exact vx_runSW X hM (vx_cwSW n X.2.2.2.2 (hG_SW hy hl) rfl hrc hrs ⟨hy.2.2.2.1, hy.2.2.2.2.1, hy.2.2.2.2.2⟩ hR) ⟨hp.1, hp.2⟩ rfl hn hsize hst (lv_room hr8) hdg hf
end
theorem hm_metW {l : Launch} {y : MethodName} {cc : ByteArray} {maxL sz mc ms : Nat} {ret : Option FieldType} {hh : List (Nat × Nat × Nat × Nat)} {rm : Room} {D : va_G} {cA : Nat → ClassId} {z : Nat} {Ev : HE} (S : HS) (av : List Value) {Qc : Array Value → State → Outcome → State → Prop} {A : Nat → Prop} (hAe : A = hA z S.2.2.2.2 sz) (hpl : plainName y.cls = true) (hlen : (lg_sl av).length ≤ maxL)
    (body : ∀ (p : Program) (e : Env) (s : State) (m : MethodId) (below : List Frame) (meth : Method) (c : Code) (ls : Array Slot), hX p m c s av.toArray y.cls cc maxL → meth.sig.returnType = ret → meth.locks = false → c.exceptionTable.toList = tableOf hh → hW D cA z Ev S A s s.heap [] → lv_has ls maxL (lv_args 0 av) →
      W p l e rm s m av.toArray below meth c s.heap [] 0 0 (MQ below Qc av.toArray s mc ms A) (F0 m 0 ls [])) : Met l y (hwsW y cc maxL ret hh) rm (hPc D cA z Ev S sz av) Qc mc ms A := by
  subst hAe
  refine va_MetW (cc := cc) (maxL := maxL) (ret := ret) (hh := hh) hpl rfl ?_
  intro p e s m args below meth c s₁ B hml hv
  obtain ⟨rfl, hsz, hP, hK, hD0, hE⟩ := hv
  subst hsz
  have hts := atoms_spec (ws := hwsW y cc maxL ret hh) B.pre
  have hl := lv_entry av (n := maxL) hlen
  rw [lg_entry_eq]
  generalize (lg_sl av ++ List.replicate (maxL - (lg_sl av).length) Slot.unset).toArray = ls at hl ⊢
  refine body p e s m below meth c ls ⟨B.exec, B.bytes, hml, findClass_of_methodNamed B.named, fun w hw => hts w (List.mem_cons_of_mem _ hw)⟩ B.returns B.notSynchronized (vx_table (x := y) B (hts _ List.mem_cons_self)) ⟨hK, hP, ⟨hD0.1, fun k q hq => ?_⟩, va_S.rf, fun q h => Or.inr h, hE⟩ hl
  obtain ⟨pp, hp1, rfl⟩ := hws_of hq
  exact Or.inl ⟨pp, List.mem_of_getElem? hp1, rfl⟩
theorem yw_looks : hYW yL_looks cL_looks 5 (some .int) [(0, 17, 20, 13)] 4 := ⟨kw836, kw100, kw837, by decide +kernel, by decide +kernel, by decide +kernel⟩
theorem yw_round : hYW yL_round cL_round 5 (some .int) [(0, 17, 20, 13)] 4 := ⟨kw851, kw100, kw852, by decide +kernel, by decide +kernel, by decide +kernel⟩
theorem yw_rules : hYW yL_rules cL_rules 4 (some .int) [(0, 9, 12, 22)] 3 := ⟨kw859, kw100, kw860, by decide +kernel, by decide +kernel, by decide +kernel⟩
theorem yw_about : hYW yL_about cL_about 5 (some .int) [(0, 10, 13, 13)] 4 := ⟨kw1034, kw100, kw1035, by decide +kernel, by decide +kernel, by decide +kernel⟩
theorem yw_tell : hYW yL_tell cL_tell 6 (some .int) [(0, 19, 22, 13)] 5 := ⟨kw1046, kw100, kw1047, by decide +kernel, by decide +kernel, by decide +kernel⟩
theorem yw_cell : hYW yL_cell cL_cell 5 (some .int) [(0, 10, 13, 13)] 4 := ⟨kw1055, kw100, kw1056, by decide +kernel, by decide +kernel, by decide +kernel⟩
theorem yw_in : hYW yL_in cL_in 6 (some .int) [(0, 12, 15, 13)] 5 := ⟨kw1065, kw100, kw1066, by decide +kernel, by decide +kernel, by decide +kernel⟩
theorem yw_row : hYW yL_row cL_row 5 (some .int) [(0, 10, 13, 13)] 4 := ⟨kw1085, kw100, kw1086, by decide +kernel, by decide +kernel, by decide +kernel⟩
theorem yw_won : hYW yL_won cL_won 4 (some .int) [(0, 8, 11, 13)] 3 := ⟨kw1097, kw100, kw1098, by decide +kernel, by decide +kernel, by decide +kernel⟩
theorem yw_rightOf : hYW yL_rightOf cL_rightOf 4 (some .int) [(0, 9, 12, 13)] 3 := ⟨kw1113, kw100, kw1114, by decide +kernel, by decide +kernel, by decide +kernel⟩
theorem yw_worst : hYW yL_worst cL_worst 4 (some .int) [(0, 9, 12, 13)] 3 := ⟨kw1124, kw100, kw1125, by decide +kernel, by decide +kernel, by decide +kernel⟩
theorem yw_idle : hYW yL_idle cL_idle 4 (some .int) [(0, 9, 12, 13)] 3 := ⟨kw1128, kw100, kw1129, by decide +kernel, by decide +kernel, by decide +kernel⟩
theorem yw_otherwise : hYW yL_otherwise cL_otherwise 5 (some .int) [(0, 10, 13, 13)] 4 := ⟨kw1143, kw100, kw1144, by decide +kernel, by decide +kernel, by decide +kernel⟩
theorem yw_search : hYW yL_search cL_search 4 (some .int) [(0, 9, 12, 22)] 3 := ⟨kw1152, kw100, kw1153, by decide +kernel, by decide +kernel, by decide +kernel⟩
theorem yw_sums : hYW yL_sums cL_sums 3 (some .int) [(0, 8, 11, 22)] 2 := ⟨kw1200, kw100, kw1201, by decide +kernel, by decide +kernel, by decide +kernel⟩
theorem yw_constant : hYW yL_constant cL_constant 4 (some .int) [(0, 9, 12, 13)] 3 := ⟨kw1246, kw100, kw1247, by decide +kernel, by decide +kernel, by decide +kernel⟩
theorem yw_given : hYW yL_given cL_given 4 (some .int) [(0, 9, 12, 13)] 3 := ⟨kw1254, kw100, kw1255, by decide +kernel, by decide +kernel, by decide +kernel⟩
theorem yw_mend : hYW yL_mend cL_mend 4 (some .int) [(0, 9, 12, 22)] 3 := ⟨kw1262, kw100, kw1263, by decide +kernel, by decide +kernel, by decide +kernel⟩
theorem yw_count : hYW yL_count cL_count 4 (some .int) [(0, 9, 12, 13)] 3 := ⟨kw1307, kw100, kw1308, by decide +kernel, by decide +kernel, by decide +kernel⟩
def L_looks (I : HI) (J : HJ) (T F : HR) (L : HL) (x1 : Int32) (x2 : Int32) (ro : Nat) (Q : Int32 → HS → Prop) : Prop :=
  H_looks I x1 x2 (fun r I' => if r = 0 then Q 0 (I', up2 J ro 0 0, T, F, L) else Q 0 (I', up2 J ro 0 1, T, F, L)) (fun I' => Q 1 (I', J, T, F, L))
def L_round (I : HI) (J : HJ) (T F : HR) (L : HL) (x1 : Int32) (x2 : Int32) (ro : Nat) (Q : Int32 → HS → Prop) : Prop :=
  H_round I x1 x2 (fun r I' => if r = 0 then Q 0 (I', up2 J ro 0 0, T, F, L) else Q 0 (I', up2 J ro 0 1, T, F, L)) (fun I' => Q 1 (I', J, T, F, L))
def L_rules (I : HI) (J : HJ) (T F : HR) (L : HL) (x1 : Int32) (ro : Nat) (b : Nat) (Q : Int32 → HS → Prop) : Prop :=
  H_rules I T F L x1 b (fun r I' T' F' L' => (ro, 4, 1) ∈ L' ∧ Q 0 (I', up2 J ro 0 (Int32.toInt64 r), T', F', L')) (fun I' T' F' L' => Q 1 (I', J, T', F', L'))
def L_about (I : HI) (J : HJ) (T F : HR) (L : HL) (x1 : Int32) (x2 : Int32) (ro : Nat) (Q : Int32 → HS → Prop) : Prop :=
  H_about I T x1 x2 (fun r  => Q 0 (I, up2 J ro 0 (Int32.toInt64 r), T, F, L)) (Q 1 (I, J, T, F, L))
def L_tell (I : HI) (J : HJ) (T F : HR) (L : HL) (x1 : Int32) (x2 : Int32) (x3 : Int32) (ro : Nat) (Q : Int32 → HS → Prop) : Prop :=
  H_tell I T L x1 x2 x3 (fun r I' T' => if r = 0 then Q 0 (I', up2 J ro 0 0, T', F, L) else Q 0 (I', up2 J ro 0 1, T', F, L)) (fun I' T' => Q 1 (I', J, T', F, L))
def L_cell (I : HI) (J : HJ) (T F : HR) (L : HL) (x1 : Int32) (x2 : Int32) (ro : Nat) (Q : Int32 → HS → Prop) : Prop :=
  H_cell I T x1 x2 (fun r  => Q 0 (I, up2 J ro 0 (Int32.toInt64 r), T, F, L)) (Q 1 (I, J, T, F, L))
def L_in (I : HI) (J : HJ) (T F : HR) (L : HL) (x1 : Int32) (x2 : Int32) (x3 : Int32) (ro : Nat) (Q : Int32 → HS → Prop) : Prop :=
  H_in I T F L x1 x2 x3 (fun r I' => Q 0 (I', up2 J ro 0 (Int32.toInt64 r), T, F, L)) (fun I' => Q 1 (I', J, T, F, L))
def L_row (I : HI) (J : HJ) (T F : HR) (L : HL) (x1 : Int32) (x2 : Int32) (ro : Nat) (Q : Int32 → HS → Prop) : Prop :=
  H_row I T F L x1 x2 (fun r I' => Q 0 (I', up2 J ro 0 (Int32.toInt64 r), T, F, L)) (fun I' => Q 1 (I', J, T, F, L))
def L_won (I : HI) (J : HJ) (T F : HR) (L : HL) (x1 : Int32) (ro : Nat) (Q : Int32 → HS → Prop) : Prop :=
  H_won I T F L x1 (fun r I' => Q 0 (I', up2 J ro 0 r, T, F, L)) (fun I' => Q 1 (I', J, T, F, L))
def L_rightOf (I : HI) (J : HJ) (T F : HR) (L : HL) (x1 : Int32) (ro : Nat) (Q : Int32 → HS → Prop) : Prop :=
  H_rightOf I T F L x1 (fun r I' => Q 0 (I', up2 J ro 0 (Int32.toInt64 r), T, F, L)) (fun I' => Q 1 (I', J, T, F, L))
def L_worst (I : HI) (J : HJ) (T F : HR) (L : HL) (x1 : Int32) (ro : Nat) (Q : Int32 → HS → Prop) : Prop :=
  H_worst I T F L x1 (fun r I' => Q 0 (I', up2 J ro 0 (Int32.toInt64 r), T, F, L)) (fun I' => Q 1 (I', J, T, F, L))
def L_idle (I : HI) (J : HJ) (T F : HR) (L : HL) (x1 : Int32) (ro : Nat) (Q : Int32 → HS → Prop) : Prop :=
  H_idle I T F L x1 (fun r I' => Q 0 (I', up2 J ro 0 (Int32.toInt64 r), T, F, L)) (fun I' => Q 1 (I', J, T, F, L))
def L_otherwise (I : HI) (J : HJ) (T F : HR) (L : HL) (x1 : Int32) (x2 : Int32) (ro : Nat) (Q : Int32 → HS → Prop) : Prop :=
  H_otherwise I T F L x1 x2 (fun r I' T' => Q 0 (I', up2 J ro 0 (Int32.toInt64 r), T', F, L)) (fun I' T' => Q 1 (I', J, T', F, L))
def L_search (I : HI) (J : HJ) (T F : HR) (L : HL) (x1 : Int32) (ro : Nat) (Q : Int32 → HS → Prop) : Prop :=
  H_search I T L x1 (fun r I' T' => Q 0 (I', up2 J ro 0 (Int32.toInt64 r), T', F, L)) (fun I' T' => Q 1 (I', J, T', F, L))
def L_sums (I : HI) (J : HJ) (T F : HR) (L : HL) (ro : Nat) (Q : Int32 → HS → Prop) : Prop :=
  H_sums I T L (fun r I' T' => Q 0 (I', up2 J ro 0 (Int32.toInt64 r), T', F, L)) (fun I' T' => Q 1 (I', J, T', F, L))
def L_constant (I : HI) (J : HJ) (T F : HR) (L : HL) (x1 : Int32) (ro : Nat) (Q : Int32 → HS → Prop) : Prop :=
  H_constant I x1 (fun r  => Q 0 (I, up2 J ro 0 (Int32.toInt64 r), T, F, L)) (Q 1 (I, J, T, F, L))
def L_given (I : HI) (J : HJ) (T F : HR) (L : HL) (x1 : Int32) (ro : Nat) (Q : Int32 → HS → Prop) : Prop :=
  H_given I x1 (fun r  => Q 0 (I, up2 J ro 0 (Int32.toInt64 r), T, F, L)) (Q 1 (I, J, T, F, L))
def L_mend (I : HI) (J : HJ) (T F : HR) (L : HL) (x1 : Int32) (ro : Nat) (Q : Int32 → HS → Prop) : Prop :=
  H_mend I T F L x1 (fun r I' => Q 0 (I', up2 J ro 0 (Int32.toInt64 r), T, F, L)) (fun I' => Q 1 (I', J, T, F, L))
def L_count (I : HI) (J : HJ) (T F : HR) (L : HL) (x1 : Int32) (ro : Nat) (Q : Int32 → HS → Prop) : Prop :=
  H_count I T x1 (fun r  => Q 0 (I, up2 J ro 0 (Int32.toInt64 r), T, F, L)) (Q 1 (I, J, T, F, L))
