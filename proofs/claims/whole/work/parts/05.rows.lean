section HM2
variable {p : Program} {l : Launch} {e : Env} {R : Room} {s : State} {m : MethodId} {args : Array Value} {below : List Frame} {meth : Method} {c : Code} {H : Heap} {locs : List Loc} {cells slots : Nat} {Q : State → Prop}
variable {cc : ByteArray} {pc nL : Nat} {ls : Array Slot} {rest : List Value} {D : va_G} {cA : Nat → ClassId} {z : Nat} {I : HI} {J : HJ} {T F : HR} {L : HL} {A : Nat → Prop} {own : String} {Ev : HE}
theorem hm_putl (X : hX p m c s args own cc nL) (w : hW D cA z Ev (I, J, T, F, L) A s H locs) {index ci k a n : Nat} {v : Int64} (hf : hF own index ci k 3 false .long) (hs : (a, ci + 7, n) ∈ L) (hdg : decode cc pc = .ok (.putfield index, 3))
    (kk : ∀ (H : Heap) (locs : List Loc), hW D cA z Ev (I, up2 J a k v, T, F, L) A s H locs → W p l e R s m args below meth c H locs cells slots Q (F0 m (pc + 3) ls rest)) : W p l e R s m args below meth c H locs cells slots Q (F0 m pc ls (.long v :: .ref (z + a) :: rest)) := by
  obtain ⟨hx, hb, hml, hown, hts⟩ := X
  obtain ⟨hK, hP, hD, hS, hA, hEv⟩ := w
  obtain ⟨C, TT, N, ty0, hc, hin, hk, ht, hl, h1, h2, h3, h4, h5⟩ := hf
  obtain ⟨i, hi⟩ := List.getElem?_of_mem hs
  have hset : (hws cA z (I, J, T, F, L)).set i (z + a, .inr (ci, (hc_fs z F I J ci a).set k (.long v))) = hws cA z (I, up2 J a k v, T, F, L) := by
    rw [hc_fs_set (I' := I) (J' := up2 J a k v) (F' := F) ht (by simp [hc_v, up2]) (fun j hj => ⟨rfl, by simp [up2, hj], rfl⟩)]
    exact hws_set (S := (I, J, T, F, L)) (S' := (I, up2 J a k v, T, F, L)) rfl hD hi (fun b hb => ⟨rfl, up2_ne _ _ _ hb, rfl, rfl⟩)
  refine va_put (ci := ci) (fs := hc_fs z F I J ci a) hx hb hts hin ty0 h1 h2 hown hK hP hD hS i (hws_get (S := (I, J, T, F, L)) hi) hc k hk (hts _ hl) (fun _ h => h) h3 (v := .long v) (ty := .long) (by rw [h1 k hk, h4]) rfl rfl (hc_fs_len ht) hdg (fun H1 locs1 g1 g2 g3 => ?_)
  rw [hset] at g1 g2
  exact kk H1 locs1 ⟨hK, g1, g2, g3, hA, hEv⟩
theorem hm_bald (X : hX p m c s args own cc nL) (w : hW D cA z Ev (I, J, T, F, L) A s H locs) {a n : Nat} {i : Int32} (hs : (a, 1, n) ∈ L) (hin : vp_in i n) (hdg : decode cc pc = .ok (.baload, 1))
    (kk : W p l e R s m args below meth c H locs cells slots Q (F0 m (pc + 1) ls (.int (I a i.toNatClampNeg) :: rest))) : W p l e R s m args below meth c H locs cells slots Q (F0 m pc ls (.int i :: .ref (z + a) :: rest)) := by
  obtain ⟨q, hi⟩ := List.getElem?_of_mem hs
  exact va_bald X.1 X.2.1 w.1 w.2.1 q 1 (hws_get (S := (I, J, T, F, L)) hi) rfl hin hdg kk
theorem hm_sald (X : hX p m c s args own cc nL) (w : hW D cA z Ev (I, J, T, F, L) A s H locs) {a n : Nat} {i : Int32} (hs : (a, 2, n) ∈ L) (hin : vp_in i n) (hdg : decode cc pc = .ok (.saload, 1))
    (kk : W p l e R s m args below meth c H locs cells slots Q (F0 m (pc + 1) ls (.int (I a i.toNatClampNeg) :: rest))) : W p l e R s m args below meth c H locs cells slots Q (F0 m pc ls (.int i :: .ref (z + a) :: rest)) := by
  obtain ⟨q, hi⟩ := List.getElem?_of_mem hs
  exact va_sald X.1 X.2.1 w.1 w.2.1 q 2 (hws_get (S := (I, J, T, F, L)) hi) rfl hin hdg kk
theorem hm_zald (X : hX p m c s args own cc nL) (w : hW D cA z Ev (I, J, T, F, L) A s H locs) {a n : Nat} {i : Int32} (hs : (a, 3, n) ∈ L) (hin : vp_in i n) (hdg : decode cc pc = .ok (.baload, 1))
    (kk : W p l e R s m args below meth c H locs cells slots Q (F0 m (pc + 1) ls (.int (I a i.toNatClampNeg) :: rest))) : W p l e R s m args below meth c H locs cells slots Q (F0 m pc ls (.int i :: .ref (z + a) :: rest)) := by
  obtain ⟨q, hi⟩ := List.getElem?_of_mem hs
  exact va_zald X.1 X.2.1 w.1 w.2.1 q 3 (hws_get (S := (I, J, T, F, L)) hi) rfl hin hdg kk
theorem hm_bast (X : hX p m c s args own cc nL) (w : hW D cA z Ev (I, J, T, F, L) A s H locs) {a n : Nat} {i v : Int32} (hs : (a, 1, n) ∈ L) (hin : vp_in i n) (hdg : decode cc pc = .ok (.bastore, 1))
    (kk : ∀ (H : Heap) (locs : List Loc), hW D cA z Ev (up2 I a i.toNatClampNeg (vp_nar .byte v), J, T, F, L) A s H locs → W p l e R s m args below meth c H locs cells slots Q (F0 m (pc + 1) ls rest)) : W p l e R s m args below meth c H locs cells slots Q (F0 m pc ls (.int v :: .int i :: .ref (z + a) :: rest)) := by
  obtain ⟨q, hi⟩ := List.getElem?_of_mem hs
  have hset : (hws cA z (I, J, T, F, L)).set q (z + a, .inl (cA 1, n, .inl (upd (I a) i.toNatClampNeg (vp_nar .byte v)))) = hws cA z (up2 I a i.toNatClampNeg (vp_nar .byte v), J, T, F, L) := by
    rw [← hws_set (S := (I, J, T, F, L)) (S' := (up2 I a i.toNatClampNeg (vp_nar .byte v), J, T, F, L)) rfl w.2.2.1 hi (fun b hb => ⟨up2_ne _ _ _ hb, rfl, rfl, rfl⟩)]
    simp only [hc, hc_e, up2_at]
    rfl
  refine va_bast X.1 X.2.1 w.1 w.2.1 w.2.2.1 w.2.2.2.1 q 1 (hws_get (S := (I, J, T, F, L)) hi) rfl hin hdg (fun H1 locs1 g1 g2 g3 => ?_)
  rw [hset] at g1 g2
  exact kk H1 locs1 ⟨w.1, g1, g2, g3, w.2.2.2.2⟩
theorem hm_sast (X : hX p m c s args own cc nL) (w : hW D cA z Ev (I, J, T, F, L) A s H locs) {a n : Nat} {i v : Int32} (hs : (a, 2, n) ∈ L) (hin : vp_in i n) (hdg : decode cc pc = .ok (.sastore, 1))
    (kk : ∀ (H : Heap) (locs : List Loc), hW D cA z Ev (up2 I a i.toNatClampNeg (vp_nar .short v), J, T, F, L) A s H locs → W p l e R s m args below meth c H locs cells slots Q (F0 m (pc + 1) ls rest)) : W p l e R s m args below meth c H locs cells slots Q (F0 m pc ls (.int v :: .int i :: .ref (z + a) :: rest)) := by
  obtain ⟨q, hi⟩ := List.getElem?_of_mem hs
  have hset : (hws cA z (I, J, T, F, L)).set q (z + a, .inl (cA 2, n, .inl (upd (I a) i.toNatClampNeg (vp_nar .short v)))) = hws cA z (up2 I a i.toNatClampNeg (vp_nar .short v), J, T, F, L) := by
    rw [← hws_set (S := (I, J, T, F, L)) (S' := (up2 I a i.toNatClampNeg (vp_nar .short v), J, T, F, L)) rfl w.2.2.1 hi (fun b hb => ⟨up2_ne _ _ _ hb, rfl, rfl, rfl⟩)]
    simp only [hc, hc_e, up2_at]
    rfl
  refine va_sast X.1 X.2.1 w.1 w.2.1 w.2.2.1 w.2.2.2.1 q 2 (hws_get (S := (I, J, T, F, L)) hi) rfl hin hdg (fun H1 locs1 g1 g2 g3 => ?_)
  rw [hset] at g1 g2
  exact kk H1 locs1 ⟨w.1, g1, g2, g3, w.2.2.2.2⟩
theorem hm_zast (X : hX p m c s args own cc nL) (w : hW D cA z Ev (I, J, T, F, L) A s H locs) {a n : Nat} {i v : Int32} (hs : (a, 3, n) ∈ L) (hin : vp_in i n) (hdg : decode cc pc = .ok (.bastore, 1))
    (kk : ∀ (H : Heap) (locs : List Loc), hW D cA z Ev (up2 I a i.toNatClampNeg (vp_nar .boolean v), J, T, F, L) A s H locs → W p l e R s m args below meth c H locs cells slots Q (F0 m (pc + 1) ls rest)) : W p l e R s m args below meth c H locs cells slots Q (F0 m pc ls (.int v :: .int i :: .ref (z + a) :: rest)) := by
  obtain ⟨q, hi⟩ := List.getElem?_of_mem hs
  have hset : (hws cA z (I, J, T, F, L)).set q (z + a, .inl (cA 3, n, .inl (upd (I a) i.toNatClampNeg (vp_nar .boolean v)))) = hws cA z (up2 I a i.toNatClampNeg (vp_nar .boolean v), J, T, F, L) := by
    rw [← hws_set (S := (I, J, T, F, L)) (S' := (up2 I a i.toNatClampNeg (vp_nar .boolean v), J, T, F, L)) rfl w.2.2.1 hi (fun b hb => ⟨up2_ne _ _ _ hb, rfl, rfl, rfl⟩)]
    simp only [hc, hc_e, up2_at]
    rfl
  refine va_zast X.1 X.2.1 w.1 w.2.1 w.2.2.1 w.2.2.2.1 q 3 (hws_get (S := (I, J, T, F, L)) hi) rfl hin hdg (fun H1 locs1 g1 g2 g3 => ?_)
  rw [hset] at g1 g2
  exact kk H1 locs1 ⟨w.1, g1, g2, g3, w.2.2.2.2⟩
end HM2
def zb (v : Int32) : Prop := narrow .boolean (.int v) = .int v
theorem zb_0 : zb 0 := rfl
theorem zb_1 : zb 1 := rfl
def hA (z : Nat) (L : HL) (sz : Nat) : Nat → Prop := fun q => (∃ p ∈ L, q = z + p.1) ∨ sz ≤ q
def hPc (D : va_G) (cA : Nat → ClassId) (z : Nat) (Ev : HE) (S : HS) (sz : Nat) (av : List Value) : Array Value → State → Prop := va_Pc av (fun U => U.heap.size = sz ∧ va_P D hclasses (hws cA z S) U.heap ∧ va_K D hclasses (hty cA) U ∧ va_D (fun _ => True) (hws cA z S) ∧ Ev (hA z S.2.2.2.2 sz) U)
def hB (D : va_G) (cA : Nat → ClassId) (z : Nat) (A : Nat → Prop) (u : HS) (t : State) : Prop := va_P D hclasses (hws cA z u) t.heap ∧ va_K D hclasses (hty cA) t ∧ va_D A (hws cA z u)
/-- what the facts beside the world must bear: calls, and a heap that has changed within A alone -/
def hCl (Ev : HE) : Prop := (∀ (A A' : Nat → Prop) (s U : State) (locs : List Loc), Ev A s → va_S A s.heap U.heap locs → s.WarmedH U.vm → (∀ q, A' q → A q) → Ev A' U) ∧ ∀ (A : Nat → Prop) (U : State) (g : JFrame) (mk : MethodId) (a : Array Value), Ev A U → Ev A (U.calling g mk a)
theorem hCl_true : hCl (fun _ _ => True) := ⟨fun _ _ _ _ _ _ _ _ _ => trivial, fun _ _ _ _ _ _ => trivial⟩
theorem hPc_blind {D : va_G} {cA : Nat → ClassId} {z : Nat} {Ev : HE} (hcl : hCl Ev) (S : HS) (sz : Nat) (av : List Value) : FrameBlind (hPc D cA z Ev S sz av) := by
  intro a U g mk h
  obtain ⟨h1, h2, h3, h4, h5, h6⟩ := h
  exact ⟨h1, h2, h3, va_K.moved (u := U) (U := U.calling g mk a) (Vm.Alike.refl U.vm) h4, h5, hcl.2 _ _ _ _ _ h6⟩
theorem hA_sub {cA : Nat → ClassId} {z : Nat} {S : HS} {A : Nat → Prop} {H0 H : Heap} {locs : List Loc} (hD : va_D A (hws cA z S)) (hS : va_S A H0 H locs) (hA0 : ∀ q, H0.size ≤ q → A q) : ∀ q, hA z S.2.2.2.2 H.size q → A q := by
  intro q h
  rcases h with ⟨p, hp, rfl⟩ | h
  · obtain ⟨i, hi⟩ := List.getElem?_of_mem hp
    exact hD.2 i _ (hws_get (cA := cA) (z := z) hi)
  · exact hA0 q (Nat.le_trans hS.1 h)
/-- a callee's facts: an instance method, a static one -/
def hYV (y : MethodName) (cc : ByteArray) (maxL : Nat) (ret : Option FieldType) (n : Nat) : Prop := Cond.instanceMethod y ∈ tb ∧ Cond.selects y.cls y y ∈ tb ∧ Cond.initialized y.cls ∈ tb ∧ Cond.code y cc maxL ret ∈ tb ∧ y.cls ≠ "java/lang/invoke/MethodHandle" ∧ y.cls ≠ "java/lang/invoke/VarHandle" ∧ (parseMethodDescriptor y.desc).map (fun d => d.parameters.length) = some n
def hYS (y : MethodName) (cc : ByteArray) (maxL : Nat) (ret : Option FieldType) (n : Nat) : Prop := Cond.static y ∈ tb ∧ Cond.initialized y.cls ∈ tb ∧ Cond.code y cc maxL ret ∈ tb ∧ y.cls ≠ "java/lang/invoke/MethodHandle" ∧ y.cls ≠ "java/lang/invoke/VarHandle" ∧ (parseMethodDescriptor y.desc).map (fun d => d.parameters.length) = some n
theorem tb_good {w : Cond} (h : w ∈ tb) : w ∈ tb ∧ ((w.onTables && w.keeps) = true ∨ ∃ ty, w = .arrayClass ty) := ⟨h, good_of_word (List.mem_filter.mp h).2⟩
theorem hG_tb {w : Cond} (h : w ∈ tb) : GoodIn tb (w :: tb) := fun v hv => (List.mem_cons.mp hv).elim (fun e => by rw [e]; exact tb_good h) tb_good
abbrev hws0 (y : MethodName) (cc : ByteArray) (maxL : Nat) (ret : Option FieldType) : List Cond := Cond.code y cc maxL ret :: tb
theorem hG_V {own : String} {idx : Nat} {y : MethodName} {cc : ByteArray} {maxL n : Nat} {ret : Option FieldType} (h : hYV y cc maxL ret n) (hl : Cond.methodLink own idx y ∈ tb) : GoodIn tb (wsV own idx y.cls y (hws0 y cc maxL ret)) := by
  obtain ⟨h1, h2, h3, h4, -⟩ := h
  intro w hw
  simp only [wsV, List.cons_append, List.nil_append, List.mem_cons] at hw
  rcases hw with rfl | rfl | rfl | rfl | rfl | hw
  · exact tb_good hl
  · exact tb_good h1
  · exact tb_good h2
  · exact tb_good h3
  · exact tb_good h4
  · exact tb_good hw
theorem hG_S {own : String} {idx : Nat} {y : MethodName} {cc : ByteArray} {maxL n : Nat} {ret : Option FieldType} (h : hYS y cc maxL ret n) (hl : Cond.methodLink own idx y ∈ tb) : GoodIn tb (va_wsS own idx y (hws0 y cc maxL ret)) := by
  obtain ⟨h1, h2, h4, -⟩ := h
  intro w hw
  simp only [va_wsS, List.cons_append, List.nil_append, List.mem_cons] at hw
  rcases hw with rfl | rfl | rfl | rfl | hw
  · exact tb_good hl
  · exact tb_good h1
  · exact tb_good h2
  · exact tb_good h4
  · exact tb_good hw
section HM3
variable {p : Program} {l : Launch} {e : Env} {R : Room} {s : State} {m : MethodId} {args : Array Value} {below : List Frame} {meth : Method} {c : Code} {H : Heap} {locs : List Loc} {cells slots : Nat} {Q : State → Prop}
variable {cc : ByteArray} {pc nL : Nat} {ls : Array Slot} {rest : List Value} {D : va_G} {cA : Nat → ClassId} {z : Nat} {S : HS} {A : Nat → Prop} {own : String} {Ev : HE}
/-- the world behind a call -/
theorem hW_back {u : HS} {t : State} {H1 : Heap} {locs1 : List Loc} (w : hW D cA z Ev S A s H locs) (ht : t.heap = H1) (hvm : s.vm.Alike t.vm) (hb : hB D cA z (hA z S.2.2.2.2 H.size) u t) (hS : va_S A s.heap H1 locs1) : hW D cA z Ev u A s H1 locs1 := by
  subst ht
  exact ⟨w.1, hb.1, hb.2.2.weaken (fun _ _ _ h => hA_sub w.2.2.1 w.2.2.2.1 w.2.2.2.2.1 _ h), hS, w.2.2.2.2⟩
theorem hW_pre (hcl : hCl Ev) (w : hW D cA z Ev S A s H locs) (av : List Value) : FrameBlind (hPc D cA z Ev S H.size av) ∧ ∀ U : State, U.heap = H → s.WarmedH U.vm → hPc D cA z Ev S H.size av av.toArray U := by
  refine ⟨hPc_blind hcl _ _ _, fun U hU hW => ⟨rfl, by rw [hU], by rw [hU]; exact w.2.1, va_K.moved hW.alike w.1, w.2.2.1.weaken (fun _ _ _ _ => trivial), ?_⟩⟩
  exact hcl.1 A _ s U locs w.2.2.2.2.2 (by rw [hU]; exact w.2.2.2.1) hW (hA_sub w.2.2.1 w.2.2.2.1 w.2.2.2.2.1)
theorem hW_recv (w : hW D cA z Ev S A s H locs) {b ci n : Nat} {C : String} {TT : u_T} {N : Nat} (hc : hclasses[ci]? = some (C, TT, N)) (hs : (b, ci + 7, n) ∈ S.2.2.2.2) : ∃ cellB : Cell, H[z + b]? = some cellB ∧ cellB.vm.isStatics = false ∧ s.vm.findClass C = some cellB.cls := by
  obtain ⟨i, hi⟩ := List.getElem?_of_mem hs
  exact va_recv w.1 w.2.1 hc (hws_get (cA := cA) (z := z) hi)
variable {y : MethodName} {ccY : ByteArray} {maxL idx n mc ms b ci k9 : Nat} {ret : Option FieldType} {rm : Room} {As st0 : List Value}
theorem hm_runV {Qc : Array Value → State → Outcome → State → Prop} {free : Addr → Prop} (hcl : hCl Ev) (X : hX p m c s args own cc nL) (w : hW D cA z Ev S A s H locs) (hM : Met l y (hws0 y ccY maxL ret) rm (hPc D cA z Ev S H.size (.ref (z + b) :: As)) Qc mc ms free)
    (hy : hYV y ccY maxL ret n) (hl : Cond.methodLink own idx y ∈ tb) {TT : u_T} {N : Nat} (hc : hclasses[ci]? = some (y.cls, TT, N)) (hs : (b, ci + 7, k9) ∈ S.2.2.2.2) (hn : As.length = n) (hsize : ls.size = nL) (hst : st0 = As.reverse ++ .ref (z + b) :: rest) (hrc : rm.cells = mc) (hrs : rm.slots = ms)
    (hr8 : (rest.map fun v => v.category).sum ≤ 8) (hR : rm.frames + 1 ≤ R.frames ∧ 8 + (maxL + 11) + rm.locals ≤ R.locals) (hf : cells + mc ≤ R.cells ∧ slots + ms ≤ R.slots) (hdg : decode cc pc = .ok (.invokevirtual idx, 3)) :
    va_Run p l e R s m args below meth c H locs cells slots mc ms (F0 m pc ls st0) rest (Qc (Value.ref (z + b) :: As).toArray) free := by
  have hp := hW_pre hcl w (.ref (z + b) :: As)
  exact va_runV (C := y.cls) X hM (cwV n X.2.2.2.2 (hG_V hy hl) rfl hrc hrs ⟨rfl, hy.2.2.2.2.1, hy.2.2.2.2.2.1, hy.2.2.2.2.2.2⟩ hR) ⟨hp.1, hW_recv w hc hs, hp.2⟩ rfl hn hsize hst (lv_room hr8) hdg hf
theorem hm_runS {Qc : Array Value → State → Outcome → State → Prop} {free : Addr → Prop} (hcl : hCl Ev) (X : hX p m c s args own cc nL) (w : hW D cA z Ev S A s H locs) (hM : Met l y (hws0 y ccY maxL ret) rm (hPc D cA z Ev S H.size As) Qc mc ms free)
    (hy : hYS y ccY maxL ret n) (hl : Cond.methodLink own idx y ∈ tb) (hn : As.length = n) (hsize : ls.size = nL) (hst : st0 = As.reverse ++ rest) (hrc : rm.cells = mc) (hrs : rm.slots = ms)
    (hr8 : (rest.map fun v => v.category).sum ≤ 8) (hR : rm.frames + 1 ≤ R.frames ∧ 8 + (maxL + 11) + rm.locals ≤ R.locals) (hf : cells + mc ≤ R.cells ∧ slots + ms ≤ R.slots) (hdg : decode cc pc = .ok (.invokestatic idx, 3)) :
    va_Run p l e R s m args below meth c H locs cells slots mc ms (F0 m pc ls st0) rest (Qc As.toArray) free := by
  have hp := hW_pre hcl w As
  exact va_runS X hM (va_cwS n X.2.2.2.2 (hG_S hy hl) rfl hrc hrs ⟨hy.2.2.2.1, hy.2.2.2.2.1, hy.2.2.2.2.2⟩ hR) ⟨hp.1, hp.2⟩ rfl hn hsize hst (lv_room hr8) hdg hf
theorem hm_calli {post : Int32 → HS → Prop} {a : Array Value} (w : hW D cA z Ev S A s H locs) (hr : va_Run p l e R s m args below meth c H locs cells slots 0 0 (F0 m pc ls st0) rest (va_Qi post (hB D cA z (hA z S.2.2.2.2 H.size)) (hA z S.2.2.2.2 H.size) a) (hA z S.2.2.2.2 H.size))
    (kk : ∀ (r : Int32) (u : HS) (H : Heap) (locs : List Loc), post r u → hW D cA z Ev u A s H locs → W p l e R s m args below meth c H locs cells slots Q (F0 m (pc + 3) ls (.int r :: rest))) : W p l e R s m args below meth c H locs cells slots Q (F0 m pc ls st0) :=
  va_calli hr w.2.2.2.1 (fun q _ h => hA_sub w.2.2.1 w.2.2.2.1 w.2.2.2.2.1 q h) (hA_sub w.2.2.1 w.2.2.2.1 w.2.2.2.2.1) (fun r u t H1 locs1 ht hvm hp hb _ _ hS => kk r u H1 locs1 hp (hW_back w ht hvm hb hS))
theorem hm_calll {post : Int64 → HS → Prop} {a : Array Value} (w : hW D cA z Ev S A s H locs) (hr : va_Run p l e R s m args below meth c H locs cells slots 0 0 (F0 m pc ls st0) rest (va_Ql post (hB D cA z (hA z S.2.2.2.2 H.size)) (hA z S.2.2.2.2 H.size) a) (hA z S.2.2.2.2 H.size))
    (kk : ∀ (r : Int64) (u : HS) (H : Heap) (locs : List Loc), post r u → hW D cA z Ev u A s H locs → W p l e R s m args below meth c H locs cells slots Q (F0 m (pc + 3) ls (.long r :: rest))) : W p l e R s m args below meth c H locs cells slots Q (F0 m pc ls st0) :=
  va_calll hr w.2.2.2.1 (fun q _ h => hA_sub w.2.2.1 w.2.2.2.1 w.2.2.2.2.1 q h) (hA_sub w.2.2.1 w.2.2.2.1 w.2.2.2.2.1) (fun r u t H1 locs1 ht hvm hp hb _ _ hS => kk r u H1 locs1 hp (hW_back w ht hvm hb hS))
theorem hm_callv {post : HS → Prop} {a : Array Value} (w : hW D cA z Ev S A s H locs) (hr : va_Run p l e R s m args below meth c H locs cells slots 0 0 (F0 m pc ls st0) rest (va_Qv post (hB D cA z (hA z S.2.2.2.2 H.size)) (hA z S.2.2.2.2 H.size) a) (hA z S.2.2.2.2 H.size))
    (kk : ∀ (u : HS) (H : Heap) (locs : List Loc), post u → hW D cA z Ev u A s H locs → W p l e R s m args below meth c H locs cells slots Q (F0 m (pc + 3) ls rest)) : W p l e R s m args below meth c H locs cells slots Q (F0 m pc ls st0) :=
  va_callv hr w.2.2.2.1 (fun q _ h => hA_sub w.2.2.1 w.2.2.2.1 w.2.2.2.2.1 q h) (hA_sub w.2.2.1 w.2.2.2.1 w.2.2.2.2.1) (fun u t H1 locs1 ht hvm hp hb _ _ hS => kk u H1 locs1 hp (hW_back w ht hvm hb hS))
theorem hm_iret {post : Int32 → HS → Prop} {v : Int32} (X : hX p m c s args own cc nL) (hr : meth.sig.returnType = some .int) (hlk : meth.locks = false) (w : hW D cA z Ev S A s H locs) (h : post v S) (hdg : decode cc pc = .ok (.ireturn, 1)) :
    W p l e R s m args below meth c H locs cells slots (MQ below (va_Qi post (hB D cA z A) A) args s cells slots A) (F0 m pc ls [.int v]) :=
  W.iret X.1 X.2.1 hr (fun t ht hW => ⟨⟨v, S, rfl, h, by rw [ht]; exact w.2.1, va_K.moved hW.alike w.1, w.2.2.1⟩, w.2.2.2.1.F ht⟩) (w.2.2.2.1.2.2) hdg hlk
theorem hm_zret {post : Int32 → HS → Prop} {v : Int32} (X : hX p m c s args own cc nL) (hr : meth.sig.returnType = some .boolean) (hlk : meth.locks = false) (w : hW D cA z Ev S A s H locs) (hz : zb v) (h : post v S) (hdg : decode cc pc = .ok (.ireturn, 1)) :
    W p l e R s m args below meth c H locs cells slots (MQ below (va_Qi post (hB D cA z A) A) args s cells slots A) (F0 m pc ls [.int v]) :=
  W.zret X.1 X.2.1 hr hz (fun t ht hW => ⟨⟨v, S, rfl, h, by rw [ht]; exact w.2.1, va_K.moved hW.alike w.1, w.2.2.1⟩, w.2.2.2.1.F ht⟩) (w.2.2.2.1.2.2) hdg hlk
theorem hm_lret {post : Int64 → HS → Prop} {v : Int64} (X : hX p m c s args own cc nL) (hr : meth.sig.returnType = some .long) (hlk : meth.locks = false) (w : hW D cA z Ev S A s H locs) (h : post v S) (hdg : decode cc pc = .ok (.lreturn, 1)) :
    W p l e R s m args below meth c H locs cells slots (MQ below (va_Ql post (hB D cA z A) A) args s cells slots A) (F0 m pc ls [.long v]) :=
  W.lret X.1 X.2.1 hr (fun t ht hW => ⟨⟨v, S, rfl, h, by rw [ht]; exact w.2.1, va_K.moved hW.alike w.1, w.2.2.1⟩, w.2.2.2.1.F ht⟩) (w.2.2.2.1.2.2) hdg hlk
theorem hm_vret {post : HS → Prop} (X : hX p m c s args own cc nL) (hr : meth.sig.returnType = none) (hlk : meth.locks = false) (w : hW D cA z Ev S A s H locs) (h : post S) (hdg : decode cc pc = .ok (.return_, 1)) :
    W p l e R s m args below meth c H locs cells slots (MQ below (va_Qv post (hB D cA z A) A) args s cells slots A) (F0 m pc ls []) :=
  W.vret X.1 X.2.1 hr (fun t ht hW => ⟨⟨S, rfl, h, by rw [ht]; exact w.2.1, va_K.moved hW.alike w.1, w.2.2.1⟩, w.2.2.2.1.F ht⟩) (w.2.2.2.1.2.2) hdg hlk
end HM3
theorem hm_met {l : Launch} {y : MethodName} {cc : ByteArray} {maxL sz mc ms : Nat} {ret : Option FieldType} {rm : Room} {D : va_G} {cA : Nat → ClassId} {z : Nat} {Ev : HE} (S : HS) (av : List Value) {Qc : Array Value → State → Outcome → State → Prop} {A : Nat → Prop} (hAe : A = hA z S.2.2.2.2 sz) (hpl : plainName y.cls = true) (hlen : (lg_sl av).length ≤ maxL)
    (body : ∀ (p : Program) (e : Env) (s : State) (m : MethodId) (below : List Frame) (meth : Method) (c : Code) (ls : Array Slot), hX p m c s av.toArray y.cls cc maxL → meth.sig.returnType = ret → meth.locks = false → meth.name = y.name → c.exceptionTable.isEmpty = true → s.heap.size = sz → hW D cA z Ev S A s s.heap [] → lv_has ls maxL (lv_args 0 av) →
      W p l e rm s m av.toArray below meth c s.heap [] 0 0 (MQ below Qc av.toArray s mc ms A) (F0 m 0 ls [])) : Met l y (hws0 y cc maxL ret) rm (hPc D cA z Ev S sz av) Qc mc ms A := by
  subst hAe
  refine Met.ofW (cc := cc) (maxL := maxL) (ret := ret) hpl rfl ?_
  intro p e s m args below meth c s₁ B hml hv
  obtain ⟨rfl, hsz, hP, hK, hD0, hE⟩ := hv
  subst hsz
  have hts := atoms_spec (ws := hws0 y cc maxL ret) B.pre
  have hl := lv_entry av (n := maxL) hlen
  rw [lg_entry_eq]
  generalize (lg_sl av ++ List.replicate (maxL - (lg_sl av).length) Slot.unset).toArray = ls at hl ⊢
  refine body p e s m below meth c ls ⟨B.exec, B.bytes, hml, findClass_of_methodNamed B.named, fun w hw => hts w (List.mem_cons_of_mem _ hw)⟩ B.returns B.notSynchronized (name_of_methodNamed B.named B.method).1 (B.noHandlers (hts _ List.mem_cons_self)) rfl ⟨hK, hP, ⟨hD0.1, fun k q hq => ?_⟩, va_S.rf, fun q h => Or.inr h, hE⟩ hl
  obtain ⟨pp, hp1, rfl⟩ := hws_of hq
  exact Or.inl ⟨pp, List.mem_of_getElem? hp1, rfl⟩
