/-- the geometry has grown: what lay there lies there, with the same references in its fields -/
def Ext (F : HR) (L : HL) (F' : HR) (L' : HL) : Prop := (∀ p ∈ L, p ∈ L') ∧ ∀ p ∈ L, F' p.1 = F p.1
theorem Ext.rf {F : HR} {L : HL} : Ext F L F L := ⟨fun _ h => h, fun _ _ => rfl⟩
theorem Ext.trans {F F1 F2 : HR} {L L1 L2 : HL} (h : Ext F L F1 L1) (g : Ext F1 L1 F2 L2) : Ext F L F2 L2 := ⟨fun p hp => g.1 p (h.1 p hp), fun p hp => (g.2 p (h.1 p hp)).trans (h.2 p hp)⟩
theorem Ext.app {F : HR} {L : HL} (l2 : HL) : Ext F L F (L ++ l2) := ⟨fun _ h => List.mem_append_left _ h, fun _ _ => rfl⟩
theorem Ext.up1 {F : HR} {L : HL} {q : Nat} (g : Nat → Option Nat) (l2 : HL) (hf : ∀ p ∈ L, p.1 < q) : Ext F L (up1 F q g) (L ++ l2) := ⟨fun _ h => List.mem_append_left _ h, fun p hp => up1_ne _ _ (Nat.ne_of_lt (hf p hp))⟩
theorem geo_ext {F F' : HR} {L L' : HL} (e : Ext F L F' L') (h : Geo F L) : Geo F' L' := by
  refine ⟨fun p hp => e.1 p (h.1 p hp), fun q hq => ?_⟩
  have hk : ∀ q ∈ FC0, ∃ k ∈ LC0, k.1 = q.1 := by decide
  obtain ⟨k, hk1, hk2⟩ := hk q hq
  have := e.2 k (h.1 k hk1)
  rw [hk2] at this
  rw [this]
  exact h.2 q hq
theorem net_ext {F F' : HR} {L L' : HL} {r : Nat} (e : Ext F L F' L') (h : NetSh F L r) : NetSh F' L' r := by
  have h0 := e.2 _ h.1
  dsimp only at h0
  unfold NetSh at h ⊢
  rw [h0]
  obtain ⟨a0, a1, a2, a3, a4, a5, a6, a7, a8, a9, a10, a11, a12, a13, a14, a15, a16⟩ := h
  exact ⟨e.1 _ a0, a1, e.1 _ a2, a3, e.1 _ a4, a5, e.1 _ a6, a7, e.1 _ a8, a9, e.1 _ a10, a11, e.1 _ a12, a13, e.1 _ a14, a15, e.1 _ a16⟩
theorem frm_ext {F F' : HR} {L L' : HL} {f n k l q v : Nat} (e : Ext F L F' L') (h : FrmSh F L f n k l q v) : FrmSh F' L' f n k l q v := by
  have h0 := e.2 _ h.1
  dsimp only at h0
  unfold FrmSh at h ⊢
  rw [h0]
  obtain ⟨a0, a1, a2, a3, a4, a5, a6, a7, a8⟩ := h
  exact ⟨e.1 _ a0, a1, e.1 _ a2, a3, e.1 _ a4, a5, e.1 _ a6, a7, e.1 _ a8⟩
def pA {α : Type} (J : HJ) (F : HR) (L : HL) (Q : α → HI → HR → HR → HL → Prop) : α → HS → Prop := fun r u => ∃ I T F' L', u = (I, J, T, F', L') ∧ Ext F L F' L' ∧ Q r I T F' L'
def pAv (J : HJ) (F : HR) (L : HL) (Q : HI → HR → HR → HL → Prop) : HS → Prop := fun u => ∃ I T F' L', u = (I, J, T, F', L') ∧ Ext F L F' L' ∧ Q I T F' L'
/-- what a method owes that answers a reference of the region -/
def hQr (D : va_G) (cA : Nat → ClassId) (z : Nat) (post : Nat → HS → Prop) (A1 A : Nat → Prop) : Array Value → State → Outcome → State → Prop := va_Qr (S := HS × Nat) (fun u => post u.2 u.1) (fun u a t => hB D cA z A1 u.1 t ∧ a = z + u.2) A
/-- a class without longs that is made -/
def hN2 (own : String) (idx ci N : Nat) : Prop := ∃ (C : String) (TT : u_T) (ty0 : Nat → FieldType), hclasses[ci]? = some (C, TT, N) ∧ (∀ w ∈ u_ws C TT N, w ∈ tb) ∧ (∀ k, k < N → parseFieldDescriptor (TT k).2.2.1 = some (ty0 k)) ∧ Cond.classLink own idx C ∈ tb ∧ Cond.instantiable C N ∈ tb ∧ Cond.initialized C ∈ tb ∧
  ∀ j, j < N → ((hft ci)[j]? = some 0 ∧ defaultValue (ty0 j) = .int 0) ∨ ((hft ci)[j]? = some 1 ∧ defaultValue (ty0 j) = .null)
section HMB
variable {p : Program} {l : Launch} {e : Env} {R : Room} {s : State} {m : MethodId} {args : Array Value} {below : List Frame} {meth : Method} {c : Code} {H : Heap} {locs : List Loc} {cells slots mc ms : Nat} {Q : State → Prop}
variable {cc : ByteArray} {pc nL : Nat} {ls : Array Slot} {rest st0 : List Value} {D : va_G} {cA : Nat → ClassId} {z : Nat} {I : HI} {J : HJ} {T F : HR} {L : HL} {S : HS} {A : Nat → Prop} {own : String} {Ev : HE}
theorem hm_newC (X : hX p m c s args own cc nL) (w : hW D cA z Ev (I, J, T, F, L) A s H locs) {idx ci N q : Nat} (ho : hN2 own idx ci N) (hq : H.size = z + q) (hcells : cells + 1 ≤ R.cells) (hslots : slots + N ≤ R.slots) (hdg : decode cc pc = .ok (.new idx, 3))
    (kk : ∀ (H : Heap), H.size = z + (q + 1) → hW D cA z Ev (up1 I q (fun _ => 0), J, T, up1 F q (fun _ => none), L ++ [(q, ci + 7, 0)]) A s H locs → W p l e R s m args below meth c H locs (cells + 1) (slots + N) Q (F0 m (pc + 3) ls (.ref (z + q) :: rest))) : W p l e R s m args below meth c H locs cells slots Q (F0 m pc ls rest) := by
  obtain ⟨hx, hb, hml, hown, hts⟩ := X
  obtain ⟨C, TT, ty0, hc, hin, hty, h1, h2, h3, h4⟩ := ho
  have hKn := w.1.1 ci _ hc
  refine W.newcK hx hb hown (hts _ h1) (hts _ h2) (hts _ h3) rfl hdg hcells hslots hKn.2.1 hq fun H1 kC hkC e1 z1 o1 => ?_
  refine kk H1 (by rw [z1]; omega) (hW_grow w (S' := (up1 I q (fun _ => 0), J, T, up1 F q (fun _ => none), L ++ [(q, ci + 7, 0)])) rfl hq (fun b hb => ⟨up1_ne _ _ hb, rfl, rfl, up1_ne _ _ hb⟩) (by rw [z1, hq]) (by rw [hq]; exact o1) ?_)
  refine ⟨_, hc, (u_born ty0 hts hin hKn hkC e1 hty).to (fun j hj => ?_)⟩
  show _ = vp_V (hc_fs z (up1 F q fun _ => none) (up1 I q fun _ => 0) J ci q) j
  unfold vp_V
  rcases h4 j hj with ⟨g1, g2⟩ | ⟨g1, g2⟩
  · rw [List.getD_eq_getElem?_getD, hc_fs_get g1, g2]; simp [hc_v, up1]
  · rw [List.getD_eq_getElem?_getD, hc_fs_get g1, g2]; simp [hc_v, up1, va_rf]
theorem hm_obj (X : hX p m c s args own cc nL) {idx b : Nat} (hl : Cond.methodLink own idx Lib.objectInit ∈ tb) (hsize : ls.size = nL) (hR : 1 ≤ R.frames ∧ (rest.map fun v => v.category).sum + 12 ≤ R.locals) (hdg : decode cc pc = .ok (.invokespecial idx, 3))
    (kk : W p l e R s m args below meth c H locs cells slots Q (F0 m (pc + 3) ls rest)) : W p l e R s m args below meth c H locs cells slots Q (F0 m pc ls (.ref (z + b) :: rest)) :=
  W.objInit X.1 X.2.1 X.2.2.2.1 (X.2.2.2.2 _ hl) (X.2.2.2.2 _ kw132) (X.2.2.2.2 _ kw133) rfl (by rw [X.2.2.1]; exact hsize) rfl hdg hR.1 (by show 2 * 0 + _ + 12 ≤ _; omega) kk
variable {y : MethodName} {ccY : ByteArray} {maxL idx n b k9 : Nat} {ret : Option FieldType} {rm : Room} {As : List Value}
/-- a constructor's facts -/
def hYI (y : MethodName) (cc : ByteArray) (maxL n : Nat) : Prop := Cond.instanceMethod y ∈ tb ∧ Cond.initialized y.cls ∈ tb ∧ Cond.code y cc maxL none ∈ tb ∧ y.name = "<init>" ∧ y.cls ≠ "java/lang/invoke/MethodHandle" ∧ y.cls ≠ "java/lang/invoke/VarHandle" ∧ (parseMethodDescriptor y.desc).map (fun d => d.parameters.length) = some n
theorem hm_runI {Qc : Array Value → State → Outcome → State → Prop} {free : Addr → Prop} (hcl : hCl Ev) (X : hX p m c s args own cc nL) (w : hW D cA z Ev S A s H locs) (hM : Met l y (hws0 y ccY maxL none) rm (hPc D cA z Ev S H.size (.ref (z + b) :: As)) Qc mc ms free)
    (hy : hYI y ccY maxL n) (hl : Cond.methodLink own idx y ∈ tb) (hn : As.length = n) (hsize : ls.size = nL) (hst : st0 = As.reverse ++ .ref (z + b) :: rest) (hrc : rm.cells = mc) (hrs : rm.slots = ms)
    (hr8 : (rest.map fun v => v.category).sum ≤ 8) (hR : rm.frames + 1 ≤ R.frames ∧ 8 + (maxL + 11) + rm.locals ≤ R.locals) (hf : cells + mc ≤ R.cells ∧ slots + ms ≤ R.slots) (hdg : decode cc pc = .ok (.invokespecial idx, 3)) :
    va_Run p l e R s m args below meth c H locs cells slots mc ms (F0 m pc ls st0) rest (Qc (Value.ref (z + b) :: As).toArray) free := by
  have hp := hW_pre hcl w (.ref (z + b) :: As)
  exact va_runI X hM (cwI n X.2.2.2.2 (hG_tb hy.2.2.1) rfl hrc hrs (X.2.2.2.2 _ hy.2.1) (X.2.2.2.2 _ hl) (X.2.2.2.2 _ hy.1) hy.2.2.2.1 ⟨hy.2.2.2.2.1, hy.2.2.2.2.2.1, hy.2.2.2.2.2.2⟩ hR) ⟨hp.1, hp.2⟩ rfl hn hsize hst (lv_room hr8) hdg hf
theorem hm_runIN {Qc : Array Value → State → Outcome → State → Prop} {free : Addr → Prop} {host : String} (hcl : hCl Ev) (X : hX p m c s args own cc nL) (w : hW D cA z Ev S A s H locs) (hM : Met l y (hws0 y ccY maxL none) rm (hPc D cA z Ev S H.size (.ref (z + b) :: As)) Qc mc ms free)
    (hy : hYI y ccY maxL n) (hl : va_Nw (.methodLinkNest own idx y host) s) (hn : As.length = n) (hsize : ls.size = nL) (hst : st0 = As.reverse ++ .ref (z + b) :: rest) (hrc : rm.cells = mc) (hrs : rm.slots = ms)
    (hr8 : (rest.map fun v => v.category).sum ≤ 8) (hR : rm.frames + 1 ≤ R.frames ∧ 8 + (maxL + 11) + rm.locals ≤ R.locals) (hf : cells + mc ≤ R.cells ∧ slots + ms ≤ R.slots) (hdg : decode cc pc = .ok (.invokespecial idx, 3)) :
    va_Run p l e R s m args below meth c H locs cells slots mc ms (F0 m pc ls st0) rest (Qc (Value.ref (z + b) :: As).toArray) free := by
  have hp := hW_pre hcl w (.ref (z + b) :: As)
  exact va_runIN X hM ⟨va_cnB n X.2.2.2.2 (hG_tb hy.2.2.1) rfl hrc hrs hl (X.2.2.2.2 _ hy.2.1) ⟨hy.2.2.2.2.1, hy.2.2.2.2.2.1, hy.2.2.2.2.2.2⟩ hR, hy.2.2.2.1, X.2.2.2.2 _ hy.1⟩ ⟨hp.1, hp.2⟩ rfl hn hsize hst (lv_room hr8) hdg hf
theorem hm_callvA {post : HS → Prop} {a : Array Value} (w : hW D cA z Ev S A s H locs) (hr : va_Run p l e R s m args below meth c H locs cells slots mc ms (F0 m pc ls st0) rest (va_Qv post (hB D cA z (hA z S.2.2.2.2 H.size)) (hA z S.2.2.2.2 H.size) a) (hA z S.2.2.2.2 H.size))
    (kk : ∀ (u : HS) (H : Heap) (locs : List Loc), post u → hW D cA z Ev u A s H locs → W p l e R s m args below meth c H locs (cells + mc) (slots + ms) Q (F0 m (pc + 3) ls rest)) : W p l e R s m args below meth c H locs cells slots Q (F0 m pc ls st0) :=
  va_callv hr w.2.2.2.1 (fun q _ h => hA_sub w.2.2.1 w.2.2.2.1 w.2.2.2.2.1 q h) (hA_sub w.2.2.1 w.2.2.2.1 w.2.2.2.2.1) (fun u t H1 locs1 ht hvm hp hb _ _ hS => kk u H1 locs1 hp (hW_back w ht hvm hb hS))
theorem hm_callrA {post : Nat → HS → Prop} {a : Array Value} (w : hW D cA z Ev S A s H locs) (hr : va_Run p l e R s m args below meth c H locs cells slots mc ms (F0 m pc ls st0) rest (hQr D cA z post (hA z S.2.2.2.2 H.size) (hA z S.2.2.2.2 H.size) a) (hA z S.2.2.2.2 H.size))
    (kk : ∀ (q : Nat) (u : HS) (H : Heap) (locs : List Loc), post q u → hW D cA z Ev u A s H locs → W p l e R s m args below meth c H locs (cells + mc) (slots + ms) Q (F0 m (pc + 3) ls (.ref (z + q) :: rest))) : W p l e R s m args below meth c H locs cells slots Q (F0 m pc ls st0) :=
  va_callr (S := HS × Nat) hr w.2.2.2.1 (fun q _ h => hA_sub w.2.2.1 w.2.2.2.1 w.2.2.2.2.1 q h) (hA_sub w.2.2.1 w.2.2.2.1 w.2.2.2.2.1) (fun u ra t H1 locs1 ht hvm hp hb _ _ hS => by
    obtain ⟨u1, q⟩ := u
    obtain ⟨hb1, rfl⟩ := hb
    exact kk q u1 H1 locs1 hp (hW_back w ht hvm hb1 hS))
theorem hm_aret {post : Nat → HS → Prop} {q : Nat} {rt : FieldType} (X : hX p m c s args own cc nL) (hr : meth.sig.returnType = some rt) (hrt : (∃ n, rt = .object n) ∨ ∃ t, rt = .array t) (hlk : meth.locks = false) (w : hW D cA z Ev S A s H locs) (h : post q S) (hdg : decode cc pc = .ok (.areturn, 1)) :
    W p l e R s m args below meth c H locs cells slots (MQ below (hQr D cA z post A A) args s cells slots A) (F0 m pc ls [.ref (z + q)]) :=
  W.aret X.1 X.2.1 hr hrt (Or.inr ⟨_, rfl⟩) (fun t ht hW => ⟨⟨(S, q), z + q, rfl, h, ⟨by rw [ht]; exact w.2.1, va_K.moved hW.alike w.1, w.2.2.1⟩, rfl⟩, w.2.2.2.1.F ht⟩) (w.2.2.2.1.2.2) hdg hlk
end HMB
