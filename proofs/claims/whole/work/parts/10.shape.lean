def cp2 (I : HI) (src sp dst dp n : Nat) : HI := fun b => if b = dst then va_cpy (I src) (I dst) sp dp n else I b
section HM5
variable {p : Program} {l : Launch} {e : Env} {R : Room} {s : State} {m : MethodId} {args : Array Value} {below : List Frame} {meth : Method} {c : Code} {H : Heap} {locs : List Loc} {cells slots : Nat} {Q : State → Prop}
variable {cc : ByteArray} {pc nL : Nat} {ls : Array Slot} {rest : List Value} {D : va_G} {cA : Nat → ClassId} {z : Nat} {I : HI} {J : HJ} {T F : HR} {L : HL} {A : Nat → Prop} {own : String} {Ev : HE}
theorem hm_alen0 (X : hX p m c s args own cc nL) (w : hW D cA z Ev (I, J, T, F, L) A s H locs) {a n : Nat} (hs : (a, 0, n) ∈ L) (hdg : decode cc pc = .ok (.arraylength, 1))
    (kk : W p l e R s m args below meth c H locs cells slots Q (F0 m (pc + 1) ls (.int (Int32.ofNat n) :: rest))) : W p l e R s m args below meth c H locs cells slots Q (F0 m pc ls (.ref (z + a) :: rest)) := by
  obtain ⟨q, hi⟩ := List.getElem?_of_mem hs
  exact va_alen X.1 X.2.1 w.1 w.2.1 q 0 (hws_get (S := (I, J, T, F, L)) hi) rfl rfl hdg kk
theorem hm_alen1 (X : hX p m c s args own cc nL) (w : hW D cA z Ev (I, J, T, F, L) A s H locs) {a n : Nat} (hs : (a, 1, n) ∈ L) (hdg : decode cc pc = .ok (.arraylength, 1))
    (kk : W p l e R s m args below meth c H locs cells slots Q (F0 m (pc + 1) ls (.int (Int32.ofNat n) :: rest))) : W p l e R s m args below meth c H locs cells slots Q (F0 m pc ls (.ref (z + a) :: rest)) := by
  obtain ⟨q, hi⟩ := List.getElem?_of_mem hs
  exact va_alen X.1 X.2.1 w.1 w.2.1 q 1 (hws_get (S := (I, J, T, F, L)) hi) rfl rfl hdg kk
theorem hm_aldq5 (X : hX p m c s args own cc nL) (w : hW D cA z Ev (I, J, T, F, L) A s H locs) {a n : Nat} {i : Int32} (hs : (a, 5, n) ∈ L) (hin : vp_in i n) (hdg : decode cc pc = .ok (.aaload, 1))
    (kk : W p l e R s m args below meth c H locs cells slots Q (F0 m (pc + 1) ls (va_rf ((T a i.toNatClampNeg).map (z + ·)) :: rest))) : W p l e R s m args below meth c H locs cells slots Q (F0 m pc ls (.int i :: .ref (z + a) :: rest)) := by
  obtain ⟨q, hi⟩ := List.getElem?_of_mem hs
  exact va_aldq X.1 X.2.1 w.1 w.2.1 q 5 (hws_get (S := (I, J, T, F, L)) hi) rfl hin hdg kk
theorem hm_aldq6 (X : hX p m c s args own cc nL) (w : hW D cA z Ev (I, J, T, F, L) A s H locs) {a n : Nat} {i : Int32} (hs : (a, 6, n) ∈ L) (hin : vp_in i n) (hdg : decode cc pc = .ok (.aaload, 1))
    (kk : W p l e R s m args below meth c H locs cells slots Q (F0 m (pc + 1) ls (va_rf ((T a i.toNatClampNeg).map (z + ·)) :: rest))) : W p l e R s m args below meth c H locs cells slots Q (F0 m pc ls (.int i :: .ref (z + a) :: rest)) := by
  obtain ⟨q, hi⟩ := List.getElem?_of_mem hs
  exact va_aldq X.1 X.2.1 w.1 w.2.1 q 6 (hws_get (S := (I, J, T, F, L)) hi) rfl hin hdg kk
theorem hset_T {hD : va_D A (hws cA z (I, J, T, F, L))} {q a n i : Nat} {v : Option Nat} (kd : Nat) (hk : kd = 5 ∨ kd = 6) (hi : L[q]? = some (a, kd, n)) :
    (hws cA z (I, J, T, F, L)).set q (z + a, .inl (cA kd, n, .inr (.inr (.inr (.inr (va_up (fun j => (T a j).map (z + ·)) i (v.map (z + ·)))))))) = hws cA z (I, J, up2 T a i v, F, L) := by
  rw [← hws_set (S := (I, J, T, F, L)) (S' := (I, J, up2 T a i v, F, L)) rfl hD hi (fun b hb => ⟨rfl, rfl, up2_ne _ _ _ hb, rfl⟩)]
  have e : (fun j => (up2 T a i v a j).map (z + ·)) = va_up (fun j => (T a j).map (z + ·)) i (v.map (z + ·)) := by
    funext j
    rw [up2_at]
    unfold va_up
    by_cases hj : j = i
    · simp [hj]
    · simp [hj]
  rcases hk with rfl | rfl
  · simp only [hc, hc_e, e]
  · simp only [hc, hc_e, e]
theorem hm_astq5 (X : hX p m c s args own cc nL) (w : hW D cA z Ev (I, J, T, F, L) A s H locs) {a n : Nat} {i : Int32} {v : Option Nat} (hs : (a, 5, n) ∈ L) (hv : ∀ f, v = some f → (f, 8, 0) ∈ L) (hin : vp_in i n) (hdg : decode cc pc = .ok (.aastore, 1))
    (kk : ∀ (H : Heap) (locs : List Loc), hW D cA z Ev (I, J, up2 T a i.toNatClampNeg v, F, L) A s H locs → W p l e R s m args below meth c H locs cells slots Q (F0 m (pc + 1) ls rest)) : W p l e R s m args below meth c H locs cells slots Q (F0 m pc ls (va_rf (v.map (z + ·)) :: .int i :: .ref (z + a) :: rest)) := by
  obtain ⟨q, hi⟩ := List.getElem?_of_mem hs
  have hset := hset_T (hD := w.2.2.1) (v := v) (i := i.toNatClampNeg) 5 (Or.inl rfl) hi
  cases v with
  | none =>
    refine va_astqN X.1 X.2.1 w.1 w.2.1 w.2.2.1 w.2.2.2.1 q 5 (hws_get (S := (I, J, T, F, L)) hi) rfl hin hdg (fun H1 locs1 g1 g2 g3 => ?_)
    rw [show (none : Option Nat) = (none : Option Nat).map (z + ·) from rfl, hset] at g1 g2
    exact kk H1 locs1 ⟨w.1, g1, g2, g3, w.2.2.2.2⟩
  | some f =>
    obtain ⟨qf, hif⟩ := List.getElem?_of_mem (hv f rfl)
    refine va_astq X.1 X.2.1 w.1 w.2.1 w.2.2.1 w.2.2.2.1 q 5 qf 1 (r := (RX1, TX1, 5)) (v := z + f) (hws_get (S := (I, J, T, F, L)) hi) rfl (hws_get (S := (I, J, T, F, L)) hif) rfl hin hdg (fun H1 locs1 g1 g2 g3 => ?_)
    rw [show some (z + f) = (some f).map (z + ·) from rfl, hset] at g1 g2
    exact kk H1 locs1 ⟨w.1, g1, g2, g3, w.2.2.2.2⟩
theorem hm_astq6 (X : hX p m c s args own cc nL) (w : hW D cA z Ev (I, J, T, F, L) A s H locs) {a n : Nat} {i : Int32} {v : Option Nat} (hs : (a, 6, n) ∈ L) (hv : ∀ f, v = some f → (f, 12, 0) ∈ L) (hin : vp_in i n) (hdg : decode cc pc = .ok (.aastore, 1))
    (kk : ∀ (H : Heap) (locs : List Loc), hW D cA z Ev (I, J, up2 T a i.toNatClampNeg v, F, L) A s H locs → W p l e R s m args below meth c H locs cells slots Q (F0 m (pc + 1) ls rest)) : W p l e R s m args below meth c H locs cells slots Q (F0 m pc ls (va_rf (v.map (z + ·)) :: .int i :: .ref (z + a) :: rest)) := by
  obtain ⟨q, hi⟩ := List.getElem?_of_mem hs
  have hset := hset_T (hD := w.2.2.1) (v := v) (i := i.toNatClampNeg) 6 (Or.inr rfl) hi
  cases v with
  | none =>
    refine va_astqN X.1 X.2.1 w.1 w.2.1 w.2.2.1 w.2.2.2.1 q 6 (hws_get (S := (I, J, T, F, L)) hi) rfl hin hdg (fun H1 locs1 g1 g2 g3 => ?_)
    rw [show (none : Option Nat) = (none : Option Nat).map (z + ·) from rfl, hset] at g1 g2
    exact kk H1 locs1 ⟨w.1, g1, g2, g3, w.2.2.2.2⟩
  | some f =>
    obtain ⟨qf, hif⟩ := List.getElem?_of_mem (hv f rfl)
    refine va_astq X.1 X.2.1 w.1 w.2.1 w.2.2.1 w.2.2.2.1 q 6 qf 5 (r := (RX5, TX5, 11)) (v := z + f) (hws_get (S := (I, J, T, F, L)) hi) rfl (hws_get (S := (I, J, T, F, L)) hif) rfl hin hdg (fun H1 locs1 g1 g2 g3 => ?_)
    rw [show some (z + f) = (some f).map (z + ·) from rfl, hset] at g1 g2
    exact kk H1 locs1 ⟨w.1, g1, g2, g3, w.2.2.2.2⟩
theorem hm_ifnull (hexec : p.tables.exec = Jvm.exec) (hb : c.code = cc) {v : Option Nat} {off : Int} {tgt : Nat} (hdg : decode cc pc = .ok (.ifnull off, 3)) (ht : (pc : Int) + off = (tgt : Int))
    (kt : v = none → W p l e R s m args below meth c H locs cells slots Q (F0 m tgt ls rest)) (kf : ∀ f, v = some f → W p l e R s m args below meth c H locs cells slots Q (F0 m (pc + 3) ls rest)) : W p l e R s m args below meth c H locs cells slots Q (F0 m pc ls (va_rf (v.map (z + ·)) :: rest)) := by
  cases v with
  | none => exact lv_ifnullN hexec hb hdg ht (kt rfl)
  | some f => exact lv_ifnull hexec hb hdg (kf f rfl)
theorem hm_ifnonnull (hexec : p.tables.exec = Jvm.exec) (hb : c.code = cc) {v : Option Nat} {off : Int} {tgt : Nat} (hdg : decode cc pc = .ok (.ifnonnull off, 3)) (ht : (pc : Int) + off = (tgt : Int))
    (kt : ∀ f, v = some f → W p l e R s m args below meth c H locs cells slots Q (F0 m tgt ls rest)) (kf : v = none → W p l e R s m args below meth c H locs cells slots Q (F0 m (pc + 3) ls rest)) : W p l e R s m args below meth c H locs cells slots Q (F0 m pc ls (va_rf (v.map (z + ·)) :: rest)) := by
  cases v with
  | none => exact lv_ifnonnullN hexec hb hdg (kf rfl)
  | some f => exact lv_ifnonnull hexec hb hdg ht (kt f rfl)
theorem hm_astoreq_n (hexec : p.tables.exec = Jvm.exec) (hb : c.code = cc) {k : Fin 4} {i : Nat} {v : Option Nat} {lv lv' : List (Nat × Value)} (hdg : decode cc pc = .ok (.astore_n k, 1)) (hi : (k : Nat) = i) (h : lv_has ls nL lv) (hn : i < nL) (hl : (i, va_rf (v.map (z + ·))) :: lv.filter (fun q => !(q.1 == i) && !(q.1 + 1 == i && q.2.category == 2)) = lv')
    (kk : ∀ ls' : Array Slot, lv_has ls' nL lv' → W p l e R s m args below meth c H locs cells slots Q (F0 m (pc + 1) ls' rest)) : W p l e R s m args below meth c H locs cells slots Q (F0 m pc ls (va_rf (v.map (z + ·)) :: rest)) := by
  cases v with
  | none => exact lv_astore_nN hexec hb hdg hi h hn hl kk
  | some f => exact lv_astore_n hexec hb hdg hi h hn hl kk
theorem hm_aloadq_n (hexec : p.tables.exec = Jvm.exec) (hb : c.code = cc) {k : Fin 4} {i : Nat} {v : Option Nat} (hdg : decode cc pc = .ok (.aload_n k, 1)) (hi : (k : Nat) = i) (hl : ls[i]? = some (.val (va_rf (v.map (z + ·)))))
    (kk : W p l e R s m args below meth c H locs cells slots Q (F0 m (pc + 1) ls (va_rf (v.map (z + ·)) :: rest))) : W p l e R s m args below meth c H locs cells slots Q (F0 m pc ls rest) := by
  cases v with
  | none => exact lv_aload_nN hexec hb hdg hi hl kk
  | some f => exact lv_aload_n hexec hb hdg hi hl kk
theorem look_d (d x : Int) : ∀ ps : List (Int × Int), (∀ q ∈ ps, q.1 ≠ x) → Op.lookupswitch.offset ps d x = d := by
  intro ps
  induction ps with
  | nil => intro _; rfl
  | cons q t ih =>
    intro h
    have h1 := h q List.mem_cons_self
    have h2 := ih (fun z hz => h z (List.mem_cons_of_mem _ hz))
    obtain ⟨a, b⟩ := q
    simp only [Op.lookupswitch.offset] at h2 ⊢
    simp_all
theorem hm_lookD {dflt : Int} {ps : Array (Int × Int)} {len : Nat} {x : Int32} {tgt : Nat} (sp : List Int32) (hexec : p.tables.exec = Jvm.exec) (hb : c.code = cc) (hdg : decode cc pc = .ok (.lookupswitch dflt ps, len)) (hp : (ps.toList.zip (ps.toList.drop 1)).all (fun (a, next) => a.1 < next.1) = true)
    (hall : ∀ q ∈ ps.toList, ∃ v ∈ sp, v.toInt = q.1) (hx : ∀ v ∈ sp, ¬ x = v) (ht : (pc : Int) + dflt = (tgt : Int))
    (k : W p l e R s m args below meth c H locs cells slots Q (F0 m tgt ls rest)) : W p l e R s m args below meth c H locs cells slots Q (F0 m pc ls (.int x :: rest)) := by
  refine lv_lookup hexec hb hdg hp (look_d dflt x.toInt ps.toList fun q hq e => ?_) ht k
  obtain ⟨v, hv, e1⟩ := hall q hq
  exact hx v hv (Int32.toInt_inj.mp (by rw [e1, e]))
/-- System.arraycopy of whole numbers: kind 0 or 1 -/
theorem hm_cpy (X : hX p m c s args own cc nL) (w : hW D cA z Ev (I, J, T, F, L) A s H locs) (kd : Nat) (hkd : kd = 0 ∨ kd = 1) {a b n0 n1 index : Nat} (hl : lv_wf ls ∧ ls.size = nL) (hlink : Cond.methodLink own index ⟨"java/lang/System", "arraycopy", "(Ljava/lang/Object;ILjava/lang/Object;II)V"⟩ ∈ tb) (hs : (b, kd, n0) ∈ L) (hd : (a, kd, n1) ∈ L)
    {sp dp n : Int32} (h1 : ¬ sp < 0) (h2 : ¬ dp < 0) (h3 : ¬ n < 0) (h4 : nx sp + nx n ≤ n0) (h5 : nx dp + nx n ≤ n1) (hfit : kd = 0 ∨ ∀ i, i < nx n → fits .byte (.int (I b (nx sp + i))) = true) (hR : 1 ≤ R.frames ∧ (rest.map fun v => v.category).sum + (nativeFrameWords "java/lang/System" "arraycopy" 5 + 11) ≤ R.locals) (hdg : decode cc pc = .ok (.invokestatic index, 3))
    (kk : ∀ (H : Heap) (locs : List Loc), hW D cA z Ev (cp2 I b (nx sp) a (nx dp) (nx n), J, T, F, L) A s H locs → W p l e R s m args below meth c H locs cells slots Q (F0 m (pc + 3) ls rest)) : W p l e R s m args below meth c H locs cells slots Q (F0 m pc ls (.int n :: .int dp :: .ref (z + a) :: .int sp :: .ref (z + b) :: rest)) := by
  obtain ⟨qb, hib⟩ := List.getElem?_of_mem hs
  obtain ⟨qa, hia⟩ := List.getElem?_of_mem hd
  have hnat := X.2.2.2.2 _ kw591
  have hst := X.2.2.2.2 _ kw590
  have hini := X.2.2.2.2 _ kw124
  have hset : ∀ kd, (kd = 0 ∨ kd = 1) → L[qa]? = some (a, kd, n1) → (hws cA z (I, J, T, F, L)).set qa (z + a, .inl (cA kd, n1, .inl (va_cpy (I b) (I a) (nx sp) (nx dp) (nx n)))) = hws cA z (cp2 I b (nx sp) a (nx dp) (nx n), J, T, F, L) := by
    intro kd hk hia
    rw [← hws_set (S := (I, J, T, F, L)) (S' := (cp2 I b (nx sp) a (nx dp) (nx n), J, T, F, L)) rfl w.2.2.1 hia (fun y hy => ⟨if_neg hy, rfl, rfl, rfl⟩)]
    rcases hk with rfl | rfl
    · simp only [hc, hc_e, cp2, if_true]
    · simp only [hc, hc_e, cp2, if_true]
  rcases hkd with rfl | rfl
  · refine va_copyi X.1 X.2.1 (by rw [X.2.2.1, hl.2]) X.2.2.2.1 (X.2.2.2.2 _ hlink) hnat hst hini w.1 w.2.1 w.2.2.1 w.2.2.2.1 qb qa 0 0 (hws_get (S := (I, J, T, F, L)) hib) (hws_get (S := (I, J, T, F, L)) hia) rfl rfl rfl h1 h2 h3 h4 h5 (fun i hi => rfl) hR.1 hR.2 hdg (fun H1 locs1 g1 g2 g3 => ?_)
    rw [hset 0 (Or.inl rfl) hia] at g1 g2
    exact kk H1 locs1 ⟨w.1, g1, g2, g3, w.2.2.2.2⟩
  · refine va_copyi X.1 X.2.1 (by rw [X.2.2.1, hl.2]) X.2.2.2.1 (X.2.2.2.2 _ hlink) hnat hst hini w.1 w.2.1 w.2.2.1 w.2.2.2.1 qb qa 1 1 (hws_get (S := (I, J, T, F, L)) hib) (hws_get (S := (I, J, T, F, L)) hia) rfl rfl rfl h1 h2 h3 h4 h5 (fun i hi => (hfit.resolve_left (by decide)) i hi) hR.1 hR.2 hdg (fun H1 locs1 g1 g2 g3 => ?_)
    rw [hset 1 (Or.inr rfl) hia] at g1 g2
    exact kk H1 locs1 ⟨w.1, g1, g2, g3, w.2.2.2.2⟩
end HM5
theorem hm_metF {l : Launch} {y : MethodName} {cc : ByteArray} {maxL sz mc ms : Nat} {ret : Option FieldType} {rm : Room} {D : va_G} {cA : Nat → ClassId} {z : Nat} {Ev : HE} (S : HS) (av : List Value) {Qc : Array Value → State → Outcome → State → Prop} {A : Nat → Prop} (hAe : A = hA z S.2.2.2.2 sz) (hpl : plainFor y = true) (hlen : (lg_sl av).length ≤ maxL)
    (body : ∀ (p : Program) (e : Env) (s : State) (m : MethodId) (below : List Frame) (meth : Method) (c : Code) (ls : Array Slot), hX p m c s av.toArray y.cls cc maxL → meth.sig.returnType = ret → meth.locks = false → meth.name = y.name → c.exceptionTable.isEmpty = true → s.heap.size = sz → hW D cA z Ev S A s s.heap [] → lv_has ls maxL (lv_args 0 av) →
      W p l e rm s m av.toArray below meth c s.heap [] 0 0 (MQ below Qc av.toArray s mc ms A) (F0 m 0 ls [])) : Met l y (hws0 y cc maxL ret) rm (hPc D cA z Ev S sz av) Qc mc ms A := by
  subst hAe
  refine va_MetF (cc := cc) (maxL := maxL) (ret := ret) hpl rfl ?_
  intro p e s m args below meth c s₁ B hml hv
  obtain ⟨rfl, hsz, hP, hK, hD0, hE⟩ := hv
  subst hsz
  have hts := atoms_spec (ws := hws0 y cc maxL ret) B.pre
  have hl := lv_entry av (n := maxL) hlen
  rw [lg_entry_eq]
  generalize (lg_sl av ++ List.replicate (maxL - (lg_sl av).length) Slot.unset).toArray = ls at hl ⊢
  refine body p e s m below meth c ls ⟨B.exec, B.bytes, hml, findClass_of_methodNamed B.named, fun w hw => hts w (List.mem_cons_of_mem _ hw)⟩ B.returns B.notSynchronized (name_of_methodNamed B.named B.method).1 (B.noHandlers (hts _ List.mem_cons_self)) rfl ⟨hK, hP, ⟨hD0.1, fun k q hq => ?_⟩, va_S.rf, fun q h => Or.inr h, hE⟩ hl
  obtain ⟨pp, hp1, rfl⟩ := hws_of hq
  exact Or.inl ⟨pp, List.mem_of_getElem? hp1, rfl⟩
def pT {α : Type} (I : HI) (J : HJ) (F : HR) (L : HL) (Q : α → HR → Prop) : α → HS → Prop := fun r u => ∃ T, u = (I, J, T, F, L) ∧ Q r T
def pTv (I : HI) (J : HJ) (F : HR) (L : HL) (Q : HR → Prop) : HS → Prop := fun u => ∃ T, u = (I, J, T, F, L) ∧ Q T
def pIT {α : Type} (J : HJ) (F : HR) (L : HL) (Q : α → HI → HR → Prop) : α → HS → Prop := fun r u => ∃ I T, u = (I, J, T, F, L) ∧ Q r I T
def pITv (J : HJ) (F : HR) (L : HL) (Q : HI → HR → Prop) : HS → Prop := fun u => ∃ I T, u = (I, J, T, F, L) ∧ Q I T
def LC0 : HL := [(0, 17, 0), (1, 12, 0), (2, 0, 8), (3, 0, 8), (4, 0, 8), (5, 0, 8), (6, 0, 8), (7, 5, 8), (8, 1, 8192), (9, 0, 6), (10, 12, 0), (11, 0, 8), (12, 0, 8), (13, 0, 8), (14, 0, 8), (15, 0, 8), (16, 5, 8), (17, 1, 8192), (18, 0, 6), (19, 6, 4), (20, 14, 0), (21, 0, 8), (22, 0, 8), (23, 9, 0), (24, 0, 4), (25, 0, 4), (26, 10, 0), (27, 0, 6561), (28, 13, 0), (29, 5, 8), (30, 0, 0), (31, 0, 500), (32, 0, 500), (33, 0, 500), (34, 0, 500), (35, 15, 0), (36, 1, 8192), (37, 2, 5000), (38, 1, 5000), (39, 16, 0), (40, 0, 8), (41, 0, 8), (42, 0, 256), (43, 3, 9), (44, 7, 0), (45, 0, 7), (46, 0, 32), (47, 0, 32), (48, 11, 0), (49, 0, 1280), (50, 14, 0), (51, 0, 8), (52, 0, 8), (53, 14, 0), (54, 0, 8), (55, 0, 8)]
def FC0 : List (Nat × Nat × Nat) := [(1, 3, 2), (1, 4, 3), (1, 5, 4), (1, 6, 5), (1, 7, 6), (1, 8, 7), (1, 9, 8), (1, 10, 9), (0, 0, 1), (10, 3, 11), (10, 4, 12), (10, 5, 13), (10, 6, 14), (10, 7, 15), (10, 8, 16), (10, 9, 17), (10, 10, 18), (0, 1, 10), (0, 2, 19), (20, 0, 21), (20, 1, 22), (0, 3, 20), (23, 0, 24), (23, 3, 25), (0, 4, 23), (26, 0, 27), (0, 5, 26), (28, 2, 29), (28, 10, 31), (28, 11, 32), (28, 12, 33), (0, 6, 28), (0, 7, 34), (35, 1, 36), (35, 2, 37), (35, 3, 38), (0, 9, 35), (39, 0, 40), (39, 2, 41), (39, 3, 42), (39, 4, 43), (0, 10, 39), (44, 1, 45), (44, 3, 46), (44, 4, 47), (0, 11, 44), (48, 0, 49), (50, 0, 51), (50, 1, 52), (48, 1, 50), (53, 0, 54), (53, 1, 55), (48, 2, 53), (0, 12, 48)]
def Geo (F : HR) (L : HL) : Prop := (∀ p ∈ LC0, p ∈ L) ∧ ∀ q ∈ FC0, F q.1 q.2.1 = some q.2.2
theorem gl_0 {F : HR} {L : HL} (h : Geo F L) : (0, 17, 0) ∈ L := h.1 _ (by decide)
theorem gl_1 {F : HR} {L : HL} (h : Geo F L) : (1, 12, 0) ∈ L := h.1 _ (by decide)
theorem gl_2 {F : HR} {L : HL} (h : Geo F L) : (2, 0, 8) ∈ L := h.1 _ (by decide)
theorem gl_3 {F : HR} {L : HL} (h : Geo F L) : (3, 0, 8) ∈ L := h.1 _ (by decide)
theorem gl_4 {F : HR} {L : HL} (h : Geo F L) : (4, 0, 8) ∈ L := h.1 _ (by decide)
theorem gl_5 {F : HR} {L : HL} (h : Geo F L) : (5, 0, 8) ∈ L := h.1 _ (by decide)
theorem gl_6 {F : HR} {L : HL} (h : Geo F L) : (6, 0, 8) ∈ L := h.1 _ (by decide)
theorem gl_7 {F : HR} {L : HL} (h : Geo F L) : (7, 5, 8) ∈ L := h.1 _ (by decide)
theorem gl_8 {F : HR} {L : HL} (h : Geo F L) : (8, 1, 8192) ∈ L := h.1 _ (by decide)
theorem gl_9 {F : HR} {L : HL} (h : Geo F L) : (9, 0, 6) ∈ L := h.1 _ (by decide)
theorem gl_10 {F : HR} {L : HL} (h : Geo F L) : (10, 12, 0) ∈ L := h.1 _ (by decide)
theorem gl_11 {F : HR} {L : HL} (h : Geo F L) : (11, 0, 8) ∈ L := h.1 _ (by decide)
theorem gl_12 {F : HR} {L : HL} (h : Geo F L) : (12, 0, 8) ∈ L := h.1 _ (by decide)
theorem gl_13 {F : HR} {L : HL} (h : Geo F L) : (13, 0, 8) ∈ L := h.1 _ (by decide)
theorem gl_14 {F : HR} {L : HL} (h : Geo F L) : (14, 0, 8) ∈ L := h.1 _ (by decide)
theorem gl_15 {F : HR} {L : HL} (h : Geo F L) : (15, 0, 8) ∈ L := h.1 _ (by decide)
theorem gl_16 {F : HR} {L : HL} (h : Geo F L) : (16, 5, 8) ∈ L := h.1 _ (by decide)
theorem gl_17 {F : HR} {L : HL} (h : Geo F L) : (17, 1, 8192) ∈ L := h.1 _ (by decide)
theorem gl_18 {F : HR} {L : HL} (h : Geo F L) : (18, 0, 6) ∈ L := h.1 _ (by decide)
theorem gl_19 {F : HR} {L : HL} (h : Geo F L) : (19, 6, 4) ∈ L := h.1 _ (by decide)
theorem gl_20 {F : HR} {L : HL} (h : Geo F L) : (20, 14, 0) ∈ L := h.1 _ (by decide)
theorem gl_21 {F : HR} {L : HL} (h : Geo F L) : (21, 0, 8) ∈ L := h.1 _ (by decide)
theorem gl_22 {F : HR} {L : HL} (h : Geo F L) : (22, 0, 8) ∈ L := h.1 _ (by decide)
theorem gl_23 {F : HR} {L : HL} (h : Geo F L) : (23, 9, 0) ∈ L := h.1 _ (by decide)
theorem gl_24 {F : HR} {L : HL} (h : Geo F L) : (24, 0, 4) ∈ L := h.1 _ (by decide)
theorem gl_25 {F : HR} {L : HL} (h : Geo F L) : (25, 0, 4) ∈ L := h.1 _ (by decide)
theorem gl_26 {F : HR} {L : HL} (h : Geo F L) : (26, 10, 0) ∈ L := h.1 _ (by decide)
theorem gl_27 {F : HR} {L : HL} (h : Geo F L) : (27, 0, 6561) ∈ L := h.1 _ (by decide)
theorem gl_28 {F : HR} {L : HL} (h : Geo F L) : (28, 13, 0) ∈ L := h.1 _ (by decide)
theorem gl_29 {F : HR} {L : HL} (h : Geo F L) : (29, 5, 8) ∈ L := h.1 _ (by decide)
theorem gl_30 {F : HR} {L : HL} (h : Geo F L) : (30, 0, 0) ∈ L := h.1 _ (by decide)
theorem gl_31 {F : HR} {L : HL} (h : Geo F L) : (31, 0, 500) ∈ L := h.1 _ (by decide)
theorem gl_32 {F : HR} {L : HL} (h : Geo F L) : (32, 0, 500) ∈ L := h.1 _ (by decide)
theorem gl_33 {F : HR} {L : HL} (h : Geo F L) : (33, 0, 500) ∈ L := h.1 _ (by decide)
theorem gl_34 {F : HR} {L : HL} (h : Geo F L) : (34, 0, 500) ∈ L := h.1 _ (by decide)
theorem gl_35 {F : HR} {L : HL} (h : Geo F L) : (35, 15, 0) ∈ L := h.1 _ (by decide)
theorem gl_36 {F : HR} {L : HL} (h : Geo F L) : (36, 1, 8192) ∈ L := h.1 _ (by decide)
theorem gl_37 {F : HR} {L : HL} (h : Geo F L) : (37, 2, 5000) ∈ L := h.1 _ (by decide)
theorem gl_38 {F : HR} {L : HL} (h : Geo F L) : (38, 1, 5000) ∈ L := h.1 _ (by decide)
theorem gl_39 {F : HR} {L : HL} (h : Geo F L) : (39, 16, 0) ∈ L := h.1 _ (by decide)
theorem gl_40 {F : HR} {L : HL} (h : Geo F L) : (40, 0, 8) ∈ L := h.1 _ (by decide)
theorem gl_41 {F : HR} {L : HL} (h : Geo F L) : (41, 0, 8) ∈ L := h.1 _ (by decide)
theorem gl_42 {F : HR} {L : HL} (h : Geo F L) : (42, 0, 256) ∈ L := h.1 _ (by decide)
theorem gl_43 {F : HR} {L : HL} (h : Geo F L) : (43, 3, 9) ∈ L := h.1 _ (by decide)
theorem gl_44 {F : HR} {L : HL} (h : Geo F L) : (44, 7, 0) ∈ L := h.1 _ (by decide)
theorem gl_45 {F : HR} {L : HL} (h : Geo F L) : (45, 0, 7) ∈ L := h.1 _ (by decide)
theorem gl_46 {F : HR} {L : HL} (h : Geo F L) : (46, 0, 32) ∈ L := h.1 _ (by decide)
theorem gl_47 {F : HR} {L : HL} (h : Geo F L) : (47, 0, 32) ∈ L := h.1 _ (by decide)
theorem gl_48 {F : HR} {L : HL} (h : Geo F L) : (48, 11, 0) ∈ L := h.1 _ (by decide)
theorem gl_49 {F : HR} {L : HL} (h : Geo F L) : (49, 0, 1280) ∈ L := h.1 _ (by decide)
theorem gl_50 {F : HR} {L : HL} (h : Geo F L) : (50, 14, 0) ∈ L := h.1 _ (by decide)
theorem gl_51 {F : HR} {L : HL} (h : Geo F L) : (51, 0, 8) ∈ L := h.1 _ (by decide)
theorem gl_52 {F : HR} {L : HL} (h : Geo F L) : (52, 0, 8) ∈ L := h.1 _ (by decide)
theorem gl_53 {F : HR} {L : HL} (h : Geo F L) : (53, 14, 0) ∈ L := h.1 _ (by decide)
theorem gl_54 {F : HR} {L : HL} (h : Geo F L) : (54, 0, 8) ∈ L := h.1 _ (by decide)
theorem gl_55 {F : HR} {L : HL} (h : Geo F L) : (55, 0, 8) ∈ L := h.1 _ (by decide)
theorem gf_1_3 {F : HR} {L : HL} (h : Geo F L) : F 1 3 = some 2 := h.2 (1, 3, 2) (by decide)
theorem gf_1_4 {F : HR} {L : HL} (h : Geo F L) : F 1 4 = some 3 := h.2 (1, 4, 3) (by decide)
theorem gf_1_5 {F : HR} {L : HL} (h : Geo F L) : F 1 5 = some 4 := h.2 (1, 5, 4) (by decide)
theorem gf_1_6 {F : HR} {L : HL} (h : Geo F L) : F 1 6 = some 5 := h.2 (1, 6, 5) (by decide)
theorem gf_1_7 {F : HR} {L : HL} (h : Geo F L) : F 1 7 = some 6 := h.2 (1, 7, 6) (by decide)
theorem gf_1_8 {F : HR} {L : HL} (h : Geo F L) : F 1 8 = some 7 := h.2 (1, 8, 7) (by decide)
theorem gf_1_9 {F : HR} {L : HL} (h : Geo F L) : F 1 9 = some 8 := h.2 (1, 9, 8) (by decide)
theorem gf_1_10 {F : HR} {L : HL} (h : Geo F L) : F 1 10 = some 9 := h.2 (1, 10, 9) (by decide)
theorem gf_0_0 {F : HR} {L : HL} (h : Geo F L) : F 0 0 = some 1 := h.2 (0, 0, 1) (by decide)
theorem gf_10_3 {F : HR} {L : HL} (h : Geo F L) : F 10 3 = some 11 := h.2 (10, 3, 11) (by decide)
theorem gf_10_4 {F : HR} {L : HL} (h : Geo F L) : F 10 4 = some 12 := h.2 (10, 4, 12) (by decide)
theorem gf_10_5 {F : HR} {L : HL} (h : Geo F L) : F 10 5 = some 13 := h.2 (10, 5, 13) (by decide)
theorem gf_10_6 {F : HR} {L : HL} (h : Geo F L) : F 10 6 = some 14 := h.2 (10, 6, 14) (by decide)
theorem gf_10_7 {F : HR} {L : HL} (h : Geo F L) : F 10 7 = some 15 := h.2 (10, 7, 15) (by decide)
theorem gf_10_8 {F : HR} {L : HL} (h : Geo F L) : F 10 8 = some 16 := h.2 (10, 8, 16) (by decide)
theorem gf_10_9 {F : HR} {L : HL} (h : Geo F L) : F 10 9 = some 17 := h.2 (10, 9, 17) (by decide)
theorem gf_10_10 {F : HR} {L : HL} (h : Geo F L) : F 10 10 = some 18 := h.2 (10, 10, 18) (by decide)
theorem gf_0_1 {F : HR} {L : HL} (h : Geo F L) : F 0 1 = some 10 := h.2 (0, 1, 10) (by decide)
theorem gf_0_2 {F : HR} {L : HL} (h : Geo F L) : F 0 2 = some 19 := h.2 (0, 2, 19) (by decide)
theorem gf_20_0 {F : HR} {L : HL} (h : Geo F L) : F 20 0 = some 21 := h.2 (20, 0, 21) (by decide)
theorem gf_20_1 {F : HR} {L : HL} (h : Geo F L) : F 20 1 = some 22 := h.2 (20, 1, 22) (by decide)
theorem gf_0_3 {F : HR} {L : HL} (h : Geo F L) : F 0 3 = some 20 := h.2 (0, 3, 20) (by decide)
theorem gf_23_0 {F : HR} {L : HL} (h : Geo F L) : F 23 0 = some 24 := h.2 (23, 0, 24) (by decide)
theorem gf_23_3 {F : HR} {L : HL} (h : Geo F L) : F 23 3 = some 25 := h.2 (23, 3, 25) (by decide)
theorem gf_0_4 {F : HR} {L : HL} (h : Geo F L) : F 0 4 = some 23 := h.2 (0, 4, 23) (by decide)
theorem gf_26_0 {F : HR} {L : HL} (h : Geo F L) : F 26 0 = some 27 := h.2 (26, 0, 27) (by decide)
theorem gf_0_5 {F : HR} {L : HL} (h : Geo F L) : F 0 5 = some 26 := h.2 (0, 5, 26) (by decide)
theorem gf_28_2 {F : HR} {L : HL} (h : Geo F L) : F 28 2 = some 29 := h.2 (28, 2, 29) (by decide)
theorem gf_28_10 {F : HR} {L : HL} (h : Geo F L) : F 28 10 = some 31 := h.2 (28, 10, 31) (by decide)
theorem gf_28_11 {F : HR} {L : HL} (h : Geo F L) : F 28 11 = some 32 := h.2 (28, 11, 32) (by decide)
theorem gf_28_12 {F : HR} {L : HL} (h : Geo F L) : F 28 12 = some 33 := h.2 (28, 12, 33) (by decide)
theorem gf_0_6 {F : HR} {L : HL} (h : Geo F L) : F 0 6 = some 28 := h.2 (0, 6, 28) (by decide)
theorem gf_0_7 {F : HR} {L : HL} (h : Geo F L) : F 0 7 = some 34 := h.2 (0, 7, 34) (by decide)
theorem gf_35_1 {F : HR} {L : HL} (h : Geo F L) : F 35 1 = some 36 := h.2 (35, 1, 36) (by decide)
theorem gf_35_2 {F : HR} {L : HL} (h : Geo F L) : F 35 2 = some 37 := h.2 (35, 2, 37) (by decide)
theorem gf_35_3 {F : HR} {L : HL} (h : Geo F L) : F 35 3 = some 38 := h.2 (35, 3, 38) (by decide)
theorem gf_0_9 {F : HR} {L : HL} (h : Geo F L) : F 0 9 = some 35 := h.2 (0, 9, 35) (by decide)
theorem gf_39_0 {F : HR} {L : HL} (h : Geo F L) : F 39 0 = some 40 := h.2 (39, 0, 40) (by decide)
theorem gf_39_2 {F : HR} {L : HL} (h : Geo F L) : F 39 2 = some 41 := h.2 (39, 2, 41) (by decide)
theorem gf_39_3 {F : HR} {L : HL} (h : Geo F L) : F 39 3 = some 42 := h.2 (39, 3, 42) (by decide)
theorem gf_39_4 {F : HR} {L : HL} (h : Geo F L) : F 39 4 = some 43 := h.2 (39, 4, 43) (by decide)
theorem gf_0_10 {F : HR} {L : HL} (h : Geo F L) : F 0 10 = some 39 := h.2 (0, 10, 39) (by decide)
theorem gf_44_1 {F : HR} {L : HL} (h : Geo F L) : F 44 1 = some 45 := h.2 (44, 1, 45) (by decide)
theorem gf_44_3 {F : HR} {L : HL} (h : Geo F L) : F 44 3 = some 46 := h.2 (44, 3, 46) (by decide)
theorem gf_44_4 {F : HR} {L : HL} (h : Geo F L) : F 44 4 = some 47 := h.2 (44, 4, 47) (by decide)
theorem gf_0_11 {F : HR} {L : HL} (h : Geo F L) : F 0 11 = some 44 := h.2 (0, 11, 44) (by decide)
theorem gf_48_0 {F : HR} {L : HL} (h : Geo F L) : F 48 0 = some 49 := h.2 (48, 0, 49) (by decide)
theorem gf_50_0 {F : HR} {L : HL} (h : Geo F L) : F 50 0 = some 51 := h.2 (50, 0, 51) (by decide)
theorem gf_50_1 {F : HR} {L : HL} (h : Geo F L) : F 50 1 = some 52 := h.2 (50, 1, 52) (by decide)
theorem gf_48_1 {F : HR} {L : HL} (h : Geo F L) : F 48 1 = some 50 := h.2 (48, 1, 50) (by decide)
theorem gf_53_0 {F : HR} {L : HL} (h : Geo F L) : F 53 0 = some 54 := h.2 (53, 0, 54) (by decide)
theorem gf_53_1 {F : HR} {L : HL} (h : Geo F L) : F 53 1 = some 55 := h.2 (53, 1, 55) (by decide)
theorem gf_48_2 {F : HR} {L : HL} (h : Geo F L) : F 48 2 = some 53 := h.2 (48, 2, 53) (by decide)
theorem gf_0_12 {F : HR} {L : HL} (h : Geo F L) : F 0 12 = some 48 := h.2 (0, 12, 48) (by decide)
def NetSh (F : HR) (L : HL) (r : Nat) : Prop := (r, 12, 0) ∈ L ∧ F r 3 = some (r + 1) ∧ (r + 1, 0, 8) ∈ L ∧ F r 4 = some (r + 2) ∧ (r + 2, 0, 8) ∈ L ∧ F r 5 = some (r + 3) ∧ (r + 3, 0, 8) ∈ L ∧ F r 6 = some (r + 4) ∧ (r + 4, 0, 8) ∈ L ∧ F r 7 = some (r + 5) ∧ (r + 5, 0, 8) ∈ L ∧ F r 8 = some (r + 6) ∧ (r + 6, 5, 8) ∈ L ∧ F r 9 = some (r + 7) ∧ (r + 7, 1, 8192) ∈ L ∧ F r 10 = some (r + 8) ∧ (r + 8, 0, 6) ∈ L
theorem nsf_3 {F : HR} {L : HL} {r : Nat} (h : NetSh F L r) : F r 3 = some (r + 1) := h.2.1
theorem nsm_3 {F : HR} {L : HL} {r : Nat} (h : NetSh F L r) : (r + 1, 0, 8) ∈ L := h.2.2.1
theorem nsf_4 {F : HR} {L : HL} {r : Nat} (h : NetSh F L r) : F r 4 = some (r + 2) := h.2.2.2.1
theorem nsm_4 {F : HR} {L : HL} {r : Nat} (h : NetSh F L r) : (r + 2, 0, 8) ∈ L := h.2.2.2.2.1
theorem nsf_5 {F : HR} {L : HL} {r : Nat} (h : NetSh F L r) : F r 5 = some (r + 3) := h.2.2.2.2.2.1
theorem nsm_5 {F : HR} {L : HL} {r : Nat} (h : NetSh F L r) : (r + 3, 0, 8) ∈ L := h.2.2.2.2.2.2.1
theorem nsf_6 {F : HR} {L : HL} {r : Nat} (h : NetSh F L r) : F r 6 = some (r + 4) := h.2.2.2.2.2.2.2.1
theorem nsm_6 {F : HR} {L : HL} {r : Nat} (h : NetSh F L r) : (r + 4, 0, 8) ∈ L := h.2.2.2.2.2.2.2.2.1
theorem nsf_7 {F : HR} {L : HL} {r : Nat} (h : NetSh F L r) : F r 7 = some (r + 5) := h.2.2.2.2.2.2.2.2.2.1
theorem nsm_7 {F : HR} {L : HL} {r : Nat} (h : NetSh F L r) : (r + 5, 0, 8) ∈ L := h.2.2.2.2.2.2.2.2.2.2.1
theorem nsf_8 {F : HR} {L : HL} {r : Nat} (h : NetSh F L r) : F r 8 = some (r + 6) := h.2.2.2.2.2.2.2.2.2.2.2.1
theorem nsm_8 {F : HR} {L : HL} {r : Nat} (h : NetSh F L r) : (r + 6, 5, 8) ∈ L := h.2.2.2.2.2.2.2.2.2.2.2.2.1
theorem nsf_9 {F : HR} {L : HL} {r : Nat} (h : NetSh F L r) : F r 9 = some (r + 7) := h.2.2.2.2.2.2.2.2.2.2.2.2.2.1
theorem nsm_9 {F : HR} {L : HL} {r : Nat} (h : NetSh F L r) : (r + 7, 1, 8192) ∈ L := h.2.2.2.2.2.2.2.2.2.2.2.2.2.2.1
theorem nsf_10 {F : HR} {L : HL} {r : Nat} (h : NetSh F L r) : F r 10 = some (r + 8) := h.2.2.2.2.2.2.2.2.2.2.2.2.2.2.2.1
theorem nsm_10 {F : HR} {L : HL} {r : Nat} (h : NetSh F L r) : (r + 8, 0, 6) ∈ L := h.2.2.2.2.2.2.2.2.2.2.2.2.2.2.2.2
def SceSh (F : HR) (L : HL) (r : Nat) : Prop := (r, 14, 0) ∈ L ∧ F r 0 = some (r + 1) ∧ (r + 1, 0, 8) ∈ L ∧ F r 1 = some (r + 2) ∧ (r + 2, 0, 8) ∈ L
theorem ssf_0 {F : HR} {L : HL} {r : Nat} (h : SceSh F L r) : F r 0 = some (r + 1) := h.2.1
theorem ssm_0 {F : HR} {L : HL} {r : Nat} (h : SceSh F L r) : (r + 1, 0, 8) ∈ L := h.2.2.1
theorem ssf_1 {F : HR} {L : HL} {r : Nat} (h : SceSh F L r) : F r 1 = some (r + 2) := h.2.2.2.1
theorem ssm_1 {F : HR} {L : HL} {r : Nat} (h : SceSh F L r) : (r + 2, 0, 8) ∈ L := h.2.2.2.2
def FrmSh (F : HR) (L : HL) (f n k l q v : Nat) : Prop := (f, 8, 0) ∈ L ∧ F f 0 = some k ∧ (k, 0, n) ∈ L ∧ F f 1 = some l ∧ (l, 0, n) ∈ L ∧ F f 2 = some q ∧ (q, 0, n) ∈ L ∧ F f 3 = some v ∧ (v, 0, n) ∈ L
theorem fsf_0 {F : HR} {L : HL} {f n k l q v : Nat} (h : FrmSh F L f n k l q v) : F f 0 = some k := h.2.1
theorem fsm_0 {F : HR} {L : HL} {f n k l q v : Nat} (h : FrmSh F L f n k l q v) : (k, 0, n) ∈ L := h.2.2.1
theorem fsf_1 {F : HR} {L : HL} {f n k l q v : Nat} (h : FrmSh F L f n k l q v) : F f 1 = some l := h.2.2.2.1
theorem fsm_1 {F : HR} {L : HL} {f n k l q v : Nat} (h : FrmSh F L f n k l q v) : (l, 0, n) ∈ L := h.2.2.2.2.1
theorem fsf_2 {F : HR} {L : HL} {f n k l q v : Nat} (h : FrmSh F L f n k l q v) : F f 2 = some q := h.2.2.2.2.2.1
theorem fsm_2 {F : HR} {L : HL} {f n k l q v : Nat} (h : FrmSh F L f n k l q v) : (q, 0, n) ∈ L := h.2.2.2.2.2.2.1
theorem fsf_3 {F : HR} {L : HL} {f n k l q v : Nat} (h : FrmSh F L f n k l q v) : F f 3 = some v := h.2.2.2.2.2.2.2.1
theorem fsm_3 {F : HR} {L : HL} {f n k l q v : Nat} (h : FrmSh F L f n k l q v) : (v, 0, n) ∈ L := h.2.2.2.2.2.2.2.2
theorem geo_net {F : HR} {L : HL} (h : Geo F L) : NetSh F L 1 := ⟨gl_1 h, gf_1_3 h, gl_2 h, gf_1_4 h, gl_3 h, gf_1_5 h, gl_4 h, gf_1_6 h, gl_5 h, gf_1_7 h, gl_6 h, gf_1_8 h, gl_7 h, gf_1_9 h, gl_8 h, gf_1_10 h, gl_9 h⟩
theorem geo_trial {F : HR} {L : HL} (h : Geo F L) : NetSh F L 10 := ⟨gl_10 h, gf_10_3 h, gl_11 h, gf_10_4 h, gl_12 h, gf_10_5 h, gl_13 h, gf_10_6 h, gl_14 h, gf_10_7 h, gl_15 h, gf_10_8 h, gl_16 h, gf_10_9 h, gl_17 h, gf_10_10 h, gl_18 h⟩
theorem geo_scene {F : HR} {L : HL} (h : Geo F L) : SceSh F L 20 := ⟨gl_20 h, gf_20_0 h, gl_21 h, gf_20_1 h, gl_22 h⟩
theorem geo_played {F : HR} {L : HL} (h : Geo F L) : SceSh F L 50 := ⟨gl_50 h, gf_50_0 h, gl_51 h, gf_50_1 h, gl_52 h⟩
theorem geo_changed {F : HR} {L : HL} (h : Geo F L) : SceSh F L 53 := ⟨gl_53 h, gf_53_0 h, gl_54 h, gf_53_1 h, gl_55 h⟩
