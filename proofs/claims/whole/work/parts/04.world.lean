/-! The heap as functions. A region of the heap with base z: things by their numbers r (their address is z + r), L lists (number, kind, length). Kinds: 0 int[], 1 byte[], 2 short[], 3 boolean[], 4 long[], 5 Formula[], 6 Net[], 7 + c an object of the kit's class number c. I holds whole numbers (fields and elements), J longs, F references in fields, T references in arrays. -/
abbrev HI : Type := Nat → Nat → Int32
abbrev HJ : Type := Nat → Nat → Int64
abbrev HR : Type := Nat → Nat → Option Nat
abbrev HL : Type := List (Nat × Nat × Nat)
abbrev HS : Type := HI × HJ × HR × HR × HL
def up2 {α : Type} (f : Nat → Nat → α) (a i : Nat) (v : α) : Nat → Nat → α := fun b => if b = a then (fun j => if j = i then v else f a j) else f b
theorem up2_ne {α : Type} (f : Nat → Nat → α) {a b : Nat} (i : Nat) (v : α) (h : b ≠ a) : up2 f a i v b = f b := if_neg h
theorem up2_at {α : Type} (f : Nat → Nat → α) (a i : Nat) (v : α) : up2 f a i v a = fun j => if j = i then v else f a j := if_pos rfl
abbrev hclasses : List vw_C := [(RX0, TX0, 5), (RX1, TX1, 5), (RX2, TX2, 4), (RX3, TX3, 2), (RX4, TX4, 3), (RX5, TX5, 11), (RX6, TX6, 14), (RX7, TX7, 2), (RX8, TX8, 4), (RX9, TX9, 5), (RX10, TX10, 15), (RX11, TX11, 75)]
def hft : Nat → List Nat
  | 0 => [0, 1, 0, 1, 1]
  | 1 => [1, 1, 1, 1, 0]
  | 2 => [1, 0, 0, 1]
  | 3 => [1, 0]
  | 4 => [1, 1, 1]
  | 5 => [0, 0, 0, 1, 1, 1, 1, 1, 1, 1, 1]
  | 6 => [0, 0, 1, 1, 0, 0, 0, 0, 0, 0, 1, 1, 1, 0]
  | 7 => [1, 1]
  | 8 => [0, 1, 1, 1]
  | 9 => [1, 0, 1, 1, 1]
  | 10 => [1, 1, 1, 1, 1, 1, 1, 1, 0, 1, 1, 1, 1, 1, 1]
  | 11 => [0, 0, 0, 0, 0, 0, 1, 1, 1, 1, 1, 1, 1, 1, 1, 1, 0, 0, 0, 0, 0, 0, 0, 0, 0, 0, 3, 0, 0, 0, 0, 1, 1, 1, 1, 1, 1, 1, 1, 1, 0, 1, 1, 1, 1, 1, 1, 1, 1, 0, 0, 1, 1, 1, 0, 1, 1, 1, 1, 1, 1, 1, 0, 0, 0, 0, 1, 1, 1, 1, 1, 1, 1, 1, 1]
  | _ => []
def hc_v (z : Nat) (F : HR) (I : HI) (J : HJ) (a k : Nat) : Nat → Value
  | 0 => .int (I a k)
  | 1 => va_rf ((F a k).map (z + ·))
  | _ => .long (J a k)
def hc_fs (z : Nat) (F : HR) (I : HI) (J : HJ) (ci a : Nat) : List Value := (hft ci).mapIdx (fun k t => hc_v z F I J a k t)
def hc_e (cA : Nat → ClassId) (z : Nat) (F T : HR) (I : HI) (J : HJ) (a n : Nat) : Nat → va_E
  | 0 => .inl (cA 0, n, .inl (I a))
  | 1 => .inl (cA 1, n, .inl (I a))
  | 2 => .inl (cA 2, n, .inl (I a))
  | 3 => .inl (cA 3, n, .inl (I a))
  | 4 => .inl (cA 4, n, .inr (.inl (J a)))
  | 5 => .inl (cA 5, n, .inr (.inr (.inr (.inr (fun j => (T a j).map (z + ·))))))
  | 6 => .inl (cA 6, n, .inr (.inr (.inr (.inr (fun j => (T a j).map (z + ·))))))
  | k + 7 => .inr (k, hc_fs z F I J k a)
def hc (cA : Nat → ClassId) (z : Nat) (S : HS) (p : Nat × Nat × Nat) : Nat × va_E := (z + p.1, hc_e cA z S.2.2.2.1 S.2.2.1 S.1 S.2.1 p.1 p.2.2 p.2.1)
def hws (cA : Nat → ClassId) (z : Nat) (S : HS) : va_W := S.2.2.2.2.map (hc cA z S)
abbrev hty (cA : Nat → ClassId) : List (ClassId × FieldType) := [(cA 0, .int), (cA 1, .byte), (cA 2, .short), (cA 3, .boolean), (cA 4, .long), (cA 5, .object "HatHall$Formula"), (cA 6, .object "HatHall$Net")]
theorem hc_cong {cA : Nat → ClassId} {z : Nat} {S S' : HS} {p : Nat × Nat × Nat} (hI : S'.1 p.1 = S.1 p.1) (hJ : S'.2.1 p.1 = S.2.1 p.1) (hT : S'.2.2.1 p.1 = S.2.2.1 p.1) (hF : S'.2.2.2.1 p.1 = S.2.2.2.1 p.1) : hc cA z S' p = hc cA z S p := by
  obtain ⟨I, J, T, F, L⟩ := S
  obtain ⟨I', J', T', F', L'⟩ := S'
  obtain ⟨a, k, n⟩ := p
  dsimp only at hI hJ hT hF
  unfold hc
  refine congrArg (Prod.mk _) ?_
  dsimp only
  match k with
  | 0 => simp only [hc_e, hI]
  | 1 => simp only [hc_e, hI]
  | 2 => simp only [hc_e, hI]
  | 3 => simp only [hc_e, hI]
  | 4 => simp only [hc_e, hJ]
  | 5 => simp only [hc_e, hT]
  | 6 => simp only [hc_e, hT]
  | k + 7 =>
    simp only [hc_e, hc_fs]
    refine congrArg Sum.inr (congrArg (Prod.mk _) ?_)
    refine congrArg (fun f => List.mapIdx f (hft k)) ?_
    funext k2 t
    match t with
    | 0 => simp only [hc_v, hI]
    | 1 => simp only [hc_v, hF]
    | t + 2 => simp only [hc_v, hJ]
theorem hws_get {cA : Nat → ClassId} {z : Nat} {S : HS} {i : Nat} {p : Nat × Nat × Nat} (hi : S.2.2.2.2[i]? = some p) : (hws cA z S)[i]? = some (hc cA z S p) := by
  unfold hws
  rw [List.getElem?_map, hi]
  rfl
theorem hws_of {cA : Nat → ClassId} {z : Nat} {S : HS} {i : Nat} {q : Nat × va_E} (h : (hws cA z S)[i]? = some q) : ∃ p, S.2.2.2.2[i]? = some p ∧ q = hc cA z S p := by
  unfold hws at h
  rw [List.getElem?_map] at h
  cases hp : S.2.2.2.2[i]? with
  | none => rw [hp] at h; cases h
  | some p => rw [hp] at h; exact ⟨p, rfl, (Option.some.inj h).symm⟩
theorem hws_set {cA : Nat → ClassId} {z : Nat} {A : Nat → Prop} {S S' : HS} (hL : S'.2.2.2.2 = S.2.2.2.2) (hD : va_D A (hws cA z S)) {i : Nat} {p : Nat × Nat × Nat} (hi : S.2.2.2.2[i]? = some p)
    (ho : ∀ b, b ≠ p.1 → S'.1 b = S.1 b ∧ S'.2.1 b = S.2.1 b ∧ S'.2.2.1 b = S.2.2.1 b ∧ S'.2.2.2.1 b = S.2.2.2.1 b) : (hws cA z S).set i (hc cA z S' p) = hws cA z S' := by
  refine List.ext_getElem? fun j => ?_
  rw [List.getElem?_set]
  by_cases hj : i = j
  · subst hj
    have hlt : i < (hws cA z S).length := (List.getElem?_eq_some_iff.mp (hws_get (cA := cA) (z := z) hi)).1
    rw [if_pos rfl, if_pos hlt]
    exact (hws_get (S := S') (by rw [hL]; exact hi)).symm
  · rw [if_neg hj]
    cases hp : S.2.2.2.2[j]? with
    | none =>
      have h1 : (hws cA z S)[j]? = none := by unfold hws; rw [List.getElem?_map, hp]; rfl
      have h2 : (hws cA z S')[j]? = none := by unfold hws; rw [List.getElem?_map, hL, hp]; rfl
      rw [h1, h2]
    | some q =>
      rw [hws_get hp, hws_get (S := S') (by rw [hL]; exact hp)]
      have hne : q.1 ≠ p.1 := fun e => hj (hD.1 i j _ _ (hws_get hi) (hws_get hp) (by show z + p.1 = z + q.1; rw [e]))
      obtain ⟨h1, h2, h3, h4⟩ := ho q.1 hne
      exact congrArg some (hc_cong h1 h2 h3 h4).symm
def hX (p : Program) (m : MethodId) (c : Code) (s : State) (args : Array Value) (own : String) (cc : ByteArray) (nL : Nat) : Prop := CallFix p m c cc nL s args tb own
abbrev HE : Type := (Nat → Prop) → State → Prop
def hW (D : va_G) (cA : Nat → ClassId) (z : Nat) (Ev : HE) (S : HS) (A : Nat → Prop) (s : State) (H : Heap) (locs : List Loc) : Prop :=
  va_K D hclasses (hty cA) s ∧ va_P D hclasses (hws cA z S) H ∧ va_D A (hws cA z S) ∧ va_S A s.heap H locs ∧ (∀ q, s.heap.size ≤ q → A q) ∧ Ev A s
/-- a field link: own's pool entry index names field k of the kit's class ci; t: 0 a whole number, 1 a reference, 3 a long -/
def hF (own : String) (index ci k t : Nat) (fin : Bool) (ty : FieldType) : Prop := ∃ (C : String) (TT : u_T) (N : Nat) (ty0 : Nat → FieldType), hclasses[ci]? = some (C, TT, N) ∧ (∀ w ∈ u_ws C TT N, w ∈ tb) ∧ k < N ∧ (hft ci)[k]? = some t ∧
  Cond.fieldLink own index (TT k).1 (TT k).2.1 (TT k).2.2.1 ∈ tb ∧ (∀ k, k < N → parseFieldDescriptor (TT k).2.2.1 = some (ty0 k)) ∧ (∀ a, a < N → ∀ b, b < N → a ≠ b → (TT a).2.1 ≠ (TT b).2.1) ∧ (TT k).2.2.2 = fin ∧ ty0 k = ty ∧ True
theorem hc_fs_get {z : Nat} {F : HR} {I : HI} {J : HJ} {ci a k t : Nat} (h : (hft ci)[k]? = some t) : (hc_fs z F I J ci a)[k]? = some (hc_v z F I J a k t) := by
  unfold hc_fs
  rw [List.getElem?_mapIdx, h]
  rfl
theorem hc_fs_len {z : Nat} {F : HR} {I : HI} {J : HJ} {ci a k t : Nat} (h : (hft ci)[k]? = some t) : k < (hc_fs z F I J ci a).length := by
  unfold hc_fs
  rw [List.length_mapIdx]
  exact (List.getElem?_eq_some_iff.mp h).1
/-- a field written: the fields' list behind it -/
theorem hc_fs_set {z : Nat} {F F' : HR} {I I' : HI} {J J' : HJ} {ci a k t : Nat} (h : (hft ci)[k]? = some t) {v : Value} (hv : hc_v z F' I' J' a k t = v)
    (ho : ∀ j, j ≠ k → I' a j = I a j ∧ J' a j = J a j ∧ F' a j = F a j) : (hc_fs z F I J ci a).set k v = hc_fs z F' I' J' ci a := by
  refine List.ext_getElem? fun j => ?_
  rw [List.getElem?_set]
  by_cases hj : k = j
  · subst hj
    rw [if_pos rfl, if_pos (hc_fs_len h), hc_fs_get h, hv]
  · rw [if_neg hj]
    obtain ⟨h1, h2, h3⟩ := ho j (fun e => hj e.symm)
    unfold hc_fs
    rw [List.getElem?_mapIdx, List.getElem?_mapIdx]
    refine congrArg (fun f => Option.map f (hft ci)[j]?) ?_
    funext t2
    match t2 with
    | 0 => simp only [hc_v, h1]
    | 1 => simp only [hc_v, h3]
    | t + 2 => simp only [hc_v, h2]
section HM
variable {p : Program} {l : Launch} {e : Env} {R : Room} {s : State} {m : MethodId} {args : Array Value} {below : List Frame} {meth : Method} {c : Code} {H : Heap} {locs : List Loc} {cells slots : Nat} {Q : State → Prop}
variable {cc : ByteArray} {pc nL : Nat} {ls : Array Slot} {rest : List Value} {D : va_G} {cA : Nat → ClassId} {z : Nat} {I : HI} {J : HJ} {T F : HR} {L : HL} {A : Nat → Prop} {own : String} {Ev : HE}
theorem hm_geti (X : hX p m c s args own cc nL) (w : hW D cA z Ev (I, J, T, F, L) A s H locs) {index ci k a n : Nat} {fin : Bool} {ty : FieldType} (hf : hF own index ci k 0 fin ty) (hs : (a, ci + 7, n) ∈ L) (hdg : decode cc pc = .ok (.getfield index, 3))
    (kk : W p l e R s m args below meth c H locs cells slots Q (F0 m (pc + 3) ls (.int (I a k) :: rest))) : W p l e R s m args below meth c H locs cells slots Q (F0 m pc ls (.ref (z + a) :: rest)) := by
  obtain ⟨hx, hb, hml, hown, hts⟩ := X
  obtain ⟨hK, hP, hD, hS, hA, hEv⟩ := w
  obtain ⟨C, TT, N, ty0, hc, hin, hk, ht, hl, h1, h2, h3, h4, h5⟩ := hf
  obtain ⟨i, hi⟩ := List.getElem?_of_mem hs
  exact va_get (ci := ci) (fs := hc_fs z F I J ci a) hx hb hts hin hown hK hP i (hws_get (S := (I, J, T, F, L)) hi) hc k hk (hts _ hl) (fun _ h => h) (v := .int (I a k)) (hc_fs_get ht) hdg kk
theorem hm_getr (X : hX p m c s args own cc nL) (w : hW D cA z Ev (I, J, T, F, L) A s H locs) {index ci k a n b : Nat} {fin : Bool} {ty : FieldType} (hf : hF own index ci k 1 fin ty) (hs : (a, ci + 7, n) ∈ L) (hv : F a k = some b) (hdg : decode cc pc = .ok (.getfield index, 3))
    (kk : W p l e R s m args below meth c H locs cells slots Q (F0 m (pc + 3) ls (.ref (z + b) :: rest))) : W p l e R s m args below meth c H locs cells slots Q (F0 m pc ls (.ref (z + a) :: rest)) := by
  obtain ⟨hx, hb, hml, hown, hts⟩ := X
  obtain ⟨hK, hP, hD, hS, hA, hEv⟩ := w
  obtain ⟨C, TT, N, ty0, hc, hin, hk, ht, hl, h1, h2, h3, h4, h5⟩ := hf
  obtain ⟨i, hi⟩ := List.getElem?_of_mem hs
  exact va_get (ci := ci) (fs := hc_fs z F I J ci a) hx hb hts hin hown hK hP i (hws_get (S := (I, J, T, F, L)) hi) hc k hk (hts _ hl) (fun _ h => h) (v := .ref (z + b)) ((hc_fs_get ht).trans (by simp only [hc_v, hv]; rfl)) hdg kk
theorem hm_getl (X : hX p m c s args own cc nL) (w : hW D cA z Ev (I, J, T, F, L) A s H locs) {index ci k a n : Nat} {fin : Bool} {ty : FieldType} (hf : hF own index ci k 3 fin ty) (hs : (a, ci + 7, n) ∈ L) (hdg : decode cc pc = .ok (.getfield index, 3))
    (kk : W p l e R s m args below meth c H locs cells slots Q (F0 m (pc + 3) ls (.long (J a k) :: rest))) : W p l e R s m args below meth c H locs cells slots Q (F0 m pc ls (.ref (z + a) :: rest)) := by
  obtain ⟨hx, hb, hml, hown, hts⟩ := X
  obtain ⟨hK, hP, hD, hS, hA, hEv⟩ := w
  obtain ⟨C, TT, N, ty0, hc, hin, hk, ht, hl, h1, h2, h3, h4, h5⟩ := hf
  obtain ⟨i, hi⟩ := List.getElem?_of_mem hs
  exact va_get (ci := ci) (fs := hc_fs z F I J ci a) hx hb hts hin hown hK hP i (hws_get (S := (I, J, T, F, L)) hi) hc k hk (hts _ hl) (fun _ h => h) (v := .long (J a k)) (hc_fs_get ht) hdg kk
theorem hm_puti (X : hX p m c s args own cc nL) (w : hW D cA z Ev (I, J, T, F, L) A s H locs) {index ci k a n : Nat} {ty : FieldType} {v : Int32} (hf : hF own index ci k 0 false ty) (hs : (a, ci + 7, n) ∈ L) (hn : narrow ty (.int v) = .int v) (hfit : fits ty (.int v) = true) (hdg : decode cc pc = .ok (.putfield index, 3))
    (kk : ∀ (H : Heap) (locs : List Loc), hW D cA z Ev (up2 I a k v, J, T, F, L) A s H locs → W p l e R s m args below meth c H locs cells slots Q (F0 m (pc + 3) ls rest)) : W p l e R s m args below meth c H locs cells slots Q (F0 m pc ls (.int v :: .ref (z + a) :: rest)) := by
  obtain ⟨hx, hb, hml, hown, hts⟩ := X
  obtain ⟨hK, hP, hD, hS, hA, hEv⟩ := w
  obtain ⟨C, TT, N, ty0, hc, hin, hk, ht, hl, h1, h2, h3, h4, h5⟩ := hf
  obtain ⟨i, hi⟩ := List.getElem?_of_mem hs
  have hset : (hws cA z (I, J, T, F, L)).set i (z + a, .inr (ci, (hc_fs z F I J ci a).set k (.int v))) = hws cA z (up2 I a k v, J, T, F, L) := by
    rw [hc_fs_set (I' := up2 I a k v) (J' := J) (F' := F) ht (by simp [hc_v, up2]) (fun j hj => ⟨by simp [up2, hj], rfl, rfl⟩)]
    exact hws_set (S := (I, J, T, F, L)) (S' := (up2 I a k v, J, T, F, L)) rfl hD hi (fun b hb => ⟨up2_ne _ _ _ hb, rfl, rfl, rfl⟩)
  refine va_put (ci := ci) (fs := hc_fs z F I J ci a) hx hb hts hin ty0 h1 h2 hown hK hP hD hS i (hws_get (S := (I, J, T, F, L)) hi) hc k hk (hts _ hl) (fun _ h => h) h3 (v := .int v) (ty := ty) (by rw [h1 k hk, h4]) hn hfit (hc_fs_len ht) hdg (fun H1 locs1 g1 g2 g3 => ?_)
  rw [hset] at g1 g2
  exact kk H1 locs1 ⟨hK, g1, g2, g3, hA, hEv⟩
theorem hm_iald (X : hX p m c s args own cc nL) (w : hW D cA z Ev (I, J, T, F, L) A s H locs) {a n : Nat} {i : Int32} (hs : (a, 0, n) ∈ L) (hin : vp_in i n) (hdg : decode cc pc = .ok (.iaload, 1))
    (kk : W p l e R s m args below meth c H locs cells slots Q (F0 m (pc + 1) ls (.int (I a i.toNatClampNeg) :: rest))) : W p l e R s m args below meth c H locs cells slots Q (F0 m pc ls (.int i :: .ref (z + a) :: rest)) := by
  obtain ⟨q, hi⟩ := List.getElem?_of_mem hs
  exact va_iald X.1 X.2.1 w.1 w.2.1 q 0 (hws_get (S := (I, J, T, F, L)) hi) rfl hin hdg kk
theorem hm_iast (X : hX p m c s args own cc nL) (w : hW D cA z Ev (I, J, T, F, L) A s H locs) {a n : Nat} {i v : Int32} (hs : (a, 0, n) ∈ L) (hin : vp_in i n) (hdg : decode cc pc = .ok (.iastore, 1))
    (kk : ∀ (H : Heap) (locs : List Loc), hW D cA z Ev (up2 I a i.toNatClampNeg v, J, T, F, L) A s H locs → W p l e R s m args below meth c H locs cells slots Q (F0 m (pc + 1) ls rest)) : W p l e R s m args below meth c H locs cells slots Q (F0 m pc ls (.int v :: .int i :: .ref (z + a) :: rest)) := by
  obtain ⟨q, hi⟩ := List.getElem?_of_mem hs
  have hset : (hws cA z (I, J, T, F, L)).set q (z + a, .inl (cA 0, n, .inl (upd (I a) i.toNatClampNeg v))) = hws cA z (up2 I a i.toNatClampNeg v, J, T, F, L) := by
    rw [← hws_set (S := (I, J, T, F, L)) (S' := (up2 I a i.toNatClampNeg v, J, T, F, L)) rfl w.2.2.1 hi (fun b hb => ⟨up2_ne _ _ _ hb, rfl, rfl, rfl⟩)]
    simp only [hc, hc_e, up2_at]
    rfl
  refine va_iast X.1 X.2.1 w.1 w.2.1 w.2.2.1 w.2.2.2.1 q 0 (hws_get (S := (I, J, T, F, L)) hi) rfl hin hdg (fun H1 locs1 g1 g2 g3 => ?_)
  rw [hset] at g1 g2
  exact kk H1 locs1 ⟨w.1, g1, g2, g3, w.2.2.2.2⟩
end HM
