def up1 {α : Type} (f : Nat → Nat → α) (a : Nat) (g : Nat → α) : Nat → Nat → α := fun b => if b = a then g else f b
theorem up1_ne {α : Type} (f : Nat → Nat → α) {a b : Nat} (g : Nat → α) (h : b ≠ a) : up1 f a g b = f b := if_neg h
theorem up1_at {α : Type} (f : Nat → Nat → α) (a : Nat) (g : Nat → α) : up1 f a g a = g := if_pos rfl
theorem hW_grow {D : va_G} {cA : Nat → ClassId} {z : Nat} {Ev : HE} {S S' : HS} {A : Nat → Prop} {s : State} {H H1 : Heap} {locs : List Loc} {q kd n : Nat} (w : hW D cA z Ev S A s H locs) (hL : S'.2.2.2.2 = S.2.2.2.2 ++ [(q, kd, n)]) (hq : H.size = z + q)
    (ho : ∀ b, b ≠ q → S'.1 b = S.1 b ∧ S'.2.1 b = S.2.1 b ∧ S'.2.2.1 b = S.2.2.1 b ∧ S'.2.2.2.1 b = S.2.2.2.1 b) (hz1 : H1.size = H.size + 1) (ho1 : ∀ x, x < H.size → H1[x]? = H[x]?) (hat : va_at D hclasses (hc cA z S' (q, kd, n)) H1) : hW D cA z Ev S' A s H1 locs := by
  obtain ⟨hK, hP, hD, hS, hA, hE⟩ := w
  have e : hws cA z S' = hws cA z S ++ [hc cA z S' (q, kd, n)] := by
    unfold hws
    rw [hL, List.map_append]
    refine congrArg (· ++ [hc cA z S' (q, kd, n)]) (List.map_congr_left fun p hp => ?_)
    obtain ⟨i, hi⟩ := List.getElem?_of_mem hp
    have hlt := (hP i _ (hws_get (cA := cA) (z := z) hi)).lt
    have hne : p.1 ≠ q := fun e => by
      have : z + p.1 < H.size := hlt
      omega
    obtain ⟨h1, h2, h3, h4⟩ := ho p.1 hne
    exact hc_cong h1 h2 h3 h4
  have hk : ∀ (k : Nat) (x : Nat × va_E), (hws cA z S)[k]? = some x → H1[x.1]? = H[x.1]? := fun k x hx => ho1 x.1 ((hP k x hx).lt)
  refine ⟨hK, ?_, ?_, ⟨by have := hS.1; omega, fun x h1 h2 => (ho1 x (Nat.lt_of_lt_of_le h1 hS.1)).trans (hS.2.1 x h1 h2), hS.2.2⟩, hA, hE⟩
  · rw [e]
    refine (hP.kept hk).app (fun k x hx => ?_)
    have hz : k < 1 := (List.getElem?_eq_some_iff.mp hx).1
    rw [show k = 0 by omega] at hx
    cases hx
    exact hat
  · rw [e]
    have h := hD.push hP (a := H.size) (e := (hc cA z S' (q, kd, n)).2) rfl (hA _ hS.1)
    have e2 : (H.size, (hc cA z S' (q, kd, n)).2) = hc cA z S' (q, kd, n) := by rw [hq]; rfl
    rw [e2] at h
    exact h
theorem hW_lt {D : va_G} {cA : Nat → ClassId} {z : Nat} {Ev : HE} {S : HS} {A : Nat → Prop} {s : State} {H : Heap} {locs : List Loc} (w : hW D cA z Ev S A s H locs) : ∀ p ∈ S.2.2.2.2, z + p.1 < H.size := by
  intro p hp
  obtain ⟨i, hi⟩ := List.getElem?_of_mem hp
  exact (w.2.1 i _ (hws_get (cA := cA) (z := z) hi)).lt
theorem hW_q {D : va_G} {cA : Nat → ClassId} {z : Nat} {Ev : HE} {S : HS} {A : Nat → Prop} {s : State} {H : Heap} {locs : List Loc} (w : hW D cA z Ev S A s H locs) {p : Nat × Nat × Nat} (hp : p ∈ S.2.2.2.2) : ∃ q, H.size = z + q ∧ ∀ p ∈ S.2.2.2.2, p.1 < q := by
  have h := hW_lt w p hp
  refine ⟨H.size - z, by omega, fun p hp => ?_⟩
  have := hW_lt w p hp
  omega
/-- a class that is made: own's pool entry idx -/
def hN (own : String) (idx ci N : Nat) : Prop := ∃ (C : String) (TT : u_T) (ty0 : Nat → FieldType), hclasses[ci]? = some (C, TT, N) ∧ (∀ w ∈ u_ws C TT N, w ∈ tb) ∧ (∀ k, k < N → parseFieldDescriptor (TT k).2.2.1 = some (ty0 k)) ∧ Cond.classLink own idx C ∈ tb ∧ Cond.instantiable C N ∈ tb ∧ Cond.initialized C ∈ tb ∧
  ∀ j, j < N → ((hft ci)[j]? = some 0 ∧ defaultValue (ty0 j) = .int 0) ∨ ((hft ci)[j]? = some 1 ∧ defaultValue (ty0 j) = .null) ∨ ((hft ci)[j]? = some 3 ∧ defaultValue (ty0 j) = .long 0)
section HMA
variable {p : Program} {l : Launch} {e : Env} {R : Room} {s : State} {m : MethodId} {args : Array Value} {below : List Frame} {meth : Method} {c : Code} {H : Heap} {locs : List Loc} {cells slots : Nat} {Q : State → Prop}
variable {cc : ByteArray} {pc nL : Nat} {ls : Array Slot} {rest st0 : List Value} {D : va_G} {cA : Nat → ClassId} {z : Nat} {I : HI} {J : HJ} {T F : HR} {L : HL} {A : Nat → Prop} {own : String} {Ev : HE}
/-- just so many cells have been made -/
theorem hm_sz {g : JFrame} {N : Nat} (hlo : z + N ≤ H.size) (hc : s.heap.size + cells ≤ z + N) (k : H.size = z + N → W p l e R s m args below meth c H locs cells slots Q g) : W p l e R s m args below meth c H locs cells slots Q g := fun T hT X => k (by have h := X.heapSize; rw [hT] at h; omega) T hT X
theorem hm_new (X : hX p m c s args own cc nL) (w : hW D cA z Ev (I, J, T, F, L) A s H locs) {idx ci N q : Nat} (ho : hN own idx ci N) (hq : H.size = z + q) (hcells : cells + 1 ≤ R.cells) (hslots : slots + N ≤ R.slots) (hdg : decode cc pc = .ok (.new idx, 3))
    (kk : ∀ (H : Heap), H.size = z + (q + 1) → hW D cA z Ev (up1 I q (fun _ => 0), up1 J q (fun _ => 0), T, up1 F q (fun _ => none), L ++ [(q, ci + 7, 0)]) A s H locs → W p l e R s m args below meth c H locs (cells + 1) (slots + N) Q (F0 m (pc + 3) ls (.ref (z + q) :: rest))) : W p l e R s m args below meth c H locs cells slots Q (F0 m pc ls rest) := by
  obtain ⟨hx, hb, hml, hown, hts⟩ := X
  obtain ⟨C, TT, ty0, hc, hin, hty, h1, h2, h3, h4⟩ := ho
  have hKn := w.1.1 ci _ hc
  refine W.newcK hx hb hown (hts _ h1) (hts _ h2) (hts _ h3) rfl hdg hcells hslots hKn.2.1 hq fun H1 kC hkC e1 z1 o1 => ?_
  refine kk H1 (by rw [z1]; omega) (hW_grow w (S' := (up1 I q (fun _ => 0), up1 J q (fun _ => 0), T, up1 F q (fun _ => none), L ++ [(q, ci + 7, 0)])) rfl hq (fun b hb => ⟨up1_ne _ _ hb, up1_ne _ _ hb, rfl, up1_ne _ _ hb⟩) (by rw [z1, hq]) (by rw [hq]; exact o1) ?_)
  refine ⟨_, hc, (u_born ty0 hts hin hKn hkC e1 hty).to (fun j hj => ?_)⟩
  show _ = vp_V (hc_fs z (up1 F q fun _ => none) (up1 I q fun _ => 0) (up1 J q fun _ => 0) ci q) j
  unfold vp_V
  rcases h4 j hj with ⟨g1, g2⟩ | ⟨g1, g2⟩ | ⟨g1, g2⟩
  · rw [List.getD_eq_getElem?_getD, hc_fs_get g1, g2]; simp [hc_v, up1]
  · rw [List.getD_eq_getElem?_getD, hc_fs_get g1, g2]; simp [hc_v, up1, va_rf]
  · rw [List.getD_eq_getElem?_getD, hc_fs_get g1, g2]; simp [hc_v, up1]
theorem hm_newa0 (X : hX p m c s args own cc nL) (w : hW D cA z Ev (I, J, T, F, L) A s H locs) {q N : Nat} {n : Int32} (hq : H.size = z + q) (hn : ¬ n < 0) (hN : nx n = N) (hbytes : N * 4 ≤ 536870912) (hcells : cells + 1 ≤ R.cells) (hslots : slots + N ≤ R.slots) (hdg : decode cc pc = .ok (.newarray .int, 2))
    (kk : ∀ (H : Heap), H.size = z + (q + 1) → hW D cA z Ev (up1 I q (fun _ => 0), J, T, F, L ++ [(q, 0, N)]) A s H locs → W p l e R s m args below meth c H locs (cells + 1) (slots + N) Q (F0 m (pc + 2) ls (.ref (z + q) :: rest))) : W p l e R s m args below meth c H locs cells slots Q (F0 m pc ls (.int n :: rest)) := by
  refine va_newaK (atype := .int) X.1 X.2.1 (X.2.2.2.2 _ kw235) rfl hdg rfl hn hN (by have h9 : componentBytes (newarray.typeOf .int) ≤ 4 := (by decide); exact Nat.le_trans (Nat.mul_le_mul_left _ h9) hbytes) hcells hslots hq fun H1 cA1 e1 z1 o1 hAr hNm => ?_
  have hcA : cA1 = cA 0 := by
    have h9 : s.vm.findClass ("[" ++ (.int : FieldType).toString) = some (cA 0) := (w.1.2 0 _ rfl).2
    exact Option.some.inj (hNm.symm.trans h9)
  subst hcA
  refine kk H1 (by rw [z1]; omega) (hW_grow w (S' := (up1 I q (fun _ => 0), J, T, F, L ++ [(q, 0, N)])) rfl hq (fun b hb => ⟨up1_ne _ _ hb, rfl, rfl, rfl⟩) (by rw [z1, hq]) (by rw [hq]; exact o1) ?_)
  show H1[z + q]? = some (vp_cell (cA 0) (N, .inl (up1 I q (fun _ => 0) q)))
  rw [up1_at, vp_cell_i]
  exact e1
theorem hm_newa1 (X : hX p m c s args own cc nL) (w : hW D cA z Ev (I, J, T, F, L) A s H locs) {q N : Nat} {n : Int32} (hq : H.size = z + q) (hn : ¬ n < 0) (hN : nx n = N) (hbytes : N * 4 ≤ 536870912) (hcells : cells + 1 ≤ R.cells) (hslots : slots + N ≤ R.slots) (hdg : decode cc pc = .ok (.newarray .byte, 2))
    (kk : ∀ (H : Heap), H.size = z + (q + 1) → hW D cA z Ev (up1 I q (fun _ => 0), J, T, F, L ++ [(q, 1, N)]) A s H locs → W p l e R s m args below meth c H locs (cells + 1) (slots + N) Q (F0 m (pc + 2) ls (.ref (z + q) :: rest))) : W p l e R s m args below meth c H locs cells slots Q (F0 m pc ls (.int n :: rest)) := by
  refine va_newaK (atype := .byte) X.1 X.2.1 (X.2.2.2.2 _ kw236) rfl hdg rfl hn hN (by have h9 : componentBytes (newarray.typeOf .byte) ≤ 4 := (by decide); exact Nat.le_trans (Nat.mul_le_mul_left _ h9) hbytes) hcells hslots hq fun H1 cA1 e1 z1 o1 hAr hNm => ?_
  have hcA : cA1 = cA 1 := by
    have h9 : s.vm.findClass ("[" ++ (.byte : FieldType).toString) = some (cA 1) := (w.1.2 1 _ rfl).2
    exact Option.some.inj (hNm.symm.trans h9)
  subst hcA
  refine kk H1 (by rw [z1]; omega) (hW_grow w (S' := (up1 I q (fun _ => 0), J, T, F, L ++ [(q, 1, N)])) rfl hq (fun b hb => ⟨up1_ne _ _ hb, rfl, rfl, rfl⟩) (by rw [z1, hq]) (by rw [hq]; exact o1) ?_)
  show H1[z + q]? = some (vp_cell (cA 1) (N, .inl (up1 I q (fun _ => 0) q)))
  rw [up1_at, vp_cell_i]
  exact e1
theorem hm_newa2 (X : hX p m c s args own cc nL) (w : hW D cA z Ev (I, J, T, F, L) A s H locs) {q N : Nat} {n : Int32} (hq : H.size = z + q) (hn : ¬ n < 0) (hN : nx n = N) (hbytes : N * 4 ≤ 536870912) (hcells : cells + 1 ≤ R.cells) (hslots : slots + N ≤ R.slots) (hdg : decode cc pc = .ok (.newarray .short, 2))
    (kk : ∀ (H : Heap), H.size = z + (q + 1) → hW D cA z Ev (up1 I q (fun _ => 0), J, T, F, L ++ [(q, 2, N)]) A s H locs → W p l e R s m args below meth c H locs (cells + 1) (slots + N) Q (F0 m (pc + 2) ls (.ref (z + q) :: rest))) : W p l e R s m args below meth c H locs cells slots Q (F0 m pc ls (.int n :: rest)) := by
  refine va_newaK (atype := .short) X.1 X.2.1 (X.2.2.2.2 _ kw365) rfl hdg rfl hn hN (by have h9 : componentBytes (newarray.typeOf .short) ≤ 4 := (by decide); exact Nat.le_trans (Nat.mul_le_mul_left _ h9) hbytes) hcells hslots hq fun H1 cA1 e1 z1 o1 hAr hNm => ?_
  have hcA : cA1 = cA 2 := by
    have h9 : s.vm.findClass ("[" ++ (.short : FieldType).toString) = some (cA 2) := (w.1.2 2 _ rfl).2
    exact Option.some.inj (hNm.symm.trans h9)
  subst hcA
  refine kk H1 (by rw [z1]; omega) (hW_grow w (S' := (up1 I q (fun _ => 0), J, T, F, L ++ [(q, 2, N)])) rfl hq (fun b hb => ⟨up1_ne _ _ hb, rfl, rfl, rfl⟩) (by rw [z1, hq]) (by rw [hq]; exact o1) ?_)
  show H1[z + q]? = some (vp_cell (cA 2) (N, .inl (up1 I q (fun _ => 0) q)))
  rw [up1_at, vp_cell_i]
  exact e1
theorem hm_newa3 (X : hX p m c s args own cc nL) (w : hW D cA z Ev (I, J, T, F, L) A s H locs) {q N : Nat} {n : Int32} (hq : H.size = z + q) (hn : ¬ n < 0) (hN : nx n = N) (hbytes : N * 4 ≤ 536870912) (hcells : cells + 1 ≤ R.cells) (hslots : slots + N ≤ R.slots) (hdg : decode cc pc = .ok (.newarray .boolean, 2))
    (kk : ∀ (H : Heap), H.size = z + (q + 1) → hW D cA z Ev (up1 I q (fun _ => 0), J, T, F, L ++ [(q, 3, N)]) A s H locs → W p l e R s m args below meth c H locs (cells + 1) (slots + N) Q (F0 m (pc + 2) ls (.ref (z + q) :: rest))) : W p l e R s m args below meth c H locs cells slots Q (F0 m pc ls (.int n :: rest)) := by
  refine va_newaK (atype := .boolean) X.1 X.2.1 (X.2.2.2.2 _ kw390) rfl hdg rfl hn hN (by have h9 : componentBytes (newarray.typeOf .boolean) ≤ 4 := (by decide); exact Nat.le_trans (Nat.mul_le_mul_left _ h9) hbytes) hcells hslots hq fun H1 cA1 e1 z1 o1 hAr hNm => ?_
  have hcA : cA1 = cA 3 := by
    have h9 : s.vm.findClass ("[" ++ (.boolean : FieldType).toString) = some (cA 3) := (w.1.2 3 _ rfl).2
    exact Option.some.inj (hNm.symm.trans h9)
  subst hcA
  refine kk H1 (by rw [z1]; omega) (hW_grow w (S' := (up1 I q (fun _ => 0), J, T, F, L ++ [(q, 3, N)])) rfl hq (fun b hb => ⟨up1_ne _ _ hb, rfl, rfl, rfl⟩) (by rw [z1, hq]) (by rw [hq]; exact o1) ?_)
  show H1[z + q]? = some (vp_cell (cA 3) (N, .inl (up1 I q (fun _ => 0) q)))
  rw [up1_at, vp_cell_i]
  exact e1
theorem hm_newq5 (X : hX p m c s args own cc nL) (w : hW D cA z Ev (I, J, T, F, L) A s H locs) {q N idx : Nat} {n : Int32} (hcl : Cond.classLink own idx "HatHall$Formula" ∈ tb) (hov : va_AO "HatHall$Formula" s) (hq : H.size = z + q) (hn : ¬ n < 0) (hN : nx n = N) (hbytes : N * 4 ≤ 536870912) (hcells : cells + 1 ≤ R.cells) (hslots : slots + N ≤ R.slots) (hdg : decode cc pc = .ok (.anewarray idx, 3))
    (kk : ∀ (H : Heap), H.size = z + (q + 1) → hW D cA z Ev (I, J, up1 T q (fun _ => none), F, L ++ [(q, 5, N)]) A s H locs → W p l e R s m args below meth c H locs (cells + 1) (slots + N) Q (F0 m (pc + 3) ls (.ref (z + q) :: rest))) : W p l e R s m args below meth c H locs cells slots Q (F0 m pc ls (.int n :: rest)) := by
  subst hN
  refine W.anew X.1 X.2.1 X.2.2.2.1 (X.2.2.2.2 _ hcl) (va_AO.use hov) rfl hdg rfl hn hbytes hcells hslots fun cA1 kA comp f1 f2 f3 f4 => ?_
  generalize hH1 : H.push ({ cls := cA1, slots := Array.replicate n.toNatClampNeg .null, vm := .none } : Cell) = H1
  have z1 : H1.size = H.size + 1 := by rw [← hH1, Array.size_push]
  have e1 : H1[H.size]? = some (arrV cA1 n.toNatClampNeg (fun _ => .null)) := by rw [← hH1, Array.getElem?_push_size, ← arrV_new]
  have o1 : ∀ q : Nat, q < H.size → H1[q]? = H[q]? := fun q hq => by rw [← hH1, Array.getElem?_push, if_neg (Nat.ne_of_lt hq)]
  have hcA : cA1 = cA 5 := by
    obtain ⟨k9, c9, -, -, -, h9⟩ := (w.1.2 5 _ rfl).2
    exact Option.some.inj (f1.symm.trans h9)
  subst hcA
  have h := kk H1 (by rw [z1]; omega) (hW_grow w (S' := (I, J, up1 T q (fun _ => none), F, L ++ [(q, 5, n.toNatClampNeg)])) rfl hq (fun b hb => ⟨rfl, rfl, up1_ne _ _ hb, rfl⟩) z1 o1 (by
    show H1[z + q]? = some (vp_cell (cA 5) (n.toNatClampNeg, .inr (.inr (.inr (.inr (fun j => (up1 T q (fun _ => none) q j).map (z + ·)))))))
    rw [up1_at, vp_cell_q, ← hq]
    exact e1))
  rw [← hq] at h
  exact h
theorem hm_newq6 (X : hX p m c s args own cc nL) (w : hW D cA z Ev (I, J, T, F, L) A s H locs) {q N idx : Nat} {n : Int32} (hcl : Cond.classLink own idx "HatHall$Net" ∈ tb) (hov : va_AO "HatHall$Net" s) (hq : H.size = z + q) (hn : ¬ n < 0) (hN : nx n = N) (hbytes : N * 4 ≤ 536870912) (hcells : cells + 1 ≤ R.cells) (hslots : slots + N ≤ R.slots) (hdg : decode cc pc = .ok (.anewarray idx, 3))
    (kk : ∀ (H : Heap), H.size = z + (q + 1) → hW D cA z Ev (I, J, up1 T q (fun _ => none), F, L ++ [(q, 6, N)]) A s H locs → W p l e R s m args below meth c H locs (cells + 1) (slots + N) Q (F0 m (pc + 3) ls (.ref (z + q) :: rest))) : W p l e R s m args below meth c H locs cells slots Q (F0 m pc ls (.int n :: rest)) := by
  subst hN
  refine W.anew X.1 X.2.1 X.2.2.2.1 (X.2.2.2.2 _ hcl) (va_AO.use hov) rfl hdg rfl hn hbytes hcells hslots fun cA1 kA comp f1 f2 f3 f4 => ?_
  generalize hH1 : H.push ({ cls := cA1, slots := Array.replicate n.toNatClampNeg .null, vm := .none } : Cell) = H1
  have z1 : H1.size = H.size + 1 := by rw [← hH1, Array.size_push]
  have e1 : H1[H.size]? = some (arrV cA1 n.toNatClampNeg (fun _ => .null)) := by rw [← hH1, Array.getElem?_push_size, ← arrV_new]
  have o1 : ∀ q : Nat, q < H.size → H1[q]? = H[q]? := fun q hq => by rw [← hH1, Array.getElem?_push, if_neg (Nat.ne_of_lt hq)]
  have hcA : cA1 = cA 6 := by
    obtain ⟨k9, c9, -, -, -, h9⟩ := (w.1.2 6 _ rfl).2
    exact Option.some.inj (f1.symm.trans h9)
  subst hcA
  have h := kk H1 (by rw [z1]; omega) (hW_grow w (S' := (I, J, up1 T q (fun _ => none), F, L ++ [(q, 6, n.toNatClampNeg)])) rfl hq (fun b hb => ⟨rfl, rfl, up1_ne _ _ hb, rfl⟩) z1 o1 (by
    show H1[z + q]? = some (vp_cell (cA 6) (n.toNatClampNeg, .inr (.inr (.inr (.inr (fun j => (up1 T q (fun _ => none) q j).map (z + ·)))))))
    rw [up1_at, vp_cell_q, ← hq]
    exact e1))
  rw [← hq] at h
  exact h
/-- a reference put into a field: final in a constructor, or not -/
theorem hm_putr (X : hX p m c s args own cc nL) (w : hW D cA z Ev (I, J, T, F, L) A s H locs) {index ci k a n b : Nat} {fin : Bool} {ty : FieldType} (hf : hF own index ci k 1 fin ty) (hfin : fin = true → meth.name = "<init>" ∧ ∃ TT N, hclasses[ci]? = some (own, TT, N) ∧ (TT k).1 = own) (hs : (a, ci + 7, n) ∈ L) (hn : narrow ty (.ref (z + b)) = .ref (z + b)) (hfit : fits ty (.ref (z + b)) = true) (hdg : decode cc pc = .ok (.putfield index, 3))
    (kk : ∀ (H : Heap) (locs : List Loc), hW D cA z Ev (I, J, T, up2 F a k (some b), L) A s H locs → W p l e R s m args below meth c H locs cells slots Q (F0 m (pc + 3) ls rest)) : W p l e R s m args below meth c H locs cells slots Q (F0 m pc ls (.ref (z + b) :: .ref (z + a) :: rest)) := by
  obtain ⟨hx, hb, hml, hown, hts⟩ := X
  obtain ⟨hK, hP, hD, hS, hA, hEv⟩ := w
  obtain ⟨C, TT, N, ty0, hc, hin, hk, ht, hl, h1, h2, h3, h4, h5⟩ := hf
  obtain ⟨i, hi⟩ := List.getElem?_of_mem hs
  have hset : (hws cA z (I, J, T, F, L)).set i (z + a, .inr (ci, (hc_fs z F I J ci a).set k (.ref (z + b)))) = hws cA z (I, J, T, up2 F a k (some b), L) := by
    rw [hc_fs_set (I' := I) (J' := J) (F' := up2 F a k (some b)) ht (by simp [hc_v, up2, va_rf]) (fun j hj => ⟨rfl, rfl, by simp [up2, hj]⟩)]
    exact hws_set (S := (I, J, T, F, L)) (S' := (I, J, T, up2 F a k (some b), L)) rfl hD hi (fun b hb => ⟨rfl, rfl, rfl, up2_ne _ _ _ hb⟩)
  cases fin with
  | false =>
    refine va_put (ci := ci) (fs := hc_fs z F I J ci a) hx hb hts hin ty0 h1 h2 hown hK hP hD hS i (hws_get (S := (I, J, T, F, L)) hi) hc k hk (hts _ hl) (fun _ h => h) h3 (v := .ref (z + b)) (ty := ty) (by rw [h1 k hk, h4]) hn hfit (hc_fs_len ht) hdg (fun H1 locs1 g1 g2 g3 => ?_)
    rw [hset] at g1 g2
    exact kk H1 locs1 ⟨hK, g1, g2, g3, hA, hEv⟩
  | true =>
    obtain ⟨hnm, TT', N', hc', hd'⟩ := hfin rfl
    cases Option.some.inj (hc.symm.trans hc')
    refine va_putF (ci := ci) (fs := hc_fs z F I J ci a) hx hb hts hin ty0 h1 h2 hown hK hP hD hS i (hws_get (S := (I, J, T, F, L)) hi) hc k hk (hts _ hl) (fun _ h => h) h3 hnm hd' (v := .ref (z + b)) (ty := ty) (by rw [h1 k hk, h4]) hn hfit (hc_fs_len ht) hdg (fun H1 locs1 g1 g2 g3 => ?_)
    rw [hset] at g1 g2
    exact kk H1 locs1 ⟨hK, g1, g2, g3, hA, hEv⟩
theorem hm_putiF (X : hX p m c s args own cc nL) (w : hW D cA z Ev (I, J, T, F, L) A s H locs) {index ci k a n : Nat} {ty : FieldType} {v : Int32} (hf : hF own index ci k 0 true ty) (hfin : meth.name = "<init>" ∧ ∃ TT N, hclasses[ci]? = some (own, TT, N) ∧ (TT k).1 = own) (hs : (a, ci + 7, n) ∈ L) (hn : narrow ty (.int v) = .int v) (hfit : fits ty (.int v) = true) (hdg : decode cc pc = .ok (.putfield index, 3))
    (kk : ∀ (H : Heap) (locs : List Loc), hW D cA z Ev (up2 I a k v, J, T, F, L) A s H locs → W p l e R s m args below meth c H locs cells slots Q (F0 m (pc + 3) ls rest)) : W p l e R s m args below meth c H locs cells slots Q (F0 m pc ls (.int v :: .ref (z + a) :: rest)) := by
  obtain ⟨hx, hb, hml, hown, hts⟩ := X
  obtain ⟨hK, hP, hD, hS, hA, hEv⟩ := w
  obtain ⟨C, TT, N, ty0, hc, hin, hk, ht, hl, h1, h2, h3, h4, h5⟩ := hf
  obtain ⟨i, hi⟩ := List.getElem?_of_mem hs
  have hset : (hws cA z (I, J, T, F, L)).set i (z + a, .inr (ci, (hc_fs z F I J ci a).set k (.int v))) = hws cA z (up2 I a k v, J, T, F, L) := by
    rw [hc_fs_set (I' := up2 I a k v) (J' := J) (F' := F) ht (by simp [hc_v, up2]) (fun j hj => ⟨by simp [up2, hj], rfl, rfl⟩)]
    exact hws_set (S := (I, J, T, F, L)) (S' := (up2 I a k v, J, T, F, L)) rfl hD hi (fun b hb => ⟨up2_ne _ _ _ hb, rfl, rfl, rfl⟩)
  obtain ⟨hnm, TT', N', hc', hd'⟩ := hfin
  cases Option.some.inj (hc.symm.trans hc')
  refine va_putF (ci := ci) (fs := hc_fs z F I J ci a) hx hb hts hin ty0 h1 h2 hown hK hP hD hS i (hws_get (S := (I, J, T, F, L)) hi) hc k hk (hts _ hl) (fun _ h => h) h3 hnm hd' (v := .int v) (ty := ty) (by rw [h1 k hk, h4]) hn hfit (hc_fs_len ht) hdg (fun H1 locs1 g1 g2 g3 => ?_)
  rw [hset] at g1 g2
  exact kk H1 locs1 ⟨hK, g1, g2, g3, hA, hEv⟩
end HMA
