theorem tb_lw {args : Array Value} {s : State} (hts : ∀ w ∈ lw_tbl, w.before args s = true) : ∀ w ∈ tb, w.before args s = true := fun w hw => hts w (List.mem_filter.mp hw).1
theorem st_arr {args : Array Value} {s : State} {ty : FieldType} (h : (Cond.arrayClass ty).before args s = true) : ∃ c, ArrOfT s c ty ∧ s.vm.findClass ("[" ++ ty.toString) = some c := by
  obtain ⟨c, k, comp, h1, h2, h3⟩ := Cond.arrayClass_spec h
  exact ⟨c, fun n z => ⟨fun k h => (by cases h), k, h2, comp, h3⟩, h1⟩
theorem st_arrO {args : Array Value} {s : State} {C : String} (h : (Cond.arrayOver (.object C)).before args s = true) : ∃ c, ArrOfT s c (.object C) ∧ va_RA s c (.object C) := by
  obtain ⟨comp, c, k, h1, h2, h3, h4, h5⟩ := Cond.arrayOver_spec h
  exact ⟨c, fun n z => ⟨fun k h => (by cases h), k, h3, comp, h4⟩, k, comp, h3, h4, h1, h5⟩
theorem st_K {args : Array Value} {s : State} (hts : ∀ w ∈ lw_tbl, w.before args s = true) : ∃ (D : va_G) (cA : Nat → ClassId), va_K D hclasses (hty cA) s := by
  have ht := tb_lw hts
  obtain ⟨c0, i0, h0⟩ := u_known (C := RX0) (T := TX0) (N := 5) (n := 5) ht inX0 (ht _ kw392)
  obtain ⟨c1, i1, h1⟩ := u_known (C := RX1) (T := TX1) (N := 5) (n := 5) ht inX1 (ht _ kw437)
  obtain ⟨c2, i2, h2⟩ := u_known (C := RX2) (T := TX2) (N := 4) (n := 4) ht inX2 (ht _ kw258)
  obtain ⟨c3, i3, h3⟩ := u_known (C := RX3) (T := TX3) (N := 2) (n := 2) ht inX3 (ht _ kw280)
  obtain ⟨c4, i4, h4⟩ := u_known (C := RX4) (T := TX4) (N := 3) (n := 3) ht inX4 (ht _ kw416)
  obtain ⟨c5, i5, h5⟩ := u_known (C := RX5) (T := TX5) (N := 11) (n := 11) ht inX5 (ht _ kw135)
  obtain ⟨c6, i6, h6⟩ := u_known (C := RX6) (T := TX6) (N := 14) (n := 14) ht inX6 (ht _ kw293)
  obtain ⟨c7, i7, h7⟩ := u_known (C := RX7) (T := TX7) (N := 2) (n := 2) ht inX7 (ht _ kw239)
  obtain ⟨c8, i8, h8⟩ := u_known (C := RX8) (T := TX8) (N := 4) (n := 4) ht inX8 (ht _ kw346)
  obtain ⟨c9, i9, h9⟩ := u_known (C := RX9) (T := TX9) (N := 5) (n := 5) ht inX9 (ht _ kw367)
  obtain ⟨c10, i10, h10⟩ := u_known (C := RX10) (T := TX10) (N := 15) (n := 15) ht inX10 (ht _ kw127)
  obtain ⟨c11, i11, h11⟩ := u_known (C := RX11) (T := TX11) (N := 75) (n := 75) ht inX11 (ht _ kw1319)
  obtain ⟨a0, g0, f0⟩ := st_arr (ty := .int) (ht _ kw235)
  obtain ⟨a1, g1, f1⟩ := st_arr (ty := .byte) (ht _ kw236)
  obtain ⟨a2, g2, f2⟩ := st_arr (ty := .short) (ht _ kw365)
  obtain ⟨a3, g3, f3⟩ := st_arr (ty := .boolean) (ht _ kw390)
  obtain ⟨a4, g4, f4⟩ := st_arr (ty := .long) (ht _ kw1935)
  obtain ⟨a5, g5, f5⟩ := st_arrO (C := "HatHall$Formula") (hts (Cond.arrayOver (.object "HatHall$Formula")) (List.mem_of_getElem? (i := 141) (by decide +kernel)))
  obtain ⟨a6, g6, f6⟩ := st_arrO (C := "HatHall$Net") (hts (Cond.arrayOver (.object "HatHall$Net")) (List.mem_of_getElem? (i := 237) (by decide +kernel)))
  refine ⟨(fun k => match k with | 0 => c0 | 1 => c1 | 2 => c2 | 3 => c3 | 4 => c4 | 5 => c5 | 6 => c6 | 7 => c7 | 8 => c8 | 9 => c9 | 10 => c10 | _ => c11, fun k => match k with | 0 => i0 | 1 => i1 | 2 => i2 | 3 => i3 | 4 => i4 | 5 => i5 | 6 => i6 | 7 => i7 | 8 => i8 | 9 => i9 | 10 => i10 | _ => i11), fun k => match k with | 0 => a0 | 1 => a1 | 2 => a2 | 3 => a3 | 4 => a4 | 5 => a5 | _ => a6, ?_, ?_⟩
  · intro k q hq
    match k, hq with
    | 0, hq => cases hq; exact h0
    | 1, hq => cases hq; exact h1
    | 2, hq => cases hq; exact h2
    | 3, hq => cases hq; exact h3
    | 4, hq => cases hq; exact h4
    | 5, hq => cases hq; exact h5
    | 6, hq => cases hq; exact h6
    | 7, hq => cases hq; exact h7
    | 8, hq => cases hq; exact h8
    | 9, hq => cases hq; exact h9
    | 10, hq => cases hq; exact h10
    | 11, hq => cases hq; exact h11
    | k + 12, hq => simp [hclasses] at hq
  · intro k q hq
    match k, hq with
    | 0, hq => cases hq; exact ⟨g0, f0⟩
    | 1, hq => cases hq; exact ⟨g1, f1⟩
    | 2, hq => cases hq; exact ⟨g2, f2⟩
    | 3, hq => cases hq; exact ⟨g3, f3⟩
    | 4, hq => cases hq; exact ⟨g4, f4⟩
    | 5, hq => cases hq; exact ⟨g5, f5⟩
    | 6, hq => cases hq; exact ⟨g6, f6⟩
    | k + 7, hq => simp [hty] at hq

theorem ng_in : ∀ w ∈ hx_ng, w ∈ lw_tbl := by decide +kernel
theorem str_in : ∀ q ∈ hx_strs, Cond.stringRef q.1 q.2.1 q.2.2 ∈ lw_tbl ∧ Cond.exactly (.string q.1 q.2.1) "java/lang/String" ∈ flatC (Jvm.Cond.and given_1 narrow_1) := by decide +kernel
abbrev wtm : Term := Term.string "HatHall$Reader" 136
theorem wel_in : ∀ j, j < 58 → Cond.eq (.elem (.field wtm "java/lang/String" "value" "[B") (.int (Int32.ofNat j))) (.int (wch j)) ∈ flatC (Jvm.Cond.and given_1 narrow_1) := by decide +kernel
theorem gw1_in : Cond.isRef (.static "java/lang/Throwable" "UNASSIGNED_STACK" "[Ljava/lang/StackTraceElement;") ∈ flatC (Jvm.Cond.and given_1 narrow_1) := by decide +kernel
theorem gw2_in : Cond.isRef (.static "java/lang/Throwable" "SUPPRESSED_SENTINEL" "Ljava/util/List;") ∈ flatC (Jvm.Cond.and given_1 narrow_1) := by decide +kernel
theorem gw3_in : Cond.eq (.static "java/lang/String" "COMPACT_STRINGS" "Z") (.int 1) ∈ flatC (Jvm.Cond.and given_1 narrow_1) := by decide +kernel
theorem gw4_in : Cond.isRef (.static "jdk/internal/util/Preconditions" "SIOOBE_FORMATTER" "Ljava/util/function/BiFunction;") ∈ flatC (Jvm.Cond.and given_1 narrow_1) := by decide +kernel
theorem gw5_in : Cond.exactly wtm "java/lang/String" ∈ flatC (Jvm.Cond.and given_1 narrow_1) := by decide +kernel
theorem gw6_in : Cond.eq (.field wtm "java/lang/String" "coder" "B") (.int 0) ∈ flatC (Jvm.Cond.and given_1 narrow_1) := by decide +kernel
theorem gw7_in : Cond.arrayOf (.field wtm "java/lang/String" "value" "[B") .byte ∈ flatC (Jvm.Cond.and given_1 narrow_1) := by decide +kernel
theorem gw8_in : Cond.eq (.length (.field wtm "java/lang/String" "value" "[B")) (.int (Int32.ofNat 58)) ∈ flatC (Jvm.Cond.and given_1 narrow_1) := by decide +kernel
theorem st_Ev {s : State} {b : Nat} (hts : ∀ w ∈ lw_tbl, w.before #[Value.ref b] s = true) (hgv : (Jvm.Cond.and given_1 narrow_1).before #[Value.ref b] s = true) : EvC (fun q => s.heap.size ≤ q) s := by
  have hs := flat_of_before _ hgv
  have hA : ∀ a : Nat, a < s.heap.size → ¬ (fun q : Nat => s.heap.size ≤ q) a := fun a h => Nat.not_le.mpr h
  refine ⟨fun w hw => va_Nw.of (hx_ng_onT (hx_ng_ok w hw)) (hts w (ng_in w hw)), va_AO.of (hts (Cond.arrayOver (.object "HatHall$Formula")) (List.mem_of_getElem? (i := 141) (by decide +kernel))), va_AO.of (hts (Cond.arrayOver (.object "HatHall$Net")) (List.mem_of_getElem? (i := 237) (by decide +kernel))), vx_Zqof (hts (Cond.laysStatic "java/lang/Throwable" "UNASSIGNED_STACK" "[Ljava/lang/StackTraceElement;") (List.mem_of_getElem? (i := 760) (by decide +kernel))) (hts (Cond.initialized "java/lang/Throwable") (List.mem_of_getElem? (i := 113) (by decide +kernel))) (hs _ gw1_in) hA, vx_Zqof (hts (Cond.laysStatic "java/lang/Throwable" "SUPPRESSED_SENTINEL" "Ljava/util/List;") (List.mem_of_getElem? (i := 762) (by decide +kernel))) (hts (Cond.initialized "java/lang/Throwable") (List.mem_of_getElem? (i := 113) (by decide +kernel))) (hs _ gw2_in) hA, fun q hq => ?_, ?_⟩
  · obtain ⟨h1, h2⟩ := str_in q hq
    obtain ⟨a, c, cA, kA, q1, -⟩ := Cond.exactly_spec (args := #[Value.ref b]) (first := s) (o := none) (s := s) (idx := []) (hs _ h2)
    exact ⟨a, vk_R.of (hts _ h1) q1⟩
  · obtain ⟨a, c, cA, kA, q1, q2, q3, q4, q5, q6, -⟩ := Cond.exactly_spec (args := #[Value.ref b]) (first := s) (o := none) (s := s) (idx := []) (hs _ gw5_in)
    obtain ⟨t, ht, hT⟩ := va_Tof (N := 58) (f := fun j => .int (wch j)) (A := fun q : Nat => s.heap.size ≤ q) (by decide) (hs _ gw7_in) (va_eqt (hs _ gw8_in)) (fun j hj => va_eqt (hs _ (wel_in j hj))) hA
    exact ⟨a, t, vk_R.of (hts _ (str_in ("HatHall$Reader", 136, "wearer pass guess me n q sees hears seen heard not and or ") (by decide)).1) q1, va_Oof (hs _ gw5_in) q1 hA, vk_OFof q1 (va_eqt (hs _ gw6_in)) hA, vk_OFof q1 ht hA, hT, va_Zof (hts (Cond.laysStatic "java/lang/String" "COMPACT_STRINGS" "Z") (List.mem_of_getElem? (i := 911) (by decide +kernel))) (hts (Cond.initialized "java/lang/String") (List.mem_of_getElem? (i := 118) (by decide +kernel))) (va_eqt (hs _ gw3_in)) hA, va_Zqof (hts (Cond.laysStatic "jdk/internal/util/Preconditions" "SIOOBE_FORMATTER" "Ljava/util/function/BiFunction;") (List.mem_of_getElem? (i := 927) (by decide +kernel))) (hts (Cond.initialized "jdk/internal/util/Preconditions") (List.mem_of_getElem? (i := 120) (by decide +kernel))) (hs _ gw4_in) hA⟩

section
variable {p : Program} {l : Launch} {e : Env} {R : Room} {s : State} {m : MethodId} {args : Array Value} {below : List Frame} {meth : Method} {c : Code} {H : Heap} {locs : List Loc} {cells slots mc ms : Nat} {Q : State → Prop}
variable {cc : ByteArray} {pc nL : Nat} {ls : Array Slot} {rest st0 : List Value} {D : va_G} {cA : Nat → ClassId} {z zC zM : Nat} {I : HI} {J : HJ} {T F : HR} {L : HL} {SC SM : HS} {A : Nat → Prop} {own : String} {Ev : HE}
theorem hm_newO (X : hX p m c s args own cc nL) (w : hW D cA z Ev (I, J, T, F, L) A s H locs) {idx ci N q : Nat} (ho : hN own idx ci N) (hq : H.size = z + q) (hcells : cells + 1 ≤ R.cells) (hslots : slots + N ≤ R.slots) (hdg : decode cc pc = .ok (.new idx, 3))
    (kk : ∀ (H1 : Heap), H1.size = z + (q + 1) → (∀ x : Nat, x < H.size → H1[x]? = H[x]?) → hW D cA z Ev (up1 I q (fun _ => 0), up1 J q (fun _ => 0), T, up1 F q (fun _ => none), L ++ [(q, ci + 7, 0)]) A s H1 locs → W p l e R s m args below meth c H1 locs (cells + 1) (slots + N) Q (F0 m (pc + 3) ls (.ref (z + q) :: rest))) : W p l e R s m args below meth c H locs cells slots Q (F0 m pc ls rest) := by
  obtain ⟨hx, hb, hml, hown, hts⟩ := X
  obtain ⟨C, TT, ty0, hc, hin, hty, h1, h2, h3, h4⟩ := ho
  have hKn := w.1.1 ci _ hc
  refine W.newcK hx hb hown (hts _ h1) (hts _ h2) (hts _ h3) rfl hdg hcells hslots hKn.2.1 hq fun H1 kC hkC e1 z1 o1 => ?_
  refine kk H1 (by rw [z1]; omega) (by rw [hq]; exact o1) (hW_grow w (S' := (up1 I q (fun _ => 0), up1 J q (fun _ => 0), T, up1 F q (fun _ => none), L ++ [(q, ci + 7, 0)])) rfl hq (fun b hb => ⟨up1_ne _ _ hb, up1_ne _ _ hb, rfl, up1_ne _ _ hb⟩) (by rw [z1, hq]) (by rw [hq]; exact o1) ?_)
  refine ⟨_, hc, (u_born ty0 hts hin hKn hkC e1 hty).to (fun j hj => ?_)⟩
  show _ = vp_V (hc_fs z (up1 F q fun _ => none) (up1 I q fun _ => 0) (up1 J q fun _ => 0) ci q) j
  unfold vp_V
  rcases h4 j hj with ⟨g1, g2⟩ | ⟨g1, g2⟩ | ⟨g1, g2⟩
  · rw [List.getD_eq_getElem?_getD, hc_fs_get g1, g2]; simp [hc_v, up1]
  · rw [List.getD_eq_getElem?_getD, hc_fs_get g1, g2]; simp [hc_v, up1, va_rf]
  · rw [List.getD_eq_getElem?_getD, hc_fs_get g1, g2]; simp [hc_v, up1]
theorem hm_newa4 (X : hX p m c s args own cc nL) (w : hW D cA z Ev (I, J, T, F, L) A s H locs) {q N : Nat} {n : Int32} (hq : H.size = z + q) (hn : ¬ n < 0) (hN : nx n = N) (hbytes : N * 8 ≤ 536870912) (hcells : cells + 1 ≤ R.cells) (hslots : slots + N ≤ R.slots) (hdg : decode cc pc = .ok (.newarray .long, 2))
    (kk : ∀ (H1 : Heap), H1.size = z + (q + 1) → (∀ x : Nat, x < H.size → H1[x]? = H[x]?) → hW D cA z Ev (I, up1 J q (fun _ => 0), T, F, L ++ [(q, 4, N)]) A s H1 locs → W p l e R s m args below meth c H1 locs (cells + 1) (slots + N) Q (F0 m (pc + 2) ls (.ref (z + q) :: rest))) : W p l e R s m args below meth c H locs cells slots Q (F0 m pc ls (.int n :: rest)) := by
  refine va_newaK (atype := .long) X.1 X.2.1 (X.2.2.2.2 _ kw1935) rfl hdg rfl hn hN (by have h9 : componentBytes (newarray.typeOf .long) ≤ 8 := (by decide); exact Nat.le_trans (Nat.mul_le_mul_left _ h9) hbytes) hcells hslots hq fun H1 cA1 e1 z1 o1 hAr hNm => ?_
  have hcA : cA1 = cA 4 := by
    have h9 : s.vm.findClass ("[" ++ (.long : FieldType).toString) = some (cA 4) := (w.1.2 4 _ rfl).2
    exact Option.some.inj (hNm.symm.trans h9)
  subst hcA
  refine kk H1 (by rw [z1]; omega) (by rw [hq]; exact o1) (hW_grow w (S' := (I, up1 J q (fun _ => 0), T, F, L ++ [(q, 4, N)])) rfl hq (fun b hb => ⟨rfl, up1_ne _ _ hb, rfl, rfl⟩) (by rw [z1, hq]) (by rw [hq]; exact o1) ?_)
  show H1[z + q]? = some (vp_cell (cA 4) (N, .inr (.inl (up1 J q (fun _ => 0) q))))
  rw [up1_at, vp_cell_l]
  exact e1
theorem hl_callvM {post : HS → Prop} {a : Array Value} (w : hW2 D cA zC zM SC SM A s H locs) (hr : va_Run p l e R s m args below meth c H locs cells slots mc ms (F0 m pc ls st0) rest (va_Qv post (hB D cA zM (hA zM SM.2.2.2.2 H.size)) (hA zM SM.2.2.2.2 H.size) a) (hA zM SM.2.2.2.2 H.size))
    (kk : ∀ (u : HS) (H : Heap) (locs : List Loc), post u → hW2 D cA zC zM SC u A s H locs → W p l e R s m args below meth c H locs (cells + mc) (slots + ms) Q (F0 m (pc + 3) ls rest)) : W p l e R s m args below meth c H locs cells slots Q (F0 m pc ls st0) :=
  va_callv hr w.2.1.2.2.2.1 (fun q _ h => hA_sub w.2.1.2.2.1 w.2.1.2.2.2.1 w.2.1.2.2.2.2.1 q h) (hA_sub w.2.1.2.2.1 w.2.1.2.2.2.1 w.2.1.2.2.2.2.1) (fun u t H1 locs1 ht hvm hp hb _ hk hS => kk u H1 locs1 hp (hl_backM w ht hvm hb hk hS))
end
theorem hn_law_8 : hN2 R_law 8 10 15 := ⟨RX10, TX10, tyX10, rfl, inX10, tyX10_ok, kw126, kw127, kw101, by decide⟩
theorem hn_law_78 : hN R_law 78 11 75 := ⟨RX11, TX11, tyX11, rfl, inX11, tyX11_ok, kw1318, kw1319, kw112, by decide⟩
