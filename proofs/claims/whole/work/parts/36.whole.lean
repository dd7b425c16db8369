/-! the law, over an invariant Inv that the pure part has to give -/
abbrev i0 : HI := fun _ _ => 0
abbrev j0 : HJ := fun _ _ => 0
abbrev r0 : HR := fun _ _ => none
/-- what the pure part owes: the start, and every call -/
def Pure0 (Inv : Nat → HS → HI → HJ → Prop) : Prop :=
  H_init (up1 i0 0 (fun _ => 0)) r0 (up1 r0 0 (fun _ => none)) ([] ++ [(0, 17, 0)]) (fun I T F L => (55, 0, 8) ∈ L ∧
    M_init (up1 i0 0 (fun _ => 0)) (up1 r0 0 (fun _ => none)) ([] ++ [(0, 18, 0)]) (fun IM => ∀ ro, (∀ p ∈ L, p.1 < ro) → Inv ro (I, up1 j0 ro (fun _ => 0), T, F, L ++ [(ro, 4, 1)]) IM (up1 j0 0 (fun _ => 0))))
def PureG (Inv : Nat → HS → HI → HJ → Prop) : Prop := ∀ ro I J T F L IM JM, Inv ro (I, J, T, F, L) IM JM → Geo F L ∧ (ro, 4, 1) ∈ L
def PureS (Inv : Nat → HS → HI → HJ → Prop) : Prop := ∀ ro o x1 x2 x3 x4 x5 I J T F L IM JM, Inv ro (I, J, T, F, L) IM JM → StAll o x1 x2 x3 x4 x5 I J T F L ro IM JM (Inv ro)
set_option maxHeartbeats 8000000 in
theorem whole_of {Inv : Nat → HS → HI → HJ → Prop} (h0 : Pure0 Inv) (hG : PureG Inv) (hSt : PureS Inv) {p : Program} {e : Env} {s : State} {m : MethodId} {below : List Frame} {meth : Method} {c : Code} (l : Launch) (hlt : l.stackTraces = false) {b L : Nat} {xs : Nat → Int32} (hL : L ≤ 3072) (C0 : lw_At p s m meth c b L xs) : W p l e room_1 s m #[Value.ref b] below meth c s.heap [] 0 0 (lw_Z below #[Value.ref b] s) (entryFrame m ([Value.ref b] : List Value).toArray 8) := by
  obtain ⟨hx, hb, hr, hml, hown, hts, hXs, hbl, hlocks, hgv⟩ := id C0
  obtain ⟨D, cA, hK⟩ := st_K hts
  have hE := st_Ev hts hgv
  obtain ⟨A, hA⟩ : ∃ A : Nat → Prop, A = fun q => s.heap.size ≤ q := ⟨_, rfl⟩
  rw [← hA] at hE
  have hA2 : ∀ q, s.heap.size ≤ q → A q := by rw [hA]; exact fun _ h => h
  have hbA : ¬ A b := by rw [hA]; exact Nat.not_le.mpr hbl
  have X : hX p m c s #[Value.ref b] R_law code 8 := ⟨hx, hb, hml, hown, tb_lw hts⟩
  have hl := lv_entry ([.ref b]) (n := 8) (Nat.le_of_ble_eq_true rfl)
  rw [lg_entry_eq]
  generalize (lg_sl ([.ref b]) ++ List.replicate (8 - (lg_sl ([.ref b])).length) Slot.unset).toArray = ls at hl ⊢
  have hl : lv_has ls 8 [(0, .ref b)] := hl
  have w0 : hW D cA s.heap.size EvC (i0, j0, r0, r0, []) A s s.heap [] := ⟨hK, fun k q h => by simp [hws] at h, ⟨fun i j p q h => by simp [hws] at h, fun k q h => by simp [hws] at h⟩, va_S.rf, hA2, hE⟩
  refine hm_newC X w0 (q := 0) hn_law_8 rfl (Nat.le_of_ble_eq_true rfl) (Nat.le_of_ble_eq_true rfl) dl_0 (fun H hsz hw => ?_)
  refine lv_dup hx hb dl_3 rfl ?_
  have hs0 : (0, 17, 0) ∈ ([] ++ [(0, 17, 0)] : HL) := List.mem_singleton.mpr rfl
  refine hm_callvA hw (hm_runI (rest := [_]) EvC_cl X hw (cH_init hs0 hsz h0) yi_X10_init kw128 rfl hl.1 rfl rfl rfl (Nat.le_of_ble_eq_true rfl) ⟨Nat.le_of_ble_eq_true rfl, Nat.le_of_ble_eq_true rfl⟩ ⟨Nat.le_of_ble_eq_true rfl, Nat.le_of_ble_eq_true rfl⟩ dl_4) (fun u H locs hp hw => ?_)
  obtain ⟨I1, T1, F1, L1, rfl, h55, h⟩ := hp
  refine lv_astore_n (lv' := [(1, _), (0, _)]) hx hb dl_7 rfl hl (by decide) rfl (fun ls hl => ?_)
  obtain ⟨qM, hq1, -⟩ := hW_q hw h55
  obtain ⟨zC, hzC⟩ : ∃ zC, zC = s.heap.size := ⟨_, rfl⟩
  rw [← hzC] at hw hq1
  have hl : lv_has ls 8 [(1, .ref (zC + 0)), (0, .ref b)] := by rw [hzC]; exact hl
  have hlt1 : ∀ p ∈ L1, zC + p.1 < zC + qM := fun p hp => by have h9 := hW_lt hw p hp; rw [hq1] at h9; exact h9
  have wM : hW D cA (zC + qM) Ev0 (i0, j0, r0, r0, []) A s H locs := ⟨hK, fun k q h => by simp [hws] at h, ⟨fun i j p q h => by simp [hws] at h, fun k q h => by simp [hws] at h⟩, hw.2.2.2.1, hA2, trivial⟩
  refine hm_newO X wM (q := 0) hn_law_78 hq1 (Nat.le_of_ble_eq_true rfl) (Nat.le_of_ble_eq_true rfl) dl_8 (fun H1 hsz1 hk1 hwM => ?_)
  have hw2 : hW2 D cA zC (zC + qM) (I1, j0, T1, F1, L1) (up1 i0 0 (fun _ => 0), up1 j0 0 (fun _ => 0), r0, up1 r0 0 (fun _ => none), [] ++ [(0, 11 + 7, 0)]) A s H1 locs := by
    refine ⟨hW_other (A1 := fun _ => False) hw (fun q hq _ => hk1 q hq) (fun _ _ h => h) hwM.2.2.2.1, hwM, fun p hp q hq he => ?_⟩
    have h1 := hlt1 p hp
    omega
  clear hw wM hwM
  refine lv_dup hx hb dl_11 rfl ?_
  have hs1 : (0, 18, 0) ∈ ([] ++ [(0, 18, 0)] : HL) := List.mem_singleton.mpr rfl
  refine hl_callvM hw2 (hm_runI (rest := [_]) hCl_true X hw2.2.1 (cM_init hs1 hsz1 h) yi_X11_init kw1320 rfl hl.1 rfl rfl rfl (Nat.le_of_ble_eq_true rfl) ⟨Nat.le_of_ble_eq_true rfl, Nat.le_of_ble_eq_true rfl⟩ ⟨Nat.le_of_ble_eq_true rfl, Nat.le_of_ble_eq_true rfl⟩ dl_12) (fun u H locs hp hw => ?_)
  obtain ⟨IM1, rfl, h⟩ := hp
  refine lv_astore_n (lv' := [(2, _), (1, _), (0, _)]) hx hb dl_15 rfl hl (by decide) rfl (fun ls hl => ?_)
  refine lv_iconst (v := 1) hx hb dl_16 (by decide) ?_
  obtain ⟨ro, hro, hfr⟩ := hW_q hw.1 h55
  refine hm_newa4 (N := 1) X hw.1 hro (by decide) (by decide) (by decide) (Nat.le_of_ble_eq_true rfl) (Nat.le_of_ble_eq_true rfl) dl_17 (fun H1 hsz2 hk2 hwC => ?_)
  have hw3 : hW2 D cA zC (zC + qM) (I1, up1 j0 ro (fun _ => 0), T1, F1, L1 ++ [(ro, 4, 1)]) (IM1, up1 j0 0 (fun _ => 0), r0, FM, LM) A s H1 locs := by
    refine ⟨hwC, hW_other (A1 := fun _ => False) hw.2.1 (fun q hq _ => hk2 q hq) (fun _ _ h => h) hwC.2.2.2.1, fun p hp q hq he => ?_⟩
    rcases List.mem_append.mp hp with hp | hp
    · exact hw.2.2 p hp q hq he
    · have e1 := List.mem_singleton.mp hp
      subst e1
      have h9 := hW_lt hw.2.1 q hq
      rw [← he, hro] at h9
      exact absurd h9 (Nat.lt_irrefl _)
  refine lv_astore_n (lv' := [(3, _), (2, _), (1, _), (0, _)]) hx hb dl_19 rfl hl (by decide) rfl (fun ls hl => ?_)
  refine lv_iconst (v := 0) hx hb dl_20 (by decide) ?_
  refine lv_istore (lv' := [(4, _), (3, _), (2, _), (1, _), (0, _)]) hx hb dl_21 hl (by decide) rfl (fun ls hl => ?_)
  have hi := h ro hfr
  refine W.widen (k := 200) (n := 600000) (Nat.le_of_ble_eq_true rfl) (Nat.le_of_ble_eq_true rfl) ?_
  refine wl_loop hx hb hr hlocks X hlt hXs hbl hA hL (hG ro) (hSt ro) 512 0 _ _ _ (by omega) (by omega) (Nat.le_of_ble_eq_true rfl) (Nat.le_of_ble_eq_true rfl) hi hw3 (lv_sub hl [4, 3, 2, 1, 0] rfl)
