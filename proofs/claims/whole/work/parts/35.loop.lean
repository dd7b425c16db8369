def StAll (o x1 x2 x3 x4 x5 : Int32) (I : HI) (J : HJ) (T F : HR) (L : HL) (ro : Nat) (IM : HI) (JM : HJ) (K : HS → HI → HJ → Prop) : Prop :=
  (o = 0 → St_hall x1 x2 I J T F L ro IM JM K) ∧
  (o = 1 → St_looks x1 x2 I J T F L ro IM JM K) ∧
  (o = 2 → St_round x1 x2 I J T F L ro IM JM K) ∧
  (o = 3 → St_heap x1 x2 I J T F L ro IM JM K) ∧
  (o = 4 → St_law x1 x2 I J T F L ro IM JM K) ∧
  (o = 5 → St_feed x1 x2 x3 x4 x5 I J T F L ro IM JM K) ∧
  (o = 6 → St_rules x1 I J T F L ro IM JM K) ∧
  (o = 7 → St_fault I J T F L ro IM JM K) ∧
  (o = 8 → St_about x1 x2 I J T F L ro IM JM K) ∧
  (o = 9 → St_tell x1 x2 x3 I J T F L ro IM JM K) ∧
  (o = 10 → St_cell x1 x2 I J T F L ro IM JM K) ∧
  (o = 11 → St_in x1 x2 x3 I J T F L ro IM JM K) ∧
  (o = 12 → St_row x1 x2 I J T F L ro IM JM K) ∧
  (o = 13 → St_won x1 I J T F L ro IM JM K) ∧
  (o = 14 → St_beaten x1 I J T F L ro IM JM K) ∧
  (o = 15 → St_tally x1 I J T F L ro IM JM K) ∧
  (o = 16 → St_rightOf x1 I J T F L ro IM JM K) ∧
  (o = 17 → St_worst x1 I J T F L ro IM JM K) ∧
  (o = 18 → St_idle x1 I J T F L ro IM JM K) ∧
  (o = 19 → St_otherwise x1 x2 I J T F L ro IM JM K) ∧
  (o = 20 → St_alike I J T F L ro IM JM K) ∧
  (o = 21 → St_ring I J T F L ro IM JM K) ∧
  (o = 22 → St_search x1 I J T F L ro IM JM K) ∧
  (o = 23 → St_steps I J T F L ro IM JM K) ∧
  (o = 24 → St_sums I J T F L ro IM JM K) ∧
  (o = 25 → St_constant x1 I J T F L ro IM JM K) ∧
  (o = 26 → St_cover I J T F L ro IM JM K) ∧
  (o = 27 → St_given x1 I J T F L ro IM JM K) ∧
  (o = 28 → St_line I J T F L ro IM JM K) ∧
  (o = 29 → St_mend x1 I J T F L ro IM JM K) ∧
  (o = 30 → St_draw x1 I J T F L ro IM JM K) ∧
  (o = 31 → St_keep x1 I J T F L ro IM JM K) ∧
  (o = 32 → St_take x1 I J T F L ro IM JM K) ∧
  (o = 33 → St_count x1 I J T F L ro IM JM K)
theorem lp_in {j Ln : Nat} (h : ¬ Ln < 6 * j + 6) (hL : Ln ≤ 3072) : ∀ k : Int32, k < 6 → ¬ k < 0 → vp_in (nI (6 * j) + k) Ln := by
  intro k h6 h0
  obtain ⟨t, ht, rfl⟩ := nI_of h0
  have h7 : t < 6 := (nI_ltI (b := 6) ht (by decide)).mp h6
  rw [nI_add]
  exact vp_in_nI (by omega) (by omega)
theorem wl_body {p : Program} {l : Launch} {e : Env} {s : State} {m : MethodId} {below : List Frame} {meth : Method} {c : Code} {D : va_G} {cA : Nat → ClassId} {zC zM ro b Ln : Nat} {xs : Nat → Int32} {TM : HR} {A : Nat → Prop} {K : HS → HI → HJ → Prop} (hx : p.tables.exec = Jvm.exec) (hb : c.code = code) (hr : meth.sig.returnType = ret) (hlocks : meth.locks = false) (X : hX p m c s #[Value.ref b] R_law code 8) (hlt : l.stackTraces = false) (hX : va_X b Ln xs s s.heap) (hbl : b < s.heap.size) (hA : A = fun q => s.heap.size ≤ q) (hLn : Ln ≤ 3072) (hg : ∀ I J T F L IM JM, K (I, J, T, F, L) IM JM → Geo F L ∧ (ro, 4, 1) ∈ L) (hst : ∀ o x1 x2 x3 x4 x5 I J T F L IM JM, K (I, J, T, F, L) IM JM → StAll o x1 x2 x3 x4 x5 I J T F L ro IM JM K) {cl sl j : Nat} {SC : HS} {IM : HI} {JM : HJ} {ls : Array Slot} {H : Heap} {locs : List Loc} (hj : ¬ Ln < 6 * j + 6) (hc1 : cl + 90 ≤ room_1.cells) (hs1 : sl + 9000 ≤ room_1.slots) (hk : K SC IM JM) (hw : hW2 D cA zC zM SC (IM, JM, TM, FM, LM) A s H locs) (hl : lv_has ls 8 [(0, .ref b), (1, .ref (zC + 0)), (2, .ref (zM + 0)), (3, .ref (zC + ro)), (4, .int (nI (6 * j)))])
    (hK : ∀ (SC : HS) (IM : HI) (JM : HJ) {ls : Array Slot} {H : Heap} {locs : List Loc}, K SC IM JM → hW2 D cA zC zM SC (IM, JM, TM, FM, LM) A s H locs → lv_has ls 8 [(0, .ref b), (1, .ref (zC + 0)), (2, .ref (zM + 0)), (3, .ref (zC + ro)), (4, .int (nI (6 * j)))] → W p l e room_1 s m #[Value.ref b] below meth c H locs (cl + 90) (sl + 9000) (lw_Z below #[Value.ref b] s) (F0 m 1771 ls [])) : W p l e room_1 s m #[Value.ref b] below meth c H locs cl sl (lw_Z below #[Value.ref b] s) (F0 m 33 ls []) := by
  obtain ⟨I, J, T, F, L⟩ := SC
  obtain ⟨hG, ho⟩ := hg I J T F L IM JM hk
  have hbA : ¬ A b := by rw [hA]; exact Nat.not_le.mpr hbl
  have hin := lp_in hj hLn
  have hin0 : vp_in (nI (6 * j)) Ln := vp_in_nI (by omega) (by omega)
  have hst := hst (xs (nx (nI (6 * j))) &&& 63) (xs (nx (nI (6 * j) + 1))) (xs (nx (nI (6 * j) + 2))) (xs (nx (nI (6 * j) + 3))) (xs (nx (nI (6 * j) + 4))) (xs (nx (nI (6 * j) + 5))) I J T F L IM JM hk
  generalize nI (6 * j) = i at hin hin0 hst hl hK
  refine lv_aload_n hx hb dl_33 rfl (lv_at hl 0 rfl) ?_
  refine lv_iload hx hb dl_34 (lv_at hl 4 rfl) ?_
  refine va_sld hx hb hX hbl hbA hw.1.2.2.2.1 hin0 dl_36 ?_
  refine lv_bipush (v := 63) hx hb dl_37 (by decide) ?_
  refine lv_iand hx hb dl_39 ?_
  unfold StAll at hst
  obtain ⟨t0, t1, t2, t3, t4, t5, t6, t7, t8, t9, t10, t11, t12, t13, t14, t15, t16, t17, t18, t19, t20, t21, t22, t23, t24, t25, t26, t27, t28, t29, t30, t31, t32, t33⟩ := hst
  by_cases e0 : (xs (nx i) &&& 63) = 0
  · refine lv_tableIn (tgt := 192) (off := 152) hx hb dl_40 (by rw [e0]; decide) (by rw [e0]; decide) (by rw [e0]; decide) (by decide) ?_
    exact wl_hall hx hb X hlt hX hbl hbA hin hG ho hc1 hs1 hK hw hl (t0 e0)
  by_cases e1 : (xs (nx i) &&& 63) = 1
  · refine lv_tableIn (tgt := 229) (off := 189) hx hb dl_40 (by rw [e1]; decide) (by rw [e1]; decide) (by rw [e1]; decide) (by decide) ?_
    exact wl_looks hx hb X hlt hX hbl hbA hin hG ho hc1 hs1 hK hw hl (t1 e1)
  by_cases e2 : (xs (nx i) &&& 63) = 2
  · refine lv_tableIn (tgt := 304) (off := 264) hx hb dl_40 (by rw [e2]; decide) (by rw [e2]; decide) (by rw [e2]; decide) (by decide) ?_
    exact wl_round hx hb X hlt hX hbl hbA hin hG ho hc1 hs1 hK hw hl (t2 e2)
  by_cases e3 : (xs (nx i) &&& 63) = 3
  · refine lv_tableIn (tgt := 379) (off := 339) hx hb dl_40 (by rw [e3]; decide) (by rw [e3]; decide) (by rw [e3]; decide) (by decide) ?_
    exact wl_heap hx hb X hlt hX hbl hbA hin hG ho hc1 hs1 hK hw hl (t3 e3)
  by_cases e4 : (xs (nx i) &&& 63) = 4
  · refine lv_tableIn (tgt := 416) (off := 376) hx hb dl_40 (by rw [e4]; decide) (by rw [e4]; decide) (by rw [e4]; decide) (by decide) ?_
    exact wl_law hx hb X hlt hX hbl hbA hin hG ho hc1 hs1 hK hw hl (t4 e4)
  by_cases e5 : (xs (nx i) &&& 63) = 5
  · refine lv_tableIn (tgt := 453) (off := 413) hx hb dl_40 (by rw [e5]; decide) (by rw [e5]; decide) (by rw [e5]; decide) (by decide) ?_
    exact wl_feed hx hb X hlt hX hbl hbA hin hG ho hc1 hs1 hK hw hl (t5 e5)
  by_cases e6 : (xs (nx i) &&& 63) = 6
  · refine lv_tableIn (tgt := 526) (off := 486) hx hb dl_40 (by rw [e6]; decide) (by rw [e6]; decide) (by rw [e6]; decide) (by decide) ?_
    exact wl_rules hx hb X hlt hX hbl hbA hin hG ho hc1 hs1 hK hw hl (t6 e6)
  by_cases e7 : (xs (nx i) &&& 63) = 7
  · refine lv_tableIn (tgt := 582) (off := 542) hx hb dl_40 (by rw [e7]; decide) (by rw [e7]; decide) (by rw [e7]; decide) (by decide) ?_
    exact wl_fault hx hb X hlt hX hbl hbA hin hG ho hc1 hs1 hK hw hl (t7 e7)
  by_cases e8 : (xs (nx i) &&& 63) = 8
  · refine lv_tableIn (tgt := 595) (off := 555) hx hb dl_40 (by rw [e8]; decide) (by rw [e8]; decide) (by rw [e8]; decide) (by decide) ?_
    exact wl_about hx hb X hlt hX hbl hbA hin hG ho hc1 hs1 hK hw hl (t8 e8)
  by_cases e9 : (xs (nx i) &&& 63) = 9
  · refine lv_tableIn (tgt := 663) (off := 623) hx hb dl_40 (by rw [e9]; decide) (by rw [e9]; decide) (by rw [e9]; decide) (by decide) ?_
    exact wl_tell hx hb X hlt hX hbl hbA hin hG ho hc1 hs1 hK hw hl (t9 e9)
  by_cases e10 : (xs (nx i) &&& 63) = 10
  · refine lv_tableIn (tgt := 750) (off := 710) hx hb dl_40 (by rw [e10]; decide) (by rw [e10]; decide) (by rw [e10]; decide) (by decide) ?_
    exact wl_cell hx hb X hlt hX hbl hbA hin hG ho hc1 hs1 hK hw hl (t10 e10)
  by_cases e11 : (xs (nx i) &&& 63) = 11
  · refine lv_tableIn (tgt := 818) (off := 778) hx hb dl_40 (by rw [e11]; decide) (by rw [e11]; decide) (by rw [e11]; decide) (by decide) ?_
    exact wl_in hx hb X hlt hX hbl hbA hin hG ho hc1 hs1 hK hw hl (t11 e11)
  by_cases e12 : (xs (nx i) &&& 63) = 12
  · refine lv_tableIn (tgt := 898) (off := 858) hx hb dl_40 (by rw [e12]; decide) (by rw [e12]; decide) (by rw [e12]; decide) (by decide) ?_
    exact wl_row hx hb X hlt hX hbl hbA hin hG ho hc1 hs1 hK hw hl (t12 e12)
  by_cases e13 : (xs (nx i) &&& 63) = 13
  · refine lv_tableIn (tgt := 966) (off := 926) hx hb dl_40 (by rw [e13]; decide) (by rw [e13]; decide) (by rw [e13]; decide) (by decide) ?_
    exact wl_won hx hb X hlt hX hbl hbA hin hG ho hc1 hs1 hK hw hl (t13 e13)
  by_cases e14 : (xs (nx i) &&& 63) = 14
  · refine lv_tableIn (tgt := 1021) (off := 981) hx hb dl_40 (by rw [e14]; decide) (by rw [e14]; decide) (by rw [e14]; decide) (by decide) ?_
    exact wl_beaten hx hb X hlt hX hbl hbA hin hG ho hc1 hs1 hK hw hl (t14 e14)
  by_cases e15 : (xs (nx i) &&& 63) = 15
  · refine lv_tableIn (tgt := 1046) (off := 1006) hx hb dl_40 (by rw [e15]; decide) (by rw [e15]; decide) (by rw [e15]; decide) (by decide) ?_
    exact wl_tally hx hb X hlt hX hbl hbA hin hG ho hc1 hs1 hK hw hl (t15 e15)
  by_cases e16 : (xs (nx i) &&& 63) = 16
  · refine lv_tableIn (tgt := 1071) (off := 1031) hx hb dl_40 (by rw [e16]; decide) (by rw [e16]; decide) (by rw [e16]; decide) (by decide) ?_
    exact wl_rightOf hx hb X hlt hX hbl hbA hin hG ho hc1 hs1 hK hw hl (t16 e16)
  by_cases e17 : (xs (nx i) &&& 63) = 17
  · refine lv_tableIn (tgt := 1127) (off := 1087) hx hb dl_40 (by rw [e17]; decide) (by rw [e17]; decide) (by rw [e17]; decide) (by decide) ?_
    exact wl_worst hx hb X hlt hX hbl hbA hin hG ho hc1 hs1 hK hw hl (t17 e17)
  by_cases e18 : (xs (nx i) &&& 63) = 18
  · refine lv_tableIn (tgt := 1183) (off := 1143) hx hb dl_40 (by rw [e18]; decide) (by rw [e18]; decide) (by rw [e18]; decide) (by decide) ?_
    exact wl_idle hx hb X hlt hX hbl hbA hin hG ho hc1 hs1 hK hw hl (t18 e18)
  by_cases e19 : (xs (nx i) &&& 63) = 19
  · refine lv_tableIn (tgt := 1239) (off := 1199) hx hb dl_40 (by rw [e19]; decide) (by rw [e19]; decide) (by rw [e19]; decide) (by decide) ?_
    exact wl_otherwise hx hb X hlt hX hbl hbA hin hG ho hc1 hs1 hK hw hl (t19 e19)
  by_cases e20 : (xs (nx i) &&& 63) = 20
  · refine lv_tableIn (tgt := 1307) (off := 1267) hx hb dl_40 (by rw [e20]; decide) (by rw [e20]; decide) (by rw [e20]; decide) (by decide) ?_
    exact wl_alike hx hb X hlt hX hbl hbA hin hG ho hc1 hs1 hK hw hl (t20 e20)
  by_cases e21 : (xs (nx i) &&& 63) = 21
  · refine lv_tableIn (tgt := 1320) (off := 1280) hx hb dl_40 (by rw [e21]; decide) (by rw [e21]; decide) (by rw [e21]; decide) (by decide) ?_
    exact wl_ring hx hb X hlt hX hbl hbA hin hG ho hc1 hs1 hK hw hl (t21 e21)
  by_cases e22 : (xs (nx i) &&& 63) = 22
  · refine lv_tableIn (tgt := 1333) (off := 1293) hx hb dl_40 (by rw [e22]; decide) (by rw [e22]; decide) (by rw [e22]; decide) (by decide) ?_
    exact wl_search hx hb X hlt hX hbl hbA hin hG ho hc1 hs1 hK hw hl (t22 e22)
  by_cases e23 : (xs (nx i) &&& 63) = 23
  · refine lv_tableIn (tgt := 1389) (off := 1349) hx hb dl_40 (by rw [e23]; decide) (by rw [e23]; decide) (by rw [e23]; decide) (by decide) ?_
    exact wl_steps hx hb X hlt hX hbl hbA hin hG ho hc1 hs1 hK hw hl (t23 e23)
  by_cases e24 : (xs (nx i) &&& 63) = 24
  · refine lv_tableIn (tgt := 1402) (off := 1362) hx hb dl_40 (by rw [e24]; decide) (by rw [e24]; decide) (by rw [e24]; decide) (by decide) ?_
    exact wl_sums hx hb X hlt hX hbl hbA hin hG ho hc1 hs1 hK hw hl (t24 e24)
  by_cases e25 : (xs (nx i) &&& 63) = 25
  · refine lv_tableIn (tgt := 1446) (off := 1406) hx hb dl_40 (by rw [e25]; decide) (by rw [e25]; decide) (by rw [e25]; decide) (by decide) ?_
    exact wl_constant hx hb X hlt hX hbl hbA hin hG ho hc1 hs1 hK hw hl (t25 e25)
  by_cases e26 : (xs (nx i) &&& 63) = 26
  · refine lv_tableIn (tgt := 1502) (off := 1462) hx hb dl_40 (by rw [e26]; decide) (by rw [e26]; decide) (by rw [e26]; decide) (by decide) ?_
    exact wl_cover hx hb X hlt hX hbl hbA hin hG ho hc1 hs1 hK hw hl (t26 e26)
  by_cases e27 : (xs (nx i) &&& 63) = 27
  · refine lv_tableIn (tgt := 1515) (off := 1475) hx hb dl_40 (by rw [e27]; decide) (by rw [e27]; decide) (by rw [e27]; decide) (by decide) ?_
    exact wl_given hx hb X hlt hX hbl hbA hin hG ho hc1 hs1 hK hw hl (t27 e27)
  by_cases e28 : (xs (nx i) &&& 63) = 28
  · refine lv_tableIn (tgt := 1571) (off := 1531) hx hb dl_40 (by rw [e28]; decide) (by rw [e28]; decide) (by rw [e28]; decide) (by decide) ?_
    exact wl_line hx hb X hlt hX hbl hbA hin hG ho hc1 hs1 hK hw hl (t28 e28)
  by_cases e29 : (xs (nx i) &&& 63) = 29
  · refine lv_tableIn (tgt := 1584) (off := 1544) hx hb dl_40 (by rw [e29]; decide) (by rw [e29]; decide) (by rw [e29]; decide) (by decide) ?_
    exact wl_mend hx hb X hlt hX hbl hbA hin hG ho hc1 hs1 hK hw hl (t29 e29)
  by_cases e30 : (xs (nx i) &&& 63) = 30
  · refine lv_tableIn (tgt := 1640) (off := 1600) hx hb dl_40 (by rw [e30]; decide) (by rw [e30]; decide) (by rw [e30]; decide) (by decide) ?_
    exact wl_draw hx hb X hlt hX hbl hbA hin hG ho hc1 hs1 hK hw hl (t30 e30)
  by_cases e31 : (xs (nx i) &&& 63) = 31
  · refine lv_tableIn (tgt := 1665) (off := 1625) hx hb dl_40 (by rw [e31]; decide) (by rw [e31]; decide) (by rw [e31]; decide) (by decide) ?_
    exact wl_keep hx hb X hlt hX hbl hbA hin hG ho hc1 hs1 hK hw hl (t31 e31)
  by_cases e32 : (xs (nx i) &&& 63) = 32
  · refine lv_tableIn (tgt := 1690) (off := 1650) hx hb dl_40 (by rw [e32]; decide) (by rw [e32]; decide) (by rw [e32]; decide) (by decide) ?_
    exact wl_take hx hb X hlt hX hbl hbA hin hG ho hc1 hs1 hK hw hl (t32 e32)
  by_cases e33 : (xs (nx i) &&& 63) = 33
  · refine lv_tableIn (tgt := 1715) (off := 1675) hx hb dl_40 (by rw [e33]; decide) (by rw [e33]; decide) (by rw [e33]; decide) (by decide) ?_
    exact wl_count hx hb X hlt hX hbl hbA hin hG ho hc1 hs1 hK hw hl (t33 e33)
  refine hm_tabD (tgt := 1771) [0, 1, 2, 3, 4, 5, 6, 7, 8, 9, 10, 11, 12, 13, 14, 15, 16, 17, 18, 19, 20, 21, 22, 23, 24, 25, 26, 27, 28, 29, 30, 31, 32, 33] hx hb dl_40 (by decide) (by simp only [List.forall_mem_cons]; exact ⟨e0, e1, e2, e3, e4, e5, e6, e7, e8, e9, e10, e11, e12, e13, e14, e15, e16, e17, e18, e19, e20, e21, e22, e23, e24, e25, e26, e27, e28, e29, e30, e31, e32, e33, fun _ h => (by cases h)⟩) (by decide) ?_
  refine W.widen (k := cl + 90) (n := sl + 9000) (by omega) (by omega) ?_
  exact hK _ _ _ hk hw hl

theorem lp_c {cl n R : Nat} (h : cl + 90 * (n + 1) ≤ R) : cl + 90 ≤ R := by omega
theorem lp_s {cl n R : Nat} (h : cl + 9000 * (n + 1) ≤ R) : cl + 9000 ≤ R := Nat.le_trans (Nat.add_le_add_left (Nat.le_mul_of_pos_right 9000 (Nat.succ_pos n)) cl) h
theorem lp_c2 {cl n R : Nat} (h : cl + 90 * (n + 1) ≤ R) : cl + 90 + 90 * n ≤ R := by omega
theorem lp_s2 {cl n R : Nat} (h : cl + 9000 * (n + 1) ≤ R) : cl + 9000 + 9000 * n ≤ R := by rw [Nat.mul_succ] at h; rw [Nat.add_assoc, Nat.add_comm 9000]; exact h
theorem lp_e {cl n k R : Nat} (h : cl + k * n ≤ R) : cl ≤ R := by have := Nat.zero_le (k * n); omega
theorem lp_gt {j Ln : Nat} (h : Ln < 6 * j + 6) (hL : Ln ≤ 3072) (h2 : 6 * j ≤ 3078) : Int32.ofNat Ln - 6 < nI (6 * j) := by
  rw [Int32.lt_iff_toInt_lt, nI_toInt (by omega), Int32.toInt_sub, show (Int32.ofNat Ln).toInt = (Ln : Int) from nI_toInt (by omega), show (6 : Int32).toInt = 6 from rfl]
  rw [Int.bmod_eq_of_le (by omega) (by omega)]
  omega
theorem wl_loop {p : Program} {l : Launch} {e : Env} {s : State} {m : MethodId} {below : List Frame} {meth : Method} {c : Code} {D : va_G} {cA : Nat → ClassId} {zC zM ro b Ln : Nat} {xs : Nat → Int32} {TM : HR} {A : Nat → Prop} {K : HS → HI → HJ → Prop} (hx : p.tables.exec = Jvm.exec) (hb : c.code = code) (hr : meth.sig.returnType = ret) (hlocks : meth.locks = false) (X : hX p m c s #[Value.ref b] R_law code 8) (hlt : l.stackTraces = false) (hX : va_X b Ln xs s s.heap) (hbl : b < s.heap.size) (hA : A = fun q => s.heap.size ≤ q) (hLn : Ln ≤ 3072) (hg : ∀ I J T F L IM JM, K (I, J, T, F, L) IM JM → Geo F L ∧ (ro, 4, 1) ∈ L) (hst : ∀ o x1 x2 x3 x4 x5 I J T F L IM JM, K (I, J, T, F, L) IM JM → StAll o x1 x2 x3 x4 x5 I J T F L ro IM JM K) : ∀ (n j : Nat) (SC : HS) (IM : HI) (JM : HJ) {cl sl : Nat} {ls : Array Slot} {H : Heap} {locs : List Loc}, Ln < 6 * (j + n) + 6 → 6 * j ≤ 3078 → cl + 90 * n ≤ room_1.cells → sl + 9000 * n ≤ room_1.slots → K SC IM JM → hW2 D cA zC zM SC (IM, JM, TM, FM, LM) A s H locs → lv_has ls 8 [(0, .ref b), (1, .ref (zC + 0)), (2, .ref (zM + 0)), (3, .ref (zC + ro)), (4, .int (nI (6 * j)))] → W p l e room_1 s m #[Value.ref b] below meth c H locs cl sl (lw_Z below #[Value.ref b] s) (F0 m 23 ls []) := by
  have hbA : ¬ A b := by rw [hA]; exact Nat.not_le.mpr hbl
  intro n
  induction n with
  | zero =>
    intro j SC IM JM cl sl ls H locs h1 h2 h3 h4 hk hw hl
    refine lv_iload hx hb dl_23 (lv_at hl 4 rfl) ?_
    refine lv_aload_n hx hb dl_25 rfl (lv_at hl 0 rfl) ?_
    refine va_slen hx hb hX hbl hbA hw.1.2.2.2.1 dl_26 ?_
    refine lv_bipush (v := 6) hx hb dl_27 (by decide) ?_
    refine lv_isub hx hb dl_29 ?_
    refine lv_icmp_gt (tgt := 1777) hx hb dl_30 (by decide) (fun hc => ?_) (fun hc => ?_)
    · refine lv_iconst (v := 1) hx hb dl_1777 (by decide) ?_
      refine va_forget (fun q hq => by have h9 := hw.1.2.2.2.1.2.2 q hq; rw [hA] at h9; exact h9) ?_
      refine W.widen (k := 601024) (n := 7293034) (lp_e h3) (lp_e h4) ?_
      exact lw_ret hx hb hr hlocks dl_1778
    · exact absurd (lp_gt (by omega) hLn h2) hc
  | succ n ih =>
    intro j SC IM JM cl sl ls H locs h1 h2 h3 h4 hk hw hl
    refine lv_iload hx hb dl_23 (lv_at hl 4 rfl) ?_
    refine lv_aload_n hx hb dl_25 rfl (lv_at hl 0 rfl) ?_
    refine va_slen hx hb hX hbl hbA hw.1.2.2.2.1 dl_26 ?_
    refine lv_bipush (v := 6) hx hb dl_27 (by decide) ?_
    refine lv_isub hx hb dl_29 ?_
    refine lv_icmp_gt (tgt := 1777) hx hb dl_30 (by decide) (fun hc => ?_) (fun hc => ?_)
    · refine lv_iconst (v := 1) hx hb dl_1777 (by decide) ?_
      refine va_forget (fun q hq => by have h9 := hw.1.2.2.2.1.2.2 q hq; rw [hA] at h9; exact h9) ?_
      refine W.widen (k := 601024) (n := 7293034) (lp_e h3) (lp_e h4) ?_
      exact lw_ret hx hb hr hlocks dl_1778
    · have hj : ¬ Ln < 6 * j + 6 := fun h => hc (lp_gt h hLn h2)
      refine wl_body hx hb hr hlocks X hlt hX hbl hA hLn hg hst hj (lp_c h3) (lp_s h4) hk hw hl (fun SC IM JM ls H locs hk hw hl => ?_)
      refine lv_iinc (v := nI (6 * j) + 6) (lv' := [(4, _), (0, _), (1, _), (2, _), (3, _)]) hx hb dl_1771 hl (k := 4) rfl rfl (by decide) rfl (fun ls hl => ?_)
      refine lv_goto (tgt := 23) hx hb dl_1774 (by decide) ?_
      have e6 : nI (6 * j) + 6 = nI (6 * (j + 1)) := by rw [show (6 : Int32) = nI 6 from rfl, nI_add]; rfl
      rw [e6] at hl
      exact ih (j + 1) SC IM JM (by omega) (by omega) (lp_c2 h3) (lp_s2 h4) hk hw (lv_sub hl [1, 2, 3, 4, 0] rfl)

