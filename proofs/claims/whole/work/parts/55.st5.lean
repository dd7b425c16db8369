/-! law, feed, and the parts of the invariant one by one -/
theorem JudI.eq {h : Nat → Nat} {I I' IM IM' : HI} (R : JudI h I IM) (hI : ∀ b i, b = 24 ∨ b = 23 ∧ (i = 1 ∨ i = 2) → I' b i = I b i) (hM : ∀ b i, b = 1 ∨ b = 0 ∧ (i = 4 ∨ i = 5) → IM' b i = IM b i) : JudI h I' IM' := by
  obtain ⟨j1, lw, k, j2, j3, j4, j5, j6, j7⟩ := R
  exact ⟨fun c hc => ⟨(hI _ _ (by omega)).trans (j1 c hc).1, (hM _ _ (by omega)).trans (j1 c hc).2.1, (j1 c hc).2.2⟩, lw, k, (hI _ _ (by omega)).trans j2, (hM _ _ (by omega)).trans j3, j4, (hI _ _ (by omega)).trans j5, (hM _ _ (by omega)).trans j6, j7⟩
theorem TapI.eq {I I' IM IM' : HI} (R : TapI I IM) (hI : ∀ b i, b = 34 ∨ b = 0 ∧ i = 8 → I' b i = I b i) (hM : ∀ b i, b = 10 ∨ b = 0 ∧ i = 16 → IM' b i = IM b i) : TapI I' IM' := by
  obtain ⟨t, t1, t2, t3, t4⟩ := R
  refine ⟨t, (hI _ _ (by omega)).trans t1, (hM _ _ (by omega)).trans t2, t3, fun k hk => ?_⟩
  obtain ⟨b, b1, b2, b3⟩ := t4 k hk
  exact ⟨b, b1, (hI _ _ (by omega)).trans b2, (hM _ _ (by omega)).trans b3⟩
theorem SumI.eq {I I' IM IM' : HI} (R : SumI I IM) (hI : ∀ b i, b = 40 ∨ b = 39 ∧ i = 1 → I' b i = I b i) (hM : ∀ b i, b = 28 ∨ b = 0 ∧ i = 50 → IM' b i = IM b i) : SumI I' IM' := by
  obtain ⟨s, s1, s2, s3, s4⟩ := R
  exact ⟨s, (hI _ _ (by omega)).trans s1, (hM _ _ (by omega)).trans s2, s3, fun w hw => by rw [hI _ _ (by omega), hM _ _ (by omega)]; exact s4 w hw⟩
theorem CovI.eq {I I' IM IM' : HI} (R : CovI I IM) (hI : ∀ b i, b = 45 ∨ b = 44 ∧ (i = 0 ∨ i = 2) → I' b i = I b i) (hM : ∀ b i, b = 31 ∨ b = 35 ∨ b = 36 ∨ b = 0 ∧ i = 54 → IM' b i = IM b i) : CovI I' IM' := by
  obtain ⟨⟨c, c1, c2, c3, c4, c5⟩, c6⟩ := R
  refine ⟨⟨c, (hI _ _ (by omega)).trans c1, c2, (hI _ _ (by omega)).trans c3, (hM _ _ (by omega)).trans c4, fun i hi => ⟨(hI _ _ (by omega)).trans (c5 i hi).1, (hM _ _ (by omega)).trans (c5 i hi).2⟩⟩, fun n h1 h5 => ?_⟩
  rcases c6 n h1 h5 with g | ⟨g1, g2⟩
  · exact Or.inl ((hM _ _ (by omega)).trans g)
  · exact Or.inr ⟨(hM _ _ (by omega)).trans g1, fun i hi => (hM _ _ (by omega)).trans (g2 i hi)⟩
theorem Slot1.fr2 {own : Nat → Nat} {I I' : HI} {T T' F F' : HR} {L L' : HL} {IM IM' : HI} {s : Nat} (h : Slot1 own I T F L IM s) (hI : ∀ b i, own b = 2 ∨ 4 ≤ own b → I' b i = I b i) (hT : ∀ b i, b = 19 ∨ 4 ≤ own b → T' b i = T b i) (e : Ext F L F' L') (hM : ∀ b i, 38 ≤ b → IM' b i = IM b i) : Slot1 own I' T' F' L' IM' s := by
  obtain ⟨hLn, h⟩ := h
  refine ⟨hLn.fr (fun b i hb => hI b i (Or.inl hb)) e, ?_⟩
  rcases h with ⟨h1, h2⟩ | ⟨r, b, h1, h2, h3, h4, h5, h6, h7, h8⟩
  · exact Or.inl ⟨(hT _ _ (Or.inl rfl)).trans h1, (hM _ _ (by omega)).trans h2⟩
  · refine Or.inr ⟨r, b, (hT _ _ (Or.inl rfl)).trans h1, net_ext e h2, h3, h4.eq (fun j i hj => hI _ _ ?_), h5.fr (fun b i hb => hI _ _ (Or.inl hb)) (fun w _ => hT _ _ (Or.inr ?_)) h3.2.1 e, h6.eq hM, h7, h8⟩
    · have := h7 j hj; omega
    · have := h7 6 (by omega); omega
theorem Rest.mk {own h h' : Nat → Nat} {ro : Nat} {I I' : HI} {T T' F F' : HR} {L L' : HL} {IM IM' : HI} (R : Rest own h ro I T F L IM) (hI : ∀ b i, b = 17 ∨ own b = 2 ∨ 4 ≤ own b → I' b i = I b i) (hT : ∀ b i, b = 19 ∨ 4 ≤ own b → T' b i = T b i) (e : Ext F L F' L') (hM : ∀ b i, 38 ≤ b → IM' b i = IM b i) (g1 : JudI h' I' IM') (g2 : TapI I' IM') (g3 : I' 28 1 = IM' 0 18) (g4 : I' 35 0 = IM' 0 49) (g5 : SumI I' IM') (g6 : CovI I' IM') : Rest own h' ro I' T' F' L' IM' := by
  obtain ⟨r1, r2, r3, r4, r5, r6, r7, r8, r9, r10⟩ := R
  refine ⟨⟨r1.1, r1.2.1, fun b hb => ?_, e.1 _ r1.2.2.2.1, r1.2.2.2.2⟩, geo_ext e r2, fun i hi => ?_, g1, g2, g3, g4, g5, g6, fun s hs => (r10 s hs).fr2 (fun b i hb => hI b i (Or.inr hb)) hT e hM⟩
  · obtain ⟨p, hp, he⟩ := r1.2.2.1 b hb; exact ⟨p, e.1 p hp, he⟩
  · rw [hI _ _ (Or.inl rfl)]; exact r3 i hi
theorem WorI.eq {a : AN} {IM IM' : HI} (h : WorI a IM) (hM : ∀ b i, b = 20 ∨ b = 21 ∨ b = 22 ∨ b = 0 ∧ i = 40 → IM' b i = IM b i) : WorI a IM' := by
  rcases h with g | ⟨g1, g2⟩
  · exact Or.inl ((hM _ _ (by omega)).trans g)
  · exact Or.inr ⟨(hM _ _ (by omega)).trans g1, fun r hr => ⟨(hM _ _ (by omega)).trans (g2 r hr).1, (hM _ _ (by omega)).trans (g2 r hr).2.1, fun w hw => (hM _ _ (by omega)).trans ((g2 r hr).2.2 w hw)⟩⟩
theorem LedI.eq {a : AN} {h : Nat → Nat} {I I' : HI} (g : LedI a h I) (hI : ∀ b i, b = 27 ∨ b = 26 ∧ i = 1 → I' b i = I b i) : LedI a h I' := by
  rcases g with g | ⟨g1, g2⟩
  · exact Or.inl ((hI _ _ (by omega)).trans g)
  · exact Or.inr ⟨(hI _ _ (by omega)).trans g1, fun r hr => (hI _ _ (by omega)).trans (g2 r hr)⟩
theorem st_law {ro : Nat} {x1 x2 : Int32} {I : HI} {J : HJ} {T F : HR} {L : HL} {IM : HI} {JM : HJ} (hI : Inv ro (I, J, T, F, L) IM JM) : St_law x1 x2 I J T F L ro IM JM (Inv ro) := by
  obtain ⟨own, h, a, B⟩ := Inv_el hI
  have B0 := B
  obtain ⟨W, R, N, C, b5, b6, b7⟩ := B
  have no : Inv ro (I, J, T, F, L) (up2 IM 0 0 0) JM := Inv_mk (B0.thr (Fr0 IM 0))
  unfold St_law H_law M_law
  have mw : ∀ {x : Int32} {n : Nat} {Q : Int32 → Prop}, (x < 0 ∨ (¬ x < 0 ∧ nI n < x)) → Q 0 → M_within x 0 (nI n) Q := fun hx hq => by
    unfold M_within
    rcases hx with hx | ⟨h0, hx⟩
    · exact it hx hq
    · exact ie h0 (it hx hq)
  have my : ∀ {k n : Nat} {Q : Int32 → Prop}, k ≤ n → n < 2 ^ 31 → Q 1 → M_within (nI k) 0 (nI n) Q := fun hk hn hq => by
    unfold M_within
    exact ie (nI_pos (by omega)) (ie (nI_nlt hk (by omega)) hq)
  rcases xcase x1 (n := 3) (by omega) with ⟨c, hc, rfl⟩ | hx
  · refine ie (nI_pos (by omega)) (ie (nI_nlt (a := 3) hc (by omega)) ?_)
    rcases xcase x2 (n := 8) (by omega) with ⟨m, hm, rfl⟩ | hx2
    · refine ie (nI_pos (by omega)) (it (nI_le (b := 8) hm (by omega)) (my (n := 3) hc (by omega) (ie (by decide) (my (n := 8) hm (by omega) (ie (by decide) ⟨rfl, ?_⟩)))))
      have nz := nz_own b7.1
      have fc : Fr (fun b i => b = 23 ∧ (i = 1 ∨ i = 2)) I (up2 (up2 I 23 1 (nI c)) 23 2 (nI m)) := (Fr.rf.up (by omega)).up (by omega)
      have fm : Fr (fun b i => b = 0 ∧ (i = 0 ∨ i = 4 ∨ i = 5)) IM (up2 (up2 (up2 IM 0 0 0) 0 4 (nI c)) 0 5 (nI m)) := ((Fr.rf.up (by omega)).up (by omega)).up (by omega)
      refine Inv_mk (own := own) (h := h) (a := a) ⟨W, R.eq (fun b i hb => fm _ _ (by omega)), N.eq (fun j i hj => fc _ _ (by omega)), C.fr (fun b i hb => fc _ _ (by have := nz b; omega)) (fun _ _ => rfl) W.2.1 Ext.rf, b5.eq (fun b i hb => fm _ _ (by omega)), b6.eq (fun b i hb => fc _ _ (by omega)), b7.mk (fun b i hb => fc _ _ (by have := nz b; omega)) (fun _ _ _ => rfl) Ext.rf (fun b i hb => fm _ _ (by omega)) ?_ (b7.2.2.2.2.1.eq (fun b i hb => fc _ _ (by omega)) (fun b i hb => fm _ _ (by omega))) ?_ ?_ (b7.2.2.2.2.2.2.2.1.eq (fun b i hb => fc _ _ (by omega)) (fun b i hb => fm _ _ (by omega))) (b7.2.2.2.2.2.2.2.2.1.eq (fun b i hb => fc _ _ (by omega)) (fun b i hb => fm _ _ (by omega)))⟩
      · obtain ⟨j1, -⟩ := b7.2.2.2.1
        exact ⟨fun c' hc' => ⟨(fc _ _ (by omega)).trans (j1 c' hc').1, (fm _ _ (by omega)).trans (j1 c' hc').2.1, (j1 c' hc').2.2⟩, c, m, by rw [up2_get, if_neg (by omega), up2_same], by rw [up2_get, if_neg (by omega), up2_same], hc, up2_same _ _ _ _, up2_same _ _ _ _, hm⟩
      · rw [fc _ _ (by omega), fm _ _ (by omega)]; exact b7.2.2.2.2.2.1
      · rw [fc _ _ (by omega), fm _ _ (by omega)]; exact b7.2.2.2.2.2.2.1
    · have hm := my (n := 3) (Q := fun r1 => if r1 = 0 then ((0 : Int32) = 0 ∧ Inv ro (I, J, T, F, L) (up2 IM 0 0 0) JM) else M_within x2 0 8 (fun r3 => if r3 = 0 then ((0 : Int32) = 0 ∧ Inv ro (I, J, T, F, L) (up2 IM 0 0 0) JM) else ((0 : Int32) = 1 ∧ Inv ro (I, J, T, F, L) (up2 (up2 (up2 IM 0 0 0) 0 4 (nI c)) 0 5 x2) JM))) hc (by omega) (ie (by decide) (mw (n := 8) hx2 (it rfl ⟨rfl, no⟩)))
      rcases hx2 with h0 | ⟨h0, h9⟩
      · exact it h0 hm
      · exact ie h0 (ie (nle_of_lt h9) hm)
  · have hm := mw (n := 3) (Q := fun r1 => if r1 = 0 then ((0 : Int32) = 0 ∧ Inv ro (I, J, T, F, L) (up2 IM 0 0 0) JM) else M_within x2 0 8 (fun r3 => if r3 = 0 then ((0 : Int32) = 0 ∧ Inv ro (I, J, T, F, L) (up2 IM 0 0 0) JM) else ((0 : Int32) = 1 ∧ Inv ro (I, J, T, F, L) (up2 (up2 (up2 IM 0 0 0) 0 4 x1) 0 5 x2) JM))) hx (it rfl ⟨rfl, no⟩)
    rcases hx with h0 | ⟨h0, h9⟩
    · exact it h0 hm
    · exact ie h0 (it h9 hm)
theorem st_constant {ro : Nat} {x1 : Int32} {I : HI} {J : HJ} {T F : HR} {L : HL} {IM : HI} {JM : HJ} (hI : Inv ro (I, J, T, F, L) IM JM) : St_constant x1 I J T F L ro IM JM (Inv ro) := by
  obtain ⟨own, h, a, B⟩ := Inv_el hI
  have B0 := B
  obtain ⟨W, R, N, C, b5, b6, b7⟩ := B
  have hro := b7.1.2.2.2.1
  have n8 := W.2.1
  obtain ⟨s, s1, s2, s3, s4⟩ := b7.2.2.2.2.2.2.2.1
  unfold St_constant L_constant H_constant M_constant
  rcases wcase x1 (an a) (by omega) with ⟨w, hw, rfl⟩ | hx
  · refine H_need_y N.1 n8 hw ?_
    rw [s1]
    refine ic (fun hc => ?_) (fun hc => ?_)
    · rw [nI_ltI (by omega) (by omega)] at hc
      refine ⟨vin (by omega) (by omega), hro, M_isWearer_y R.1.1 n8 hw (ie (by decide) ?_)⟩
      rw [Fr0 IM 0 _ _ (by omega), s2]
      refine ie (nI_ge hc (by omega)) (M_right_y (up00 _ _) (ie (by decide) ⟨vin (by omega) (by omega), fin_ok B0 (Fr0 IM 0) (up00 _ _) ?_⟩))
      rw [nx_nI (by omega), Fr0 IM 0 _ _ (by omega)]; exact s4 w hc
    · rw [nI_ltI (by omega) (by omega)] at hc
      refine ⟨hro, M_isWearer_y R.1.1 n8 hw (ie (by decide) ?_)⟩
      rw [Fr0 IM 0 _ _ (by omega), s2]
      exact it (nI_le (by omega) (by omega)) (M_right_n (up00 _ _) (it rfl (fin_no B0 (Fr01 IM) (up00' _))))
  · exact H_need_n N.1 hx ⟨hro, M_isWearer_n R.1.1 hx (it rfl (fin_no B0 (Fr01 IM) (up00' _)))⟩
theorem cov_len : ∀ c, c ≤ 5 → (cov c).length ≤ 7 := by decide
theorem st_given {ro : Nat} {x1 : Int32} {I : HI} {J : HJ} {T F : HR} {L : HL} {IM : HI} {JM : HJ} (hI : Inv ro (I, J, T, F, L) IM JM) : St_given x1 I J T F L ro IM JM (Inv ro) := by
  obtain ⟨own, h, a, B⟩ := Inv_el hI
  have B0 := B
  obtain ⟨W, R, N, C, b5, b6, b7⟩ := B
  have hro := b7.1.2.2.2.1
  obtain ⟨⟨c, c1, c2, c3, c4, c5⟩, -⟩ := b7.2.2.2.2.2.2.2.2.1
  have l7 := cov_len c c2
  unfold St_given L_given H_given M_given M_given_b22 M_given_b23
  rw [c3, Fr0 IM 0 _ _ (by omega), c4]
  rcases wcase x1 (cov c).length (by omega) with ⟨w, hw, rfl⟩ | hx
  · refine ie (nI_pos (by omega)) (it (nI_lt hw (by omega)) ⟨vin (by omega) (by omega), hro, ie (nI_pos (by omega)) (ie (nI_ge hw (by omega)) (M_right_y (up00 _ _) (ie (by decide) ⟨vin (by omega) (by omega), fin_ok B0 (Fr0 IM 0) (up00 _ _) ?_⟩)))⟩)
    rw [nx_nI (by omega), Fr0 IM 0 _ _ (by omega), (c5 w hw).1, (c5 w hw).2]
  · unfold H_given_b15
    rcases hx with h0 | ⟨h0, h9⟩
    · exact it h0 ⟨hro, it h0 (M_right_n (up00 _ _) (it rfl (fin_no B0 (Fr01 IM) (up00' _))))⟩
    · refine ie h0 (ie (fun q => ?_) ⟨hro, ie h0 (it h9 (M_right_n (up00 _ _) (it rfl (fin_no B0 (Fr01 IM) (up00' _)))))⟩)
      exact nle_of_lt q h9
