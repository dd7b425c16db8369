/-! heap, law, fault, steps, constant, given, about, count -/
theorem xcase (x : Int32) {n : Nat} (hn : n < 2 ^ 31) : (∃ k, k ≤ n ∧ x = nI k) ∨ (x < 0 ∨ (¬ x < 0 ∧ nI n < x)) := by
  by_cases h : x < 0
  · exact Or.inr (Or.inl h)
  · obtain ⟨j, hj, rfl⟩ := nI_of h
    by_cases h2 : j ≤ n
    · exact Or.inl ⟨j, h2, rfl⟩
    · exact Or.inr (Or.inr ⟨h, nI_lt (by omega) hj⟩)
theorem xno {x : Int32} {n : Nat} (hn : n < 2 ^ 31) (h : x < 0 ∨ (¬ x < 0 ∧ nI n < x)) {k : Nat} (hk : k ≤ n) : ¬ x = nI k := by
  intro e
  rcases h with h | ⟨_, h⟩
  · rw [e] at h; exact nI_pos (by omega) h
  · rw [e] at h; exact nI_nlt hk (by omega) h
theorem lt_of_nle {x y : Int32} (h : ¬ x ≤ y) : y < x := by rw [Int32.lt_iff_toInt_lt]; rw [Int32.le_iff_toInt_le] at h; omega
theorem nle_of_lt {x y : Int32} (h : y < x) : ¬ x ≤ y := by rw [Int32.le_iff_toInt_le]; rw [Int32.lt_iff_toInt_lt] at h; omega
section
variable {own h : Nat → Nat} {a : AN} {ro : Nat} {I : HI} {J : HJ} {T F : HR} {L : HL} {IM : HI} {JM : HJ}
theorem fin_ok (B : InvB own h a ro I T F L IM) {IM' : HI} (f : Fr (fun b i => b = 0 ∧ i = 0) IM IM') (h0 : IM' 0 0 = 0) {r rb : Int32} (e : r = rb) : M_thrown IM' (fun rt => rt = 0 ∧ ((0 : Int32) = 0 → (I, up2 J ro 0 (Int32.toInt64 r), T, F, L).2.1 ro 0 = Int32.toInt64 rb) ∧ Inv ro (I, up2 J ro 0 (Int32.toInt64 r), T, F, L) IM' JM) := by
  unfold M_thrown
  exact ⟨h0, fun _ => by rw [e]; exact up2_same J ro 0 _, Inv_mk (B.thr f)⟩
theorem fin_no (B : InvB own h a ro I T F L IM) {IM' : HI} (f : Fr (fun b i => b = 0 ∧ i = 0) IM IM') (h1 : IM' 0 0 = 1) {P : Prop} : M_thrown IM' (fun rt => rt = 1 ∧ ((1 : Int32) = 0 → P) ∧ Inv ro (I, J, T, F, L) IM' JM) := by
  unfold M_thrown
  exact ⟨h1, fun q => absurd q (by decide), Inv_mk (B.thr f)⟩
end
theorem st_fault {ro : Nat} {I : HI} {J : HJ} {T F : HR} {L : HL} {IM : HI} {JM : HJ} (hI : Inv ro (I, J, T, F, L) IM JM) : St_fault I J T F L ro IM JM (Inv ro) := by
  obtain ⟨own, h, a, B⟩ := Inv_el hI
  refine ⟨?_, Inv_mk (B.thr (Fr0 IM 0))⟩
  rw [Fr0 IM 0 _ _ (by omega)]
  exact B.2.2.2.2.2.2.2.2.2.2.2.1
theorem st_steps {ro : Nat} {I : HI} {J : HJ} {T F : HR} {L : HL} {IM : HI} {JM : HJ} (hI : Inv ro (I, J, T, F, L) IM JM) : St_steps I J T F L ro IM JM (Inv ro) := by
  obtain ⟨own, h, a, B⟩ := Inv_el hI
  refine ⟨?_, Inv_mk (B.thr (Fr0 IM 0))⟩
  rw [Fr0 IM 0 _ _ (by omega)]
  exact B.2.2.2.2.2.2.2.2.2.2.2.2.1
theorem st_heap {ro : Nat} {x1 x2 : Int32} {I : HI} {J : HJ} {T F : HR} {L : HL} {IM : HI} {JM : HJ} (hI : Inv ro (I, J, T, F, L) IM JM) : St_heap x1 x2 I J T F L ro IM JM (Inv ro) := by
  obtain ⟨own, h, a, B⟩ := Inv_el hI
  have B0 := B
  obtain ⟨W, R, N, C, b5, b6, b7⟩ := B
  have q4 := W.2.2.2.1
  have q2 := W.2.2.1
  have no : Inv ro (I, J, T, F, L) (up2 IM 0 0 0) JM := Inv_mk (B0.thr (Fr0 IM 0))
  have eq : (up2 IM 0 0 0) 0 2 - 1 = nI (aq a - 1) := by rw [Fr0 IM 0 _ _ (by omega), R.1.2.1, nlit1, nS (by omega)]
  unfold St_heap H_heap M_heap
  rw [N.2.1, eq]
  have mw : ∀ {x : Int32} {n : Nat} {Q : Int32 → Prop}, (x < 0 ∨ (¬ x < 0 ∧ nI n < x)) → Q 0 → M_within x 0 (nI n) Q := fun hx hq => by
    unfold M_within
    rcases hx with hx | ⟨h0, hx⟩
    · exact it hx hq
    · exact ie h0 (it hx hq)
  have my : ∀ {k n : Nat} {Q : Int32 → Prop}, k ≤ n → n < 2 ^ 31 → Q 1 → M_within (nI k) 0 (nI n) Q := fun hk hn hq => by
    unfold M_within
    exact ie (nI_pos (by omega)) (ie (nI_nlt hk (by omega)) hq)
  rcases xcase x1 (n := aq a - 1) (by omega) with ⟨c, hc, rfl⟩ | hx
  · refine ie (nI_pos (by omega)) (ie (nI_ge (by omega) (by omega)) ?_)
    rcases xcase x2 (n := 9) (by omega) with ⟨m, hm, rfl⟩ | hx2
    · refine ie (nI_pos (by omega)) (it (nI_le (b := 9) hm (by omega)) ⟨vin (by omega) (by omega), ?_⟩)
      unfold Led_spoil
      refine my hc (by omega) (ie (by decide) (my (n := 9) hm (by omega) (ie (by decide) ⟨vin (by omega) (by omega), rfl, ?_⟩)))
      rw [nx_nI (by omega)]
      have nz := nz_own b7.1
      have fc : Fr (fun b i => b = 24 ∧ i = c ∨ b = 26 ∧ i = 1) I (up2 (up2 I 24 c (nI m)) 26 1 0) := (Fr.rf.up (by omega)).up (by omega)
      have fm : Fr (fun b i => b = 0 ∧ i = 0 ∨ b = 1 ∧ i = c) IM (up2 (up2 IM 0 0 0) 1 c (nI m)) := (Fr.rf.up (by omega)).up (by omega)
      obtain ⟨r1, r2, r3, ⟨j1, lw, k, j2, j3, j4, j5, j6, j7⟩, ⟨t, t1, t2, t3, t4⟩, r6, r7, ⟨s, s1, s2, s3, s4⟩, ⟨⟨cc, c1, c2, c3, c4, c5⟩, c6⟩, r10⟩ := b7
      refine Inv_mk (own := own) (h := upn h c m) (a := a) ⟨W, R.eq (fun b i hb => fm _ _ (by omega)), N.eq (fun j i hj => fc _ _ (by omega)), C.fr (fun b i hb => fc _ _ (by have := nz b; omega)) (fun _ _ => rfl) W.2.1 Ext.rf, ?_, Or.inl (up2_same _ _ _ _), r1, r2, fun i hi => by rw [fc _ _ (by omega)]; exact r3 i hi, ⟨fun c' hc' => ?_, lw, k, (fc _ _ (by omega)).trans j2, (fm _ _ (by omega)).trans j3, j4, (fc _ _ (by omega)).trans j5, (fm _ _ (by omega)).trans j6, j7⟩, ⟨t, (fc _ _ (by omega)).trans t1, (fm _ _ (by omega)).trans t2, t3, fun k hk => ?_⟩, ?_, ?_, ⟨s, (fc _ _ (by omega)).trans s1, (fm _ _ (by omega)).trans s2, s3, fun w hw => ?_⟩, ⟨⟨cc, (fc _ _ (by omega)).trans c1, c2, (fc _ _ (by omega)).trans c3, (fm _ _ (by omega)).trans c4, fun i hi => ⟨(fc _ _ (by omega)).trans (c5 i hi).1, (fm _ _ (by omega)).trans (c5 i hi).2⟩⟩, fun n h1 h5 => ?_⟩, fun s hs => ?_⟩
      · rcases b5 with g | ⟨g1, g2⟩
        · exact Or.inl ((fm _ _ (by omega)).trans g)
        · exact Or.inr ⟨(fm _ _ (by omega)).trans g1, fun r hr => ⟨(fm _ _ (by omega)).trans (g2 r hr).1, (fm _ _ (by omega)).trans (g2 r hr).2.1, fun w hw => (fm _ _ (by omega)).trans ((g2 r hr).2.2 w hw)⟩⟩
      · by_cases e : c' = c
        · subst e
          rw [upn_same]
          exact ⟨by rw [up2_get, if_neg (by omega), up2_same], up2_same _ _ _ _, hm⟩
        · rw [upn_ne _ _ e, fc _ _ (by omega), fm _ _ (by omega)]
          exact j1 c' hc'
      · obtain ⟨b, g1, g2, g3⟩ := t4 k hk
        exact ⟨b, g1, (fc _ _ (by omega)).trans g2, (fm _ _ (by omega)).trans g3⟩
      · rw [fc _ _ (by omega), fm _ _ (by omega)]; exact r6
      · rw [fc _ _ (by omega), fm _ _ (by omega)]; exact r7
      · rw [fc _ _ (by omega), fm _ _ (by omega)]; exact s4 w hw
      · rcases c6 n h1 h5 with g | ⟨g1, g2⟩
        · exact Or.inl ((fm _ _ (by omega)).trans g)
        · exact Or.inr ⟨(fm _ _ (by omega)).trans g1, fun i hi => (fm _ _ (by omega)).trans (g2 i hi)⟩
      · refine ⟨(r10 s hs).1.fr (fun b i hb => fc _ _ (by have := nz b; omega)) Ext.rf, ?_⟩
        rcases (r10 s hs).2 with ⟨h1, h2⟩ | ⟨r, b, h1, h2, h3, h4, h5, h6, h7, h8⟩
        · exact Or.inl ⟨h1, (fm _ _ (by omega)).trans h2⟩
        · exact Or.inr ⟨r, b, h1, h2, h3, h4.eq (fun j i hj => fc _ _ (by omega)), h5.fr (fun b i hb => fc _ _ (by have := nz b; omega)) (fun _ _ => rfl) h3.2.1 Ext.rf, h6.eq (fun b i hb => fm _ _ (by omega)), h7, h8⟩
    · have hm := my (Q := fun r1 => if r1 = 0 then ((0 : Int32) = 0 ∧ Inv ro (I, J, T, F, L) (up2 IM 0 0 0) JM) else M_within x2 0 9 (fun r3 => if r3 = 0 then ((0 : Int32) = 0 ∧ Inv ro (I, J, T, F, L) (up2 IM 0 0 0) JM) else (vp_in (nI c) 4 ∧ (0 : Int32) = 1 ∧ Inv ro (I, J, T, F, L) (up2 (up2 IM 0 0 0) 1 (nx (nI c)) x2) JM))) hc (by omega) (ie (by decide) (mw (n := 9) hx2 (it rfl ⟨rfl, no⟩)))
      rcases hx2 with h0 | ⟨h0, h9⟩
      · exact it h0 hm
      · exact ie h0 (ie (nle_of_lt h9) hm)
  · have hm := mw (Q := fun r1 => if r1 = 0 then ((0 : Int32) = 0 ∧ Inv ro (I, J, T, F, L) (up2 IM 0 0 0) JM) else M_within x2 0 9 (fun r3 => if r3 = 0 then ((0 : Int32) = 0 ∧ Inv ro (I, J, T, F, L) (up2 IM 0 0 0) JM) else (vp_in x1 4 ∧ (0 : Int32) = 1 ∧ Inv ro (I, J, T, F, L) (up2 (up2 IM 0 0 0) 1 (nx x1) x2) JM))) hx (it rfl ⟨rfl, no⟩)
    rcases hx with h0 | ⟨h0, h9⟩
    · exact it h0 hm
    · refine ie h0 (it ?_ hm)
      obtain ⟨k, hk, rfl⟩ := nI_of h0
      rw [nI_ltI (by omega) hk] at h9
      exact nI_le (by omega) hk
