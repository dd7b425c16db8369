/-! count, feed -/
def txs (a : AN) (k : Nat) : Nat := cnt (fun w => decide (akd a w = 1)) k
theorem Net_count_k {I : HI} {T F : HR} {L : HL} {own : Nat → Nat} {r : Nat} {a : AN} (W : WF a) (N : CN I r a) (C : CT I T F L own r a) {Q : Int32 → Prop} (h : Q (nI (txs a (an a)))) : Net_countTexts I T r Q := by
  have n8 := W.2.1
  have key : ∀ d i, i + d = an a → Net_countTexts_l4 I T r Q (d + 1) (nI (txs a i)) (nI i) := by
    intro d
    induction d with
    | zero =>
      intro i hi
      have : i = an a := by omega
      subst this
      rw [Net_countTexts_l4, N.1]
      exact it (nI_le (Nat.le_refl _) (by omega)) h
    | succ d ih =>
      intro i hi
      have ih := ih (i + 1) (by omega)
      unfold txs at ih ⊢
      rw [cnt_succ] at ih
      rw [Net_countTexts_l4, N.1, nx_nI (by omega), nlit0, nI_add]
      simp only [nI_1]
      refine ie (nI_ge (by omega) (by omega)) ⟨vin (by omega) (by omega), fun h0 => ?_, fun f hf => ?_⟩
      · have h1 : akd a i ≠ 1 := by
          rcases C.2.2 i (by omega) with g | ⟨g, f, g1, _⟩
          · exact g.1
          · rw [h0] at g1; cases g1
        rw [if_neg (by simp [h1])] at ih
        exact ih
      · have h1 : akd a i = 1 := by
          rcases C.2.2 i (by omega) with g | ⟨g, _⟩
          · rw [g.2] at hf; cases hf
          · exact g
        rw [if_pos (by simp [h1])] at ih
        exact ih
  exact ⟨an a + 1, key (an a) 0 (by omega)⟩
theorem M_count_y {IM : HI} {a : AN} (W : WF a) (R : RepM IM a) {k : Nat} (hk : k ≤ 6) {Q : Int32 → HI → Prop} (h0 : k = 0 → Q (nI (an a)) (up2 IM 0 0 0)) (h1 : k = 1 → Q (nI (aq a)) (up2 IM 0 0 0)) (h2 : k = 2 → Q (nI (aq a ^ an a)) (up2 IM 0 0 0)) (h3 : k = 3 → Q (IM 0 4) (up2 IM 0 0 0)) (h4 : k = 4 → Q (IM 0 5) (up2 IM 0 0 0)) (h5 : k = 5 → Q (IM 0 16) (up2 IM 0 0 0)) (h6 : k = 6 → Q (nI (txs a (an a))) (up2 IM 0 0 0)) : M_count IM (nI k) Q := by
  have n8 := W.2.1
  have f := Fr0 IM 0
  have key : ∀ d i, i + d = an a → M_count_l34 (up2 IM 0 0 0) (nI k) Q (d + 1) (nI (txs a i)) (nI i) := by
    intro d
    induction d with
    | zero =>
      intro i hi
      have : i = an a := by omega
      subst this
      rw [M_count_l34, f _ _ (by omega), R.1.1]
      refine it (nI_le (Nat.le_refl _) (by omega)) ?_
      rw [f 0 2 (by omega), f 0 3 (by omega), f 0 4 (by omega), f 0 5 (by omega), f 0 16 (by omega), R.1.2.1, R.2.1]
      rcases (show k = 0 ∨ k = 1 ∨ k = 2 ∨ k = 3 ∨ k = 4 ∨ k = 5 ∨ k = 6 by omega) with rfl | rfl | rfl | rfl | rfl | rfl | rfl
      · exact it rfl (h0 rfl)
      · exact ie (by decide) (it rfl (h1 rfl))
      · exact ie (by decide) (ie (by decide) (it rfl (h2 rfl)))
      · exact ie (by decide) (ie (by decide) (ie (by decide) (it rfl (h3 rfl))))
      · exact ie (by decide) (ie (by decide) (ie (by decide) (ie (by decide) (it rfl (h4 rfl)))))
      · exact ie (by decide) (ie (by decide) (ie (by decide) (ie (by decide) (ie (by decide) (it rfl (h5 rfl))))))
      · exact ie (by decide) (ie (by decide) (ie (by decide) (ie (by decide) (ie (by decide) (ie (by decide) (h6 rfl))))))
    | succ d ih =>
      intro i hi
      have ih := ih (i + 1) (by omega)
      unfold txs at ih ⊢
      rw [cnt_succ] at ih
      have k2 := W.kd (w := i) (by omega)
      rw [M_count_l34, f 0 1 (by omega), R.1.1, nx_nI (by omega), f 4 _ (by omega), (R.2.2 i (by omega)).1, nlit0, nI_add]
      simp only [nI_1]
      refine ie (nI_ge (by omega) (by omega)) ⟨vin (by omega) (by omega), ic (fun hc => ?_) (fun hc => ?_)⟩
      · rw [nlit1, nI_eq (by omega) (by omega)] at hc
        rw [if_pos (by simp [hc])] at ih
        exact ih
      · rw [nlit1, nI_eq (by omega) (by omega)] at hc
        rw [if_neg (by simp [hc])] at ih
        exact ih
  unfold M_count M_count_b21
  exact ie (nI_pos (by omega)) (ie (nI_nlt (a := 6) hk (by omega)) (M_right_y (up00 _ _) (ie (by decide) ⟨an a + 1, key (an a) 0 (by omega)⟩)))
theorem st_count {ro : Nat} {x1 : Int32} {I : HI} {J : HJ} {T F : HR} {L : HL} {IM : HI} {JM : HJ} (hI : Inv ro (I, J, T, F, L) IM JM) : St_count x1 I J T F L ro IM JM (Inv ro) := by
  obtain ⟨own, h, a, B⟩ := Inv_el hI
  have B0 := B
  obtain ⟨W, R, N, C, b5, b6, b7⟩ := B
  have hro := b7.1.2.2.2.1
  obtain ⟨-, lw, k9, j2, j3, j4, j5, j6, j7⟩ := b7.2.2.2.1
  obtain ⟨t, t1, t2, t3, t4⟩ := b7.2.2.2.2.1
  have f := Fr0 IM 0
  unfold St_count L_count H_count
  rcases xcase x1 (n := 6) (by omega) with ⟨k, hk, rfl⟩ | hx
  · have m : ∀ {r : Int32}, (k = 0 → r = nI (an a)) → (k = 1 → r = nI (aq a)) → (k = 2 → r = nI (aq a ^ an a)) → (k = 3 → r = nI lw) → (k = 4 → r = nI k9) → (k = 5 → r = nI t) → (k = 6 → r = nI (txs a (an a))) → (ro, 4, 1) ∈ (I, up2 J ro 0 (Int32.toInt64 r), T, F, L).2.2.2.2 ∧ M_count IM (nI k) (fun rb IM2 => M_thrown IM2 fun rt => rt = 0 ∧ ((0 : Int32) = 0 → (I, up2 J ro 0 (Int32.toInt64 r), T, F, L).2.1 ro 0 = Int32.toInt64 rb) ∧ Inv ro (I, up2 J ro 0 (Int32.toInt64 r), T, F, L) IM2 JM) := by
      intro r g0 g1 g2 g3 g4 g5 g6
      refine ⟨hro, M_count_y W R hk (fun e => fin_ok B0 f (up00 _ _) (g0 e)) (fun e => fin_ok B0 f (up00 _ _) (g1 e)) (fun e => fin_ok B0 f (up00 _ _) (g2 e)) (fun e => fin_ok B0 f (up00 _ _) (by rw [j3]; exact g3 e)) (fun e => fin_ok B0 f (up00 _ _) (by rw [j6]; exact g4 e)) (fun e => fin_ok B0 f (up00 _ _) (by rw [t2]; exact g5 e)) (fun e => fin_ok B0 f (up00 _ _) (g6 e))⟩
    rcases (show k = 0 ∨ k = 1 ∨ k = 2 ∨ k = 3 ∨ k = 4 ∨ k = 5 ∨ k = 6 by omega) with rfl | rfl | rfl | rfl | rfl | rfl | rfl
    · exact it rfl (m (fun _ => N.1) (by omega) (by omega) (by omega) (by omega) (by omega) (by omega))
    · exact ie (by decide) (it rfl (m (by omega) (fun _ => N.2.1) (by omega) (by omega) (by omega) (by omega) (by omega)))
    · exact ie (by decide) (ie (by decide) (it rfl (m (by omega) (by omega) (fun _ => N.2.2.1) (by omega) (by omega) (by omega) (by omega))))
    · exact ie (by decide) (ie (by decide) (ie (by decide) (it rfl (m (by omega) (by omega) (by omega) (fun _ => j2) (by omega) (by omega) (by omega)))))
    · exact ie (by decide) (ie (by decide) (ie (by decide) (ie (by decide) (it rfl (m (by omega) (by omega) (by omega) (by omega) (fun _ => j5) (by omega) (by omega))))))
    · exact ie (by decide) (ie (by decide) (ie (by decide) (ie (by decide) (ie (by decide) (it rfl (m (by omega) (by omega) (by omega) (by omega) (by omega) (fun _ => t1) (by omega)))))))
    · exact ie (by decide) (ie (by decide) (ie (by decide) (ie (by decide) (ie (by decide) (ie (by decide) (it rfl (Net_count_k W N C (m (by omega) (by omega) (by omega) (by omega) (by omega) (by omega) (fun _ => rfl)))))))))
  · refine ie (xno (n := 6) (k := 0) (by omega) hx (by omega)) (ie (xno (n := 6) (k := 1) (by omega) hx (by omega)) (ie (xno (n := 6) (k := 2) (by omega) hx (by omega)) (ie (xno (n := 6) (k := 3) (by omega) hx (by omega)) (ie (xno (n := 6) (k := 4) (by omega) hx (by omega)) (ie (xno (n := 6) (k := 5) (by omega) hx (by omega)) (ie (xno (n := 6) (k := 6) (by omega) hx (by omega)) ⟨hro, ?_⟩))))))
    unfold M_count M_count_b20 M_count_b21
    rcases hx with h0 | ⟨h0, h9⟩
    · exact it h0 (M_right_n (up00 _ _) (it rfl (fin_no B0 (Fr01 IM) (up00' _))))
    · exact ie h0 (it h9 (M_right_n (up00 _ _) (it rfl (fin_no B0 (Fr01 IM) (up00' _)))))
/-- the byte of a number at a shift, either way -/
def byo (x : Int32) (k : Nat) : Int32 := (x >>> (nI k &&& 31)) &&& 255
theorem byo_lt (x : Int32) (k : Nat) : ∃ b, b < 256 ∧ byo x k = nI b := by
  obtain ⟨j, hj, e⟩ := wb32 (x >>> (nI k &&& 31))
  refine ⟨j &&& 255, Nat.lt_of_le_of_lt Nat.and_le_right (by decide), ?_⟩
  unfold byo
  rw [e, show (255 : Int32) = nI 255 from rfl, nAnd]
theorem iu_255 {x : Int32} {k : Nat} (hk : k ≤ 24) : iu x (nI k) &&& 255 = byo x k := by
  unfold byo
  apply Int32.toBitVec_inj.mp
  apply BitVec.eq_of_getLsbD_eq
  intro i hi
  have e255 : (255 : Int32).toBitVec = BitVec.ofNat 32 255 := rfl
  rw [Int32.toBitVec_and, Int32.toBitVec_and, BitVec.getLsbD_and, BitVec.getLsbD_and, e255]
  by_cases h8 : i < 8
  · have e1 : (iu x (nI k)).toBitVec.getLsbD i = x.toBitVec.getLsbD (k + i) := by
      have s1 : (((nI k).toUInt32 &&& Int32.toUInt32 31).toBitVec % 32).toNat = k := by
        have : ∀ k, k < 25 → (((nI k).toUInt32 &&& Int32.toUInt32 31).toBitVec % 32).toNat = k := by decide +kernel
        exact this k (by omega)
      show (x.toUInt32 >>> ((nI k).toUInt32 &&& Int32.toUInt32 31)).toBitVec.getLsbD i = x.toUInt32.toBitVec.getLsbD (k + i)
      rw [UInt32.toBitVec_shiftRight]
      show (x.toUInt32.toBitVec >>> (((nI k).toUInt32 &&& Int32.toUInt32 31).toBitVec % 32).toNat).getLsbD i = _
      rw [s1, BitVec.getLsbD_ushiftRight]
    have e2 : (x >>> (nI k &&& 31)).toBitVec.getLsbD i = x.toBitVec.getLsbD (k + i) := by
      rw [Int32.toBitVec_shiftRight, BitVec.sshiftRight_eq', nSh k (by omega), BitVec.getLsbD_sshiftRight]
      rw [if_pos (by omega)]
      simp; omega
    rw [e1, e2]
  · have : (BitVec.ofNat 32 255).getLsbD i = false := by
      have : ∀ i, i < 32 → ¬ i < 8 → (BitVec.ofNat 32 255).getLsbD i = false := by decide
      exact this i hi h8
    rw [this, Bool.and_false, Bool.and_false]
/-- the tape behind one number more -/
def tpd (I0 I : HI) (b c : Nat) (t m : Nat) (x : Int32) : Prop := Fr (fun y i => y = b ∨ y = 0 ∧ i = c) I0 I ∧ I 0 c = nI (t + m) ∧ (∀ k, k < t → I b k = I0 b k) ∧ ∀ j, j < m → I b (t + j) = byo x (24 - 8 * j)
theorem tpd_up {I0 I : HI} {b c t m : Nat} {x v : Int32} (hbc : b ≠ 0) (h : tpd I0 I b c t m x) (hv : v = byo x (24 - 8 * m)) : tpd I0 (up2 (up2 I b (t + m) v) 0 c (nI (t + m + 1))) b c t (m + 1) x := by
  obtain ⟨f, e, h1, h2⟩ := h
  refine ⟨(f.up (Or.inl rfl)).up (Or.inr ⟨rfl, rfl⟩), by rw [up2_same]; rfl, fun k hk => ?_, fun j hj => ?_⟩
  · rw [up2_get, if_neg (by omega), up2_get, if_neg (by omega)]; exact h1 k hk
  · rw [up2_get, if_neg (by omega), up2_get]
    by_cases e2 : j = m
    · subst e2; rw [if_pos ⟨rfl, rfl⟩]; exact hv
    · rw [if_neg (by omega)]; exact h2 j (by omega)
theorem sh8 {k : Nat} (h : 8 ≤ k) : nI k + (-8) = nI (k - 8) := by
  have e : (-8 : Int32) = - nI 8 := by decide
  rw [e, ← Int32.sub_eq_add_neg, nS h]
theorem H_put_k {I : HI} {t : Nat} {x : Int32} (ht : t + 4 ≤ 500) (e : I 0 8 = nI t) {Q : HI → Prop} (h : ∀ I', tpd I I' 34 8 t 4 x → Q I') : H_putBytes I x Q := by
  have step : ∀ n m J, m < 4 → tpd I J 34 8 t m x → (∀ J', tpd I J' 34 8 t (m + 1) x → H_putBytes_l3 x Q n J' (nI (24 - 8 * m) + (-8))) → H_putBytes_l3 x Q (n + 1) J (nI (24 - 8 * m)) := by
    intro n m J hm hJ hn
    rw [H_putBytes_l3, hJ.2.1, nx_nI (by omega), iu_255 (by omega)]
    refine ie (nI_pos (by omega)) (ie (nI_ge (b := 500) (by omega) (by omega)) ⟨vin (by omega) (by omega), ?_⟩)
    rw [up2_get, if_neg (by omega), hJ.2.1, nI_1]
    exact hn _ (tpd_up (by omega) hJ rfl)
  refine ⟨5, step 4 0 I (by omega) ⟨Fr.rf, e, fun _ _ => rfl, fun j hj => by omega⟩ (fun J1 h1 => ?_)⟩
  rw [sh8 (by omega)]
  refine step 3 1 J1 (by omega) h1 (fun J2 h2 => ?_)
  rw [sh8 (by omega)]
  refine step 2 2 J2 (by omega) h2 (fun J3 h3 => ?_)
  rw [sh8 (by omega)]
  refine step 1 3 J3 (by omega) h3 (fun J4 h4 => ?_)
  rw [H_putBytes_l3]
  exact it (by decide) (h J4 h4)
theorem M_lays_k {I : HI} {t : Nat} {x : Int32} (ht : t + 4 ≤ 500) (e : I 0 16 = nI t) {Q : HI → Prop} (h : ∀ I', tpd I I' 10 16 t 4 x → Q I') : M_lays I x Q := by
  have step : ∀ n m J, m < 4 → tpd I J 10 16 t m x → (∀ J', tpd I J' 10 16 t (m + 1) x → M_lays_l3 x Q n J' (nI (24 - 8 * m) + (-8))) → M_lays_l3 x Q (n + 1) J (nI (24 - 8 * m)) := by
    intro n m J hm hJ hn
    rw [M_lays_l3, hJ.2.1, nx_nI (by omega)]
    refine ie (nI_pos (by omega)) ⟨vin (by omega) (by omega), ?_⟩
    rw [up2_get, if_neg (by omega), hJ.2.1, nI_1]
    exact hn _ (tpd_up (by omega) hJ rfl)
  refine ⟨5, step 4 0 I (by omega) ⟨Fr.rf, e, fun _ _ => rfl, fun j hj => by omega⟩ (fun J1 h1 => ?_)⟩
  rw [sh8 (by omega)]
  refine step 3 1 J1 (by omega) h1 (fun J2 h2 => ?_)
  rw [sh8 (by omega)]
  refine step 2 2 J2 (by omega) h2 (fun J3 h3 => ?_)
  rw [sh8 (by omega)]
  refine step 1 3 J3 (by omega) h3 (fun J4 h4 => ?_)
  rw [M_lays_l3]
  exact it (by decide) (h J4 h4)
/-- both tapes stand alike up to t -/
def tps (I IM : HI) (t : Nat) : Prop := I 0 8 = nI t ∧ IM 0 16 = nI t ∧ ∀ k, k < t → ∃ b, b < 256 ∧ I 34 k = nI b ∧ IM 10 k = nI b
theorem tps_up {I I' IM IM' : HI} {t : Nat} {x : Int32} (h : tps I IM t) (c : tpd I I' 34 8 t 4 x) (m : tpd IM IM' 10 16 t 4 x) : tps I' IM' (t + 4) := by
  refine ⟨c.2.1, m.2.1, fun k hk => ?_⟩
  by_cases hkt : k < t
  · rw [c.2.2.1 k hkt, m.2.2.1 k hkt]; exact h.2.2 k hkt
  · have e1 := c.2.2.2 (k - t) (by omega)
    have e2 := m.2.2.2 (k - t) (by omega)
    rw [show t + (k - t) = k by omega] at e1 e2
    obtain ⟨b, hb, e⟩ := byo_lt x (24 - 8 * (k - t))
    exact ⟨b, hb, e1.trans e, e2.trans e⟩
theorem st_feed {ro : Nat} {x1 x2 x3 x4 x5 : Int32} {I : HI} {J : HJ} {T F : HR} {L : HL} {IM : HI} {JM : HJ} (hI : Inv ro (I, J, T, F, L) IM JM) : St_feed x1 x2 x3 x4 x5 I J T F L ro IM JM (Inv ro) := by
  obtain ⟨own, h, a, B⟩ := Inv_el hI
  have B0 := B
  obtain ⟨W, R, N, C, b5, b6, b7⟩ := B
  have nz := nz_own b7.1
  obtain ⟨t, t1, t2, t3, t4⟩ := b7.2.2.2.2.1
  unfold St_feed H_feed M_feed
  rw [show (up2 IM 0 0 0) 0 16 = nI t from (Fr0 IM 0 _ _ (by omega)).trans t2, t1, show (20 : Int32) = nI 20 from rfl, nI_add, show (500 : Int32) = nI 500 from rfl]
  by_cases ht : t + 20 ≤ 500
  · refine it (nI_le ht (by omega)) ?_
    have g0 : tps I (up2 IM 0 0 0) t := ⟨t1, (Fr0 IM 0 _ _ (by omega)).trans t2, fun k hk => by rw [Fr0 IM 0 _ _ (by omega)]; exact t4 k hk⟩
    refine H_put_k (by omega) t1 (fun I1 c1 => H_put_k (t := t + 4) (by omega) c1.2.1 (fun I2 c2 => H_put_k (t := t + 8) (by omega) c2.2.1 (fun I3 c3 => H_put_k (t := t + 12) (by omega) c3.2.1 (fun I4 c4 => H_put_k (t := t + 16) (by omega) c4.2.1 (fun I5 c5 => it (nI_le ht (by omega)) ?_)))))
    refine M_lays_k (by omega) g0.2.1 (fun M1 m1 => M_lays_k (t := t + 4) (by omega) m1.2.1 (fun M2 m2 => M_lays_k (t := t + 8) (by omega) m2.2.1 (fun M3 m3 => M_lays_k (t := t + 12) (by omega) m3.2.1 (fun M4 m4 => M_lays_k (t := t + 16) (by omega) m4.2.1 (fun M5 m5 => ?_)))))
    have g5 : tps I5 M5 (t + 20) := tps_up (tps_up (tps_up (tps_up (tps_up g0 c1 m1) c2 m2) c3 m3) c4 m4) c5 m5
    have fc : Fr (fun y i => y = 34 ∨ y = 0 ∧ i = 8) I I5 := (((c1.1.tr c2.1).tr c3.1).tr c4.1).tr c5.1
    have fm : Fr (fun y i => y = 10 ∨ y = 0 ∧ (i = 0 ∨ i = 16)) IM M5 := ((Fr0 IM 0).mono (fun b i hb => by omega)).tr (((((m1.1.tr m2.1).tr m3.1).tr m4.1).tr m5.1).mono (fun b i hb => by omega))
    refine ⟨by rw [g5.1, g5.2.1], Inv_mk (own := own) (h := h) (a := a) ⟨W, R.eq (fun b i hb => fm _ _ (by omega)), N.eq (fun j i hj => fc _ _ (by omega)), C.fr (fun b i hb => fc _ _ (by have := nz b; omega)) (fun _ _ => rfl) W.2.1 Ext.rf, b5.eq (fun b i hb => fm _ _ (by omega)), b6.eq (fun b i hb => fc _ _ (by omega)), b7.mk (fun b i hb => fc _ _ (by have := nz b; omega)) (fun _ _ _ => rfl) Ext.rf (fun b i hb => fm _ _ (by omega)) (b7.2.2.2.1.eq (fun b i hb => fc _ _ (by omega)) (fun b i hb => fm _ _ (by omega))) ⟨t + 20, g5.1, g5.2.1, ht, g5.2.2⟩ ?_ ?_ (b7.2.2.2.2.2.2.2.1.eq (fun b i hb => fc _ _ (by omega)) (fun b i hb => fm _ _ (by omega))) (b7.2.2.2.2.2.2.2.2.1.eq (fun b i hb => fc _ _ (by omega)) (fun b i hb => fm _ _ (by omega)))⟩⟩
    · rw [fc _ _ (by omega), fm _ _ (by omega)]; exact b7.2.2.2.2.2.1
    · rw [fc _ _ (by omega), fm _ _ (by omega)]; exact b7.2.2.2.2.2.2.1
  · have hn : ¬ nI (t + 20) ≤ nI 500 := nI_ge (by omega) (by omega)
    exact ie hn (ie hn ⟨rfl, Inv_mk (B0.thr (Fr0 IM 0))⟩)
