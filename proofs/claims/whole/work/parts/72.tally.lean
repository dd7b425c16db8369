/-! beaten, tally, rightOf, worst -/
/-- what the class holds after the rows are worked -/
def TwC (a : AN) (h : Nat → Nat) (lw k : Nat) (I : HI) : Prop := WF a ∧ CN I 1 a ∧ Bok a h I ∧ (∀ c, c < 4 → I 24 c = nI (h c) ∧ h c ≤ 9) ∧ I 23 1 = nI lw ∧ I 23 2 = nI k ∧ lw ≤ 3 ∧ k ≤ 8
/-- what the reference holds then -/
def TwM (a : AN) (h : Nat → Nat) (lw k : Nat) (IM : HI) : Prop := WF a ∧ RepM IM a ∧ (∀ r, r < aq a ^ an a → done IM a r) ∧ (∀ c, c < 4 → IM 1 c = nI (h c) ∧ h c ≤ 9) ∧ IM 0 4 = nI lw ∧ IM 0 5 = nI k ∧ lw ≤ 3 ∧ k ≤ 8
theorem TwC.c {a : AN} {h : Nat → Nat} {lw k : Nat} {I : HI} (D : TwC a h lw k I) {r : Nat} (hr : r < aq a ^ an a) {Q : Int32 → Prop} (q0 : cts a h r = false → Q 0) (q1 : cts a h r = true → Q 1) : Led_counts I (nI r) Q := Led_counts_k D.1 D.2.2.1 hr (by cases e : cts a h r; exact q0 e; exact q1 e)
theorem TwM.c {a : AN} {h : Nat → Nat} {lw k : Nat} {IM : HI} (D : TwM a h lw k IM) {r : Nat} (hr : r < aq a ^ an a) {Q : Int32 → Prop} (q0 : cts a h r = false → Q 0) (q1 : cts a h r = true → Q 1) : M_counts IM (nI r) Q := M_counts_k D.1 D.2.1.1.1 D.2.1.1.2.1 D.2.2.2.1 (by have := D.1.2.2.2.2.1; omega) (by cases e : cts a h r; exact q0 e; exact q1 e)
theorem TwC.w {a : AN} {h : Nat → Nat} {lw k : Nat} {I : HI} (D : TwC a h lw k I) {r : Nat} (hr : r < aq a ^ an a) {Q : Int32 → Prop} (q0 : won9 a lw k r = false → Q 0) (q1 : won9 a lw k r = true → Q 1) : Led_isWon I (nI r) (I 1 0) Q := by
  obtain ⟨W, N, b, hH, e4, e5, l3, k8⟩ := D
  rw [N.1]
  exact Led_isWon_k W b hr e4 e5 l3 k8 (by cases e : won9 a lw k r; exact q0 e; exact q1 e)
theorem TwM.w {a : AN} {h : Nat → Nat} {lw k : Nat} {IM : HI} (D : TwM a h lw k IM) {r : Nat} (hr : r < aq a ^ an a) {Q : Int32 → Prop} (q0 : won9 a lw k r = false → Q 0) (q1 : won9 a lw k r = true → Q 1) : M_isWon IM (IM 20 (nx (nI r))) (IM 21 (nx (nI r))) Q := by
  obtain ⟨W, R, hd, hH, e4, e5, l3, k8⟩ := D
  have r5 := W.2.2.2.2.1
  rw [nx_nI (by omega), (hd r hr).1, (hd r hr).2.1]
  have q : Q (b01 (won9 a lw k r)) := by cases e : won9 a lw k r; exact q0 e; exact q1 e
  exact M_isWon_k e4 e5 R.1.1 l3 k8 W.2.1 (rt_lt a r) (wr_lt a r) q
theorem cnt_le' (p : Nat → Bool) : ∀ n, cnt p n ≤ n
  | 0 => Nat.le_refl 0
  | n + 1 => by
    have := cnt_le' p n
    rw [cnt_succ]
    split <;> omega
theorem tally_c {a : AN} {h : Nat → Nat} {lw k : Nat} {I : HI} {x : Int32} (D : TwC a h lw k I) {Q : Int32 → Prop} (hq : Q (nI (cnt (fun r => cts a h r && decide (nI (pop (rt a r)) = x)) (aq a ^ an a)))) : ∀ d r, r + d = aq a ^ an a → Led_rowsWithRight_l5 I 1 x Q (d + 1) (nI (cnt (fun r => cts a h r && decide (nI (pop (rt a r)) = x)) r)) (nI r) := by
  have r5 := D.1.2.2.2.2.1
  intro d
  induction d with
  | zero =>
    intro r hr
    have : r = aq a ^ an a := by omega
    subst this
    rw [Led_rowsWithRight_l5, D.2.1.2.2.1]
    exact it (nI_le (by omega) (by omega)) hq
  | succ d ih =>
    intro r hr
    have ih := ih (r + 1) (by omega)
    rw [cnt_succ] at ih
    rw [Led_rowsWithRight_l5, D.2.1.2.2.1]
    simp only [nI_1]
    refine ie (nI_ge (by omega) (by omega)) (D.c (by omega) (fun hc => it rfl ?_) (fun hc => ie (by decide) ?_))
    · rw [hc, if_neg (by simp)] at ih; exact ih
    · rw [nx_nI (by omega), D.2.2.1 r (by omega), mk_rt D.1]
      refine ⟨vin (by omega) (by omega), Jd_bit_k (rt8 D.1 r) (ic (fun h2 => ?_) (fun h2 => ?_))⟩
      · rw [if_pos (by simp [hc, h2])] at ih; exact ih
      · rw [if_neg (by simp [h2])] at ih; exact ih
theorem tally_m {a : AN} {h : Nat → Nat} {lw k : Nat} {IM : HI} {x : Int32} (D : TwM a h lw k IM) {Q : Int32 → HI → Prop} (hq : Q (nI (cnt (fun r => cts a h r && decide (nI (pop (rt a r)) = x)) (aq a ^ an a))) IM) : ∀ d r, r + d = aq a ^ an a → M_tally_l13 IM x Q (d + 1) (nI (cnt (fun r => cts a h r && decide (nI (pop (rt a r)) = x)) r)) (nI r) := by
  have r5 := D.1.2.2.2.2.1
  intro d
  induction d with
  | zero =>
    intro r hr
    have : r = aq a ^ an a := by omega
    subst this
    rw [M_tally_l13, D.2.1.2.1]
    exact it (nI_le (by omega) (by omega)) hq
  | succ d ih =>
    intro r hr
    have ih := ih (r + 1) (by omega)
    rw [cnt_succ] at ih
    rw [M_tally_l13, D.2.1.2.1]
    simp only [nI_1]
    refine ie (nI_ge (by omega) (by omega)) (D.c (by omega) (fun hc => it rfl ?_) (fun hc => ie (by decide) ?_))
    · rw [hc, if_neg (by simp)] at ih; exact ih
    · rw [nx_nI (by omega), (D.2.2.1 r (by omega)).1]
      refine ⟨vin (by omega) (by omega), M_bits_k (rt8 D.1 r) (ic (fun h2 => ?_) (fun h2 => ?_))⟩
      · rw [if_pos (by simp [hc, h2])] at ih; exact ih
      · rw [if_neg (by simp [h2])] at ih; exact ih
/-- both sides worked -/
theorem two_k {own h : Nat → Nat} {a : AN} {ro : Nat} {I : HI} {T F : HR} {L : HL} {IM : HI} (B : InvB own h a ro I T F L IM) {Q : HI → Prop} (hQ : ∀ I' lw k, TwC a h lw k I' → (∀ {P : HI → Prop}, (∀ IM', TwM a h lw k IM' → InvB own h a ro I' T F L IM' → IM' 0 0 = 0 → P IM') → M_worksAll (up2 IM 0 0 0) P) → Q I') : Led_fill I T F L 1 20 Q := by
  obtain ⟨W, R, N, C, b5, b6, b7⟩ := id B
  have o56 := b7.1.1
  obtain ⟨j1, lw, k9, j2, j3, j4, j5, j6, j7⟩ := b7.2.2.2.1
  refine Led_fill_k B (fun I' f N' hl hb => hQ I' lw k9 ⟨W, N', hb, fun c hc => ⟨(f _ _ (by have := o56 24 (by omega); unfold leP; omega)).trans (j1 c hc).1, (j1 c hc).2.2⟩, (f _ _ (by have := o56 23 (by omega); unfold leP; omega)).trans j2, (f _ _ (by have := o56 23 (by omega); unfold leP; omega)).trans j5, j4, j7⟩ (fun {P} hP => ?_))
  exact M_all_s W R b5 (fun IM' fm R' h0 hw hd => hP IM' ⟨W, R', hd, fun c hc => ⟨(fm _ _ (by omega)).trans (j1 c hc).2.1, (j1 c hc).2.2⟩, (fm _ _ (by omega)).trans j3, (fm _ _ (by omega)).trans j6, j4, j7⟩ (B.led f hl fm hw) h0)
theorem st_tally {ro : Nat} {x1 : Int32} {I : HI} {J : HJ} {T F : HR} {L : HL} {IM : HI} {JM : HJ} (hI : Inv ro (I, J, T, F, L) IM JM) : St_tally x1 I J T F L ro IM JM (Inv ro) := by
  obtain ⟨own, h, a, B⟩ := Inv_el hI
  unfold St_tally H_tally M_tally
  refine two_k B (fun I' lw k D hM => ⟨aq a ^ an a + 1, tally_c D (hM (fun IM' DM B' h0 => ⟨aq a ^ an a + 1, tally_m DM ⟨rfl, Inv_mk B'⟩ _ 0 (by omega)⟩)) _ 0 (by omega)⟩)
theorem right_c {a : AN} {h : Nat → Nat} {lw k : Nat} {I : HI} {w : Nat} (D : TwC a h lw k I) (hw : w < 8) {Q : Int32 → Prop} (hq : Q (nI (cnt (fun r => cts a h r && (rt a r).testBit w) (aq a ^ an a)))) : ∀ d r, r + d = aq a ^ an a → Led_rowsRightFor_l5 I 1 (nI w) Q (d + 1) (nI (cnt (fun r => cts a h r && (rt a r).testBit w) r)) (nI r) := by
  have r5 := D.1.2.2.2.2.1
  intro d
  induction d with
  | zero =>
    intro r hr
    have : r = aq a ^ an a := by omega
    subst this
    rw [Led_rowsRightFor_l5, D.2.1.2.2.1]
    exact it (nI_le (by omega) (by omega)) hq
  | succ d ih =>
    intro r hr
    have ih := ih (r + 1) (by omega)
    rw [cnt_succ] at ih
    rw [Led_rowsRightFor_l5, D.2.1.2.2.1]
    simp only [nI_1]
    have := rt8 D.1 r
    refine ie (nI_ge (by omega) (by omega)) (D.c (by omega) (fun hc => it rfl ?_) (fun hc => ie (by decide) ?_))
    · rw [hc, if_neg (by simp)] at ih; exact ih
    · rw [nx_nI (by omega), D.2.2.1 r (by omega), mk_bit D.1 hw]
      refine ⟨vin (by omega) (by omega), ic (fun h2 => ?_) (fun h2 => ?_)⟩
      · rw [nBit1 (by omega) (by omega)] at h2; rw [if_pos (by simp [hc, h2])] at ih; exact ih
      · rw [nBit1 (by omega) (by omega)] at h2; rw [if_neg (by simp [h2])] at ih; exact ih
theorem right_m {a : AN} {h : Nat → Nat} {lw k : Nat} {IM : HI} {w : Nat} (D : TwM a h lw k IM) (hw : w < 8) {Q : Int32 → HI → Prop} (hq : Q (nI (cnt (fun r => cts a h r && (rt a r).testBit w) (aq a ^ an a))) IM) : ∀ d r, r + d = aq a ^ an a → M_rightOf_l18 IM (nI w) Q (d + 1) (nI (cnt (fun r => cts a h r && (rt a r).testBit w) r)) (nI r) := by
  have r5 := D.1.2.2.2.2.1
  intro d
  induction d with
  | zero =>
    intro r hr
    have : r = aq a ^ an a := by omega
    subst this
    rw [M_rightOf_l18, D.2.1.2.1]
    exact it (nI_le (by omega) (by omega)) hq
  | succ d ih =>
    intro r hr
    have ih := ih (r + 1) (by omega)
    rw [cnt_succ] at ih
    rw [M_rightOf_l18, D.2.1.2.1]
    simp only [nI_1]
    have := rt8 D.1 r
    refine ie (nI_ge (by omega) (by omega)) (D.c (by omega) (fun hc => it rfl ?_) (fun hc => ie (by decide) ?_))
    · rw [hc, if_neg (by simp)] at ih; exact ih
    · rw [nx_nI (by omega), (D.2.2.1 r (by omega)).1]
      refine ⟨vin (by omega) (by omega), ic (fun h2 => ?_) (fun h2 => ?_)⟩
      · rw [nBit1 (by omega) (by omega)] at h2; rw [if_pos (by simp [hc, h2])] at ih; exact ih
      · rw [nBit1 (by omega) (by omega)] at h2; rw [if_neg (by simp [h2])] at ih; exact ih
theorem st_rightOf {ro : Nat} {x1 : Int32} {I : HI} {J : HJ} {T F : HR} {L : HL} {IM : HI} {JM : HJ} (hI : Inv ro (I, J, T, F, L) IM JM) : St_rightOf x1 I J T F L ro IM JM (Inv ro) := by
  obtain ⟨own, h, a, B⟩ := Inv_el hI
  have B0 := B
  obtain ⟨W, R, N, C, b5, b6, b7⟩ := B
  have hro := b7.1.2.2.2.1
  have n8 := W.2.1
  unfold St_rightOf L_rightOf H_rightOf M_rightOf
  rcases wcase x1 (an a) (by omega) with ⟨w, hw, rfl⟩ | hx
  · refine H_need_y N.1 n8 hw (two_k B0 (fun I' lw k D hM => ⟨aq a ^ an a + 1, right_c D (by omega) ⟨hro, ?_⟩ _ 0 (by omega)⟩))
    exact M_isWearer_y R.1.1 n8 hw (ie (by decide) (hM (fun IM' DM B' h0 => ⟨aq a ^ an a + 1, right_m DM (by omega) (fin_ok2 B' h0 rfl) _ 0 (by omega)⟩)))
  · exact H_need_n N.1 hx ⟨hro, M_isWearer_n R.1.1 hx (it rfl (fin_no B0 (Fr01 IM) (up00' _)))⟩
