/-! beaten, tally, rightOf, worst -/
/-- what both sides hold after the rows are worked -/
def Two (a : AN) (h : Nat → Nat) (I IM : HI) : Prop := WF a ∧ CN I 1 a ∧ Bok a h I ∧ RepM IM a ∧ (∀ r, r < aq a ^ an a → done IM a r) ∧ (∀ c, c < 4 → IM 1 c = nI (h c) ∧ h c ≤ 9)
theorem Two.c {a : AN} {h : Nat → Nat} {I IM : HI} (D : Two a h I IM) {r : Nat} (hr : r < aq a ^ an a) {Q : Int32 → Prop} (q0 : cts a h r = false → Q 0) (q1 : cts a h r = true → Q 1) : Led_counts I (nI r) Q := Led_counts_k D.1 D.2.2.1 hr (by cases e : cts a h r; exact q0 e; exact q1 e)
theorem Two.m {a : AN} {h : Nat → Nat} {I IM : HI} (D : Two a h I IM) {r : Nat} (hr : r < aq a ^ an a) {Q : Int32 → Prop} (q0 : cts a h r = false → Q 0) (q1 : cts a h r = true → Q 1) : M_counts IM (nI r) Q := M_counts_k D.1 D.2.2.2.1.1.1 D.2.2.2.1.1.2.1 D.2.2.2.2.2 (by have := D.1.2.2.2.2.1; omega) (by cases e : cts a h r; exact q0 e; exact q1 e)
/-- how many of the rows below r -/
def cnr (p : Nat → Bool) (r : Nat) : Nat := cnt p r
theorem cnt_le' (p : Nat → Bool) : ∀ n, cnt p n ≤ n
  | 0 => Nat.le_refl 0
  | n + 1 => by
    have := cnt_le' p n
    rw [cnt_succ]
    split <;> omega
theorem tally_c {a : AN} {h : Nat → Nat} {I IM : HI} {x : Int32} (D : Two a h I IM) {Q : Int32 → Prop} (hq : Q (nI (cnt (fun r => cts a h r && decide (nI (pop (rt a r)) = x)) (aq a ^ an a)))) : ∀ d r, r + d = aq a ^ an a → Led_rowsWithRight_l5 I 1 x Q (d + 1) (nI (cnt (fun r => cts a h r && decide (nI (pop (rt a r)) = x)) r)) (nI r) := by
  have r5 := D.1.2.2.2.2.1
  intro d
  induction d with
  | zero =>
    intro r hr
    have : r = aq a ^ an a := by omega
    subst this
    rw [Led_rowsWithRight_l5, D.2.1.2.2.1]
    exact it (nI_le (by omega) (by omega)) hq
  | succ d ih =>
    intro r hr
    have ih := ih (r + 1) (by omega)
    rw [cnt_succ] at ih
    rw [Led_rowsWithRight_l5, D.2.1.2.2.1]
    simp only [nI_1]
    refine ie (nI_ge (by omega) (by omega)) (D.c (by omega) (fun hc => it rfl ?_) (fun hc => ie (by decide) ?_))
    · rw [hc, if_neg (by simp)] at ih; exact ih
    · rw [nx_nI (by omega), D.2.2.1 r (by omega), mk_rt D.1]
      refine ⟨vin (by omega) (by omega), Jd_bit_k (rt8 D.1 r) (ic (fun h2 => ?_) (fun h2 => ?_))⟩
      · rw [if_pos (by simp [hc, h2])] at ih; exact ih
      · rw [if_neg (by simp [h2])] at ih; exact ih
theorem tally_m {a : AN} {h : Nat → Nat} {I IM : HI} {x : Int32} (D : Two a h I IM) {Q : Int32 → HI → Prop} (hq : Q (nI (cnt (fun r => cts a h r && decide (nI (pop (rt a r)) = x)) (aq a ^ an a))) IM) : ∀ d r, r + d = aq a ^ an a → M_tally_l13 IM x Q (d + 1) (nI (cnt (fun r => cts a h r && decide (nI (pop (rt a r)) = x)) r)) (nI r) := by
  have r5 := D.1.2.2.2.2.1
  intro d
  induction d with
  | zero =>
    intro r hr
    have : r = aq a ^ an a := by omega
    subst this
    rw [M_tally_l13, D.2.2.2.1.2.1]
    exact it (nI_le (by omega) (by omega)) hq
  | succ d ih =>
    intro r hr
    have ih := ih (r + 1) (by omega)
    rw [cnt_succ] at ih
    rw [M_tally_l13, D.2.2.2.1.2.1]
    simp only [nI_1]
    refine ie (nI_ge (by omega) (by omega)) (D.m (by omega) (fun hc => it rfl ?_) (fun hc => ie (by decide) ?_))
    · rw [hc, if_neg (by simp)] at ih; exact ih
    · rw [nx_nI (by omega), (D.2.2.2.2.1 r (by omega)).1]
      refine ⟨vin (by omega) (by omega), M_bits_k (rt8 D.1 r) (ic (fun h2 => ?_) (fun h2 => ?_))⟩
      · rw [if_pos (by simp [hc, h2])] at ih; exact ih
      · rw [if_neg (by simp [h2])] at ih; exact ih
/-- both sides worked -/
theorem two_k {own h : Nat → Nat} {a : AN} {ro : Nat} {I : HI} {T F : HR} {L : HL} {IM : HI} (B : InvB own h a ro I T F L IM) {Q : HI → HI → Prop} (hQ : ∀ I' IM', Two a h I' IM' → InvB own h a ro I' T F L IM' → IM' 0 0 = 0 → Q I' IM') : Led_fill I T F L 1 20 (fun I' => M_worksAll (up2 IM 0 0 0) (fun IM' => Q I' IM')) := by
  obtain ⟨W, R, N, C, b5, b6, b7⟩ := id B
  exact Led_fill_k B (fun I' f N' hl hb => M_all_s W R b5 (fun IM' fm R' h0 hw hd => hQ I' IM' ⟨W, N', hb, R', hd, fun c hc => ⟨(fm _ _ (by omega)).trans (b7.2.2.2.1.1 c hc).2.1, (b7.2.2.2.1.1 c hc).2.2⟩⟩ (B.led f hl fm hw) h0))
