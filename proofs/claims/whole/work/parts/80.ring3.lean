/-! ring: the reference's fronts against the class's walks -/
theorem wk_bit {a : AN} {w i k : Nat} : (wk a w (k + 1)).testBit i = true ↔ ∃ j, j < an a ∧ (wk a w k).testBit j = true ∧ (alk a j).testBit i = true := by
  rw [wk]; exact sbo_bit _ _ _
theorem wk1 {a : AN} {w i : Nat} (hw : w < an a) : (wk a w 1).testBit i = true ↔ (alk a w).testBit i = true := by
  rw [wk_bit]
  constructor
  · rintro ⟨j, h1, h2, h3⟩
    rw [wk, Nat.testBit_two_pow] at h2
    have : w = j := of_decide_eq_true h2
    rw [this]; exact h3
  · intro h
    exact ⟨w, hw, by rw [wk, Nat.testBit_two_pow]; simp, h⟩
theorem sf_bit {a : AN} (W : WF a) {w : Nat} (hw : w < an a) : ∀ k i, ((sf a w k).2.testBit i = true ↔ (wk a w (k + 1)).testBit i = true ∧ ∀ j, j < k → (wk a w (j + 1)).testBit i = false) ∧ ((sf a w k).1.testBit i = true ↔ ∃ j, j < k ∧ (wk a w (j + 1)).testBit i = true)
  | 0, i => ⟨by rw [sf]; dsimp only; rw [wk1 hw]; exact ⟨fun h => ⟨h, fun j hj => by omega⟩, fun h => h.1⟩, by rw [sf]; simp⟩
  | k + 1, i => by
    have ih := sf_bit W hw k
    have n8 := W.2.1
    have hS : (sf a w (k + 1)).1.testBit i = true ↔ ∃ j, j < k + 1 ∧ (wk a w (j + 1)).testBit i = true := by
      rw [sf]; dsimp only
      rw [Nat.testBit_or, Bool.or_eq_true, (ih i).1, (ih i).2]
      constructor
      · rintro (⟨j, h1, h2⟩ | ⟨h1, h2⟩)
        · exact ⟨j, by omega, h2⟩
        · exact ⟨k, by omega, h1⟩
      · rintro ⟨j, h1, h2⟩
        by_cases hx : ∃ j, j < k ∧ (wk a w (j + 1)).testBit i = true
        · exact Or.inl hx
        · have e : j = k := by
            by_cases e : j = k
            · exact e
            · exact absurd ⟨j, by omega, h2⟩ hx
          subst e
          refine Or.inr ⟨h2, fun j' hj' => ?_⟩
          cases e : (wk a w (j' + 1)).testBit i with
          | false => rfl
          | true => exact absurd ⟨j', hj', e⟩ hx
    refine ⟨?_, hS⟩
    have e : (sf a w (k + 1)).2 = sbo a (sf a w k).2 (an a) &&& ((sf a w (k + 1)).1 ^^^ (2 ^ 32 - 1)) := rfl
    rw [e, Nat.testBit_and, Bool.and_eq_true, Nat.testBit_xor, Nat.testBit_two_pow_sub_one, sbo_bit]
    constructor
    · rintro ⟨⟨j, hj, h1, h2⟩, hx⟩
      have hi := alk_in W hj h2
      have hs : ¬ (sf a w (k + 1)).1.testBit i = true := fun q => by rw [q] at hx; simp at hx; omega
      refine ⟨wk_bit.mpr ⟨j, hj, ((ih j).1.mp h1).1, h2⟩, fun j' hj' => ?_⟩
      cases e : (wk a w (j' + 1)).testBit i with
      | false => rfl
      | true => exact absurd (hS.mpr ⟨j', hj', e⟩) hs
    · rintro ⟨h1, hno⟩
      obtain ⟨j, hj, h2, h3⟩ := wk_bit.mp h1
      have hi := alk_in W hj h3
      refine ⟨⟨j, hj, (ih j).1.mpr ⟨h2, fun j' hj' => ?_⟩, h3⟩, ?_⟩
      · cases e : (wk a w (j' + 1)).testBit j with
        | false => rfl
        | true =>
          have := wk_bit.mpr ⟨j, hj, e, h3⟩
          rw [hno (j' + 1) (by omega)] at this
          cases this
      · have hs : (sf a w (k + 1)).1.testBit i = false := by
          cases e : (sf a w (k + 1)).1.testBit i with
          | false => rfl
          | true =>
            obtain ⟨j', hj', h4⟩ := hS.mp e
            rw [hno j' hj'] at h4; cases h4
        rw [hs]; simp; omega
theorem sbo_0 {a : AN} : ∀ j, sbo a 0 j = 0
  | 0 => rfl
  | j + 1 => by rw [sbo, if_neg (by simp), sbo_0 j]
theorem sf_0 {a : AN} {w k : Nat} (h : (sf a w k).2 = 0) : ∀ m, (sf a w (k + m)).2 = 0
  | 0 => h
  | m + 1 => by
    have ih := sf_0 h m
    rw [← Nat.add_assoc, sf]; dsimp only
    rw [ih, sbo_0, Nat.zero_and]
theorem wk_no {a : AN} (W : WF a) {w k : Nat} (hw : w < an a) (h : (sf a w k).2 = 0) (hb : ∀ j, j < k → (wk a w (j + 1)).testBit w = false) : ∀ m, (wk a w (m + 1)).testBit w = false := by
  intro m
  induction m using Nat.strongRecOn with
  | _ m ih =>
    by_cases hm : m < k
    · exact hb m hm
    · cases e : (wk a w (m + 1)).testBit w with
      | false => rfl
      | true =>
        have := ((sf_bit W hw m w).1).mpr ⟨e, fun j hj => ih j hj⟩
        have e2 := sf_0 h (m - k)
        rw [show k + (m - k) = m by omega] at e2
        rw [e2] at this
        simp at this
theorem sf_cnt {a : AN} (W : WF a) {w : Nat} (hw : w < an a) : ∀ k, (∀ j, j < k → (sf a w j).2 ≠ 0) → k ≤ cnt (fun i => (sf a w k).1.testBit i) (an a)
  | 0, _ => Nat.zero_le _
  | k + 1, h => by
    have ih := sf_cnt W hw k (fun j hj => h j (by omega))
    obtain ⟨i, hi⟩ := Nat.exists_testBit_of_ne_zero (h k (by omega))
    have lt := fs_lt W hw k
    have hin : i < an a := by
      by_cases q : i < an a
      · exact q
      · rw [tb_out lt.2 (by omega)] at hi; cases hi
    have := cnt_slt (p := fun i => (sf a w k).1.testBit i) (q := fun i => (sf a w (k + 1)).1.testBit i) (an a) (fun j _ hj => by
      show ((sf a w k).1 ||| (sf a w k).2).testBit j = true
      rw [Nat.testBit_or, hj]; rfl) ⟨i, hin, by show ((sf a w k).1 ||| (sf a w k).2).testBit i = true; rw [Nat.testBit_or, hi, Bool.or_true], by
        cases e : (sf a w k).1.testBit i with
        | false => rfl
        | true =>
          obtain ⟨j, hj, h4⟩ := (sf_bit W hw k i).2.mp e
          rw [((sf_bit W hw k i).1.mp hi).2 j hj] at h4; cases h4⟩
    omega
theorem rcl_some {a : AN} {w b : Nat} : ∀ d k, b ≤ k → rcl a w d k (some b) = some b
  | 0, _, _ => rfl
  | d + 1, k, h => by
    rw [rcl]
    have e : (if (wk a w k).testBit w then rst (some b) k else some b) = some b := by
      split
      · unfold rst; dsimp only; rw [if_pos h]
      · rfl
    rw [e]; exact rcl_some d (k + 1) (by omega)
theorem rcl_no {a : AN} {w : Nat} {o : Option Nat} : ∀ d k, (∀ j, k ≤ j → (wk a w j).testBit w = false) → rcl a w d k o = o
  | 0, _, _ => rfl
  | d + 1, k, h => by rw [rcl, if_neg (by rw [h k (Nat.le_refl _)]; decide)]; exact rcl_no d (k + 1) (fun j hj => h j (by omega))
theorem ring_30 {IM : HI} {a : AN} {w : Nat} (W : WF a) (R : RepM IM a) (hw : w < an a) {K : Int32 → Int32 → Prop} {Q : Int32 → HI → Prop} : ∀ e k o, k + e = an a + 1 → (∀ j, j < k → (sf a w j).2 ≠ 0) → (∀ j, j < k → (wk a w (j + 1)).testBit w = false) → (∀ b, o = some b → b ≤ 8) → K (enc (rcl a w (an a - k) (k + 1) o)) (nI (w + 1)) → M_ring_l30 IM (nI w) K Q (e + 1) (enc o) (nI (sf a w k).1) (nI (sf a w k).2) (nI (k + 1)) := by
  have n8 := W.2.1
  have h256 := p2le n8
  intro e
  induction e with
  | zero =>
    intro k o hk hf hb ho hK
    have := sf_cnt W hw k hf
    have := cnt_le (fun i => (sf a w k).1.testBit i) (an a)
    omega
  | succ e ih =>
    intro k o hk hf hb ho hK
    obtain ⟨l1, l2⟩ := fs_lt W hw k
    rw [M_ring_l30]
    rw [nI_1 w]
    by_cases h0 : (sf a w k).2 = 0
    · have hn := wk_no W hw h0 hb
      rw [rcl_no _ _ (fun j hj => by have := hn (j - 1); rw [show j - 1 + 1 = j by omega] at this; exact this)] at hK
      rw [h0]
      exact it rfl hK
    · refine ie (nI_ne0 (by omega) (by omega)) ?_
      have hf2 : ∀ j, j < k + 1 → (sf a w j).2 ≠ 0 := fun j hj => by
        by_cases q : j = k
        · rw [q]; exact h0
        · exact hf j (by omega)
      have hk2 : k < an a := by
        have h1 := sf_cnt W hw (k + 1) hf2
        have h2 := cnt_le (fun i => (sf a w (k + 1)).1.testBit i) (an a)
        omega
      have step : (∀ b, o = some b → k + 1 < b) → M_ring_b46 IM (enc o) (nI w) (nI (sf a w k).1) (nI (sf a w k).2) (nI (k + 1)) K (fun x1' x3' x4' x5' => M_ring_l30 IM (nI w) K Q (e + 1) x1' x3' x4' x5') Q := by
        intro hlt
        unfold M_ring_b46
        rw [show an a - k = (an a - (k + 1)) + 1 by omega, rcl] at hK
        refine ic (fun hc => ?_) (fun hc => ?_)
        · rw [nBit1 (by omega) (by omega)] at hc
          have hwk := ((sf_bit W hw k w).1.mp hc).1
          rw [if_pos hwk] at hK
          have er : rst o (k + 1) = some (k + 1) := by
            cases o with
            | none => rfl
            | some b => unfold rst; dsimp only; rw [if_neg (by have := hlt b rfl; omega)]
          rw [er, rcl_some _ _ (by omega)] at hK
          unfold M_ring_b59
          rw [nOr]
          refine ring_70 W R (by omega) ?_
          rw [M_ring_l30, nI_1, nI_1]
          exact ic (fun _ => hK) (fun _ => ie (nI_nm1 (by omega)) (it (nI_le (by omega) (by omega)) hK))
        · rw [nBit1 (by omega) (by omega)] at hc
          have hwk : (wk a w (k + 1)).testBit w = false := by
            cases e : (wk a w (k + 1)).testBit w with
            | false => rfl
            | true => exact absurd ((sf_bit W hw k w).1.mpr ⟨e, hb⟩) hc
          rw [if_neg (by rw [hwk]; decide)] at hK
          unfold M_ring_b59
          rw [nOr]
          refine ring_70 W R (by omega) ?_
          rw [nI_1]
          refine ih (k + 1) o (by omega) hf2 (fun j hj => ?_) ho hK
          by_cases q : j = k
          · rw [q]; exact hwk
          · exact hb j (by omega)
      cases o with
      | none => exact it rfl (step (fun b q => by cases q))
      | some b =>
        have hb8 := ho b rfl
        refine ie (nI_nm1 (n := b) (by omega)) (ic (fun hc => ?_) (fun hc => ?_))
        · have hc : nI b ≤ nI (k + 1) := hc
          rw [nI_leI (by omega) (by omega)] at hc
          rw [rcl_some _ _ hc] at hK
          exact hK
        · have hc : ¬ nI b ≤ nI (k + 1) := hc
          rw [nI_leI (by omega) (by omega)] at hc
          exact step (fun b' q => by cases q; omega)
theorem M_ring_k {IM : HI} {a : AN} (W : WF a) (R : RepM (up2 IM 0 0 0) a) {Q : Int32 → HI → Prop} (hq : Q (enc (rcx a (an a) 0 none)) (up2 IM 0 0 0)) : M_ring IM Q := by
  have n8 := W.2.1
  have key : ∀ d w o, w + d = an a → (∀ b, o = some b → b ≤ 8) → Q (enc (rcx a d w o)) (up2 IM 0 0 0) → M_ring_l9 (up2 IM 0 0 0) Q (d + 1) (enc o) (nI w) := by
    intro d
    induction d with
    | zero =>
      intro w o hd ho hK
      rw [M_ring_l9, R.1.1]
      exact it (nI_le (by omega) (by omega)) hK
    | succ d ih =>
      intro w o hd ho hK
      rw [rcx] at hK
      rw [M_ring_l9, R.1.1, nx_nI (by omega), R.1.2.2.1 w (by omega)]
      refine ie (nI_ge (by omega) (by omega)) ⟨vin (by omega) (by omega), an a + 1 + 1, ?_⟩
      exact ring_30 W R (by omega) (an a + 1) 0 o (by omega) (fun j hj => by omega) (fun j hj => by omega) ho (ih (w + 1) _ (by omega) (rcl_le _ _ _ (by omega) ho) hK)
  exact ⟨an a + 1, key (an a) 0 none (by omega) (fun b q => by cases q) hq⟩
theorem st_ring {ro : Nat} {I : HI} {J : HJ} {T F : HR} {L : HL} {IM : HI} {JM : HJ} (hI : Inv ro (I, J, T, F, L) IM JM) : St_ring I J T F L ro IM JM (Inv ro) := by
  obtain ⟨own, h, a, B⟩ := Inv_el hI
  have B0 := B
  obtain ⟨W, R, N, C, b5, b6, b7⟩ := B
  unfold St_ring H_ring
  exact ring_c W N (M_ring_k W (R.eq (fun b i hb => Fr0 IM 0 _ _ (by omega))) ⟨rfl, Inv_mk (B0.thr (Fr0 IM 0))⟩)
