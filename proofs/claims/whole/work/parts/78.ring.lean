/-! ring: whom a set of wearers sees -/
def sbo (a : AN) (S : Nat) : Nat → Nat
  | 0 => 0
  | j + 1 => if S.testBit j then sbo a S j ||| alk a j else sbo a S j
theorem sbo_lt {a : AN} (W : WF a) (S : Nat) : ∀ j, j ≤ an a → sbo a S j < 2 ^ an a
  | 0, _ => Nat.pow_pos (by decide)
  | j + 1, h => by
    have ih := sbo_lt W S j (by omega)
    unfold sbo
    split
    · exact Nat.or_lt_two_pow ih (W.2.2.2.2.2 j (by omega)).1
    · exact ih
theorem sbo_bit {a : AN} (S i : Nat) : ∀ j, (sbo a S j).testBit i = true ↔ ∃ k, k < j ∧ S.testBit k = true ∧ (alk a k).testBit i = true
  | 0 => ⟨fun q => by simp [sbo] at q, fun ⟨k, hk, _⟩ => absurd hk (by omega)⟩
  | j + 1 => by
    have ih := sbo_bit (a := a) S i j
    unfold sbo
    by_cases h : S.testBit j = true
    · rw [if_pos h, Nat.testBit_or, Bool.or_eq_true, ih]
      constructor
      · rintro (⟨k, h1, h2⟩ | q)
        · exact ⟨k, by omega, h2⟩
        · exact ⟨j, by omega, h, q⟩
      · rintro ⟨k, h1, h2, h3⟩
        by_cases e : k = j
        · subst e; exact Or.inr h3
        · exact Or.inl ⟨k, by omega, h2, h3⟩
    · rw [if_neg h, ih]
      constructor
      · rintro ⟨k, h1, h2⟩
        exact ⟨k, by omega, h2⟩
      · rintro ⟨k, h1, h2, h3⟩
        have : k ≠ j := fun e => h (by rw [← e]; exact h2)
        exact ⟨k, by omega, h2, h3⟩
theorem Net_seen_k {I : HI} {r : Nat} {a : AN} {S : Nat} (W : WF a) (N : CN I r a) (hS : S < 2 ^ 31) {Q : Int32 → Prop} (hq : Q (nI (sbo a S (an a)))) : Net_seenByAnyOf I r (nI S) Q := by
  have n8 := W.2.1
  have key : ∀ d j, j + d = an a → Net_seenByAnyOf_l4 I r (nI S) Q (d + 1) (nI (sbo a S j)) (nI j) := by
    intro d
    induction d with
    | zero =>
      intro j hj
      have : j = an a := by omega
      subst this
      rw [Net_seenByAnyOf_l4, N.1]
      exact it (nI_le (Nat.le_refl _) (by omega)) hq
    | succ d ih =>
      intro j hj
      have ih := ih (j + 1) (by omega)
      rw [sbo] at ih
      rw [Net_seenByAnyOf_l4, N.1, nx_nI (by omega), N.2.2.2.1 j (by omega), nOr]
      simp only [nI_1]
      refine ie (nI_ge (by omega) (by omega)) (ic (fun hb => ?_) (fun hb => ?_))
      · rw [nBit1 hS (by omega)] at hb; rw [if_pos hb] at ih; exact ⟨vin (by omega) (by omega), ih⟩
      · rw [nBit1 hS (by omega)] at hb; rw [if_neg hb] at ih; exact ih
  exact ⟨an a + 1, key (an a) 0 (by omega)⟩
theorem ring_70 {IM : HI} {a : AN} {S seen : Nat} (W : WF a) (R : RepM IM a) (hS : S < 2 ^ 31) {x1 x2 x5 : Int32} {K9 : Int32 → Int32 → Prop} {K30 : Int32 → Int32 → Int32 → Int32 → Prop} {Q : Int32 → HI → Prop} (hK : K30 x1 (nI seen) (nI (sbo a S (an a) &&& (seen ^^^ (2 ^ 32 - 1)))) (x5 + 1)) : ∃ nn, M_ring_l70 IM x1 x2 (nI seen) (nI S) x5 K9 K30 Q nn 0 0 := by
  have n8 := W.2.1
  have key : ∀ d j, j + d = an a → M_ring_l70 IM x1 x2 (nI seen) (nI S) x5 K9 K30 Q (d + 1) (nI (sbo a S j)) (nI j) := by
    intro d
    induction d with
    | zero =>
      intro j hj
      have : j = an a := by omega
      subst this
      rw [M_ring_l70, R.1.1, nAndn]
      exact it (nI_le (Nat.le_refl _) (by omega)) hK
    | succ d ih =>
      intro j hj
      have ih := ih (j + 1) (by omega)
      rw [sbo] at ih
      rw [M_ring_l70, R.1.1, nx_nI (by omega), R.1.2.2.1 j (by omega), nOr]
      simp only [nI_1]
      refine ie (nI_ge (by omega) (by omega)) (ic (fun hb => ?_) (fun hb => ?_))
      · rw [nBit1 hS (by omega)] at hb; rw [if_pos hb] at ih; exact ⟨vin (by omega) (by omega), ih⟩
      · rw [nBit1 hS (by omega)] at hb; rw [if_neg hb] at ih; exact ih
  exact ⟨an a + 1, key (an a) 0 (by omega)⟩
/-- whom w's walks of k looks reach -/
def wk (a : AN) (w : Nat) : Nat → Nat
  | 0 => 2 ^ w
  | k + 1 => sbo a (wk a w k) (an a)
theorem wk_lt {a : AN} (W : WF a) {w : Nat} (hw : w < an a) : ∀ k, wk a w k < 2 ^ an a
  | 0 => Nat.pow_lt_pow_right (by decide) hw
  | _ + 1 => sbo_lt W _ _ (Nat.le_refl _)
def rst (o : Option Nat) (k : Nat) : Option Nat := match o with
  | none => some k
  | some b => if b ≤ k then some b else some k
def rcl (a : AN) (w : Nat) : Nat → Nat → Option Nat → Option Nat
  | 0, _, o => o
  | d + 1, k, o => rcl a w d (k + 1) (if (wk a w k).testBit w then rst o k else o)
theorem ring_c1 {I : HI} {a : AN} {w : Nat} (W : WF a) (N : CN I 1 a) (hw : w < an a) {K : Int32 → Int32 → Prop} {Q : Int32 → Prop} : ∀ d k o, k + d = an a + 1 → 1 ≤ k → (∀ b, o = some b → b ≤ 8) → K (enc (rcl a w d k o)) (nI (w + 1)) → Net_shortestRing_l19 I 1 (nI w) K Q (d + 1) (enc o) (nI (wk a w (k - 1))) (nI k) := by
  have n8 := W.2.1
  have h256 := p2le n8
  intro d
  induction d with
  | zero =>
    intro k o hd hk ho hK
    rw [Net_shortestRing_l19, N.1]
    simp only [nI_1]
    exact it (nI_lt (by omega) (by omega)) hK
  | succ d ih =>
    intro k o hd hk ho hK
    rw [rcl] at hK
    have hl := wk_lt W hw (k - 1)
    have hl2 := wk_lt W hw k
    rw [Net_shortestRing_l19, N.1]
    simp only [nI_1]
    refine ie (nI_nlt (by omega) (by omega)) (Net_seen_k W N (by omega) ?_)
    have ek : sbo a (wk a w (k - 1)) (an a) = wk a w k := by
      have : k = k - 1 + 1 := by omega
      rw [this]; rfl
    have ih := fun o => ih (k + 1) o (by omega) (by omega)
    rw [Nat.add_sub_cancel] at ih
    rw [ek]
    refine ic (fun hb => ?_) (fun hb => ?_)
    · rw [nBit1 (by omega) (by omega)] at hb
      rw [if_pos hb] at hK
      cases o with
      | none => exact it rfl (ih (some k) (fun b q => by cases q; omega) hK)
      | some b =>
        have hb8 := ho b rfl
        refine ie (nI_nm1 (n := b) (by omega)) ?_
        unfold rst at hK
        dsimp only at hK
        by_cases hc : b ≤ k
        · rw [if_pos hc] at hK; exact it (nI_le (a := b) hc (by omega)) (ih (some b) ho hK)
        · rw [if_neg hc] at hK; exact ie (nI_ge (b := b) (by omega) (by omega)) (ih (some k) (fun b q => by cases q; omega) hK)
    · rw [nBit1 (by omega) (by omega)] at hb
      rw [if_neg hb] at hK
      exact ih o ho hK
theorem rcl_le {a : AN} {w : Nat} : ∀ d k o, k + d ≤ 9 → (∀ b, o = some b → b ≤ 8) → ∀ b, rcl a w d k o = some b → b ≤ 8
  | 0, _, _, _, ho => ho
  | d + 1, k, o, h, ho => by
    rw [rcl]
    refine rcl_le d (k + 1) _ (by omega) (fun b q => ?_)
    split at q
    · cases o with
      | none => cases q; omega
      | some x =>
        unfold rst at q
        dsimp only at q
        split at q
        · exact ho b q
        · cases q; omega
    · exact ho b q
def rcx (a : AN) : Nat → Nat → Option Nat → Option Nat
  | 0, _, o => o
  | d + 1, w, o => rcx a d (w + 1) (rcl a w (an a) 1 o)
theorem ring_c {I : HI} {a : AN} (W : WF a) (N : CN I 1 a) {Q : Int32 → Prop} (hq : Q (enc (rcx a (an a) 0 none))) : Net_shortestRing I 1 Q := by
  have n8 := W.2.1
  have key : ∀ d w o, w + d = an a → (∀ b, o = some b → b ≤ 8) → Q (enc (rcx a d w o)) → Net_shortestRing_l4 I 1 Q (d + 1) (enc o) (nI w) := by
    intro d
    induction d with
    | zero =>
      intro w o hd ho hK
      rw [Net_shortestRing_l4, N.1]
      exact it (nI_le (by omega) (by omega)) hK
    | succ d ih =>
      intro w o hd ho hK
      rw [rcx] at hK
      rw [Net_shortestRing_l4, N.1, nShl1 w (by omega)]
      refine ie (nI_ge (by omega) (by omega)) ⟨an a + 1, ring_c1 W N (by omega) (an a) 1 o (by omega) (by omega) ho (ih (w + 1) _ (by omega) (rcl_le _ _ _ (by omega) ho) hK)⟩
  exact ⟨an a + 1, key (an a) 0 none (by omega) (fun b q => by cases q) hq⟩
