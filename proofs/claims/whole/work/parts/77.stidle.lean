/-! idle, both sides -/
def idm (a : AN) (r w m : Nat) : Nat := m &&& (msk (fun k => m.testBit k && chu a r w k (aq a)) (an a) ^^^ (2 ^ 32 - 1))
def idl (a : AN) (w : Nat) : Nat → Nat → Nat → Nat
  | 0, m, _ => m
  | d + 1, m, r => if m = 0 then m else idl a w d (idm a r w m) (r + 1)
theorem idm_lt {a : AN} {r w m : Nat} (h : m < 2 ^ 8) : idm a r w m < 2 ^ 8 := Nat.lt_of_le_of_lt Nat.and_le_left h
theorem idle_c {I : HI} {T F : HR} {L : HL} {own : Nat → Nat} {a : AN} {w : Nat} (W : WF a) (N : CN I 1 a) (C : CT I T F L own 1 a) (o56 : ∀ b, b < 56 → own b = 0) (hw : w < an a) {Q : Int32 → HI → Prop} {X : HI → Prop} : ∀ d m r J, r + d = aq a ^ an a → m < 2 ^ 8 → Fr (fun b _ => b = 21 ∨ b = 22 ∨ b = 25 ∨ own b = 3) I J → (∀ J', Fr (fun b _ => b = 21 ∨ b = 22 ∨ b = 25 ∨ own b = 3) I J' → Q (nI (idl a w d m r)) J') → H_idle_l17 T F L (nI w) Q X (d + 1) J (nI m) (nI r) := by
  have n8 := W.2.1
  have r5 := W.2.2.2.2.1
  have nJ : ∀ {J}, Fr (fun b _ => b = 21 ∨ b = 22 ∨ b = 25 ∨ own b = 3) I J → CN J 1 a := fun f => N.eq (fun j i hji => f _ _ (by have := o56 (1 + j) (by omega); omega))
  have cJ : ∀ {J}, Fr (fun b _ => b = 21 ∨ b = 22 ∨ b = 25 ∨ own b = 3) I J → CT J T F L own 1 a := fun f => C.fr (fun b i hb => f _ _ (fun q => by rcases q with q | q | q | q; (rw [q, o56 21 (by omega)] at hb; omega); (rw [q, o56 22 (by omega)] at hb; omega); (rw [q, o56 25 (by omega)] at hb; omega); omega)) (fun _ _ => rfl) n8 Ext.rf
  intro d
  induction d with
  | zero =>
    intro m r J hd hm f hQ
    rw [H_idle_l17, (nJ f).2.2.1]
    exact it (nI_le (by omega) (by omega)) (hQ J f)
  | succ d ih =>
    intro m r J hd hm f hQ
    rw [H_idle_l17, (nJ f).2.2.1]
    simp only [nI_1]
    refine ie (nI_ge (by omega) (by omega)) (ic (fun h0 => ?_) (fun h0 => ?_))
    · rw [nlit0, nI_eq (by omega) (by omega)] at h0
      have g := hQ J f
      rw [idl, if_pos h0] at g
      exact g
    · rw [nlit0, nI_eq (by omega) (by omega)] at h0
      refine Sc_play_k W (nJ f) (cJ f) (o56 21 (by omega)) (o56 22 (by omega)) (fun j hj => ⟨by omega, by omega⟩) (by omega) (fun I1 f1 hh hg => ?_)
      have f1' : Fr (fun b _ => b = 21 ∨ b = 22 ∨ b = 25 ∨ own b = 3) I I1 := f.tr (f1.mono (fun b i hb => by omega))
      refine Sc_matter_k W (nJ f1') (cJ f1') o56 hh hg hw (by omega) (fun I2 f2 => ?_)
      rw [nAndn]
      refine ih (idm a r w m) (r + 1) I2 (by omega) (idm_lt hm) (f1'.tr (f2.mono (fun b i hb => by omega))) (fun J' f' => ?_)
      have g := hQ J' f'
      rw [idl, if_neg h0] at g
      exact g
/-- the reference clears bit by bit -/
def mj (a : AN) (r w m : Nat) : Nat → Nat
  | 0 => m
  | k + 1 => if (mj a r w m k).testBit k && chu a r w k (aq a) then mj a r w m k &&& (2 ^ k ^^^ (2 ^ 32 - 1)) else mj a r w m k
theorem mj_lt {a : AN} {r w m : Nat} (h : m < 2 ^ 8) : ∀ k, mj a r w m k < 2 ^ 8
  | 0 => h
  | k + 1 => by
    have := mj_lt (a := a) (r := r) (w := w) h k
    unfold mj
    split
    · exact Nat.lt_of_le_of_lt Nat.and_le_left this
    · exact this
theorem mj_bit {a : AN} {r w m : Nat} (h : m < 2 ^ 8) (i : Nat) : ∀ k, (mj a r w m k).testBit i = (m.testBit i && !(decide (i < k) && chu a r w i (aq a)))
  | 0 => by simp [mj]
  | k + 1 => by
    have ih := mj_bit (a := a) (r := r) (w := w) h i k
    have ik := mj_bit (a := a) (r := r) (w := w) h k k
    have hl := mj_lt (a := a) (r := r) (w := w) h k
    unfold mj
    by_cases e : i = k
    · subst e
      simp only [Nat.lt_irrefl, decide_false, Bool.false_and, Bool.not_false, Bool.and_true] at ih
      rw [ih]
      cases hb : m.testBit i <;> cases hc : chu a r w i (aq a)
      · simp [ih, hb]
      · simp [ih, hb]
      · simp [ih, hb]
      · simp only [Bool.and_self, if_true, andn_bit hl, ih, hb, Nat.testBit_two_pow_self]
        simp
    · have e2 : decide (i < k + 1) = decide (i < k) := by
        apply decide_eq_decide.mpr; omega
      rw [e2, ← ih]
      split
      · rw [andn_bit hl, Nat.testBit_two_pow]
        simp [show ¬ k = i by omega]
      · rfl
theorem mj_idm {a : AN} {r w m : Nat} (h : m < 2 ^ an a) (h8 : an a ≤ 8) : mj a r w m (an a) = idm a r w m := by
  have hm : m < 2 ^ 8 := Nat.lt_of_lt_of_le h (Nat.pow_le_pow_right (by decide) h8)
  apply Nat.eq_of_testBit_eq
  intro i
  unfold idm
  rw [mj_bit hm, andn_bit hm, msk_bit]
  by_cases hi : i < an a
  · rw [decide_eq_true hi]; cases m.testBit i <;> cases chu a r w i (aq a) <;> rfl
  · rw [Nat.testBit_lt_two_pow (Nat.lt_of_lt_of_le h (Nat.pow_le_pow_right (by decide) (by omega)))]; rfl
