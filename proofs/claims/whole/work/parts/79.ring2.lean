/-! ring: the reference's fronts -/
def sf (a : AN) (w : Nat) : Nat → Nat × Nat
  | 0 => (0, alk a w)
  | k + 1 => ((sf a w k).1 ||| (sf a w k).2, sbo a (sf a w k).2 (an a) &&& (((sf a w k).1 ||| (sf a w k).2) ^^^ (2 ^ 32 - 1)))
theorem fs_lt {a : AN} (W : WF a) {w : Nat} (hw : w < an a) : ∀ k, (sf a w k).1 < 2 ^ an a ∧ (sf a w k).2 < 2 ^ an a
  | 0 => ⟨Nat.pow_pos (by decide), (W.2.2.2.2.2 w hw).1⟩
  | k + 1 => by
    obtain ⟨h1, h2⟩ := fs_lt W hw k
    rw [sf]
    exact ⟨Nat.or_lt_two_pow h1 h2, Nat.lt_of_le_of_lt Nat.and_le_left (sbo_lt W _ _ (Nat.le_refl _))⟩
theorem cnt_slt {p q : Nat → Bool} : ∀ n, (∀ i, i < n → p i = true → q i = true) → (∃ i, i < n ∧ q i = true ∧ p i = false) → cnt p n < cnt q n
  | 0, _, ⟨i, hi, _⟩ => absurd hi (by omega)
  | n + 1, h, ⟨i, hi, h1, h2⟩ => by
    have le : ∀ m, m ≤ n → cnt p m ≤ cnt q m := by
      intro m
      induction m with
      | zero => intro _; exact Nat.le_refl _
      | succ m ih =>
        intro hm
        have := ih (by omega)
        rw [cnt_succ, cnt_succ]
        by_cases e : p m = true
        · rw [if_pos e, if_pos (h m (by omega) e)]; omega
        · rw [if_neg e]; split <;> omega
    rw [cnt_succ, cnt_succ]
    by_cases e : i = n
    · subst e
      rw [if_neg (by rw [h2]; decide), if_pos h1]
      have := le i (Nat.le_refl _)
      omega
    · have := cnt_slt n (fun j hj => h j (by omega)) ⟨i, by omega, h1, h2⟩
      by_cases e : p n = true
      · rw [if_pos e, if_pos (h n (by omega) e)]; omega
      · rw [if_neg e]; split <;> omega
