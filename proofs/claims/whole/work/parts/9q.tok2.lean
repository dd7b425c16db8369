/-! rules: the class goes on to the next token -/
def isB (c : Nat) : Bool := c == 32 || c == 10
def isLt (c : Nat) : Bool := decide (97 ≤ c) && decide (c ≤ 122)
def isDg (c : Nat) : Bool := decide (48 ≤ c) && decide (c ≤ 57)
def isSg (c : Nat) : Bool := (decide (40 ≤ c) && decide (c ≤ 43)) || c == 45 || c == 47 || (decide (59 ≤ c) && decide (c ≤ 61))
def spn (f : Nat → Bool) (t : Nat → Nat) : Nat → Nat → Nat
  | 0, p => p
  | d + 1, p => if f (t p) then spn f t d (p + 1) else p
theorem spn_ge (f : Nat → Bool) (t : Nat → Nat) : ∀ d p, p ≤ spn f t d p
  | 0, p => Nat.le_refl p
  | d + 1, p => by
    simp only [spn]
    split
    · have := spn_ge f t d (p + 1); omega
    · exact Nat.le_refl p
theorem spn_le (f : Nat → Bool) (t : Nat → Nat) : ∀ d p, spn f t d p ≤ p + d
  | 0, p => Nat.le_refl p
  | d + 1, p => by
    simp only [spn]
    split
    · have := spn_le f t d (p + 1); omega
    · omega
theorem spn_in (f : Nat → Bool) (t : Nat → Nat) : ∀ d p k, p ≤ k → k < spn f t d p → f (t k) = true
  | 0, p, k, h1, h2 => by simp only [spn] at h2; omega
  | d + 1, p, k, h1, h2 => by
    simp only [spn] at h2
    split at h2
    · rename_i h
      rcases Nat.eq_or_lt_of_le h1 with h3 | h3
      · rw [← h3]; exact h
      · exact spn_in f t d (p + 1) k h3 h2
    · omega
theorem spn_out (f : Nat → Bool) (t : Nat → Nat) : ∀ d p, spn f t d p < p + d → f (t (spn f t d p)) = false
  | 0, p, h => by simp only [spn] at h; omega
  | d + 1, p, h => by
    simp only [spn] at h ⊢
    split
    · rename_i h3
      rw [if_pos h3] at h
      exact spn_out f t d (p + 1) (by omega)
    · rename_i h3
      exact Bool.eq_false_iff.mpr h3
/-- the token that begins at s: its end, its kind, its value -/
def tE (t : Nat → Nat) (m s : Nat) : Nat := if m ≤ s then s else if isLt (t s) then spn isLt t (m - s) s else if isDg (t s) then spn isDg t (m - s) s else s + 1
def tK (t : Nat → Nat) (m s : Nat) : Nat := if m ≤ s then 128 else if isLt (t s) then wfd (ltr t (tE t m s - s) s) wlist 141 else if isDg (t s) then (if tE t m s - s ≤ 3 then 131 else 132) else if isSg (t s) then t s else 129
def dv (t : Nat → Nat) (s : Nat) : Nat → Nat
  | 0 => 0
  | k + 1 => 10 * dv t s k + (t (s + k) - 48)
def tV (t : Nat → Nat) (m s : Nat) : Nat := dv t s (tE t m s - s)
def tS (t : Nat → Nat) (m p : Nat) : Nat := spn isB t (m - p) p
/-- the text in the class's cells -/
def Txt (t : Nat → Nat) (m : Nat) (I : HI) : Prop := I 28 4 = nI m ∧ m ≤ 500 ∧ ∀ k, k < m → I 34 k = nI (t k) ∧ t k < 256
theorem cLet {c : Nat} {Q : Int32 → Prop} (hc : c < 256) (h : Q (nI (if isLt c then 1 else 0))) : Rd_isLetter (nI c) Q := by
  unfold Rd_isLetter
  rw [show (97 : Int32) = nI 97 from rfl, show (122 : Int32) = nI 122 from rfl]
  simp only [nI_ltI (show c < 2 ^ 31 by omega) (show 97 < 2 ^ 31 by decide), nI_ltI (show 122 < 2 ^ 31 by decide) (show c < 2 ^ 31 by omega)]
  unfold isLt at h
  by_cases h1 : c < 97
  · rw [if_pos h1]; rw [if_neg (by simp; omega)] at h; exact h
  · rw [if_neg h1]
    by_cases h2 : 122 < c
    · rw [if_pos h2]; rw [if_neg (by simp; omega)] at h; exact h
    · rw [if_neg h2]; rw [if_pos (by simp; omega)] at h; exact h
theorem cDig {c : Nat} {Q : Int32 → Prop} (hc : c < 256) (h : Q (nI (if isDg c then 1 else 0))) : Rd_isDigit (nI c) Q := by
  unfold Rd_isDigit
  rw [show (48 : Int32) = nI 48 from rfl, show (57 : Int32) = nI 57 from rfl]
  simp only [nI_ltI (show c < 2 ^ 31 by omega) (show 48 < 2 ^ 31 by decide), nI_ltI (show 57 < 2 ^ 31 by decide) (show c < 2 ^ 31 by omega)]
  unfold isDg at h
  by_cases h1 : c < 48
  · rw [if_pos h1]; rw [if_neg (by simp; omega)] at h; exact h
  · rw [if_neg h1]
    by_cases h2 : 57 < c
    · rw [if_pos h2]; rw [if_neg (by simp; omega)] at h; exact h
    · rw [if_neg h2]; rw [if_pos (by simp; omega)] at h; exact h
theorem cSig_all : (List.range 256).all (fun c => (decide (nI c < 40)) == (decide (c < 40)) && (decide (nI c ≤ 43)) == (decide (c ≤ 43)) && (decide (nI c = 45)) == (decide (c = 45)) && (decide (nI c = 47)) == (decide (c = 47)) && (decide (nI c < 59)) == (decide (c < 59)) && (decide (61 < nI c)) == (decide (61 < c))) = true := by decide +kernel
theorem cSig {c : Nat} {Q : Int32 → Prop} (hc : c < 256) (h : Q (nI (if isSg c then 1 else 0))) : Rd_isSign (nI c) Q := by
  have h0 := List.all_eq_true.mp cSig_all c (List.mem_range.mpr hc)
  simp only [Bool.and_eq_true, beq_iff_eq, decide_eq_decide] at h0
  obtain ⟨⟨⟨⟨⟨a1, a2⟩, a3⟩, a4⟩, a5⟩, a6⟩ := h0
  have hb : (c < 40 ∨ 43 < c) → Rd_isSign_b12 (nI c) Q := by
    intro hx
    unfold Rd_isSign_b12
    unfold isSg at h
    refine ic (fun h1 => ?_) (fun h1 => ?_)
    · rw [if_pos (by have := a3.mp h1; subst this; rfl)] at h; exact h
    refine ic (fun h2 => ?_) (fun h2 => ?_)
    · rw [if_pos (by have := a4.mp h2; subst this; rfl)] at h; exact h
    rw [a3] at h1
    rw [a4] at h2
    refine ic (fun h3 => ?_) (fun h3 => ?_)
    · rw [if_neg (by have := a5.mp h3; simp; omega)] at h; exact h
    rw [a5] at h3
    refine ic (fun h4 => ?_) (fun h4 => ?_)
    · rw [if_neg (by have := a6.mp h4; simp; omega)] at h; exact h
    rw [a6] at h4
    rw [if_pos (by simp; omega)] at h; exact h
  unfold Rd_isSign
  refine ic (fun h1 => hb (Or.inl (a1.mp h1))) (fun h1 => ic (fun h2 => ?_) (fun h2 => hb (Or.inr (by rw [a2] at h2; omega))))
  rw [a1] at h1
  rw [a2] at h2
  rw [if_pos (by unfold isSg; simp; omega)] at h; exact h
