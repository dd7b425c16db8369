/-! mend: a row in which one guess is another -/
def glm (a : AN) (h : Nat → Nat) (w x : Nat) : Nat → Nat → Nat
  | 0 => fun k => if k = w then x else gs a h k
  | ρ + 1 => fun k => if ard a k = ρ ∧ ard a w < ρ then gues a h (glm a h w x ρ) k else glm a h w x ρ k
def gm (a : AN) (h : Nat → Nat) (w x k : Nat) : Nat := glm a h w x 8 k
theorem glm_lo {a : AN} {h : Nat → Nat} {w x k : Nat} (hk : ard a k ≤ ard a w) : ∀ ρ, glm a h w x ρ k = if k = w then x else gs a h k
  | 0 => rfl
  | ρ + 1 => by
    show (if ard a k = ρ ∧ ard a w < ρ then _ else glm a h w x ρ k) = _
    rw [if_neg (by omega)]; exact glm_lo hk ρ
theorem glm_up {a : AN} {h : Nat → Nat} {w x k : Nat} : ∀ ρ, ard a k < ρ → glm a h w x ρ k = glm a h w x (ard a k + 1) k
  | 0, hρ => by omega
  | ρ + 1, hρ => by
    by_cases e : ard a k = ρ
    · rw [e]
    · show (if ard a k = ρ ∧ ard a w < ρ then _ else glm a h w x ρ k) = _
      rw [if_neg (by omega)]
      exact glm_up ρ (by omega)
theorem gm_lo {a : AN} {h : Nat → Nat} {w x k : Nat} (hk : ard a k ≤ ard a w) : gm a h w x k = if k = w then x else gs a h k := glm_lo hk 8
theorem gm_fix {a : AN} {h : Nat → Nat} {w x k : Nat} (W : WF a) (hk : k < an a) (hr : ard a w < ard a k) : gm a h w x k = gues a h (gm a h w x) k := by
  have h7 := (W.2.2.2.2.2 k hk).2.2.1
  unfold gm
  rw [glm_up 8 (by omega)]
  show (if ard a k = ard a k ∧ ard a w < ard a k then gues a h (glm a h w x (ard a k)) k else _) = _
  rw [if_pos ⟨rfl, hr⟩]
  refine gues_cong W hk (fun _ _ => rfl) (fun j hj hjk => ?_)
  have h7j := (W.2.2.2.2.2 j hj).2.2.1
  rw [glm_up (ard a k) hjk, ← glm_up 8 (by omega)]
theorem gm_le {a : AN} {h : Nat → Nat} {w x : Nat} (W : WF a) (hh : ∀ k, k < an a → h k < aq a) (hx : x ≤ aq a) : ∀ k, k < an a → gm a h w x k ≤ aq a := by
  have key : ∀ ρ k, k < an a → glm a h w x ρ k ≤ aq a := by
    intro ρ
    induction ρ with
    | zero =>
      intro k hk
      show (if k = w then x else gs a h k) ≤ _
      split
      · exact hx
      · exact gs_le W hh k hk
    | succ ρ ih =>
      intro k hk
      show (if ard a k = ρ ∧ ard a w < ρ then gues a h (glm a h w x ρ) k else glm a h w x ρ k) ≤ _
      split
      · exact gues_le W hk hh (fun j hj _ => ih j hj)
      · exact ih k hk
  exact fun k hk => key 8 k hk
theorem gm_self {a : AN} {h : Nat → Nat} {w : Nat} (W : WF a) : ∀ k, k < an a → gm a h w (gs a h w) k = gs a h k := by
  have key : ∀ ρ k, k < an a → glm a h w (gs a h w) ρ k = gs a h k := by
    intro ρ
    induction ρ with
    | zero =>
      intro k hk
      show (if k = w then gs a h w else gs a h k) = _
      split
      · rename_i e; rw [e]
      · rfl
    | succ ρ ih =>
      intro k hk
      show (if ard a k = ρ ∧ ard a w < ρ then gues a h (glm a h w (gs a h w) ρ) k else glm a h w (gs a h w) ρ k) = _
      split
      · rw [gs_fix W hk]
        exact gues_cong W hk (fun _ _ => rfl) (fun j hj _ => ih j hj)
      · exact ih k hk
  exact fun k hk => key 8 k hk
def wonM (a : AN) (lw k r w x : Nat) : Bool := wonB lw k (an a) (pop (rts a (hat a r) (gm a (hat a r) w x))) (decide (wrs a (hat a r) (gm a (hat a r) w x) = 0))
theorem wonM_self {a : AN} {lw k r w : Nat} (W : WF a) : wonM a lw k r w (gs a (hat a r) w) = won9 a lw k r := by
  have e1 : rts a (hat a r) (gm a (hat a r) w (gs a (hat a r) w)) = rt a r := msk_cong (fun j hj => by rw [gm_self W j hj])
  have e2 : wrs a (hat a r) (gm a (hat a r) w (gs a (hat a r) w)) = wr a r := msk_cong (fun j hj => by rw [gm_self W j hj])
  unfold wonM won9
  rw [e1, e2]
def vwg (a : AN) (r w : Nat) : Nat := view a (hat a r) (gs a (hat a r)) w
theorem vwg_lt {a : AN} (W : WF a) {r w : Nat} (hw : w < an a) : vwg a r w < avw a w := view_lt W hw (fun k _ => hat_lt W r k) (fun k hk _ => gs_le W (fun j _ => hat_lt W r j) k hk)
theorem gs_tab {a : AN} (W : WF a) {r w : Nat} (hw : w < an a) (h0 : akd a w = 0) : gs a (hat a r) w = atb a w (vwg a r w) := by
  rw [gs_fix W hw]
  unfold gues
  rw [if_neg (by omega), if_pos h0]
  rfl
/-- how many rows more would be won, after the first r rows -/
def Gs (a : AN) (h : Nat → Nat) (lw k : Nat) : Nat → Nat → Nat → Nat → Int32
  | 0, _, _, _ => 0
  | r + 1, w, v, g => if cts a h r = true ∧ vwg a r w = v ∧ g ≤ aq a then Gs a h lw k r w v g + (b01 (wonM a lw k r w g) - b01 (won9 a lw k r)) else Gs a h lw k r w v g
theorem Gs_big {a : AN} {h : Nat → Nat} {lw k w v g : Nat} (hg : aq a < g) : ∀ r, Gs a h lw k r w v g = 0
  | 0 => rfl
  | r + 1 => by rw [Gs, if_neg (by omega)]; exact Gs_big hg r
abbrev BS : Type := Int32 × Option (Nat × Nat × Nat)
def bG (a : AN) (h : Nat → Nat) (lw k w v : Nat) (s : BS) : Nat → BS := cum (fun g s => if s.1 < Gs a h lw k (aq a ^ an a) w v g then (Gs a h lw k (aq a ^ an a) w v g, some (w, v, g)) else s) s
def bV (a : AN) (h : Nat → Nat) (lw k w : Nat) (s : BS) : Nat → BS := cum (fun v s => bG a h lw k w v s (aq a + 1)) s
def bW (a : AN) (h : Nat → Nat) (lw k : Nat) : Nat → BS := cum (fun w s => if akd a w = 0 then bV a h lw k w s (avw a w) else s) (0, none)
/-- found just if it is more than none, and in the tables -/
def bok (a : AN) (s : BS) : Prop := ¬ s.1 < 0 ∧ (s.2 = none → s.1 = 0) ∧ (∀ p, s.2 = some p → 0 < s.1 ∧ p.1 < an a ∧ akd a p.1 = 0 ∧ p.2.1 < avw a p.1 ∧ p.2.2 ≤ aq a)
theorem bG_ok {a : AN} {h : Nat → Nat} {lw k w v : Nat} (hw : w < an a) (h0 : akd a w = 0) (hv : v < avw a w) {s : BS} (hs : bok a s) : ∀ j, j ≤ aq a + 1 → bok a (bG a h lw k w v s j)
  | 0, _ => hs
  | j + 1, hj => by
    have ih := bG_ok (h := h) (lw := lw) (k := k) hw h0 hv hs j (by omega)
    show bok a (if (bG a h lw k w v s j).1 < Gs a h lw k (aq a ^ an a) w v j then _ else bG a h lw k w v s j)
    split
    · rename_i hlt
      have hp : 0 < Gs a h lw k (aq a ^ an a) w v j := by
        have := ih.1
        rw [Int32.lt_iff_toInt_lt] at this hlt ⊢
        have e0 : (0 : Int32).toInt = 0 := rfl
        omega
      refine ⟨fun q => ?_, (fun q => by cases q), fun p q => ?_⟩
      · rw [Int32.lt_iff_toInt_lt] at q hp
        dsimp only at q
        omega
      · cases q; exact ⟨hp, hw, h0, hv, by dsimp only; omega⟩
    · exact ih
theorem bV_ok {a : AN} {h : Nat → Nat} {lw k w : Nat} (hw : w < an a) (h0 : akd a w = 0) {s : BS} (hs : bok a s) : ∀ j, j ≤ avw a w → bok a (bV a h lw k w s j)
  | 0, _ => hs
  | j + 1, hj => bG_ok hw h0 (by omega) (bV_ok hw h0 hs j (by omega)) _ (Nat.le_refl _)
theorem bW_ok {a : AN} {h : Nat → Nat} {lw k : Nat} : ∀ j, j ≤ an a → bok a (bW a h lw k j)
  | 0, _ => ⟨show ¬ (0 : Int32) < 0 by decide, (fun _ => rfl), fun p q => by cases q⟩
  | j + 1, hj => by
    have ih := bW_ok (a := a) (h := h) (lw := lw) (k := k) j (by omega)
    show bok a (if akd a j = 0 then bV a h lw k j (bW a h lw k j) (avw a j) else bW a h lw k j)
    split
    · rename_i h0; exact bV_ok (by omega) h0 ih _ (Nat.le_refl _)
    · exact ih
/-- where a wearer's views begin among all of the tables -/
def bsv (a : AN) (w : Nat) : Nat := cum (fun k v => if akd a k = 0 then v + avw a k else v) 0 w
theorem bsv_s (a : AN) (w : Nat) : bsv a (w + 1) = if akd a w = 0 then bsv a w + avw a w else bsv a w := rfl
theorem bsv_mono {a : AN} {w w' : Nat} (hlt : w < w') (h0 : akd a w = 0) : bsv a w + avw a w ≤ bsv a w' := by
  induction w' with
  | zero => omega
  | succ j ih =>
    rw [bsv_s]
    by_cases e : w = j
    · subst e; rw [if_pos h0]; exact Nat.le_refl _
    · have := ih (by omega)
      split <;> omega
/-- the net with one guess mended -/
def aMd (a : AN) (p : Nat × Nat × Nat) : AN := aTab a p.1 (upn (atb a p.1) p.2.1 p.2.2)
theorem sub_self32 (a b : Int32) : a + (b - b) = a := by rw [Int32.sub_self, Int32.add_zero]
