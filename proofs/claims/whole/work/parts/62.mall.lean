/-! the reference: all of a row, all rows -/
theorem hat_lt {a : AN} (W : WF a) (r w : Nat) : hat a r w < aq a := Nat.mod_lt _ (by have := W.2.2.1; omega)
def rwP : Nat → Nat → Prop := fun b _ => b = 17 ∨ b = 18 ∨ b = 19
theorem M_worksRow_k {I : HI} {a : AN} {r : Nat} (W : WF a) (R : RepM I a) (hr : r < 2 ^ 31) {Q : HI → Prop} (h : ∀ I', Fr rwP I I' → (∀ w, w < an a → I' 17 w = nI (hat a r w)) → (∀ w, w < an a → I' 18 w = nI (gs a (hat a r) w)) → Q I') : M_worksRow I (nI r) Q := by
  have n8 := W.2.1
  unfold M_worksRow
  refine M_wears_k R.1.1 R.1.2.1 n8 W.2.2.1 W.2.2.2.1 hr (fun I1 f1 h17 => ?_)
  have h17 : ∀ w, w < an a → I1 17 w = nI (hat a r w) := h17
  have hh : ∀ k, k < an a → hat a r k < aq a := fun k _ => hat_lt W r k
  have hg := gs_le W hh
  have h7 : ∀ w, w < an a → ard a w ≤ 7 := fun w hw => (W.2.2.2.2.2 w hw).2.2.1
  have inner : ∀ (K : HI → Int32 → Prop) ρ, ρ ≤ 7 → (∀ J, Fr (fun b _ => b = 18 ∨ b = 19) I1 J → (∀ k, k < an a → ard a k < ρ + 1 → J 18 k = nI (gs a (hat a r) k)) → K J (nI (ρ + 1))) → ∀ d j J, j + d = an a → Fr (fun b _ => b = 18 ∨ b = 19) I1 J → (∀ k, k < an a → (ard a k < ρ ∨ ard a k = ρ ∧ k < j) → J 18 k = nI (gs a (hat a r) k)) → M_worksRow_l15 (nI ρ) K Q (d + 1) J (nI j) := by
    intro K ρ hρ hK d
    induction d with
    | zero =>
      intro j J hj f hs
      have RJ := R.eq (I' := J) (fun b i hb => (f _ _ (by omega)).trans (f1 _ _ (by omega)))
      rw [M_worksRow_l15, RJ.1.1, nI_1]
      exact it (nI_le (by omega) (by omega)) (hK J f (fun k hk hr => hs k hk (by omega)))
    | succ d ih =>
      intro j J hj f hs
      have hj' : j < an a := by omega
      have RJ := R.eq (I' := J) (fun b i hb => (f _ _ (by omega)).trans (f1 _ _ (by omega)))
      have := h7 j hj'
      rw [M_worksRow_l15, RJ.1.1, nx_nI (by omega), RJ.1.2.2.2.1 j hj']
      simp only [nI_1]
      refine ie (nI_ge (by omega) (by omega)) ⟨vin (by omega) (by omega), ic (fun hc => ?_) (fun hc => ?_)⟩
      · rw [nI_eq (by omega) (by omega)] at hc
        have M : MRow J a (hat a r) (gs a (hat a r)) j := ⟨RJ, fun k hk => (f _ _ (by omega)).trans (h17 k hk), fun k hk hr => hs k hk (by omega)⟩
        refine M_guesses_k W M hj' hh (fun k hk _ => hg k hk) (fun J2 f2 => ⟨vin (by omega) (by omega), ?_⟩)
        rw [← gs_fix W hj']
        refine ih (j + 1) _ (by omega) ((f.tr (f2.mono (fun b i hb => Or.inr hb))).up (Or.inl rfl)) (fun k hk hkr => ?_)
        rw [up2_get]
        by_cases e : k = j
        · rw [if_pos ⟨rfl, e⟩, e]
        · rw [if_neg (by omega), f2 _ _ (by omega)]; exact hs k hk (by omega)
      · rw [nI_eq (by omega) (by omega)] at hc
        exact ih (j + 1) J (by omega) f (fun k hk hkr => hs k hk (by
          by_cases e : k = j
          · subst e; omega
          · omega))
  have outer : ∀ d ρ J, ρ + d = 8 → Fr (fun b _ => b = 18 ∨ b = 19) I1 J → (∀ k, k < an a → ard a k < ρ → J 18 k = nI (gs a (hat a r) k)) → M_worksRow_l7 Q (d + 1) J (nI ρ) := by
    intro d
    induction d with
    | zero =>
      intro ρ J hρ f hs
      have : ρ = 8 := by omega
      subst this
      rw [M_worksRow_l7]
      refine it (by decide) (h J ((f1.mono (fun b i hb => Or.inl hb)).tr (f.mono (fun b i hb => Or.inr hb))) (fun w hw => (f _ _ (by omega)).trans (h17 w hw)) (fun w hw => hs w hw (by have := h7 w hw; omega)))
    | succ d ih =>
      intro ρ J hρ f hs
      rw [M_worksRow_l7, nlit8]
      refine ie (nI_ge (by omega) (by omega)) ⟨an a + 1, inner _ ρ (by omega) (fun J' f' hs' => ih (ρ + 1) J' (by omega) f' hs') (an a) 0 J (by omega) f (fun k hk hkr => hs k hk (by omega))⟩
  exact ⟨9, outer 8 0 I1 (by omega) Fr.rf (fun k hk hr => by omega)⟩
def waP : Nat → Nat → Prop := fun b i => (17 ≤ b ∧ b ≤ 22) ∨ b = 0 ∧ i = 40
theorem rts_succ (a : AN) (h g : Nat → Nat) (k : Nat) : msk (fun w => decide (g w = h w)) (k + 1) = if g k = h k then msk (fun w => decide (g w = h w)) k ||| 2 ^ k else msk (fun w => decide (g w = h w)) k := by
  rw [msk_succ]
  by_cases e : g k = h k
  · rw [if_pos (by simp [e]), if_pos e]
  · rw [if_neg (by simp [e]), if_neg e]
theorem wrs_succ (q : Nat) (h g : Nat → Nat) (k : Nat) : msk (fun w => decide (g w ≠ h w ∧ g w ≠ q)) (k + 1) = if g k ≠ h k ∧ g k ≠ q then msk (fun w => decide (g w ≠ h w ∧ g w ≠ q)) k ||| 2 ^ k else msk (fun w => decide (g w ≠ h w ∧ g w ≠ q)) k := by
  rw [msk_succ]
  by_cases e : g k ≠ h k ∧ g k ≠ q
  · rw [if_pos (by simp [e]), if_pos e]
  · rw [if_neg (by simp; omega), if_neg e]
def done (I : HI) (a : AN) (r : Nat) : Prop := I 20 r = nI (rt a r) ∧ I 21 r = nI (wr a r) ∧ ∀ w, w < an a → I 22 (8 * r + w) = nI (gs a (hat a r) w)
theorem M_worksAll_k {I : HI} {a : AN} (W : WF a) (R : RepM I a) (hW : WorI a I) {Q : HI → Prop} (h : ∀ I', Fr waP I I' → RepM I' a → I' 0 40 = 1 → (∀ r, r < aq a ^ an a → done I' a r) → Q I') : M_worksAll I Q := by
  have n8 := W.2.1
  have q2 := W.2.2.1
  have q4 := W.2.2.2.1
  have r5 := W.2.2.2.2.1
  unfold M_worksAll
  rcases hW with h0 | ⟨h1, h2⟩
  · rw [h0]
    refine it rfl ?_
    have inner : ∀ (K : HI → Int32 → Prop) r, r < aq a ^ an a → (∀ J, Fr waP I J → J 0 40 = 1 → (∀ r', r' < r + 1 → done J a r') → K J (nI (r + 1))) → ∀ d j J, j + d = an a → Fr waP I J → J 0 40 = 1 → (∀ r', r' < r → done J a r') → (∀ w, w < an a → J 17 w = nI (hat a r w)) → (∀ w, w < an a → J 18 w = nI (gs a (hat a r) w)) → J 20 r = nI (msk (fun w => decide (gs a (hat a r) w = hat a r w)) j) → J 21 r = nI (msk (fun w => decide (gs a (hat a r) w ≠ hat a r w ∧ gs a (hat a r) w ≠ aq a)) j) → (∀ w, w < j → J 22 (8 * r + w) = nI (gs a (hat a r) w)) → M_worksAll_l44 (nI r) K Q (d + 1) J (nI j) := by
      intro K r hr hK d
      induction d with
      | zero =>
        intro j J hj f e40 hd h17 h18 e20 e21 e22
        have : j = an a := by omega
        subst this
        have RJ := R.eq (I' := J) (fun b i hb => f _ _ (by unfold waP; omega))
        rw [M_worksAll_l44, RJ.1.1, nI_1]
        refine it (nI_le (Nat.le_refl _) (by omega)) (hK J f e40 (fun r' hr' => ?_))
        by_cases e : r' = r
        · subst e; exact ⟨e20, e21, e22⟩
        · exact hd r' (by omega)
      | succ d ih =>
        intro j J hj f e40 hd h17 h18 e20 e21 e22
        have hj' : j < an a := by omega
        have RJ := R.eq (I' := J) (fun b i hb => f _ _ (by unfold waP; omega))
        have hl := hat_lt W r j
        have gl9 := gs_le W (fun k _ => hat_lt W r k) j hj'
        rw [M_worksAll_l44, RJ.1.1, nlit8, nM, nI_add, nx_nI (show j < 2 ^ 31 by omega), nx_nI (show r < 2 ^ 31 by omega), nx_nI (show 8 * r + j < 2 ^ 31 by omega), h18 j hj']
        simp only [nI_1]
        generalize hJ1 : up2 J 22 (8 * r + j) (nI (gs a (hat a r) j)) = J1
        have f1 : Fr (fun b i => b = 22 ∧ i = 8 * r + j) J J1 := by rw [← hJ1]; exact Fr.rf.up ⟨rfl, rfl⟩
        have e22' : ∀ w, w < j + 1 → J1 22 (8 * r + w) = nI (gs a (hat a r) w) := fun w hw => by
          rw [← hJ1, up2_get]
          by_cases e : w = j
          · subst e; rw [if_pos ⟨rfl, rfl⟩]
          · rw [if_neg (by omega)]; exact e22 w (by omega)
        rw [show J1 18 j = nI (gs a (hat a r) j) from (f1 _ _ (by omega)).trans (h18 j hj'), show J1 17 j = nI (hat a r j) from (f1 _ _ (by omega)).trans (h17 j hj'), show J1 0 2 = nI (aq a) from (f1 _ _ (by omega)).trans RJ.1.2.1, show J1 20 r = _ from (f1 _ _ (by omega)).trans e20, show J1 21 r = _ from (f1 _ _ (by omega)).trans e21, nShl1 j (by omega), nOr, nOr]
        have go : ∀ J2, Fr (fun b i => b = 22 ∧ i = 8 * r + j ∨ (b = 20 ∨ b = 21) ∧ i = r) J J2 → J2 20 r = nI (msk (fun w => decide (gs a (hat a r) w = hat a r w)) (j + 1)) → J2 21 r = nI (msk (fun w => decide (gs a (hat a r) w ≠ hat a r w ∧ gs a (hat a r) w ≠ aq a)) (j + 1)) → (∀ w, w < j + 1 → J2 22 (8 * r + w) = nI (gs a (hat a r) w)) → M_worksAll_l44 (nI r) K Q (d + 1) J2 (nI (j + 1)) := by
          intro J2 f2 g20 g21 g22
          refine ih (j + 1) J2 (by omega) (f.tr (f2.mono (fun b i hb => by unfold waP; omega))) ((f2 _ _ (by omega)).trans e40) (fun r' hr' => ?_) (fun w hw => (f2 _ _ (by omega)).trans (h17 w hw)) (fun w hw => (f2 _ _ (by omega)).trans (h18 w hw)) g20 g21 g22
          obtain ⟨d1, d2, d3⟩ := hd r' hr'
          exact ⟨(f2 _ _ (by omega)).trans d1, (f2 _ _ (by omega)).trans d2, fun w hw => (f2 _ _ (by omega)).trans (d3 w hw)⟩
        refine ie (nI_ge (by omega) (by omega)) ⟨vin (by omega) (by omega), vin (by omega) (by omega), vin (by omega) (by omega), vin (by omega) (by omega), ic (fun hc => ?_) (fun hc => ⟨vin (by omega) (by omega), ic (fun hc2 => ?_) (fun hc2 => ?_)⟩)⟩
        · rw [nI_eq (by omega) (by omega)] at hc
          refine ⟨vin (by omega) (by omega), vin (by omega) (by omega), go _ ((f1.mono (fun b i hb => Or.inl hb)).up (by omega)) ?_ ?_ (fun w hw => ?_)⟩
          · rw [up2_same, rts_succ a, if_pos hc]
          · rw [up2_get, if_neg (by omega), f1 _ _ (by omega), e21, wrs_succ, if_neg (by omega)]
          · rw [up2_get, if_neg (by omega)]; exact e22' w hw
        · rw [nI_eq (by omega) (by omega)] at hc hc2
          refine go _ (f1.mono (fun b i hb => Or.inl hb)) ?_ ?_ e22'
          · rw [f1 _ _ (by omega), e20, rts_succ a, if_neg hc]
          · rw [f1 _ _ (by omega), e21, wrs_succ, if_neg (by omega)]
        · rw [nI_eq (by omega) (by omega)] at hc hc2
          refine ⟨vin (by omega) (by omega), vin (by omega) (by omega), go _ ((f1.mono (fun b i hb => Or.inl hb)).up (by omega)) ?_ ?_ (fun w hw => ?_)⟩
          · rw [up2_get, if_neg (by omega), f1 _ _ (by omega), e20, rts_succ a, if_neg hc]
          · rw [up2_same, wrs_succ, if_pos ⟨hc, hc2⟩]
          · rw [up2_get, if_neg (by omega)]; exact e22' w hw
    have outer : ∀ d r J, r + d = aq a ^ an a → Fr waP I J → J 0 40 = 1 → (∀ r', r' < r → done J a r') → M_worksAll_l15 Q (d + 1) J (nI r) := by
      intro d
      induction d with
      | zero =>
        intro r J hr f e40 hd
        have : r = aq a ^ an a := by omega
        subst this
        have RJ := R.eq (I' := J) (fun b i hb => f _ _ (by unfold waP; omega))
        rw [M_worksAll_l15, RJ.2.1]
        exact it (nI_le (Nat.le_refl _) (by omega)) (h J f RJ e40 hd)
      | succ d ih =>
        intro r J hr f e40 hd
        have RJ := R.eq (I' := J) (fun b i hb => f _ _ (by unfold waP; omega))
        rw [M_worksAll_l15, RJ.2.1]
        refine ie (nI_ge (by omega) (by omega)) (M_worksRow_k W RJ (by omega) (fun J1 f1 h17 h18 => ⟨vin (by omega) (by omega), vin (by omega) (by omega), ?_⟩))
        rw [nx_nI (by omega)]
        have f2 : Fr (fun b i => b = 17 ∨ b = 18 ∨ b = 19 ∨ (b = 20 ∨ b = 21) ∧ i = r) J (up2 (up2 J1 20 r 0) 21 r 0) := ((f1.mono (fun b i hb => by unfold rwP at hb; omega)).up (by omega)).up (by omega)
        refine ⟨an a + 1, inner _ r (by omega) (fun J' f' e' hd' => ih (r + 1) J' (by omega) f' e' hd') (an a) 0 _ (by omega) (f.tr (f2.mono (fun b i hb => by unfold waP; omega))) ((f2 _ _ (by omega)).trans e40) (fun r' hr' => ?_) (fun w hw => ?_) (fun w hw => ?_) ?_ ?_ (fun w hw => by omega)⟩
        · obtain ⟨d1, d2, d3⟩ := hd r' hr'
          exact ⟨(f2 _ _ (by omega)).trans d1, (f2 _ _ (by omega)).trans d2, fun w hw => (f2 _ _ (by omega)).trans (d3 w hw)⟩
        · rw [up2_get, if_neg (by omega), up2_get, if_neg (by omega)]; exact h17 w hw
        · rw [up2_get, if_neg (by omega), up2_get, if_neg (by omega)]; exact h18 w hw
        · rw [up2_get, if_neg (by omega), up2_same]; rfl
        · rw [up2_same]; rfl
    exact ⟨aq a ^ an a + 1, outer (aq a ^ an a) 0 _ (by omega) (Fr.rf.up (Or.inr ⟨rfl, rfl⟩)) (up2_same _ _ _ _) (fun r' hr' => by omega)⟩
  · rw [h1]
    exact ie (by decide) (h I Fr.rf R h1 h2)
