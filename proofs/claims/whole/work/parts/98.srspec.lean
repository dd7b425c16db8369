/-! search: the next row's hats; what both sides do -/
theorem nar_s2 : ∀ x, x < 52 → ∀ y, y < 128 → vp_nar .short (ihs (nI (128 * x + y))) = nI (128 * x + y) := by decide +kernel
theorem nar_s {r : Nat} (h : r < 6600) : vp_nar .short (ihs (nI r)) = nI r := by
  have := nar_s2 (r / 128) (by omega) (r % 128) (by omega)
  rw [show 128 * (r / 128) + r % 128 = r by omega] at this
  exact this
theorem dgn_lo {r q j w : Nat} (hq : 1 ≤ q) (h : r % q ^ j = q ^ j - 1) (hw : w < j) : (r + 1) / q ^ w % q = 0 := by
  have pj : 1 ≤ q ^ j := Nat.pow_pos (by omega)
  have e : r + 1 = q ^ w * (q * (q ^ (j - w - 1) * (r / q ^ j + 1))) := by
    have h1 := Nat.div_add_mod r (q ^ j)
    have h2 : q ^ j = q ^ w * (q * q ^ (j - w - 1)) := by rw [← Nat.pow_succ', ← Nat.pow_add]; congr 1; omega
    have h3 : r + 1 = q ^ j * (r / q ^ j + 1) := by rw [Nat.mul_add, Nat.mul_one]; omega
    rw [h3]
    generalize r / q ^ j + 1 = M
    rw [h2, Nat.mul_assoc, Nat.mul_assoc]
  rw [e, Nat.mul_div_cancel_left _ (Nat.pow_pos (by omega))]
  exact Nat.mul_mod_right _ _
theorem dgn_hi {r q j w : Nat} (hq : 2 ≤ q) (h : r % q ^ j = q ^ j - 1) (hd : r / q ^ j % q ≠ q - 1) (hw : j ≤ w) : (r + 1) / q ^ w % q = if w = j then r / q ^ j % q + 1 else r / q ^ w % q := by
  have pj : 1 ≤ q ^ j := Nat.pow_pos (by omega)
  have h1 := Nat.div_add_mod r (q ^ j)
  have h3 : r + 1 = q ^ j * (r / q ^ j + 1) := by rw [Nat.mul_add, Nat.mul_one]; omega
  have e1 : (r + 1) / q ^ w = (r / q ^ j + 1) / q ^ (w - j) := by
    have : q ^ w = q ^ j * q ^ (w - j) := by rw [← Nat.pow_add]; congr 1; omega
    rw [this, ← Nat.div_div_eq_div_mul, h3, Nat.mul_div_cancel_left _ (by omega)]
  have e2 : r / q ^ w = r / q ^ j / q ^ (w - j) := by
    have : q ^ w = q ^ j * q ^ (w - j) := by rw [← Nat.pow_add]; congr 1; omega
    rw [this, ← Nat.div_div_eq_div_mul]
  rw [e1, e2]
  generalize r / q ^ j = m at hd ⊢
  have hm := Nat.mod_lt m (show 0 < q by omega)
  have hdm := Nat.div_add_mod m q
  have es : m + 1 = q * (m / q) + (m % q + 1) := by omega
  have ed : (m + 1) / q = m / q := by
    rw [es, Nat.mul_add_div (by omega), Nat.div_eq_of_lt (show m % q + 1 < q by omega), Nat.add_zero]
  by_cases e : w = j
  · subst e
    rw [if_pos rfl, Nat.sub_self, Nat.pow_zero, Nat.div_one, es, Nat.mul_add_mod, Nat.mod_eq_of_lt (by omega)]
  · rw [if_neg e]
    have : w - j = (w - j - 1) + 1 := by omega
    rw [this, Nat.pow_succ, Nat.mul_comm, ← Nat.div_div_eq_div_mul, ← Nat.div_div_eq_div_mul, ed]
theorem dgn_s {r q j : Nat} (hq : 2 ≤ q) (h : r % q ^ j = q ^ j - 1) (hd : r / q ^ j % q = q - 1) : r % q ^ (j + 1) = q ^ (j + 1) - 1 := by
  have pj : 1 ≤ q ^ j := Nat.pow_pos (by omega)
  rw [Nat.pow_succ, Nat.mod_mul, h, hd, Nat.mul_sub, Nat.mul_one]
  have : q ^ j ≤ q ^ j * q := Nat.le_mul_of_pos_right _ (by omega)
  omega
theorem Sc_next_k {I0 : HI} {a : AN} {r : Nat} (W : WF a) (N : CN I0 1 a) (hh : ∀ w, w < an a → I0 21 w = nI (hat a r w)) {Q : HI → Prop} (hQ : ∀ I, Fr (fun b _ => b = 21) I0 I → (∀ w, w < an a → I 21 w = nI (hat a (r + 1) w)) → Q I) : Sc_dressNext I0 20 1 Q := by
  have n8 := W.2.1
  have q2 := W.2.2.1
  have q4 := W.2.2.2.1
  have key : ∀ d j I, j + d = an a → r % aq a ^ j = aq a ^ j - 1 → Fr (fun b _ => b = 21) I0 I → (∀ w, w < j → I 21 w = 0) → (∀ w, j ≤ w → w < an a → I 21 w = nI (hat a r w)) → Sc_dressNext_l2 20 1 Q (d + 1) I (nI j) := by
    intro d
    induction d with
    | zero =>
      intro j I hj hr f h0 h1
      rw [Sc_dressNext_l2, f _ _ (by omega), N.1]
      unfold Sc_dressNext_b38
      rw [f _ _ (by omega), N.1]
      refine it (nI_le (by omega) (by omega)) (it (nI_le (by omega) (by omega)) (hQ I f (fun w hw => ?_)))
      rw [h0 w (by omega)]
      unfold hat
      rw [dgn_lo (j := j) (by omega) hr (by omega)]; rfl
    | succ d ih =>
      intro j I hj hr f h0 h1
      have hl := hat_lt W r j
      rw [Sc_dressNext_l2, f 1 _ (by omega), f 1 _ (by omega), N.1, N.2.1, nx_nI (by omega), show I (20 + 1) j = nI (hat a r j) from h1 j (Nat.le_refl _) (by omega), show (nI (aq a) - 1 : Int32) = nI (aq a - 1) from by rw [nlit1, nS (by omega)]]
      have v : vp_in (nI j) 8 := vin (by omega) (by omega)
      refine ie (nI_ge (by omega) (by omega)) ⟨v, ic (fun hc => ⟨v, ?_⟩) (fun hc => ?_)⟩
      · rw [nI_eq (by omega) (by omega)] at hc
        rw [nI_1]
        refine ih (j + 1) _ (by omega) (dgn_s q2 hr hc) (f.up rfl) (fun w hw => ?_) (fun w h2 h3 => ?_)
        · rw [up2_get]
          by_cases e : w = j
          · rw [if_pos ⟨rfl, e⟩]
          · rw [if_neg (by omega)]; exact h0 w (by omega)
        · rw [up2_get, if_neg (by omega)]; exact h1 w (by omega) h3
      · rw [nI_eq (by omega) (by omega)] at hc
        unfold Sc_dressNext_b38
        rw [f 1 _ (by omega), N.1, nx_nI (by omega), show I (20 + 1) j = nI (hat a r j) from h1 j (Nat.le_refl _) (by omega), nI_1]
        refine ie (nI_ge (by omega) (by omega)) ⟨v, v, hQ _ (f.up rfl) (fun w hw => ?_)⟩
        rw [up2_get]
        by_cases e : w = j
        · rw [if_pos ⟨rfl, e⟩, e]
          unfold hat
          rw [dgn_hi q2 hr hc (Nat.le_refl _), if_pos rfl]
        · rw [if_neg (by omega)]
          by_cases e2 : w < j
          · rw [h0 w e2]
            unfold hat
            rw [dgn_lo (j := j) (by omega) hr e2]; rfl
          · rw [h1 w (by omega) hw]
            unfold hat
            rw [dgn_hi q2 hr hc (by omega), if_neg e]
  exact ⟨an a + 1, key (an a) 0 I0 (by omega) (by rw [Nat.pow_zero, Nat.mod_one]) Fr.rf (fun w hw => by omega) (fun w _ hw => hh w hw)⟩
/-- the view of w in row r if nobody is heard; its cell -/
def vwr (a : AN) (r w : Nat) : Nat := view a (hat a r) z0 w
def cel (a : AN) (r w : Nat) : Nat := 1024 * w + vwr a r w
theorem vwr_lt {a : AN} (W : WF a) {r w : Nat} (hw : w < an a) : vwr a r w < avw a w := view_lt W hw (fun k _ => hat_lt W r k) (fun k _ _ => Nat.zero_le _)
theorem cel_lt {a : AN} (W : WF a) (h : ato a) {r w : Nat} (hw : w < an a) : vwr a r w < 1024 ∧ cel a r w < 8192 := by
  have := vwr_lt W hw (r := r)
  have := (h w hw).2
  have := W.2.1
  unfold cel
  omega
def smr (a : AN) (st : Nat → Nat) (r : Nat) : Bool := (List.range (an a)).any (fun w => st (cel a r w) == hat a r w + 1)
theorem smr_iff {a : AN} {st : Nat → Nat} {r : Nat} : smr a st r = true ↔ ∃ w, w < an a ∧ st (cel a r w) = hat a r w + 1 := by
  unfold smr
  simp
/-- the first row from r on in which no settled guess is right -/
def rnr (a : AN) (st : Nat → Nat) : Nat → Nat → Nat
  | 0, r => r
  | d + 1, r => if smr a st r then rnr a st d (r + 1) else r
theorem rnr_le {a : AN} {st : Nat → Nat} : ∀ d r, r ≤ rnr a st d r ∧ rnr a st d r ≤ r + d ∧ (rnr a st d r = r + d ∨ smr a st (rnr a st d r) = false) ∧ ∀ r', r ≤ r' → r' < rnr a st d r → smr a st r' = true
  | 0, r => ⟨Nat.le_refl _, Nat.le_refl _, Or.inl rfl, fun r' h1 h2 => by unfold rnr at h2; omega⟩
  | d + 1, r => by
    obtain ⟨h1, h2, h3, h4⟩ := rnr_le (a := a) (st := st) d (r + 1)
    rw [rnr]
    cases e : smr a st r with
    | true =>
      rw [if_pos rfl]
      refine ⟨by omega, by omega, ?_, fun r' h5 h6 => ?_⟩
      · rcases h3 with h3 | h3
        · left; omega
        · exact Or.inr h3
      by_cases q : r' = r
      · rw [q]; exact e
      · exact h4 r' (by omega) h6
    | false =>
      rw [if_neg (by decide)]
      exact ⟨Nat.le_refl _, by omega, Or.inr e, fun r' h5 h6 => by omega⟩
/-- the first wearer from w on whose guess in row r isn't settled -/
def uns (a : AN) (st : Nat → Nat) (r : Nat) : Nat → Nat → Option Nat
  | 0, _ => none
  | d + 1, w => if st (cel a r w) = 0 then some w else uns a st r d (w + 1)
theorem uns_lt {a : AN} {st : Nat → Nat} {r : Nat} : ∀ d w x, uns a st r d w = some x → w ≤ x ∧ x < w + d ∧ st (cel a r x) = 0
  | 0, _, _, h => by cases h
  | d + 1, w, x, h => by
    unfold uns at h
    split at h
    · rename_i q; cases h; exact ⟨Nat.le_refl _, by omega, q⟩
    · have := uns_lt d (w + 1) x h; exact ⟨by omega, by omega, this.2.2⟩
abbrev SS5 : Type := (Nat → Nat) × List (Nat × Nat) × Nat × Nat × Nat
def srs (a : AN) (lim : Nat) : Nat → SS5 → Int32 × SS5
  | 0, s => (0, s)
  | m + 1, s =>
    if aq a ^ an a ≤ s.2.2.1 then (1, s) else
      match uns a s.1 s.2.2.1 (an a - s.2.2.2.1) s.2.2.2.1, s.2.1 with
      | some w, _ => if lim ≤ s.2.2.2.2 then (-2, s) else
          srs a lim m (upn s.1 (cel a s.2.2.1 w) (hat a s.2.2.1 w + 1), (s.2.2.1, w) :: s.2.1, rnr a (upn s.1 (cel a s.2.2.1 w) (hat a s.2.2.1 w + 1)) (aq a ^ an a - (s.2.2.1 + 1)) (s.2.2.1 + 1), 0, s.2.2.2.2 + 1)
      | none, [] => (0, s)
      | none, (r, w) :: sk => srs a lim m (upn s.1 (cel a r w) 0, sk, r, w + 1, s.2.2.2.2)
/-- what stands of a state of the search -/
def sok (a : AN) (lim : Nat) (m : Nat) (s : SS5) : Prop := (∀ c, s.1 c ≤ aq a) ∧ (∀ p ∈ s.2.1, p.1 < aq a ^ an a ∧ p.2 < an a) ∧ s.2.2.1 ≤ aq a ^ an a ∧ s.2.2.2.1 ≤ an a ∧ s.2.2.2.2 ≤ lim ∧ s.2.1.length ≤ s.2.2.2.2 ∧ 2 * (lim - s.2.2.2.2) + s.2.1.length + 1 ≤ m ∧ (s.2.2.2.1 = 0 → s.2.2.1 = aq a ^ an a ∨ smr a s.1 s.2.2.1 = false)
theorem sok_set {a : AN} {lim m w : Nat} {s : SS5} (W : WF a) (h : sok a lim (m + 1) s) (hr : s.2.2.1 < aq a ^ an a) (hw : w < an a) (hl : ¬ lim ≤ s.2.2.2.2) : sok a lim m (upn s.1 (cel a s.2.2.1 w) (hat a s.2.2.1 w + 1), (s.2.2.1, w) :: s.2.1, rnr a (upn s.1 (cel a s.2.2.1 w) (hat a s.2.2.1 w + 1)) (aq a ^ an a - (s.2.2.1 + 1)) (s.2.2.1 + 1), 0, s.2.2.2.2 + 1) := by
  obtain ⟨h1, h2, h3, h4, h5, h6, h7, h8⟩ := h
  obtain ⟨g1, g2, g3, g4⟩ := rnr_le (a := a) (st := upn s.1 (cel a s.2.2.1 w) (hat a s.2.2.1 w + 1)) (aq a ^ an a - (s.2.2.1 + 1)) (s.2.2.1 + 1)
  refine ⟨fun c => ?_, fun p hp => ?_, by dsimp only; omega, Nat.zero_le _, by dsimp only; omega, ?_, ?_, fun _ => ?_⟩
  · have := hat_lt W s.2.2.1 w
    dsimp only
    unfold upn
    split
    · omega
    · exact h1 c
  · rcases List.mem_cons.mp hp with rfl | hp
    · exact ⟨hr, hw⟩
    · exact h2 p hp
  · show s.2.1.length + 1 ≤ _; dsimp only; omega
  · show 2 * (lim - (s.2.2.2.2 + 1)) + (s.2.1.length + 1) + 1 ≤ m; omega
  · dsimp only
    rcases g3 with g3 | g3
    · left; omega
    · exact Or.inr g3
theorem sok_pop {a : AN} {lim m r w : Nat} {s : SS5} {sk : List (Nat × Nat)} (h : sok a lim (m + 1) s) (e : s.2.1 = (r, w) :: sk) : sok a lim m (upn s.1 (cel a r w) 0, sk, r, w + 1, s.2.2.2.2) := by
  obtain ⟨h1, h2, h3, h4, h5, h6, h7, h8⟩ := h
  rw [e] at h2 h6 h7
  have := h2 (r, w) (List.mem_cons_self ..)
  dsimp only at this
  rw [List.length_cons] at h6 h7
  refine ⟨fun c => ?_, fun p hp => h2 p (List.mem_cons_of_mem _ hp), ?_, ?_, h5, ?_, ?_, fun q => ?_⟩
  · dsimp only
    unfold upn
    split
    · exact Nat.zero_le _
    · exact h1 c
  · dsimp only; omega
  · dsimp only; omega
  · dsimp only; omega
  · dsimp only; omega
  · dsimp only at q; omega
