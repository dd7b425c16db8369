/-! who is right, who is wrong, whether a row is won -/
theorem Sc_right_k {I : HI} {r r1 : Nat} {a : AN} {h g : Nat → Nat} (W : WF a) (e0 : I r1 0 = nI (an a)) (hh : ∀ k, k < an a → I (r + 1) k = nI (h k)) (hg : ∀ k, k < an a → I (r + 2) k = nI (g k)) (bh : ∀ k, k < an a → h k ≤ 4) (bg : ∀ k, k < an a → g k ≤ 4) {Q : Int32 → Prop} (hq : Q (nI (rts a h g))) : Sc_rightOnes I r r1 Q := by
  have n8 := W.2.1
  have key : ∀ d i, i + d = an a → Sc_rightOnes_l4 I r r1 Q (d + 1) (nI (msk (fun w => decide (g w = h w)) i)) (nI i) := by
    intro d
    induction d with
    | zero =>
      intro i hi
      have : i = an a := by omega
      subst this
      rw [Sc_rightOnes_l4, e0]
      exact it (nI_le (Nat.le_refl _) (by omega)) hq
    | succ d ih =>
      intro i hi
      have ih := ih (i + 1) (by omega)
      rw [rts_succ a] at ih
      have := bh i (by omega)
      have := bg i (by omega)
      rw [Sc_rightOnes_l4, e0, nx_nI (by omega), hh i (by omega), hg i (by omega), nShl1 i (by omega), nOr]
      simp only [nI_1]
      refine ie (nI_ge (by omega) (by omega)) ⟨vin (by omega) (by omega), vin (by omega) (by omega), ic (fun hc => ?_) (fun hc => ?_)⟩
      · rw [nI_eq (by omega) (by omega)] at hc; rw [if_pos hc] at ih; exact ih
      · rw [nI_eq (by omega) (by omega)] at hc; rw [if_neg hc] at ih; exact ih
  exact ⟨an a + 1, key (an a) 0 (by omega)⟩
theorem Sc_wrong_k {I : HI} {r r1 : Nat} {a : AN} {h g : Nat → Nat} (W : WF a) (e0 : I r1 0 = nI (an a)) (e1 : I r1 1 = nI (aq a)) (hh : ∀ k, k < an a → I (r + 1) k = nI (h k)) (hg : ∀ k, k < an a → I (r + 2) k = nI (g k)) (bh : ∀ k, k < an a → h k ≤ 4) (bg : ∀ k, k < an a → g k ≤ 4) {Q : Int32 → Prop} (hq : Q (nI (wrs a h g))) : Sc_wrongOnes I r r1 Q := by
  have n8 := W.2.1
  have q4 := W.2.2.2.1
  have key : ∀ d i, i + d = an a → Sc_wrongOnes_l4 I r r1 Q (d + 1) (nI (msk (fun w => decide (g w ≠ h w ∧ g w ≠ aq a)) i)) (nI i) := by
    intro d
    induction d with
    | zero =>
      intro i hi
      have : i = an a := by omega
      subst this
      rw [Sc_wrongOnes_l4, e0]
      exact it (nI_le (Nat.le_refl _) (by omega)) hq
    | succ d ih =>
      intro i hi
      have ih := ih (i + 1) (by omega)
      rw [wrs_succ] at ih
      have := bh i (by omega)
      have := bg i (by omega)
      rw [Sc_wrongOnes_l4, e0, e1, nx_nI (by omega), hh i (by omega), hg i (by omega), nShl1 i (by omega), nOr]
      simp only [nI_1]
      refine ie (nI_ge (by omega) (by omega)) ⟨vin (by omega) (by omega), vin (by omega) (by omega), ic (fun hc => ?_) (fun hc => ⟨vin (by omega) (by omega), ic (fun hc2 => ?_) (fun hc2 => ?_)⟩)⟩
      · rw [nI_eq (by omega) (by omega)] at hc; rw [if_neg (by omega)] at ih; exact ih
      · rw [nI_eq (by omega) (by omega)] at hc hc2; rw [if_neg (by omega)] at ih; exact ih
      · rw [nI_eq (by omega) (by omega)] at hc hc2; rw [if_pos ⟨hc, hc2⟩] at ih; exact ih
  exact ⟨an a + 1, key (an a) 0 (by omega)⟩
def bcv (x0 : Int32) : Int32 := ((((((((x0 - ((iu x0 1) &&& 1431655765)) &&& 858993459) + ((iu (x0 - ((iu x0 1) &&& 1431655765)) 2) &&& 858993459)) + (iu (((x0 - ((iu x0 1) &&& 1431655765)) &&& 858993459) + ((iu (x0 - ((iu x0 1) &&& 1431655765)) 2) &&& 858993459)) 4)) &&& 252645135) + (iu (((((x0 - ((iu x0 1) &&& 1431655765)) &&& 858993459) + ((iu (x0 - ((iu x0 1) &&& 1431655765)) 2) &&& 858993459)) + (iu (((x0 - ((iu x0 1) &&& 1431655765)) &&& 858993459) + ((iu (x0 - ((iu x0 1) &&& 1431655765)) 2) &&& 858993459)) 4)) &&& 252645135) 8)) + (iu ((((((x0 - ((iu x0 1) &&& 1431655765)) &&& 858993459) + ((iu (x0 - ((iu x0 1) &&& 1431655765)) 2) &&& 858993459)) + (iu (((x0 - ((iu x0 1) &&& 1431655765)) &&& 858993459) + ((iu (x0 - ((iu x0 1) &&& 1431655765)) 2) &&& 858993459)) 4)) &&& 252645135) + (iu (((((x0 - ((iu x0 1) &&& 1431655765)) &&& 858993459) + ((iu (x0 - ((iu x0 1) &&& 1431655765)) 2) &&& 858993459)) + (iu (((x0 - ((iu x0 1) &&& 1431655765)) &&& 858993459) + ((iu (x0 - ((iu x0 1) &&& 1431655765)) 2) &&& 858993459)) 4)) &&& 252645135) 8)) 16)) &&& 63)
theorem bcv_pop : ∀ m, m < 256 → bcv (nI m) = nI (pop m) := by decide +kernel
theorem Jd_bit_k {m : Nat} (hm : m < 256) {Q : Int32 → Prop} (h : Q (nI (pop m))) : Jd_bitCount (nI m) Q := by
  show Q (bcv (nI m))
  rw [bcv_pop m hm]
  exact h
/-- whether a row with these right ones and wrong ones is won -/
def wonB (lw k n r : Nat) (z : Bool) : Bool := if lw = 0 then decide (k ≤ r) else if lw = 1 then decide (r = k) else if lw = 2 then z && decide (k ≤ r) else decide (n ≤ k + r)
def b01 (b : Bool) : Int32 := if b then 1 else 0
theorem b01_cases {b : Bool} {P : Int32 → Prop} (h : P (b01 b)) : (b = true → P 1) ∧ (b = false → P 0) := ⟨fun e => by rw [e] at h; exact h, fun e => by rw [e] at h; exact h⟩
theorem won_k {x lw k n r m : Nat} (hlw : lw ≤ 3) (hk : k ≤ 8) (hn : n ≤ 8) (hr : r ≤ n) (hm : m < 256) {Q : Int32 → Prop} (h : Q (b01 (wonB lw k n r (decide (m = 0))))) : if nI lw = 0 then (if nI r < nI k then Q 0 else Q 1) else if nI lw = 1 then (if nI r = nI k then Q 1 else Q 0) else if nI lw = 2 then (if nI m = 0 then (if nI r < nI k then Q 0 else Q 1) else Q 0) else (if nI k < nI n - nI r then Q 0 else Q 1) := by
  obtain ⟨h1, h0⟩ := b01_cases h
  unfold wonB at h1 h0
  have m0 : nI m = 0 ↔ m = 0 := by rw [nlit0, nI_eq (by omega) (by omega)]
  rcases (show lw = 0 ∨ lw = 1 ∨ lw = 2 ∨ lw = 3 by omega) with rfl | rfl | rfl | rfl
  · refine it rfl (ic (fun hc => ?_) (fun hc => ?_))
    · rw [nI_ltI (by omega) (by omega)] at hc; exact h0 (by simp; omega)
    · rw [nI_ltI (by omega) (by omega)] at hc; exact h1 (by simp; omega)
  · refine ie (by decide) (it rfl (ic (fun hc => ?_) (fun hc => ?_)))
    · rw [nI_eq (by omega) (by omega)] at hc; exact h1 (by simp; omega)
    · rw [nI_eq (by omega) (by omega)] at hc; exact h0 (by simp; omega)
  · refine ie (by decide) (ie (by decide) (it rfl (ic (fun hz => ic (fun hc => ?_) (fun hc => ?_)) (fun hz => ?_))))
    · rw [m0] at hz; rw [nI_ltI (by omega) (by omega)] at hc; exact h0 (by simp; omega)
    · rw [m0] at hz; rw [nI_ltI (by omega) (by omega)] at hc; exact h1 (by simp; omega)
    · rw [m0] at hz; exact h0 (by simp; omega)
  · rw [nS hr]
    refine ie (by decide) (ie (by decide) (ie (by decide) (ic (fun hc => ?_) (fun hc => ?_))))
    · rw [nI_ltI (by omega) (by omega)] at hc; exact h0 (by simp; omega)
    · rw [nI_ltI (by omega) (by omega)] at hc; exact h1 (by simp; omega)
theorem pop_le_n {m n : Nat} (h : m < 2 ^ n) (h8 : n ≤ 8) : pop m ≤ n := by rw [pop_n h h8]; exact cnt_le _ _
theorem M_isWon_k {I : HI} {lw k n rm wm : Nat} (e4 : I 0 4 = nI lw) (e5 : I 0 5 = nI k) (e1 : I 0 1 = nI n) (hlw : lw ≤ 3) (hk : k ≤ 8) (hn : n ≤ 8) (hr : rm < 2 ^ n) (hw : wm < 2 ^ n) {Q : Int32 → Prop} (h : Q (b01 (wonB lw k n (pop rm) (decide (wm = 0))))) : M_isWon I (nI rm) (nI wm) Q := by
  have h256 := p2le hn
  unfold M_isWon
  refine M_bits_k (by omega) ?_
  rw [e4, e5, e1]
  exact won_k (x := 0) hlw hk hn (pop_le_n hr hn) (by omega) h
theorem Jud_isWon_k {I : HI} {lw k n rm wm : Nat} (e4 : I 23 1 = nI lw) (e5 : I 23 2 = nI k) (hlw : lw ≤ 3) (hk : k ≤ 8) (hn : n ≤ 8) (hr : rm < 2 ^ n) (hw : wm < 2 ^ n) {Q : Int32 → Prop} (h : Q (b01 (wonB lw k n (pop rm) (decide (wm = 0))))) : Jud_isWon I (nI rm) (nI wm) (nI n) Q := by
  have h256 := p2le hn
  unfold Jud_isWon
  refine Jd_bit_k (by omega) ?_
  rw [e4, e5]
  exact won_k (x := 0) hlw hk hn (pop_le_n hr hn) (by omega) h
theorem rt_lt (a : AN) (r : Nat) : rt a r < 2 ^ an a := msk_lt _ _
theorem wr_lt (a : AN) (r : Nat) : wr a r < 2 ^ an a := msk_lt _ _
/-- how many of a colour; whether the row counts -/
theorem cnt_hat_succ (a : AN) (r c k : Nat) : cnt (fun w => decide (hat a r w = c)) (k + 1) = if hat a r k = c then cnt (fun w => decide (hat a r w = c)) k + 1 else cnt (fun w => decide (hat a r w = c)) k := by
  rw [cnt_succ]
  by_cases e : hat a r k = c
  · rw [if_pos (by simp [e]), if_pos e]
  · rw [if_neg (by simp [e]), if_neg e]
theorem M_many_k {I : HI} {a : AN} {r c : Nat} (W : WF a) (e1 : I 0 1 = nI (an a)) (e2 : I 0 2 = nI (aq a)) (hr : r < 2 ^ 31) (hc : c ≤ 4) {Q : Int32 → Prop} (h : Q (nI (many a r c))) : M_many I (nI r) (nI c) Q := by
  have n8 := W.2.1
  have q2 := W.2.2.1
  have q4 := W.2.2.2.1
  have q0 : ¬ nI (aq a) = 0 := nI_ne0 (by omega) (by omega)
  have key : ∀ d i, i + d = an a → M_many_l8 I (nI c) Q (d + 1) (nI (r / aq a ^ i)) (nI (cnt (fun w => decide (hat a r w = c)) i)) (nI i) := by
    intro d
    induction d with
    | zero =>
      intro i hi
      have : i = an a := by omega
      subst this
      rw [M_many_l8, e1]
      exact it (nI_le (Nat.le_refl _) (by omega)) h
    | succ d ih =>
      intro i hi
      have ih := ih (i + 1) (by omega)
      rw [cnt_hat_succ] at ih
      have hd : r / aq a ^ i < 2 ^ 31 := Nat.lt_of_le_of_lt (Nat.div_le_self _ _) hr
      have hl := hat_lt W r i
      unfold M_many_l8 M_many_b34
      rw [e1, e2, nRem hd (by omega), nDiv hd (by omega), Nat.div_div_eq_div_mul, ← Nat.pow_succ, nlit0, nI_add]
      simp only [nI_1]
      refine ie (nI_ge (by omega) (by omega)) ⟨q0, ic (fun he => ⟨q0, ?_⟩) (fun he => ⟨q0, ?_⟩)⟩
      · have he : hat a r i = c := by rw [show nI (r / aq a ^ i % aq a) = nI (hat a r i) from rfl, nI_eq (by omega) (by omega)] at he; exact he
        rw [if_pos he] at ih; exact ih
      · have he : ¬ hat a r i = c := by rw [show nI (r / aq a ^ i % aq a) = nI (hat a r i) from rfl, nI_eq (by omega) (by omega)] at he; exact he
        rw [if_neg he] at ih; exact ih
  have := key (an a) 0 (by omega)
  rw [Nat.pow_zero, Nat.div_one] at this
  exact ⟨an a + 1, this⟩
theorem M_counts_k {I : HI} {a : AN} {H : Nat → Nat} {r : Nat} (W : WF a) (e1 : I 0 1 = nI (an a)) (e2 : I 0 2 = nI (aq a)) (hH : ∀ c, c < 4 → I 1 c = nI (H c) ∧ H c ≤ 9) (hr : r < 2 ^ 31) {Q : Int32 → Prop} (h : Q (b01 (cts a H r))) : M_counts I (nI r) Q := by
  have q4 := W.2.2.2.1
  have key : ∀ d i (b : Bool), i + d = aq a → (b = true ↔ ∀ c, c < i → many a r c ≤ H c) → M_counts_l4 I (nI r) Q (d + 1) (b01 b) (nI i) := by
    intro d
    induction d with
    | zero =>
      intro i b hi hb
      have : i = aq a := by omega
      subst this
      have e : b = cts a H r := by
        unfold cts
        by_cases hx : ∀ c, c < aq a → many a r c ≤ H c
        · rw [hb.mpr hx]; simp; exact hx
        · have : b = false := by cases b; rfl; exact absurd (hb.mp rfl) hx
          rw [this]; simp; simpa using hx
      rw [M_counts_l4, e2]
      refine it (nI_le (Nat.le_refl _) (by omega)) ⟨?_, by rw [e]; exact h⟩
      cases b
      · exact zb_0
      · exact zb_1
    | succ d ih =>
      intro i b hi hb
      rw [M_counts_l4, e2]
      simp only [nI_1]
      refine ie (nI_ge (by omega) (by omega)) ?_
      cases b with
      | false =>
        exact it rfl (ih (i + 1) false (by omega) ⟨fun q => (by cases q), fun q => hb.mpr (fun c hc => q c (by omega))⟩)
      | true =>
        have hm := cnt_le (fun w => decide (hat a r w = i)) (an a)
        have n8 := W.2.1
        refine ie (by decide) (M_many_k W e1 e2 hr (by omega) ⟨vin (by omega) (by omega), ?_⟩)
        obtain ⟨g1, g2⟩ := hH i (by omega)
        have hm9 : many a r i ≤ 8 := by unfold many; omega
        rw [nx_nI (by omega), g1]
        refine ic (fun hc => ?_) (fun hc => ?_)
        · rw [nI_ltI (by omega) (by omega)] at hc
          exact ih (i + 1) false (by omega) ⟨fun q => (by cases q), fun q => by have := q i (by omega); omega⟩
        · rw [nI_ltI (by omega) (by omega)] at hc
          refine ih (i + 1) true (by omega) ⟨fun _ c hc2 => ?_, fun _ => rfl⟩
          by_cases e : c = i
          · subst e; omega
          · exact hb.mp rfl c (by omega)
  exact ⟨aq a + 1, key (aq a) 0 true (by omega) ⟨fun _ c hc => by omega, fun _ => rfl⟩⟩
