/-! the class's net: views, tables -/
theorem nBit1 {a k : Nat} (ha : a < 2 ^ 31) (hk : k < 32) : (nI a >>> (nI k &&& 31)) &&& 1 = 1 ↔ a.testBit k = true := by
  rw [nBit ha hk]
  by_cases h : a.testBit k = true
  · rw [if_pos h]; exact ⟨fun _ => h, fun _ => rfl⟩
  · rw [if_neg h]; exact ⟨fun q => absurd q (by decide), fun q => absurd q h⟩
theorem nBit0 {a k : Nat} (ha : a < 2 ^ 31) (hk : k < 32) : (nI a >>> (nI k &&& 31)) &&& 1 = 0 ↔ a.testBit k = false := by
  rw [nBit ha hk]
  by_cases h : a.testBit k = true
  · rw [if_pos h]; exact ⟨fun q => absurd q (by decide), fun q => by rw [h] at q; cases q⟩
  · rw [if_neg h]; exact ⟨fun _ => by cases e : a.testBit k; rfl; exact absurd e h, fun _ => rfl⟩
theorem cnt_mono (p : Nat → Bool) {i j : Nat} (h : i ≤ j) : cnt p i ≤ cnt p j := by
  induction j with
  | zero => have : i = 0 := by omega
            subst this; exact Nat.le_refl _
  | succ j ih =>
    by_cases e : i = j + 1
    · subst e; exact Nat.le_refl _
    · have := ih (by omega)
      rw [cnt_succ]; split <;> omega
theorem cnt_stop {p : Nat → Bool} {n m : Nat} (h : ∀ k, n ≤ k → p k = false) (hm : n ≤ m) : cnt p m = cnt p n := by
  induction m with
  | zero => have : n = 0 := by omega
            subst this; rfl
  | succ m ih =>
    by_cases e : n = m + 1
    · subst e; rfl
    · rw [cnt_succ, if_neg (by rw [h m (by omega)]; decide)]
      exact ih (by omega)
theorem tb_out {m n k : Nat} (h : m < 2 ^ n) (hk : n ≤ k) : m.testBit k = false := Nat.testBit_lt_two_pow (Nat.lt_of_lt_of_le h (Nat.pow_le_pow_right (by decide) hk))
theorem pop_n {m n : Nat} (h : m < 2 ^ n) (h8 : n ≤ 8) : pop m = cnt (fun k => m.testBit k) n := cnt_stop (fun k hk => tb_out h hk) h8
/-- a number of views as the class holds it -/
def vwi (v : Nat) : Int32 := if v ≤ 1024 then nI v else -1
def cvp (q l h i : Nat) : Nat := q ^ cnt (fun k => l.testBit k) i * (q + 1) ^ cnt (fun k => h.testBit k) i
theorem cvp_mono {q l h i j : Nat} (hq : 1 ≤ q) (hij : i ≤ j) : cvp q l h i ≤ cvp q l h j := Nat.mul_le_mul (Nat.pow_le_pow_right hq (cnt_mono _ hij)) (Nat.pow_le_pow_right (by omega) (cnt_mono _ hij))
theorem Net_countViews_l {I : HI} {r n q l h w : Nat} (e0 : I r 0 = nI n) (e1 : I r 1 = nI q) (el : I (r + 1) w = nI l) (eh : I (r + 3) w = nI h) (hl : l < 2 ^ 31) (hh : h < 2 ^ 31) (h8 : n ≤ 8) (hq2 : 2 ≤ q) (hq4 : q ≤ 4) (hw : w < 8) {Q : Int32 → Prop} (hQ : Q (vwi (cvp q l h n))) :
    ∀ d i, i + d = n → cvp q l h i ≤ 1024 → Net_countViews_l4 I r (nI w) Q (d + 1) (nI (cvp q l h i)) (nI i) := by
  intro d
  induction d with
  | zero =>
    intro i hi hb
    have : i = n := by omega
    subst this
    rw [Net_countViews_l4, e0]
    refine it (nI_le (Nat.le_refl _) (by omega)) ?_
    unfold vwi at hQ
    rw [if_pos hb] at hQ
    exact hQ
  | succ d ih =>
    intro i hi hb
    have ih := ih (i + 1) (by omega)
    rw [Net_countViews_l4, e0]
    refine ie (nI_ge (by omega) (by omega)) ⟨vin hw (by omega), ?_⟩
    have last : ∀ v, v = cvp q l h (i + 1) → v ≤ 1024 * 4 * 5 → Net_countViews_b56 I r (nI w) (nI v) (nI i) (fun x2' x3' => Net_countViews_l4 I r (nI w) Q (d + 1) x2' x3') Q := by
      intro v hv hb2
      unfold Net_countViews_b56
      rw [nlit1024, nI_1]
      refine ic (fun hc => ?_) (fun hc => ?_)
      · rw [nI_leI (by omega) (by omega)] at hc
        rw [hv]; exact ih (by omega)
      · rw [nI_leI (by omega) (by omega)] at hc
        have := cvp_mono (q := q) (l := l) (h := h) (i := i + 1) (j := n) (by omega) (by omega)
        unfold vwi at hQ
        rw [if_neg (by omega)] at hQ
        exact hQ
    have mid : ∀ v, v ≤ 1024 * 4 → v = q ^ cnt (fun k => l.testBit k) (i + 1) * (q + 1) ^ cnt (fun k => h.testBit k) i → Net_countViews_b33 I r (nI w) (nI v) (nI i) (fun x2' x3' => Net_countViews_l4 I r (nI w) Q (d + 1) x2' x3') Q := by
      intro v hv2 hv
      unfold Net_countViews_b33
      refine ⟨vin hw (by omega), ?_⟩
      rw [nx_nI (by omega), eh, e1, nI_1, nM]
      refine ic (fun hc => ?_) (fun hc => ?_)
      · rw [nBit1 hh (by omega)] at hc
        refine last _ ?_ (Nat.mul_le_mul hv2 (by omega))
        unfold cvp
        rw [cnt_succ (fun k => h.testBit k), if_pos hc, Nat.pow_succ, ← Nat.mul_assoc, hv]
      · rw [nBit1 hh (by omega)] at hc
        refine last _ ?_ (by omega)
        unfold cvp
        rw [cnt_succ (fun k => h.testBit k), if_neg hc, hv]
    rw [nx_nI (by omega), el, e1, nM]
    refine ic (fun hc => ?_) (fun hc => ?_)
    · rw [nBit1 hl (by omega)] at hc
      refine mid _ (Nat.mul_le_mul hb hq4) ?_
      rw [cnt_succ, if_pos hc, Nat.pow_succ]
      unfold cvp
      rw [Nat.mul_right_comm]
    · rw [nBit1 hl (by omega)] at hc
      refine mid _ (by omega) ?_
      rw [cnt_succ, if_neg hc]
      rfl
theorem Net_countViews_k {I : HI} {r n q l h w : Nat} (e0 : I r 0 = nI n) (e1 : I r 1 = nI q) (el : I (r + 1) w = nI l) (eh : I (r + 3) w = nI h) (hl : l < 2 ^ n) (hh : h < 2 ^ n) (h8 : n ≤ 8) (hq2 : 2 ≤ q) (hq4 : q ≤ 4) (hw : w < 8) {Q : Int32 → Prop} (hQ : Q (vwi (q ^ pop l * (q + 1) ^ pop h))) : Net_countViews I r (nI w) Q := by
  have := p2le h8
  refine ⟨n + 1, Net_countViews_l e0 e1 el eh (by omega) (by omega) h8 hq2 hq4 hw (Q := Q) ?_ n 0 (by omega) ?_⟩
  · unfold cvp; rw [← pop_n hl h8, ← pop_n hh h8]; exact hQ
  · show q ^ 0 * (q + 1) ^ 0 ≤ 1024
    rw [Nat.pow_zero, Nat.pow_zero]; decide
def ctP (r w : Nat) : Nat → Nat → Prop := fun a i => a = r + 4 ∧ i = w ∨ a = r + 7 ∧ 1024 * w ≤ i ∧ i < 1024 * w + 1024
theorem nar0 : vp_nar .byte 0 = 0 := by decide
theorem Net_clearTable_l {r w v : Nat} (hw : w < 8) (hv : v ≤ 1024) {Q : HI → Prop} {I0 : HI} : ∀ d i I, i + d = v → Fr (ctP r w) I0 I → I (r + 4) w = nI v → (∀ k, k < i → I (r + 7) (1024 * w + k) = 0) → (∀ k, I (r + 7) k = I0 (r + 7) k ∨ I (r + 7) k = 0) →
    (∀ I', Fr (ctP r w) I0 I' → (∀ k, I' (r + 7) k = I0 (r + 7) k ∨ I' (r + 7) k = 0) → I' (r + 4) w = nI v → (∀ k, k < v → I' (r + 7) (1024 * w + k) = 0) → Q I') → Net_clearTable_l13 r (nI w) Q (d + 1) I (nI i) := by
  intro d
  induction d with
  | zero =>
    intro i I hi f e hz ho h
    rw [Net_clearTable_l13, nx_nI (by omega), e]
    exact ⟨vin hw (by omega), it (nI_le (by omega) (by omega)) (h I f ho e (fun k hk => hz k (by omega)))⟩
  | succ d ih =>
    intro i I hi f e hz ho h
    rw [Net_clearTable_l13, nx_nI (by omega), e]
    refine ⟨vin hw (by omega), ie (nI_ge (by omega) (by omega)) ?_⟩
    rw [nlit1024, nM, nI_add, Nat.mul_comm w]
    refine ⟨vin (by omega) (by omega), ?_⟩
    rw [nx_nI (by omega), nI_1, nar0]
    refine ih (i + 1) _ (by omega) (f.up (Or.inr ⟨rfl, by omega, by omega⟩)) ?_ (fun k hk => ?_) (fun k => ?_) h
    · rw [up2_get, if_neg (by omega)]; exact e
    rotate_left
    · rw [up2_get]; split
      · exact Or.inr rfl
      · exact ho k
    · rw [up2_get]
      by_cases hk2 : k = i
      · rw [if_pos ⟨rfl, by omega⟩]
      · rw [if_neg (by omega)]; exact hz k (by omega)
theorem Net_clearTable_k {I : HI} {r n q l h w : Nat} (e0 : I r 0 = nI n) (e1 : I r 1 = nI q) (el : I (r + 1) w = nI l) (eh : I (r + 3) w = nI h) (hl : l < 2 ^ n) (hh : h < 2 ^ n) (h8 : n ≤ 8) (hq2 : 2 ≤ q) (hq4 : q ≤ 4) (hw : w < 8) {Q : HI → Prop}
    (hQ : ∀ I', Fr (ctP r w) I I' → (∀ k, I' (r + 7) k = I (r + 7) k ∨ I' (r + 7) k = 0) → I' (r + 4) w = vwi (q ^ pop l * (q + 1) ^ pop h) → (q ^ pop l * (q + 1) ^ pop h ≤ 1024 → ∀ k, k < q ^ pop l * (q + 1) ^ pop h → I' (r + 7) (1024 * w + k) = 0) → Q I') : Net_clearTable I r (nI w) Q := by
  unfold Net_clearTable
  refine Net_countViews_k e0 e1 el eh hl hh h8 hq2 hq4 hw ⟨vin hw (by omega), ?_⟩
  rw [nx_nI (by omega)]
  generalize q ^ pop l * (q + 1) ^ pop h = v at hQ
  unfold vwi at hQ ⊢
  by_cases hv : v ≤ 1024
  · rw [if_pos hv] at hQ ⊢
    exact ⟨v + 1, Net_clearTable_l hw hv v 0 _ (by omega) (Fr.rf.up (Or.inl ⟨rfl, rfl⟩)) (up2_same _ _ _ _) (fun k hk => by omega) (fun k => Or.inl (by rw [up2_get, if_neg (by omega)])) (fun I' f ho e hz => hQ I' f ho e (fun _ => hz))⟩
  · rw [if_neg hv] at hQ ⊢
    refine ⟨1, ?_⟩
    rw [Net_clearTable_l13, nx_nI (by omega), up2_same]
    exact ⟨vin hw (by omega), it (by decide) (hQ _ (Fr.rf.up (Or.inl ⟨rfl, rfl⟩)) (fun k => Or.inl (by rw [up2_get, if_neg (by omega)])) (up2_same _ _ _ _) (fun q => absurd q hv))⟩
