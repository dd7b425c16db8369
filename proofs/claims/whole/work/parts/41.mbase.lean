/-! the reference's small methods -/
/-- the net as the reference holds it -/
def MN (I : HI) (n q : Nat) (lk rd : Nat → Nat) : Prop :=
  I 0 1 = nI n ∧ I 0 2 = nI q ∧ (∀ w, w < n → I 2 w = nI (lk w)) ∧ (∀ w, w < n → I 3 w = nI (rd w)) ∧ 1 ≤ n ∧ n ≤ 8 ∧ 2 ≤ q ∧ q ≤ 4 ∧ (∀ w, w < n → lk w < 2 ^ n) ∧ (∀ w, w < n → rd w ≤ 7)
/-- whom wearer w hears -/
def hr (n : Nat) (rd : Nat → Nat) (w : Nat) : Nat := msk (fun k => decide (rd k < rd w)) n
theorem hr_lt (n : Nat) (rd : Nat → Nat) (w : Nat) : hr n rd w < 2 ^ n := msk_lt _ _
theorem p2le {n : Nat} (h : n ≤ 8) : 2 ^ n ≤ 256 := Nat.pow_le_pow_right (by decide) h
/-- all views of wearer w, however many -/
def vw (n q : Nat) (lk rd : Nat → Nat) (w : Nat) : Nat := q ^ pop (lk w) * (q + 1) ^ pop (hr n rd w)
theorem M_bits_ok {Q : Int32 → Prop} : ∀ m, m < 256 → ∀ v, Q (nI (v + pop m)) → ∃ nn, M_bits_l4 Q nn (nI v) (nI m) := by
  intro m
  induction m using Nat.strongRecOn with
  | _ m ih =>
    intro hm v hQ
    by_cases h0 : m = 0
    · subst h0
      refine ⟨1, ?_⟩
      rw [pop_0] at hQ
      exact it rfl hQ
    · obtain ⟨h1, h2⟩ := pop_step m hm h0
      have e : nI m &&& (nI m - 1) = nI (m &&& (m - 1)) := by rw [nlit1, nS (by omega), nAnd]
      obtain ⟨nn, h⟩ := ih _ h2 (by omega) (v + 1) (by rw [h1] at hQ; rw [show v + 1 + pop (m &&& (m - 1)) = v + (pop (m &&& (m - 1)) + 1) by omega]; exact hQ)
      refine ⟨nn + 1, ie (nI_ne0 (by omega) (by omega)) ?_⟩
      rw [e, nI_1]
      exact h
theorem M_bits_k {Q : Int32 → Prop} {m : Nat} (hm : m < 256) (h : Q (nI (pop m))) : M_bits (nI m) Q := M_bits_ok m hm 0 (by rw [Nat.zero_add]; exact h)
theorem M_all_k {I : HI} {n q : Nat} {lk rd : Nat → Nat} (N : MN I n q lk rd) {Q : Int32 → Prop} (h : Q (nI (2 ^ n - 1))) : M_all I Q := by
  unfold M_all
  have h8 := N.2.2.2.2.2.1
  rw [N.1, nShl1 n (by omega), nlit1, nS (Nat.one_le_two_pow)]
  exact h
theorem M_hears_l {I : HI} {n q : Nat} {lk rd : Nat → Nat} (N : MN I n q lk rd) {w : Nat} (hw : w < n) {Q : Int32 → Prop} (h : Q (nI (hr n rd w))) : ∀ d i, i + d = n → M_hears_l4 I (nI w) Q (d + 1) (nI (msk (fun k => decide (rd k < rd w)) i)) (nI i) := by
  obtain ⟨e1, e2, e3, e4, h1, h8, h2, h4, hl, hrd⟩ := N
  intro d
  induction d with
  | zero =>
    intro i hi
    have : i = n := by omega
    subst this
    rw [M_hears_l4, e1]
    exact it (nI_le (Nat.le_refl _) (by omega)) h
  | succ d ih =>
    intro i hi
    have ih := ih (i + 1) (by omega)
    rw [M_hears_l4, e1]
    refine ie (nI_ge (by omega) (by omega)) ⟨vin (by omega) (by omega), vin (by omega) (by omega), ?_⟩
    rw [nx_nI (by omega), nx_nI (by omega), e4 i (by omega), e4 w hw, nI_1]
    have := hrd i (by omega)
    have := hrd w hw
    rw [msk_succ] at ih
    refine ic (fun hc => ?_) (fun hc => ?_)
    · rw [nI_leI (by omega) (by omega)] at hc
      rw [if_neg (by simp; omega)] at ih
      exact ih
    · rw [nI_leI (by omega) (by omega)] at hc
      rw [if_pos (by simp; omega)] at ih
      rw [nShl1 i (by omega), nOr]
      exact ih
theorem M_hears_k {I : HI} {n q : Nat} {lk rd : Nat → Nat} (N : MN I n q lk rd) {w : Nat} (hw : w < n) {Q : Int32 → Prop} (h : Q (nI (hr n rd w))) : M_hears I (nI w) Q := ⟨n + 1, M_hears_l N hw h n 0 (by omega)⟩
/-- the number of views as the reference tells it -/
def vwc (n q : Nat) (lk rd : Nat → Nat) (w : Nat) : Nat := if vw n q lk rd w ≤ 1024 then vw n q lk rd w else 1025
theorem M_viewsOf_l2 {I : HI} {n q : Nat} {lk rd : Nat → Nat} (N : MN I n q lk rd) {w : Nat} (hw : w < n) {Q : Int32 → Prop} {a : Nat} (ha : 1 ≤ a) (ha2 : a ≤ 4096) (hQ : Q (nI (if a * (q + 1) ^ pop (hr n rd w) ≤ 1024 then a * (q + 1) ^ pop (hr n rd w) else 1025))) :
    ∀ d i, i + d = pop (hr n rd w) → a * (q + 1) ^ i ≤ 8192 → M_viewsOf_l39 I (nI w) Q (d + 1) (nI (a * (q + 1) ^ i)) (nI i) := by
  have h8 := N.2.2.2.2.2.1
  have hq4 := N.2.2.2.2.2.2.2.1
  have hq2 := N.2.2.2.2.2.2.1
  have hp := pop_le (hr n rd w)
  have hlt := hr_lt n rd w
  have h256 := p2le h8
  intro d
  induction d with
  | zero =>
    intro i hi hb
    rw [M_viewsOf_l39]
    refine M_hears_k N hw (M_bits_k (by omega) ?_)
    refine it (nI_le (by omega) (by omega)) ?_
    have e : i = pop (hr n rd w) := by omega
    subst e
    unfold M_viewsOf_b73
    refine ic (fun hc => ?_) (fun hc => ?_)
    · rw [show (1024 : Int32) = nI 1024 from rfl, nI_leI (by omega) (by omega)] at hc
      rw [if_pos hc] at hQ; exact hQ
    · rw [show (1024 : Int32) = nI 1024 from rfl, nI_leI (by omega) (by omega)] at hc
      rw [if_neg hc] at hQ; exact hQ
  | succ d ih =>
    intro i hi hb
    rw [M_viewsOf_l39]
    refine M_hears_k N hw (M_bits_k (by omega) ?_)
    refine ie (nI_ge (by omega) (by omega)) ?_
    refine ic (fun hc => ?_) (fun hc => ?_)
    · rw [show (1024 : Int32) = nI 1024 from rfl, nI_ltI (by omega) (by omega)] at hc
      have hle : a * (q + 1) ^ i ≤ a * (q + 1) ^ pop (hr n rd w) := Nat.mul_le_mul_left _ (Nat.pow_le_pow_right (by omega) (by omega))
      rw [if_neg (by omega)] at hQ
      unfold M_viewsOf_b73
      refine ie (fun h => ?_) hQ
      rw [show (1024 : Int32) = nI 1024 from rfl, nI_leI (by omega) (by omega)] at h
      omega
    · rw [show (1024 : Int32) = nI 1024 from rfl, nI_ltI (by omega) (by omega)] at hc
      rw [N.2.1, nI_1, nM, nI_1]
      have e : a * (q + 1) ^ i * (q + 1) = a * (q + 1) ^ (i + 1) := by rw [Nat.pow_succ, Nat.mul_assoc]
      rw [e]
      refine ih (i + 1) (by omega) ?_
      rw [← e]
      have : a * (q + 1) ^ i * (q + 1) ≤ 1024 * 5 := Nat.mul_le_mul (by omega) (by omega)
      omega
theorem M_viewsOf_l1 {I : HI} {n q : Nat} {lk rd : Nat → Nat} (N : MN I n q lk rd) {w : Nat} (hw : w < n) {Q : Int32 → Prop} (hQ : Q (nI (vwc n q lk rd w))) :
    ∀ d i, i + d = pop (lk w) → q ^ i ≤ 4096 → M_viewsOf_l4 I (nI w) Q (d + 1) (nI (q ^ i)) (nI i) := by
  have h8 := N.2.2.2.2.2.1
  have hq4 := N.2.2.2.2.2.2.2.1
  have hq2 := N.2.2.2.2.2.2.1
  have hp := pop_le (lk w)
  have hlt := N.2.2.2.2.2.2.2.2.1 w hw
  have h256 := p2le h8
  have two : ∀ i, i ≤ pop (lk w) → q ^ i ≤ 4096 → (i < pop (lk w) → 1024 < q ^ i) → ∃ nn, M_viewsOf_l39 I (nI w) Q nn (nI (q ^ i)) 0 := by
    intro i hi hb hc
    refine ⟨pop (hr n rd w) + 1, ?_⟩
    have h1 : 1 ≤ q ^ i := Nat.le_trans Nat.one_le_two_pow (Nat.pow_le_pow_left hq2 i)
    have := M_viewsOf_l2 N hw (Q := Q) (a := q ^ i) h1 hb ?_ (pop (hr n rd w)) 0 (by omega) (by rw [Nat.pow_zero]; omega)
    · rw [Nat.pow_zero, Nat.mul_one] at this; exact this
    · have ep : 1 ≤ (q + 1) ^ pop (hr n rd w) := Nat.le_trans Nat.one_le_two_pow (Nat.pow_le_pow_left (by omega) _)
      by_cases e : i = pop (lk w)
      · subst e
        unfold vwc vw at hQ
        exact hQ
      · have h5 := hc (by omega)
        have h6 : q ^ i * 1 ≤ q ^ i * (q + 1) ^ pop (hr n rd w) := Nat.mul_le_mul_left _ ep
        have h7 : q ^ i ≤ q ^ pop (lk w) := Nat.pow_le_pow_right (by omega) hi
        have h9 : q ^ pop (lk w) * 1 ≤ q ^ pop (lk w) * (q + 1) ^ pop (hr n rd w) := Nat.mul_le_mul_left _ ep
        rw [if_neg (by omega)]
        unfold vwc vw at hQ
        rw [if_neg (by omega)] at hQ
        exact hQ
  intro d
  induction d with
  | zero =>
    intro i hi hb
    rw [M_viewsOf_l4]
    refine ⟨vin (by omega) (by omega), ?_⟩
    rw [nx_nI (by omega), N.2.2.1 w hw]
    refine M_bits_k (by omega) (it (nI_le (by omega) (by omega)) (two i (by omega) hb (by omega)))
  | succ d ih =>
    intro i hi hb
    rw [M_viewsOf_l4]
    refine ⟨vin (by omega) (by omega), ?_⟩
    rw [nx_nI (by omega), N.2.2.1 w hw]
    refine M_bits_k (by omega) (ie (nI_ge (by omega) (by omega)) ?_)
    refine ic (fun hc => ?_) (fun hc => ?_)
    · rw [show (1024 : Int32) = nI 1024 from rfl, nI_ltI (by omega) (by omega)] at hc
      exact two i (by omega) hb (fun _ => hc)
    · rw [show (1024 : Int32) = nI 1024 from rfl, nI_ltI (by omega) (by omega)] at hc
      rw [N.2.1, nM, nI_1, ← Nat.pow_succ]
      refine ih (i + 1) (by omega) ?_
      rw [Nat.pow_succ]
      have : q ^ i * q ≤ 1024 * 4 := Nat.mul_le_mul (by omega) (by omega)
      omega
theorem M_viewsOf_k {I : HI} {n q : Nat} {lk rd : Nat → Nat} (N : MN I n q lk rd) {w : Nat} (hw : w < n) {Q : Int32 → Prop} (hQ : Q (nI (vwc n q lk rd w))) : M_viewsOf I (nI w) Q :=
  ⟨pop (lk w) + 1, M_viewsOf_l1 N hw hQ (pop (lk w)) 0 (by omega) (by rw [Nat.pow_zero]; decide)⟩
