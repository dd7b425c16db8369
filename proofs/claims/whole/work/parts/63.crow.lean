/-! the class in a row: hats, views, sums -/
theorem Sc_dress_k {I : HI} {r r1 n q row : Nat} (e1 : I r1 0 = nI n) (e2 : I r1 1 = nI q) (hne : r + 1 ≠ r1) (h8 : n ≤ 8) (h2 : 2 ≤ q) (h4 : q ≤ 4) (hr : row < 2 ^ 31) {Q : HI → Prop} (h : ∀ I', Fr (fun b _ => b = r + 1) I I' → (∀ w, w < n → I' (r + 1) w = nI (row / q ^ w % q)) → Q I') : Sc_dress I r r1 (nI row) Q := by
  have key : ∀ d i J, i + d = n → Fr (fun b _ => b = r + 1) I J → (∀ w, w < i → J (r + 1) w = nI (row / q ^ w % q)) → Sc_dress_l5 r r1 Q (d + 1) J (nI (row / q ^ i)) (nI i) := by
    intro d
    induction d with
    | zero =>
      intro i J hi f hh
      have : i = n := by omega
      subst this
      rw [Sc_dress_l5, (f _ _ (by omega)).trans e1]
      exact it (nI_le (Nat.le_refl _) (by omega)) (h J f hh)
    | succ d ih =>
      intro i J hi f hh
      have hd : row / q ^ i < 2 ^ 31 := Nat.lt_of_le_of_lt (Nat.div_le_self _ _) hr
      have q0 : ¬ nI q = 0 := nI_ne0 (by omega) (by omega)
      rw [Sc_dress_l5, (f _ _ (by omega)).trans e1]
      refine ie (nI_ge (by omega) (by omega)) ?_
      rw [up2_get, if_neg (by omega), (f r1 1 (by omega)).trans e2, nRem hd (by omega), nDiv hd (by omega), nx_nI (by omega), nI_1, Nat.div_div_eq_div_mul, ← Nat.pow_succ]
      refine ⟨q0, vin (by omega) (by omega), q0, ih (i + 1) _ (by omega) (f.up rfl) (fun w hw => ?_)⟩
      rw [up2_get]
      by_cases e : w = i
      · rw [if_pos ⟨rfl, e⟩, e]
      · rw [if_neg (by omega)]; exact hh w (by omega)
  have := key n 0 I (by omega) Fr.rf (fun w hw => by omega)
  rw [Nat.pow_zero, Nat.div_one] at this
  exact ⟨n + 1, this⟩
/-- the class in a row: its net at r1, its scene at r, what w hears -/
def CRow (I : HI) (r r1 : Nat) (a : AN) (h g : Nat → Nat) (w : Nat) : Prop := CN I r1 a ∧ (∀ k, k < an a → I (r + 1) k = nI (h k)) ∧ ∀ k, k < an a → ard a k < ard a w → I (r + 2) k = nI (g k)
theorem dig_stop {m b i n : Nat} {d : Nat → Nat} {s : Nat × Nat} (h : m < 2 ^ i) (hi : i ≤ n) : dig m b n d s = dig m b i d s := by
  induction n with
  | zero => have : i = 0 := by omega
            subst this; rfl
  | succ n ih =>
    by_cases e : i = n + 1
    · subst e; rfl
    · rw [dig_succ, if_neg (by rw [tb_out h (by omega)]; decide)]
      exact ih (by omega)
theorem half {m i : Nat} (hm : m < 2 ^ 31) : nI (m / 2 ^ i) >>> ((1 : Int32) &&& 31) = nI (m / 2 ^ (i + 1)) := by
  have hd : m / 2 ^ i < 2 ^ 31 := Nat.lt_of_le_of_lt (Nat.div_le_self _ _) hm
  have := nShr (a := m / 2 ^ i) (k := 1) hd (by omega)
  rw [show (nI 1 : Int32) = 1 from rfl] at this
  rw [this, Nat.div_div_eq_div_mul, ← Nat.pow_add]
theorem low1 {m i : Nat} : (nI (m / 2 ^ i) &&& 1 = 1) ↔ m.testBit i = true := by
  rw [nlit1, nAnd, Nat.and_one_is_mod, Nat.testBit_eq_decide_div_mod_eq]
  have := Nat.mod_two_eq_zero_or_one (m / 2 ^ i)
  rw [nI_eq (by omega) (by omega)]
  simp
theorem gone {m i : Nat} (hm : m < 2 ^ 31) : nI (m / 2 ^ i) = 0 ↔ m < 2 ^ i := by
  have hd : m / 2 ^ i < 2 ^ 31 := Nat.lt_of_le_of_lt (Nat.div_le_self _ _) hm
  rw [nlit0, nI_eq hd (by omega), Nat.div_eq_zero_iff]
  have := Nat.two_pow_pos i
  omega
theorem Sc_viewOf_k {I : HI} {r r1 : Nat} {a : AN} {h g : Nat → Nat} {w : Nat} (W : WF a) (C : CRow I r r1 a h g w) (hw : w < an a) {Q : Int32 → Prop} (hq : Q (nI (view a h g w))) : Sc_viewOf I r r1 (nI w) Q := by
  obtain ⟨N, c1, c2⟩ := C
  have n8 := W.2.1
  have h256 := p2le n8
  have hl := (W.2.2.2.2.2 w hw).1
  have hrl : ahr a w < 2 ^ an a := hr_lt (an a) (ard a) w
  have key2 : ∀ s0 : Nat × Nat, Q (nI (dig (ahr a w) (aq a + 1) (an a) g s0).1) → ∀ d i, i + d = an a → Sc_viewOf_l83 I r r1 Q (d + 1) (nI (dig (ahr a w) (aq a + 1) i g s0).1) (nI (dig (ahr a w) (aq a + 1) i g s0).2) (nI (ahr a w / 2 ^ i)) (nI i) := by
    intro s0 hQ d
    induction d with
    | zero =>
      intro i hi
      have : i = an a := by omega
      subst this
      rw [Sc_viewOf_l83, N.1]
      exact it (nI_le (Nat.le_refl _) (by omega)) hQ
    | succ d ih =>
      intro i hi
      have ih := ih (i + 1) (by omega)
      rw [dig_succ] at ih
      rw [Sc_viewOf_l83, N.1]
      refine ie (nI_ge (by omega) (by omega)) (ic (fun hz => ?_) (fun hz => ic (fun hc => ?_) (fun hc => ?_)))
      · rw [gone (by omega)] at hz
        rw [dig_stop hz (by omega)] at hQ; exact hQ
      · rw [low1] at hc
        rw [if_pos hc] at ih
        unfold Sc_viewOf_b129
        refine ⟨vin (by omega) (by omega), ?_⟩
        rw [nx_nI (by omega), c2 i (by omega) ((ahr_bit a w i).mp hc).2, N.2.1, nI_1, nI_1, nM, nI_add, nM, half (by omega)]
        exact ih
      · rw [low1] at hc
        rw [if_neg hc] at ih
        unfold Sc_viewOf_b129
        rw [nI_1, half (by omega)]
        exact ih
  have b72 : ∀ i, (dig (alk a w) (aq a) (an a) h (0, 1)) = (dig (alk a w) (aq a) i h (0, 1)) → Sc_viewOf_b72 I r r1 (nI w) (nI (dig (alk a w) (aq a) i h (0, 1)).1) (nI (dig (alk a w) (aq a) i h (0, 1)).2) Q := by
    intro i e
    unfold Sc_viewOf_b72
    rw [← e, nx_nI (by omega), N.2.2.2.2.2.1 w hw]
    have := key2 _ hq (an a) 0 (by omega)
    rw [Nat.pow_zero, Nat.div_one] at this
    exact ⟨vin (by omega) (by omega), an a + 1, this⟩
  have key1 : ∀ d i, i + d = an a → Sc_viewOf_l16 I r r1 (nI w) Q (d + 1) (nI (dig (alk a w) (aq a) i h (0, 1)).1) (nI (dig (alk a w) (aq a) i h (0, 1)).2) (nI (alk a w / 2 ^ i)) (nI i) := by
    intro d
    induction d with
    | zero =>
      intro i hi
      have : i = an a := by omega
      subst this
      rw [Sc_viewOf_l16, N.1]
      exact it (nI_le (Nat.le_refl _) (by omega)) (b72 _ rfl)
    | succ d ih =>
      intro i hi
      have ih := ih (i + 1) (by omega)
      rw [dig_succ] at ih
      rw [Sc_viewOf_l16, N.1]
      refine ie (nI_ge (by omega) (by omega)) (ic (fun hz => ?_) (fun hz => ic (fun hc => ?_) (fun hc => ?_)))
      · rw [gone (by omega)] at hz
        exact b72 i (dig_stop hz (by omega))
      · rw [low1] at hc
        rw [if_pos hc] at ih
        unfold Sc_viewOf_b60
        refine ⟨vin (by omega) (by omega), ?_⟩
        rw [nx_nI (by omega), c1 i (by omega), N.2.1, nI_1, nM, nI_add, nM, half (by omega)]
        exact ih
      · rw [low1] at hc
        rw [if_neg hc] at ih
        unfold Sc_viewOf_b60
        rw [nI_1, half (by omega)]
        exact ih
  unfold Sc_viewOf
  rw [nx_nI (by omega), N.2.2.2.1 w hw]
  have := key1 (an a) 0 (by omega)
  rw [Nat.pow_zero, Nat.div_one] at this
  exact ⟨vin (by omega) (by omega), an a + 1, this⟩
theorem sumo_stop {m n j : Nat} {d : Nat → Nat} (h : m < 2 ^ n) (hj : n ≤ j) : sumo m j d = sumo m n d := by
  induction j with
  | zero => have : n = 0 := by omega
            subst this; rfl
  | succ j ih =>
    by_cases e : n = j + 1
    · subst e; rfl
    · rw [sumo_succ, if_neg (by rw [tb_out h (by omega)]; decide)]
      exact ih (by omega)
theorem Frm_sum_k {I : HI} {b m n : Nat} {d : Nat → Nat} (h8 : n ≤ 8) (hm : m < 2 ^ n) (hd : ∀ k, k < n → m.testBit k = true → I b k = nI (d k)) {Q : Int32 → Prop} (h : Q (nI (sumo m n d))) : Frm_sumOf I b (nI m) Q := by
  have h256 := p2le h8
  have key : ∀ e i, i + e = 8 → Frm_sumOf_l4 I b (nI m) Q (e + 1) (nI (sumo m i d)) (nI i) := by
    intro e
    induction e with
    | zero =>
      intro i hi
      have : i = 8 := by omega
      subst this
      rw [Frm_sumOf_l4, nlit8]
      rw [← sumo_stop (j := 8) hm h8] at h
      exact it (nI_le (Nat.le_refl _) (by omega)) h
    | succ e ih =>
      intro i hi
      have ih := ih (i + 1) (by omega)
      rw [sumo_succ] at ih
      rw [Frm_sumOf_l4, nlit8]
      refine ie (nI_ge (by omega) (by omega)) (ic (fun hc => ?_) (fun hc => ?_))
      · rw [nBit1 (by omega) (by omega)] at hc
        rw [if_pos hc] at ih
        have hin : i < n := by
          by_cases h9 : i < n
          · exact h9
          · rw [tb_out hm (by omega)] at hc; cases hc
        refine ⟨vin (by omega) (by omega), ?_⟩
        rw [nx_nI (by omega), hd i hin hc, nI_add, nI_1]; exact ih
      · rw [nBit1 (by omega) (by omega)] at hc
        rw [if_neg hc] at ih
        rw [nI_1]; exact ih
  exact ⟨9, key 8 0 (by omega)⟩
theorem sumo_one {m t : Nat} {d : Nat → Nat} : ∀ n, t < n → sumo (m &&& 2 ^ t) n d = if m.testBit t then d t else 0
  | 0, h => by omega
  | n + 1, h => by
    rw [sumo_succ]
    have bit : (m &&& 2 ^ t).testBit n = (m.testBit n && decide (t = n)) := by rw [Nat.testBit_and, Nat.testBit_two_pow]
    by_cases e : t = n
    · subst e
      have z : sumo (m &&& 2 ^ t) t d = 0 := by
        have key : ∀ j, j ≤ t → sumo (m &&& 2 ^ t) j d = 0 := by
          intro j
          induction j with
          | zero => intro _; rfl
          | succ j ih =>
            intro hj
            rw [sumo_succ, Nat.testBit_and, Nat.testBit_two_pow, if_neg (by simp; omega)]
            exact ih (by omega)
        exact key t (Nat.le_refl _)
      rw [bit, z]
      by_cases hb : m.testBit t = true
      · simp [hb]
      · simp [hb]
    · rw [bit, if_neg (by simp [e])]
      exact sumo_one n (by omega)
