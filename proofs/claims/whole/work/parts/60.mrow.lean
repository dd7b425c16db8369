/-! the reference in a row: hats, views, values, guesses -/
theorem M_wears_k {I : HI} {n q r : Nat} (e1 : I 0 1 = nI n) (e2 : I 0 2 = nI q) (h8 : n ≤ 8) (h2 : 2 ≤ q) (h4 : q ≤ 4) (hr : r < 2 ^ 31) {Q : HI → Prop} (h : ∀ I', Fr (fun b _ => b = 17) I I' → (∀ w, w < n → I' 17 w = nI (r / q ^ w % q)) → Q I') : M_wears I (nI r) Q := by
  have key : ∀ d i J, i + d = n → Fr (fun b _ => b = 17) I J → (∀ w, w < i → J 17 w = nI (r / q ^ w % q)) → M_wears_l4 Q (d + 1) J (nI (r / q ^ i)) (nI i) := by
    intro d
    induction d with
    | zero =>
      intro i J hi f hh
      have : i = n := by omega
      subst this
      rw [M_wears_l4, (f _ _ (by omega)).trans e1]
      exact it (nI_le (Nat.le_refl _) (by omega)) (h J f hh)
    | succ d ih =>
      intro i J hi f hh
      have hd : r / q ^ i < 2 ^ 31 := Nat.lt_of_le_of_lt (Nat.div_le_self _ _) hr
      have q0 : ¬ nI q = 0 := nI_ne0 (by omega) (by omega)
      rw [M_wears_l4, (f _ _ (by omega)).trans e1]
      refine ie (nI_ge (by omega) (by omega)) ?_
      rw [up2_get, if_neg (by omega), (f 0 2 (by omega)).trans e2, nRem hd (by omega), nDiv hd (by omega), nx_nI (by omega), nI_1, Nat.div_div_eq_div_mul, ← Nat.pow_succ]
      refine ⟨q0, vin (by omega) (by omega), q0, ih (i + 1) _ (by omega) (f.up rfl) (fun w hw => ?_)⟩
      rw [up2_get]
      by_cases e : w = i
      · rw [if_pos ⟨rfl, e⟩, e]
      · rw [if_neg (by omega)]; exact hh w (by omega)
  have := key n 0 I (by omega) Fr.rf (fun w hw => by omega)
  rw [Nat.pow_zero, Nat.div_one] at this
  exact ⟨n + 1, this⟩
/-- the reference in a row: its net, the hats, the guesses heard by w -/
def MRow (I : HI) (a : AN) (h g : Nat → Nat) (w : Nat) : Prop := RepM I a ∧ (∀ k, k < an a → I 17 k = nI (h k)) ∧ ∀ k, k < an a → ard a k < ard a w → I 18 k = nI (g k)
theorem MRow.fr {I I' : HI} {a : AN} {h g : Nat → Nat} {w : Nat} (M : MRow I a h g w) (f : Fr (fun b _ => b = 19) I I') : MRow I' a h g w :=
  ⟨M.1.eq (fun b i hb => f _ _ (by omega)), fun k hk => (f _ _ (by omega)).trans (M.2.1 k hk), fun k hk hr => (f _ _ (by omega)).trans (M.2.2 k hk hr)⟩
theorem dig_succ (m b n : Nat) (d : Nat → Nat) (s : Nat × Nat) : dig m b (n + 1) d s = if m.testBit n then ((dig m b n d s).1 + d n * (dig m b n d s).2, (dig m b n d s).2 * b) else dig m b n d s := rfl
theorem M_viewOf_k {I : HI} {a : AN} {h g : Nat → Nat} {w : Nat} (W : WF a) (M : MRow I a h g w) (hw : w < an a) {Q : Int32 → Prop} (hq : Q (nI (view a h g w))) : M_viewOf I (nI w) Q := by
  obtain ⟨R, m1, m2⟩ := M
  have n8 := W.2.1
  have h256 := p2le n8
  have hl := (W.2.2.2.2.2 w hw).1
  have hrl := hr_lt (an a) (ard a) w
  have key2 : ∀ s0 : Nat × Nat, Q (nI (dig (ahr a w) (aq a + 1) (an a) g s0).1) → ∀ d i, i + d = an a → M_viewOf_l68 I (nI (ahr a w)) Q (d + 1) (nI (dig (ahr a w) (aq a + 1) i g s0).1) (nI (dig (ahr a w) (aq a + 1) i g s0).2) (nI i) := by
    intro s0 hQ d
    induction d with
    | zero =>
      intro i hi
      have : i = an a := by omega
      subst this
      rw [M_viewOf_l68, R.1.1]
      exact it (nI_le (Nat.le_refl _) (by omega)) hQ
    | succ d ih =>
      intro i hi
      have ih := ih (i + 1) (by omega)
      rw [dig_succ] at ih
      rw [M_viewOf_l68, R.1.1]
      refine ie (nI_ge (by omega) (by omega)) (ic (fun hc => ?_) (fun hc => ?_))
      · rw [nBit0 (by unfold ahr; omega) (by omega)] at hc
        rw [if_neg (by rw [hc]; decide)] at ih
        rw [nI_1]; exact ih
      · rw [nBit0 (by unfold ahr; omega) (by omega)] at hc
        have hc : (ahr a w).testBit i = true := by cases e : (ahr a w).testBit i; exact absurd e hc; rfl
        rw [if_pos hc] at ih
        refine ⟨vin (by omega) (by omega), ?_⟩
        rw [nx_nI (by omega), m2 i (by omega) ((ahr_bit a w i).mp hc).2, R.1.2.1, nI_1, nI_1, nM, nI_add, nM, Nat.mul_comm _ (g i)]
        exact ih
  have key1 : ∀ d i, i + d = an a → M_viewOf_l7 I (nI w) Q (d + 1) (nI (dig (alk a w) (aq a) i h (0, 1)).1) (nI (dig (alk a w) (aq a) i h (0, 1)).2) (nI i) := by
    intro d
    induction d with
    | zero =>
      intro i hi
      have : i = an a := by omega
      subst this
      rw [M_viewOf_l7, R.1.1]
      exact it (nI_le (Nat.le_refl _) (by omega)) (M_hears_k R.1 hw ⟨an a + 1, key2 _ hq (an a) 0 (by omega)⟩)
    | succ d ih =>
      intro i hi
      have ih := ih (i + 1) (by omega)
      rw [dig_succ] at ih
      rw [M_viewOf_l7, R.1.1, nx_nI (by omega), R.1.2.2.1 w hw]
      refine ie (nI_ge (by omega) (by omega)) ⟨vin (by omega) (by omega), ic (fun hc => ?_) (fun hc => ?_)⟩
      · rw [nBit0 (by omega) (by omega)] at hc
        rw [if_neg (by rw [hc]; decide)] at ih
        rw [nI_1]; exact ih
      · rw [nBit0 (by omega) (by omega)] at hc
        have hc : (alk a w).testBit i = true := by cases e : (alk a w).testBit i; exact absurd e hc; rfl
        rw [if_pos hc] at ih
        refine ⟨vin (by omega) (by omega), ?_⟩
        rw [nx_nI (by omega), m1 i (by omega), R.1.2.1, nI_1, nM, nI_add, nM, Nat.mul_comm _ (h i)]
        exact ih
  exact ⟨an a + 1, key1 (an a) 0 (by omega)⟩
theorem sumo_succ (m n : Nat) (d : Nat → Nat) : sumo m (n + 1) d = if m.testBit n then sumo m n d + d n else sumo m n d := rfl
theorem M_sum_k {I : HI} {n b m : Nat} {d : Nat → Nat} (e1 : I 0 1 = nI n) (h8 : n ≤ 8) (hm : m < 2 ^ 31) (hd : ∀ k, k < n → m.testBit k = true → I b k = nI (d k)) {Q : Int32 → Prop} (h : Q (nI (sumo m n d))) : M_sum I b (nI m) Q := by
  have key : ∀ e i, i + e = n → M_sum_l5 I b (nI m) Q (e + 1) (nI (sumo m i d)) (nI i) := by
    intro e
    induction e with
    | zero =>
      intro i hi
      have : i = n := by omega
      subst this
      rw [M_sum_l5, e1]
      exact it (nI_le (Nat.le_refl _) (by omega)) h
    | succ e ih =>
      intro i hi
      have ih := ih (i + 1) (by omega)
      rw [sumo_succ] at ih
      rw [M_sum_l5, e1]
      refine ie (nI_ge (by omega) (by omega)) (ic (fun hc => ?_) (fun hc => ?_))
      · rw [nBit1 hm (by omega)] at hc
        rw [if_pos hc] at ih
        refine ⟨vin (by omega) (by omega), ?_⟩
        rw [nx_nI (by omega), hd i (by omega) hc, nI_add, nI_1]; exact ih
      · rw [nBit1 hm (by omega)] at hc
        rw [if_neg hc] at ih
        rw [nlit0, nI_add, nI_1]; exact ih
  exact ⟨n + 1, key n 0 (by omega)⟩
theorem M_valueOf_k {I : HI} {a : AN} {h g : Nat → Nat} {w x : Nat} (W : WF a) (M : MRow I a h g w) (hw : w < an a) (hx : vok (an a) x) {Q : Int32 → Prop} (hq : Q (nI (valo a h g w x))) : M_valueOf I (nI w) (nI x) Q := by
  obtain ⟨R, m1, m2⟩ := M
  have n8 := W.2.1
  have h256 := p2le n8
  have hl := (W.2.2.2.2.2 w hw).1
  have hrl := hr_lt (an a) (ard a) w
  have hrl2 : ahr a w < 2 ^ an a := hrl
  obtain ⟨v1, v2, v3⟩ := hx
  have hx31 : x < 2 ^ 31 := by omega
  unfold M_valueOf
  rw [show (16 : Int32) = nI 16 from rfl, nRem hx31 (by omega), nDiv hx31 (by omega)]
  have cmp : ∀ k, k < 16 → (nI (x % 16) = (nI k) ↔ x % 16 = k) := fun k hk => nI_eq (by omega) (by omega)
  rw [show (6 : Int32) = nI 6 from rfl, show (7 : Int32) = nI 7 from rfl, show (8 : Int32) = nI 8 from rfl, show (9 : Int32) = nI 9 from rfl, show (10 : Int32) = nI 10 from rfl, show (11 : Int32) = nI 11 from rfl]
  unfold valo at hq
  by_cases c6 : x % 16 = 6
  · rw [if_pos c6] at hq; exact it ((cmp 6 (by omega)).mpr c6) hq
  rw [if_neg c6] at hq; refine ie (fun q => c6 ((cmp 6 (by omega)).mp q)) ?_
  by_cases c7 : x % 16 = 7
  · rw [if_pos c7] at hq; rw [R.1.1]; exact it ((cmp 7 (by omega)).mpr c7) hq
  rw [if_neg c7] at hq; refine ie (fun q => c7 ((cmp 7 (by omega)).mp q)) ?_
  by_cases c8 : x % 16 = 8
  · rw [if_pos c8] at hq; rw [R.1.2.1]; exact it ((cmp 8 (by omega)).mpr c8) hq
  rw [if_neg c8] at hq; refine ie (fun q => c8 ((cmp 8 (by omega)).mp q)) ?_
  by_cases c9 : x % 16 = 9
  · rw [if_pos c9] at hq
    refine it ((cmp 9 (by omega)).mpr c9) ⟨vin (by omega) (by omega), ?_⟩
    rw [nx_nI (by omega), R.1.2.2.1 w hw]
    refine ic (fun hc => ?_) (fun hc => ?_)
    · rw [nBit1 (by omega) (by omega)] at hc
      rw [if_pos hc] at hq
      refine ⟨vin (by omega) (by omega), ?_⟩
      rw [nx_nI (by omega), m1 _ v3]; exact hq
    · rw [nBit1 (by omega) (by omega)] at hc
      rw [if_neg hc] at hq; exact hq
  rw [if_neg c9] at hq; refine ie (fun q => c9 ((cmp 9 (by omega)).mp q)) ?_
  by_cases c10 : x % 16 = 10
  · rw [if_pos c10] at hq
    refine it ((cmp 10 (by omega)).mpr c10) (M_hears_k R.1 hw (ic (fun hc => ?_) (fun hc => ?_)))
    · rw [nBit1 (by omega) (by omega)] at hc
      have hc : (ahr a w).testBit (x / 16) = true := hc
      rw [if_pos hc] at hq
      refine ⟨vin (by omega) (by omega), ?_⟩
      rw [nx_nI (by omega), m2 _ v3 ((ahr_bit a w _).mp hc).2]; exact hq
    · rw [nBit1 (by omega) (by omega)] at hc
      have hc : ¬ (ahr a w).testBit (x / 16) = true := hc
      rw [if_neg hc] at hq; exact hq
  rw [if_neg c10] at hq; refine ie (fun q => c10 ((cmp 10 (by omega)).mp q)) ?_
  by_cases c11 : x % 16 = 11
  · rw [if_pos c11] at hq
    refine it ((cmp 11 (by omega)).mpr c11) ⟨vin (by omega) (by omega), ?_⟩
    rw [nx_nI (by omega), R.1.2.2.1 w hw]
    exact M_sum_k R.1.1 n8 (by omega) (fun k hk _ => m1 k hk) hq
  rw [if_neg c11] at hq; refine ie (fun q => c11 ((cmp 11 (by omega)).mp q)) ?_
  exact M_hears_k R.1 hw (M_sum_k R.1.1 n8 (by omega) (fun k hk hb => m2 k hk ((ahr_bit a w k).mp hb).2) hq)
theorem M_works_k {o : Nat} (h4 : 4 ≤ o) (h11 : o ≤ 11) {x y : Int32} {Q : Int32 → Prop} (hq : Q (bin o x y)) : M_works (nI o) x y Q := by
  unfold M_works
  unfold bin at hq
  rcases (show o = 4 ∨ o = 5 ∨ o = 6 ∨ o = 7 ∨ o = 8 ∨ o = 9 ∨ o = 10 ∨ o = 11 by omega) with rfl | rfl | rfl | rfl | rfl | rfl | rfl | rfl
  · refine it rfl (ic (fun hx => ?_) (fun hx => ic (fun hy => ?_) (fun hy => ?_)))
    · simp [hx] at hq; exact hq
    · simp [hy] at hq; exact hq
    · simp [hx, hy] at hq; exact hq
  · refine ie (by decide) (it rfl (ic (fun hx => ic (fun hy => ?_) (fun hy => ?_)) (fun hx => ?_)))
    · simp [hx, hy] at hq; exact hq
    · simp [hy] at hq; exact hq
    · simp [hx] at hq; exact hq
  · refine ie (by decide) (ie (by decide) (it rfl (ic (fun hc => ?_) (fun hc => ?_))))
    · have : ¬ x < y := fun q => nle_of_lt q hc
      simp [this] at hq; exact hq
    · have : x < y := lt_of_nle hc
      simp [this] at hq; exact hq
  · refine ie (by decide) (ie (by decide) (ie (by decide) (it rfl (ic (fun hc => ?_) (fun hc => ?_)))))
    · simp [hc] at hq; exact hq
    · simp [hc] at hq; exact hq
  · exact ie (by decide) (ie (by decide) (ie (by decide) (ie (by decide) (it rfl hq))))
  · exact ie (by decide) (ie (by decide) (ie (by decide) (ie (by decide) (ie (by decide) (it rfl hq)))))
  · exact ie (by decide) (ie (by decide) (ie (by decide) (ie (by decide) (ie (by decide) (ie (by decide) (it rfl hq))))))
  · refine ie (by decide) (ie (by decide) (ie (by decide) (ie (by decide) (ie (by decide) (ie (by decide) (ie (by decide) (ic (fun hc => ?_) (fun hc => ⟨hc, ?_⟩))))))))
    · simp [hc] at hq; exact hq
    · simp [hc] at hq; exact hq
