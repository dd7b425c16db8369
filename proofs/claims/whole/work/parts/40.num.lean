/-! numbers: Int32 and Nat -/
theorem nM (a b : Nat) : nI a * nI b = nI (a * b) := (Int32.ofNat_mul a b).symm
theorem nS {a b : Nat} (h : b ≤ a) : nI a - nI b = nI (a - b) := by
  have e : nI a = nI (a - b) + nI b := by rw [nI_add, Nat.sub_add_cancel h]
  rw [e, Int32.add_sub_cancel]
theorem nAnd (a b : Nat) : nI a &&& nI b = nI (a &&& b) := by
  apply Int32.toBitVec_inj.mp
  rw [Int32.toBitVec_and]
  show BitVec.ofNat 32 a &&& BitVec.ofNat 32 b = BitVec.ofNat 32 (a &&& b)
  apply BitVec.eq_of_getLsbD_eq
  intro i hi
  simp [hi, Nat.testBit_and]
theorem nOr (a b : Nat) : nI a ||| nI b = nI (a ||| b) := by
  apply Int32.toBitVec_inj.mp
  rw [Int32.toBitVec_or]
  show BitVec.ofNat 32 a ||| BitVec.ofNat 32 b = BitVec.ofNat 32 (a ||| b)
  apply BitVec.eq_of_getLsbD_eq
  intro i hi
  simp [hi, Nat.testBit_or]
theorem nXor (a b : Nat) : nI a ^^^ nI b = nI (a ^^^ b) := by
  apply Int32.toBitVec_inj.mp
  rw [Int32.toBitVec_xor]
  show BitVec.ofNat 32 a ^^^ BitVec.ofNat 32 b = BitVec.ofNat 32 (a ^^^ b)
  apply BitVec.eq_of_getLsbD_eq
  intro i hi
  simp [hi, Nat.testBit_xor]
theorem nDiv {a b : Nat} (ha : a < 2 ^ 31) (hb : b < 2 ^ 31) : nI a / nI b = nI (a / b) := by
  apply Int32.toInt_inj.mp
  have h : a / b < 2 ^ 31 := Nat.lt_of_le_of_lt (Nat.div_le_self a b) ha
  generalize hq : a / b = t at h ⊢
  rw [Int32.toInt_div, nI_toInt ha, nI_toInt hb, nI_toInt h, ← Int.ofNat_tdiv, hq, Int.bmod_eq_of_le (by omega) (by omega)]
theorem nRem {a b : Nat} (ha : a < 2 ^ 31) (hb : b < 2 ^ 31) : irm (nI a) (nI b) = nI (a % b) := by
  show nI a - nI a / nI b * nI b = _
  rw [nDiv ha hb, nM, nS (Nat.div_mul_le_self a b)]
  congr 1
  have := Nat.div_add_mod a b
  rw [Nat.mul_comm] at this
  omega
theorem nShl1 : ∀ k, k < 32 → (1 : Int32) <<< (nI k &&& 31) = nI (2 ^ k) := by decide +kernel
theorem nSh : ∀ k, k < 32 → ((nI k &&& 31).toBitVec.smod 32).toNat = k := by decide +kernel
theorem nShr {a k : Nat} (ha : a < 2 ^ 31) (hk : k < 32) : nI a >>> (nI k &&& 31) = nI (a / 2 ^ k) := by
  apply Int32.toBitVec_inj.mp
  rw [Int32.toBitVec_shiftRight]
  have h : ((nI k &&& 31).toBitVec.smod 32).toNat = k := nSh k hk
  apply BitVec.eq_of_toNat_eq
  rw [BitVec.sshiftRight_eq', h]
  rw [BitVec.toNat_sshiftRight]
  have hm : (nI a).toBitVec.msb = false := by
    rw [BitVec.msb_eq_decide]
    have : (nI a).toBitVec.toNat = a := by show (BitVec.ofNat 32 a).toNat = a; rw [BitVec.toNat_ofNat]; omega
    rw [this]; simp; omega
  have e1 : (nI a).toBitVec.toNat = a := by show (BitVec.ofNat 32 a).toNat = a; rw [BitVec.toNat_ofNat]; omega
  have e2 : (nI (a / 2 ^ k)).toBitVec.toNat = a / 2 ^ k := by
    show (BitVec.ofNat 32 (a / 2 ^ k)).toNat = _
    have h3 : a / 2 ^ k < 2 ^ 32 := Nat.lt_of_le_of_lt (Nat.div_le_self _ _) (by omega)
    rw [BitVec.toNat_ofNat, Nat.mod_eq_of_lt h3]
  rw [hm, e2, e1]
  simp [Nat.shiftRight_eq_div_pow]
/-- bit k of a mask as the machine asks for it -/
theorem nBit {a k : Nat} (ha : a < 2 ^ 31) (hk : k < 32) : (nI a >>> (nI k &&& 31)) &&& 1 = nI (if a.testBit k then 1 else 0) := by
  rw [nShr ha hk, show (1 : Int32) = nI 1 from rfl, nAnd, Nat.and_one_is_mod]
  congr 1
  rw [Nat.testBit_eq_decide_div_mod_eq]
  have := Nat.mod_two_eq_zero_or_one (a / 2 ^ k)
  rcases this with h | h <;> rw [h] <;> simp
theorem nlit1 : (1 : Int32) = nI 1 := rfl
theorem nlit0 : (0 : Int32) = nI 0 := rfl
/-- what a counting loop has made of it after k rounds -/
def cum {α : Type} (f : Nat → α → α) (a : α) : Nat → α
  | 0 => a
  | k + 1 => f k (cum f a k)
theorem cum_cong {α : Type} {f g : Nat → α → α} {a : α} : ∀ n, (∀ k, k < n → ∀ x, f k x = g k x) → cum f a n = cum g a n
  | 0, _ => rfl
  | n + 1, h => by rw [cum, cum, cum_cong n (fun k hk => h k (by omega)), h n (by omega)]
/-- the mask of the places under n where p holds -/
def msk (p : Nat → Bool) (n : Nat) : Nat := cum (fun k v => if p k then v ||| 2 ^ k else v) 0 n
theorem msk_succ (p : Nat → Bool) (n : Nat) : msk p (n + 1) = if p n then msk p n ||| 2 ^ n else msk p n := rfl
theorem msk_lt (p : Nat → Bool) : ∀ n, msk p n < 2 ^ n
  | 0 => by show 0 < 1; omega
  | n + 1 => by
    have h := msk_lt p n
    rw [msk_succ]
    have h2 : 2 ^ n < 2 ^ (n + 1) := Nat.pow_lt_pow_right (by decide) (by omega)
    split
    · exact Nat.or_lt_two_pow (by omega) h2
    · omega
theorem msk_bit (p : Nat → Bool) : ∀ n k, (msk p n).testBit k = (decide (k < n) && p k)
  | 0, k => by show Nat.testBit 0 k = _; simp
  | n + 1, k => by
    rw [msk_succ]
    have ih := msk_bit p n k
    by_cases h : p n
    · rw [if_pos h, Nat.testBit_or, ih, Nat.testBit_two_pow]
      by_cases hk : n = k
      · subst hk; simp [h]
      · have : decide (k < n) = decide (k < n + 1) := by by_cases h2 : k < n <;> simp <;> omega
        simp [hk, this]
    · rw [if_neg h, ih]
      by_cases hk : k = n
      · subst hk; simp [h]
      · have : decide (k < n) = decide (k < n + 1) := by by_cases h2 : k < n <;> simp <;> omega
        simp [this]
theorem msk_cong {p q : Nat → Bool} {n : Nat} (h : ∀ k, k < n → p k = q k) : msk p n = msk q n := cum_cong n (fun k hk x => by rw [h k hk])
/-- how many of the first n bits are set -/
def cnt (p : Nat → Bool) (n : Nat) : Nat := cum (fun k v => if p k then v + 1 else v) 0 n
theorem cnt_succ (p : Nat → Bool) (n : Nat) : cnt p (n + 1) = if p n then cnt p n + 1 else cnt p n := rfl
theorem cnt_le (p : Nat → Bool) : ∀ n, cnt p n ≤ n
  | 0 => Nat.le_refl _
  | n + 1 => by have := cnt_le p n; rw [cnt_succ]; split <;> omega
theorem cnt_cong {p q : Nat → Bool} {n : Nat} (h : ∀ k, k < n → p k = q k) : cnt p n = cnt q n := cum_cong n (fun k hk x => by rw [h k hk])
def pop (m : Nat) : Nat := cnt (fun k => m.testBit k) 8
theorem pop_le (m : Nat) : pop m ≤ 8 := cnt_le _ _
theorem pop_step : ∀ m, m < 256 → m ≠ 0 → pop m = pop (m &&& (m - 1)) + 1 ∧ m &&& (m - 1) < m := by decide +kernel
theorem pop_0 : pop 0 = 0 := by decide
theorem it {c A B : Prop} [Decidable c] (h : c) (a : A) : if c then A else B := by rw [if_pos h]; exact a
theorem ie {c A B : Prop} [Decidable c] (h : ¬ c) (b : B) : if c then A else B := by rw [if_neg h]; exact b
theorem ic {c A B : Prop} [Decidable c] (h : c → A) (b : ¬ c → B) : if c then A else B := by by_cases hc : c; exact it hc (h hc); exact ie hc (b hc)
theorem up2_same {α : Type} (f : Nat → Nat → α) (a i : Nat) (v : α) : up2 f a i v a i = v := by simp [up2]
theorem up2_idx {α : Type} (f : Nat → Nat → α) (a : Nat) {i j : Nat} (v : α) (h : j ≠ i) : up2 f a i v a j = f a j := by simp [up2, h]
theorem up2_get {α : Type} (f : Nat → Nat → α) (a i b j : Nat) (v : α) : up2 f a i v b j = if b = a ∧ j = i then v else f b j := by
  unfold up2
  by_cases hb : b = a
  · subst hb; by_cases hj : j = i <;> simp [hj]
  · simp [hb]
theorem vin {k N : Nat} (h : k < N) (hN : N < 2 ^ 31) : vp_in (nI k) N := vp_in_nI h hN
theorem nx_nI {k : Nat} (h : k < 2 ^ 31) : nx (nI k) = k := nI_clamp h
