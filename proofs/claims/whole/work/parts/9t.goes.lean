/-! rules: the reference goes on to the next token -/
def FrG (I I' : HI) : Prop := ∀ a i, ¬ (a = 0 ∧ 20 ≤ i ∧ i ≤ 25) → I' a i = I a i
theorem FrG.rfl {I : HI} : FrG I I := fun _ _ _ => Eq.refl _
theorem FrG.trans {I I1 I2 : HI} (h : FrG I I1) (h2 : FrG I1 I2) : FrG I I2 := fun a i n => (h2 a i n).trans (h a i n)
theorem FrG.up {I I' : HI} (h : FrG I I') {i : Nat} (v : Int32) (h1 : 20 ≤ i) (h2 : i ≤ 25) : FrG I (up2 I' 0 i v) := fun a j n => by
  rw [up2_get, if_neg (fun e => n ⟨e.1, by omega, by omega⟩)]
  exact h a j n
def TxtM (t : Nat → Nat) (m : Nat) (I : HI) : Prop := I 0 19 = nI m ∧ m ≤ 500 ∧ ∀ k, k < m → I 10 k = nI (t k) ∧ t k < 256
theorem TxtM.fr {t : Nat → Nat} {m : Nat} {I I' : HI} (h : TxtM t m I) (f : FrG I I') : TxtM t m I' := ⟨(f 0 19 (by omega)).trans h.1, h.2.1, fun k hk => ⟨(f 10 k (by omega)).trans (h.2.2 k hk).1, (h.2.2 k hk).2⟩⟩
theorem M_byte_k {t : Nat → Nat} {m p : Nat} {I : HI} {x : Int32} {Q : Int32 → Prop} (hT : TxtM t m I) (hx : x = nI p) (hp : p ≤ m) (hQ : Q (nI (if p < m then t p else 0))) : M_byteAt I x Q := by
  have h5 := hT.2.1
  subst hx
  unfold M_byteAt
  by_cases h : p < m
  · rw [if_pos h] at hQ
    refine ie (by rw [hT.1]; exact nI_ge h (by omega)) ⟨vin (by omega) (by decide), ?_⟩
    rw [nx_nI (by omega), (hT.2.2 p h).1]
    exact hQ
  · rw [if_neg h] at hQ
    exact it (by rw [hT.1]; exact nI_le (by omega) (by omega)) hQ
theorem mLet {c : Nat} {Q : Int32 → Prop} (hc : c < 256) (h : Q (nI (if isLt c then 1 else 0))) : M_isLetter (nI c) Q := cLet hc h
theorem mDig {c : Nat} {Q : Int32 → Prop} (hc : c < 256) (h : Q (nI (if isDg c then 1 else 0))) : M_isDigit (nI c) Q := cDig hc h
theorem goes_l0 {t : Nat → Nat} {m : Nat} {J : HJ} {Q : HI → HJ → Prop} : ∀ (d p : Nat) (I : HI), p + d = m → TxtM t m I → I 0 20 = nI p → (∀ I', FrG I I' → I' 0 20 = nI (spn isB t d p) → M_goes_b50 I' J Q) → M_goes_l0 J Q (d + 1) I := by
  intro d
  induction d with
  | zero =>
    intro p I hd hT hp K
    unfold M_goes_l0
    have := hT.2.1
    rw [hT.1, hp]
    exact it (nI_le (by omega) (by omega)) (K I FrG.rfl hp)
  | succ d ih =>
    intro p I hd hT hp K
    have h5 := hT.2.1
    unfold M_goes_l0
    have hb := hT.2.2 p (by omega)
    refine ie (by rw [hT.1, hp]; exact nI_ge (by omega) (by omega)) (M_byte_k hT hp (by omega) ?_)
    rw [if_pos (show p < m by omega)]
    have go : isB (t p) = true → M_goes_b37 I J (fun I' => M_goes_l0 J Q (d + 1) I') Q := fun h => by
      unfold M_goes_b37
      refine ih (p + 1) _ (by omega) (hT.fr (FrG.rfl.up _ (by omega) (by omega))) (by rw [up2_same, hp, nI_1]) (fun I' f h7 => K I' ((FrG.rfl.up _ (by omega) (by omega)).trans f) ?_)
      simp only [spn, h, if_true]
      exact h7
    refine ic (fun h => go ?_) (fun h => M_byte_k hT hp (by omega) ?_)
    · have := (nI_eq (by omega) (by decide)).mp (show nI (t p) = nI 32 from h)
      rw [this]; rfl
    rw [if_pos (show p < m by omega)]
    refine ic (fun h2 => go ?_) (fun h2 => K I FrG.rfl ?_)
    · have := (nI_eq (by omega) (by decide)).mp (show nI (t p) = nI 10 from h2)
      rw [this]; rfl
    · have n1 : t p ≠ 32 := fun e => h (by rw [e]; rfl)
      have n2 : t p ≠ 10 := fun e => h2 (by rw [e]; rfl)
      have : isB (t p) = false := by unfold isB; simp [n1, n2]
      simp only [spn, this]
      exact hp
/-- a word's letters as one number -/
def pkw (t : Nat → Nat) (s : Nat) : Nat → Nat
  | 0 => 0
  | k + 1 => 32 * pkw t s k + (t (s + k) - 96)
theorem pkw_lt (t : Nat → Nat) (s : Nat) (h : ∀ k, t (s + k) < 128) : ∀ k, pkw t s k < 32 ^ k
  | 0 => by simp [pkw]
  | k + 1 => by
    have := pkw_lt t s h k
    have := h k
    simp only [pkw]
    rw [Nat.pow_succ]
    omega
abbrev nL (n : Nat) : Int64 := Int64.ofNat n
theorem nL_pack {v c : Nat} (hv : v < 2 ^ 40) (hc : 96 ≤ c) (hc2 : c < 128) : ((nL v) <<< (Int32.toInt64 (5 : Int32) &&& 63)) ||| (Int32.toInt64 (nI c - 96)) = nL (32 * v + (c - 96)) := by
  rw [show (96 : Int32) = nI 96 from rfl, nS hc]
  have e5 : (Int32.toInt64 (5 : Int32) &&& 63) = 5 := by decide
  rw [e5]
  have e2 : Int32.toInt64 (nI (c - 96)) = nL (c - 96) := by
    apply Int64.toInt_inj.mp
    rw [Int32.toInt_toInt64, nI_toInt (by omega)]
    exact (Int64.toInt_ofNat_of_lt (by omega)).symm
  rw [e2]
  apply Int64.toBitVec_inj.mp
  rw [Int64.toBitVec_or, Int64.toBitVec_shiftLeft]
  have e3 : ((5 : Int64).toBitVec.smod 64).toNat = 5 := by decide
  apply BitVec.eq_of_toNat_eq
  show ((nL v).toBitVec <<< ((5 : Int64).toBitVec.smod 64) ||| (nL (c - 96)).toBitVec).toNat = _
  rw [BitVec.toNat_or, BitVec.shiftLeft_eq', BitVec.toNat_shiftLeft, e3]
  show ((BitVec.ofNat 64 v).toNat <<< 5 % 2 ^ 64) ||| (BitVec.ofNat 64 (c - 96)).toNat = (BitVec.ofNat 64 (32 * v + (c - 96))).toNat
  rw [BitVec.toNat_ofNat, BitVec.toNat_ofNat, BitVec.toNat_ofNat, Nat.mod_eq_of_lt (show v < 2 ^ 64 by omega), Nat.mod_eq_of_lt (show c - 96 < 2 ^ 64 by omega), Nat.mod_eq_of_lt (show 32 * v + (c - 96) < 2 ^ 64 by omega), Nat.shiftLeft_eq, Nat.mod_eq_of_lt (by omega), Nat.mul_comm v, show (2 : Nat) ^ 5 * v = 2 ^ 5 * v from rfl, ← Nat.two_pow_add_eq_or_of_lt (by omega)]
theorem word_l108 {t : Nat → Nat} {m s : Nat} {Q : HI → HJ → Prop} (hsm : s ≤ m) : ∀ (d k : Nat) (I : HI) (J : HJ), s + k + d = m → TxtM t m I → I 0 20 = nI (s + k) → I 0 22 = nI s → (∀ j, j < k → isLt (t (s + j)) = true) → (k ≤ 6 → J 0 26 = nL (pkw t s k)) → (∀ I' J', FrG I I' → I' 0 20 = nI (spn isLt t d (s + k)) → I' 0 22 = nI s → I' 0 21 = 1 → I' 0 23 = nI (spn isLt t d (s + k) - s) → (spn isLt t d (s + k) - s ≤ 6 → J' 0 26 = nL (pkw t s (spn isLt t d (s + k) - s))) → Q I' J') → M_goes_l108 Q (d + 1) I J := by
  intro d
  have fin : ∀ (k : Nat) (I : HI) (J : HJ), s + k ≤ m → TxtM t m I → I 0 20 = nI (s + k) → I 0 22 = nI s → (k ≤ 6 → J 0 26 = nL (pkw t s k)) → (∀ I' J', FrG I I' → I' 0 20 = nI (s + k) → I' 0 22 = nI s → I' 0 21 = 1 → I' 0 23 = nI ((s + k) - s) → ((s + k) - s ≤ 6 → J' 0 26 = nL (pkw t s ((s + k) - s))) → Q I' J') → M_goes_b331 (up2 I 0 21 1) J Q := by
    intro k I J hm hT h6 h7 hj K
    have h5 := hT.2.1
    rw [show s + k - s = k by omega] at K
    unfold M_goes_b331
    refine K _ _ ((FrG.rfl.up _ (by omega) (by omega)).up _ (by omega) (by omega)) ?_ ?_ ?_ ?_ hj
    · rw [up2_idx _ _ _ (by decide), up2_idx _ _ _ (by decide), h6]
    · rw [up2_idx _ _ _ (by decide), up2_idx _ _ _ (by decide), h7]
    · rw [up2_idx _ _ _ (by decide), up2_same]
    · rw [up2_same, up2_idx _ _ _ (by decide), up2_idx _ _ _ (by decide), h6, h7, nS (by omega)]
      congr 1; omega
  induction d with
  | zero =>
    intro k I J hd hT h6 h7 hl hj K
    unfold M_goes_l108
    refine M_byte_k hT h6 (by omega) ?_
    rw [if_neg (show ¬ s + k < m by omega)]
    refine mLet (by decide) ?_
    exact it (by decide) (fin k I J (by omega) hT h6 h7 hj K)
  | succ d ih =>
    intro k I J hd hT h6 h7 hl hj K
    have h5 := hT.2.1
    unfold M_goes_l108
    have hb := hT.2.2 (s + k) (by omega)
    refine M_byte_k hT h6 (by omega) ?_
    rw [if_pos (show s + k < m by omega)]
    refine mLet hb.2 ?_
    by_cases h : isLt (t (s + k)) = true
    · rw [if_pos h]
      have es : spn isLt t (d + 1) (s + k) = spn isLt t d (s + (k + 1)) := by simp only [spn, h, if_true]; rfl
      rw [es] at K
      have hlt : 97 ≤ t (s + k) ∧ t (s + k) ≤ 122 := by unfold isLt at h; simpa using h
      have e : I 0 20 - I 0 22 = nI k := by rw [h6, h7, nS (by omega)]; congr 1; omega
      have hl' : ∀ j, j < k + 1 → isLt (t (s + j)) = true := fun j hj => by
        rcases Nat.lt_succ_iff_lt_or_eq.mp hj with h8 | h8
        · exact hl j h8
        · rw [h8]; exact h
      have go : ∀ J', (k + 1 ≤ 6 → J' 0 26 = nL (pkw t s (k + 1))) → M_goes_b159 I J' (fun I' J' => M_goes_l108 Q (d + 1) I' J') Q := fun J' hj' => by
        unfold M_goes_b159
        have f : FrG I (up2 I 0 20 (I 0 20 + 1)) := FrG.rfl.up _ (by omega) (by omega)
        refine ih (k + 1) _ J' (by omega) (hT.fr f) ?_ ?_ hl' hj' (fun I' J'' g => K I' J'' (f.trans g))
        · rw [up2_same, h6, nI_1]; rfl
        · rw [up2_idx _ _ _ (by decide), h7]
      refine ie (by decide) ?_
      rw [e]
      refine ic (fun h1 => go J (fun hk => ?_)) (fun h1 => M_byte_k hT h6 (by omega) ?_)
      · have := (nI_leI (by decide) (by omega)).mp (show nI 7 ≤ nI k from h1); omega
      · rw [if_pos (show s + k < m by omega)]
        refine go _ (fun hk => ?_)
        rw [up2_same, hj (by omega)]
        have hp : pkw t s k < 32 ^ k := by
          clear go K ih
          have : ∀ j, j ≤ k → pkw t s j < 32 ^ j := by
            intro j
            induction j with
            | zero => intro _; simp [pkw]
            | succ j ih =>
              intro hj
              have h1 := ih (by omega)
              have h2 : 97 ≤ t (s + j) ∧ t (s + j) ≤ 122 := by have := hl j (by omega); unfold isLt at this; simpa using this
              simp only [pkw]
              rw [Nat.pow_succ]
              omega
          exact this k (Nat.le_refl k)
        have h32 : 32 ^ k ≤ 32 ^ 5 := Nat.pow_le_pow_right (by decide) (by omega)
        exact nL_pack (by omega) (by omega) (by omega)
    · rw [if_neg h]
      have es : spn isLt t (d + 1) (s + k) = s + k := by simp only [spn, h]; rfl
      rw [es] at K
      exact it (by decide) (fin k I J (by omega) hT h6 h7 hj K)
theorem num_l187 {t : Nat → Nat} {m s : Nat} {J : HJ} {Q : HI → HJ → Prop} (hsm : s ≤ m) : ∀ (d k v : Nat) (I : HI), s + k + d = m → TxtM t m I → I 0 20 = nI (s + k) → I 0 22 = nI s → I 0 24 = nI v → (k ≤ 3 → v = dv t s k) → (∀ I', FrG I I' → I' 0 20 = nI (spn isDg t d (s + k)) → I' 0 22 = nI s → I' 0 21 = 2 → I' 0 23 = nI (spn isDg t d (s + k) - s) → (spn isDg t d (s + k) - s ≤ 3 → I' 0 24 = nI (dv t s (spn isDg t d (s + k) - s))) → Q I' J) → M_goes_l187 J Q (d + 1) I := by
  intro d
  have fin : ∀ (k v : Nat) (I : HI), s + k ≤ m → TxtM t m I → I 0 20 = nI (s + k) → I 0 22 = nI s → I 0 24 = nI v → (k ≤ 3 → v = dv t s k) → (∀ I', FrG I I' → I' 0 20 = nI (s + k) → I' 0 22 = nI s → I' 0 21 = 2 → I' 0 23 = nI ((s + k) - s) → ((s + k) - s ≤ 3 → I' 0 24 = nI (dv t s ((s + k) - s))) → Q I' J) → M_goes_b331 (up2 I 0 21 2) J Q := by
    intro k v I hm hT h6 h7 h9 hv K
    have h5 := hT.2.1
    rw [show s + k - s = k by omega] at K
    unfold M_goes_b331
    refine K _ ((FrG.rfl.up _ (by omega) (by omega)).up _ (by omega) (by omega)) ?_ ?_ ?_ ?_ (fun hk => ?_)
    · rw [up2_idx _ _ _ (by decide), up2_idx _ _ _ (by decide), h6]
    · rw [up2_idx _ _ _ (by decide), up2_idx _ _ _ (by decide), h7]
    · rw [up2_idx _ _ _ (by decide), up2_same]
    · rw [up2_same, up2_idx _ _ _ (by decide), up2_idx _ _ _ (by decide), h6, h7, nS (by omega)]
      congr 1; omega
    · rw [up2_idx _ _ _ (by decide), up2_idx _ _ _ (by decide), h9, hv hk]
  induction d with
  | zero =>
    intro k v I hd hT h6 h7 h9 hv K
    unfold M_goes_l187
    refine M_byte_k hT h6 (by omega) ?_
    rw [if_neg (show ¬ s + k < m by omega)]
    refine mDig (by decide) ?_
    exact it (by decide) (fin k v I (by omega) hT h6 h7 h9 hv K)
  | succ d ih =>
    intro k v I hd hT h6 h7 h9 hv K
    have h5 := hT.2.1
    unfold M_goes_l187
    have hb := hT.2.2 (s + k) (by omega)
    refine M_byte_k hT h6 (by omega) ?_
    rw [if_pos (show s + k < m by omega)]
    refine mDig hb.2 ?_
    by_cases h : isDg (t (s + k)) = true
    · rw [if_pos h]
      have es : spn isDg t (d + 1) (s + k) = spn isDg t d (s + (k + 1)) := by simp only [spn, h, if_true]; rfl
      rw [es] at K
      have hdg : 48 ≤ t (s + k) ∧ t (s + k) ≤ 57 := by unfold isDg at h; simpa using h
      have e : I 0 20 - I 0 22 = nI k := by rw [h6, h7, nS (by omega)]; congr 1; omega
      refine ie (by decide) ?_
      rw [e]
      refine ic (fun h1 => ?_) (fun h1 => M_byte_k hT h6 (by omega) ?_)
      · have h8 := (nI_leI (by decide) (by omega)).mp (show nI 3 ≤ nI k from h1)
        unfold M_goes_b237
        have f : FrG I (up2 I 0 20 (I 0 20 + 1)) := FrG.rfl.up _ (by omega) (by omega)
        refine ih (k + 1) v _ (by omega) (hT.fr f) ?_ ?_ ?_ (fun hk => by omega) (fun I' g => K I' (f.trans g))
        · rw [up2_same, h6, nI_1]; rfl
        · rw [up2_idx _ _ _ (by decide), h7]
        · rw [up2_idx _ _ _ (by decide), h9]
      · rw [if_pos (show s + k < m by omega)]
        have h8 : k < 3 := by
          rcases Nat.lt_or_ge k 3 with h3 | h3
          · exact h3
          · exact absurd (nI_le h3 (by omega)) h1
        rw [h9, show (10 : Int32) = nI 10 from rfl, show (48 : Int32) = nI 48 from rfl, nM, nI_add, nS (by omega)]
        unfold M_goes_b237
        have f : FrG I (up2 (up2 I 0 24 (nI (10 * v + t (s + k) - 48))) 0 20 ((up2 I 0 24 (nI (10 * v + t (s + k) - 48))) 0 20 + 1)) := (FrG.rfl.up _ (by omega) (by omega)).up _ (by omega) (by omega)
        refine ih (k + 1) (10 * v + t (s + k) - 48) _ (by omega) (hT.fr f) ?_ ?_ ?_ (fun hk => ?_) (fun I' g => K I' (f.trans g))
        · rw [up2_same, up2_idx _ _ _ (by decide), h6, nI_1]; rfl
        · rw [up2_idx _ _ _ (by decide), up2_idx _ _ _ (by decide), h7]
        · rw [up2_idx _ _ _ (by decide), up2_same]
        · show _ = 10 * dv t s k + (t (s + k) - 48)
          rw [← hv (by omega)]; omega
    · rw [if_neg h]
      have es : spn isDg t (d + 1) (s + k) = s + k := by simp only [spn, h]; rfl
      rw [es] at K
      exact it (by decide) (fin k v I (by omega) hT h6 h7 h9 hv K)
