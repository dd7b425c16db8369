/-! bitCount of any int -/
theorem iuN {x k : Nat} (hx : x < 2 ^ 32) (hk : k < 32) : iu (nI x) (nI k) = nI (x / 2 ^ k) := by
  have s1 : (((nI k).toUInt32 &&& Int32.toUInt32 31).toBitVec % 32).toNat = k := by
    have : ∀ k, k < 32 → (((nI k).toUInt32 &&& Int32.toUInt32 31).toBitVec % 32).toNat = k := by decide +kernel
    exact this k hk
  apply Int32.toBitVec_inj.mp
  show ((nI x).toUInt32 >>> ((nI k).toUInt32 &&& Int32.toUInt32 31)).toBitVec = BitVec.ofNat 32 (x / 2 ^ k)
  rw [UInt32.toBitVec_shiftRight]
  show BitVec.ofNat 32 x >>> (((nI k).toUInt32 &&& Int32.toUInt32 31).toBitVec % 32).toNat = _
  rw [s1]
  apply BitVec.eq_of_toNat_eq
  rw [BitVec.toNat_ushiftRight, BitVec.toNat_ofNat, BitVec.toNat_ofNat, Nat.mod_eq_of_lt hx, Nat.shiftRight_eq_div_pow]
  have : x / 2 ^ k < 2 ^ 32 := Nat.lt_of_le_of_lt (Nat.div_le_self _ _) hx
  rw [Nat.mod_eq_of_lt this]
theorem and256 (A B : Nat) : A &&& B = (A % 256 &&& B % 256) + 256 * (A / 256 &&& B / 256) := by
  have h1 := Nat.and_mod_two_pow (a := A) (b := B) (n := 8)
  have h2 := Nat.and_div_two_pow (a := A) (b := B) (n := 8)
  have h3 := Nat.mod_add_div (A &&& B) 256
  rw [show (2 : Nat) ^ 8 = 256 from rfl] at h1 h2
  rw [h1, h2] at h3
  exact h3.symm
def mkb (m : Nat) : Nat → Nat
  | 0 => 0
  | k + 1 => m + 256 * mkb m k
def S1 (k x : Nat) : Nat := x - ((x / 2) &&& mkb 85 k)
def S2 (k u : Nat) : Nat := (u &&& mkb 51 k) + ((u / 4) &&& mkb 51 k)
def S3 (k v : Nat) : Nat := (v + v / 16) &&& mkb 15 k
theorem b1 : ∀ b, b < 256 → ∀ c, c < 2 → ((b / 2 + 128 * c) &&& 85) = ((b / 2) &&& 85) ∧ ((b / 2) &&& 85) ≤ b := by decide +kernel
theorem b2 : ∀ u, u < 256 → ∀ c, c < 4 → ((u / 4 + 64 * c) &&& 51) = ((u / 4) &&& 51) := by decide +kernel
theorem b3 : ∀ v, v < 69 → ∀ c, c < 5 → ((v + v / 16 + 16 * c) &&& 15) = ((v + v / 16) &&& 15) := by decide +kernel
theorem b4 : ∀ b, b < 256 → (((b - ((b / 2) &&& 85)) &&& 51) + (((b - ((b / 2) &&& 85)) / 4) &&& 51)) < 69 ∧ (((b - ((b / 2) &&& 85)) &&& 51) + (((b - ((b / 2) &&& 85)) / 4) &&& 51)) % 16 < 5 := by decide +kernel
theorem b5 : ∀ b, b < 256 → (((((b - ((b / 2) &&& 85)) &&& 51) + (((b - ((b / 2) &&& 85)) / 4) &&& 51)) + (((b - ((b / 2) &&& 85)) &&& 51) + (((b - ((b / 2) &&& 85)) / 4) &&& 51)) / 16) &&& 15) = pop b := by decide +kernel
theorem S1_s {k b y : Nat} (hb : b < 256) : S1 (k + 1) (b + 256 * y) = (b - ((b / 2) &&& 85)) + 256 * S1 k y := by
  unfold S1
  rw [mkb, and256 ((b + 256 * y) / 2)]
  have e1 : (b + 256 * y) / 2 % 256 = b / 2 + 128 * (y % 2) := by omega
  have e2 : (b + 256 * y) / 2 / 256 = y / 2 := by omega
  have e3 : (85 + 256 * mkb 85 k) % 256 = 85 := by omega
  have e4 : (85 + 256 * mkb 85 k) / 256 = mkb 85 k := by omega
  obtain ⟨h1, h2⟩ := b1 b hb (y % 2) (by omega)
  have h3 : (y / 2) &&& mkb 85 k ≤ y := Nat.le_trans Nat.and_le_left (Nat.div_le_self _ _)
  rw [e1, e2, e3, e4, h1]
  omega
theorem S2_s {k u y : Nat} (hb : u < 256) : S2 (k + 1) (u + 256 * y) = ((u &&& 51) + ((u / 4) &&& 51)) + 256 * S2 k y := by
  unfold S2
  rw [mkb, and256 ((u + 256 * y) / 4), and256 (u + 256 * y)]
  have e1 : (u + 256 * y) / 4 % 256 = u / 4 + 64 * (y % 4) := by omega
  have e2 : (u + 256 * y) / 4 / 256 = y / 4 := by omega
  have e3 : (51 + 256 * mkb 51 k) % 256 = 51 := by omega
  have e4 : (51 + 256 * mkb 51 k) / 256 = mkb 51 k := by omega
  have e5 : (u + 256 * y) % 256 = u := by omega
  have e6 : (u + 256 * y) / 256 = y := by omega
  rw [e1, e2, e3, e4, e5, e6, b2 u hb (y % 4) (by omega)]
  omega
theorem S3_s {k v y : Nat} (hv : v < 69) (hy : y % 16 < 5) : S3 (k + 1) (v + 256 * y) = ((v + v / 16) &&& 15) + 256 * S3 k y := by
  unfold S3
  rw [mkb, and256]
  have e1 : (v + 256 * y + (v + 256 * y) / 16) % 256 = v + v / 16 + 16 * (y % 16) := by omega
  have e2 : (v + 256 * y + (v + 256 * y) / 16) / 256 = y + y / 16 := by omega
  have e3 : (15 + 256 * mkb 15 k) % 256 = 15 := by omega
  have e4 : (15 + 256 * mkb 15 k) / 256 = mkb 15 k := by omega
  rw [e1, e2, e3, e4, b3 v hv (y % 16) hy]
theorem S2_m (k y : Nat) : S2 k (S1 k y) % 16 < 5 := by
  cases k with
  | zero => unfold S2; rw [mkb, Nat.and_zero, Nat.and_zero]; decide
  | succ k =>
    have e : y = y % 256 + 256 * (y / 256) := by omega
    rw [e, S1_s (by omega), S2_s (by omega)]
    have := (b4 (y % 256) (by omega)).2
    omega
theorem SS (k b y : Nat) (hb : b < 256) : S3 (k + 1) (S2 (k + 1) (S1 (k + 1) (b + 256 * y))) = pop b + 256 * S3 k (S2 k (S1 k y)) := by
  rw [S1_s hb, S2_s (by omega), S3_s (b4 b hb).1 (S2_m k y), b5 b hb]
theorem SS4 (x : Nat) (hx : x < 2 ^ 32) : S3 4 (S2 4 (S1 4 x)) = pop (x % 256) + 256 * (pop (x / 256 % 256) + 256 * (pop (x / 65536 % 256) + 256 * pop (x / 16777216 % 256))) := by
  have e1 : x = x % 256 + 256 * (x / 256) := by omega
  have e2 : x / 256 = x / 256 % 256 + 256 * (x / 65536) := by omega
  have e3 : x / 65536 = x / 65536 % 256 + 256 * (x / 16777216) := by omega
  have e4 : x / 16777216 = x / 16777216 % 256 + 256 * 0 := by omega
  have h0 : S3 0 (S2 0 (S1 0 0)) = 0 := by decide
  have k4 := SS 0 (x / 16777216 % 256) 0 (by omega)
  rw [← e4, h0] at k4
  have k3 := SS 1 (x / 65536 % 256) (x / 16777216) (by omega)
  rw [← e3, k4] at k3
  have k2 := SS 2 (x / 256 % 256) (x / 65536) (by omega)
  rw [← e2, k3] at k2
  have k1 := SS 3 (x % 256) (x / 256) (by omega)
  rw [← e1, k2] at k1
  rw [k1]
  omega
def pop32 (m : Nat) : Nat := cnt (fun k => m.testBit k) 32
theorem cnt_add (p : Nat → Bool) (m : Nat) : ∀ n, cnt p (m + n) = cnt p m + cnt (fun i => p (m + i)) n
  | 0 => rfl
  | n + 1 => by
    rw [← Nat.add_assoc, cnt_succ, cnt_succ, cnt_add p m n]
    split <;> omega
theorem pop32_b (x : Nat) : pop32 x = pop (x % 256) + (pop (x / 256 % 256) + (pop (x / 65536 % 256) + pop (x / 16777216 % 256))) := by
  have key : ∀ y, (∀ i, i < 8 → (y % 256).testBit i = y.testBit i) := fun y i hi => by
    rw [show (256 : Nat) = 2 ^ 8 from rfl, Nat.testBit_mod_two_pow]; simp [hi]
  have sh : ∀ j, (fun i => x.testBit (j + i)) = fun i => (x / 2 ^ j).testBit i := fun j => by
    funext i; rw [Nat.testBit_div_two_pow, Nat.add_comm]
  unfold pop32 pop
  rw [show (32 : Nat) = 8 + (8 + (8 + 8)) from rfl, cnt_add, cnt_add, cnt_add]
  simp only [← Nat.add_assoc]
  have s1 : cnt (fun i => x.testBit (8 + i)) 8 = cnt (fun i => (x / 256 % 256).testBit i) 8 := cnt_cong (fun i hi => by rw [key _ i hi, show (256 : Nat) = 2 ^ 8 from rfl, Nat.testBit_div_two_pow, Nat.add_comm])
  have s2 : cnt (fun i => x.testBit (8 + 8 + i)) 8 = cnt (fun i => (x / 65536 % 256).testBit i) 8 := cnt_cong (fun i hi => by rw [key _ i hi, show (65536 : Nat) = 2 ^ 16 from rfl, Nat.testBit_div_two_pow, Nat.add_comm])
  have s3 : cnt (fun i => x.testBit (8 + 8 + 8 + i)) 8 = cnt (fun i => (x / 16777216 % 256).testBit i) 8 := cnt_cong (fun i hi => by rw [key _ i hi, show (16777216 : Nat) = 2 ^ 24 from rfl, Nat.testBit_div_two_pow, Nat.add_comm])
  have s0 : cnt (fun i => x.testBit i) 8 = cnt (fun i => (x % 256).testBit i) 8 := cnt_cong (fun i hi => by rw [key _ i hi])
  rw [s0, s1, s2, s3]
theorem bcv_32 {x : Nat} (hx : x < 2 ^ 32) : bcv (nI x) = nI (pop32 x) := by
  have p0 := pop_le (x % 256)
  have p1 := pop_le (x / 256 % 256)
  have p2 := pop_le (x / 65536 % 256)
  have p3 := pop_le (x / 16777216 % 256)
  have e4 := SS4 x hx
  have l1 : (x / 2) &&& mkb 85 4 ≤ x := Nat.le_trans Nat.and_le_left (Nat.div_le_self _ _)
  have c1 : nI x - ((iu (nI x) 1) &&& 1431655765) = nI (S1 4 x) := by
    rw [show (1 : Int32) = nI 1 from rfl, iuN hx (by decide), show (1431655765 : Int32) = nI (mkb 85 4) from rfl, nAnd, show x / 2 ^ 1 = x / 2 from rfl, nS l1]; rfl
  have h1 : S1 4 x < 2 ^ 32 := Nat.lt_of_le_of_lt (Nat.sub_le _ _) hx
  have c2 : (nI (S1 4 x) &&& 858993459) + ((iu (nI (S1 4 x)) 2) &&& 858993459) = nI (S2 4 (S1 4 x)) := by
    rw [show (2 : Int32) = nI 2 from rfl, iuN h1 (by decide), show (858993459 : Int32) = nI (mkb 51 4) from rfl, nAnd, nAnd, nI_add]; rfl
  have h2 : S2 4 (S1 4 x) < 2 ^ 32 := by
    have a1 : S1 4 x &&& mkb 51 4 ≤ mkb 51 4 := Nat.and_le_right
    have a2 : (S1 4 x) / 4 &&& mkb 51 4 ≤ mkb 51 4 := Nat.and_le_right
    have a3 : mkb 51 4 = 858993459 := rfl
    unfold S2
    omega
  have c3 : (nI (S2 4 (S1 4 x)) + (iu (nI (S2 4 (S1 4 x))) 4)) &&& 252645135 = nI (S3 4 (S2 4 (S1 4 x))) := by
    rw [show (4 : Int32) = nI 4 from rfl, iuN h2 (by decide), show (252645135 : Int32) = nI (mkb 15 4) from rfl, nI_add, nAnd]; rfl
  unfold bcv
  rw [c1, c2, c3]
  generalize S3 4 (S2 4 (S1 4 x)) = w at e4
  have hw : w < 2 ^ 32 := by omega
  rw [show (8 : Int32) = nI 8 from rfl, iuN hw (by decide), nI_add, show (16 : Int32) = nI 16 from rfl, iuN (by omega) (by decide), nI_add, show (63 : Int32) = nI (2 ^ 6 - 1) from rfl, nAnd, Nat.and_two_pow_sub_one_eq_mod, pop32_b]
  congr 1
  generalize pop (x % 256) = q0 at *
  generalize pop (x / 256 % 256) = q1 at *
  generalize pop (x / 65536 % 256) = q2 at *
  generalize pop (x / 16777216 % 256) = q3 at *
  clear c1 c2 c3 h1 h2 l1 hx
  have d1 : w / 2 ^ 8 = q1 + 256 * (q2 + 256 * q3) := by omega
  rw [d1]
  have d2 : (w + (q1 + 256 * (q2 + 256 * q3))) / 2 ^ 16 = (q2 + q3) + 256 * q3 := by omega
  rw [d2]
  have d3 : w + (q1 + 256 * (q2 + 256 * q3)) + ((q2 + q3) + 256 * q3) = (q0 + (q1 + (q2 + q3))) + 64 * (4 * (q1 + q2) + 1024 * (q2 + q3) + 262144 * q3 + 4 * q3) := by omega
  rw [d3, show (2 : Nat) ^ 6 = 64 from rfl, Nat.add_mul_mod_self_left]
  omega
theorem Jd_bit32 {m : Nat} (hm : m < 2 ^ 32) {Q : Int32 → Prop} (h : Q (nI (pop32 m))) : Jd_bitCount (nI m) Q := by
  unfold Jd_bitCount
  have := bcv_32 hm
  unfold bcv at this
  rw [this]
  exact h
