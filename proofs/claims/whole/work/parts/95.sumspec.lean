/-! sums: what both sides count -/
def nsd (a : AN) (r w : Nat) : Nat := (hat a r w + sumo (alk a w) (an a) (hat a r)) % aq a
def sct (a : AN) (t : Nat → Nat) (r : Nat) : Nat := cnt (fun w => decide (nsd a r w = t w)) (an a)
def svw (a : AN) (lw k : Nat) (t : Nat → Nat) (r : Nat) : Bool := wonB lw k (an a) (sct a t r) (decide (sct a t r = an a))
def sval (a : AN) (h : Nat → Nat) (lw k : Nat) (t : Nat → Nat) : Nat := cnt (fun r => cts a h r && svw a lw k t r) (aq a ^ an a)
/-- the constants of number c, the last wearer's moving first -/
def tc (n q c w : Nat) : Nat := c / q ^ (n - 1 - w) % q
def tad (q : Nat) : Nat → (Nat → Nat) → (Nat → Nat)
  | 0, t => t
  | w + 1, t => if t w = q - 1 then tad q w (upn t w 0) else upn t w (t w + 1)
def tadB (q n : Nat) : Bool := (List.range (q ^ n)).all (fun c => (List.range n).all (fun w => tad q n (tc n q c) w == tc n q (c + 1) w))
theorem tadB_k : ∀ q, q < 5 → 2 ≤ q → ∀ n, n < 9 → 1 ≤ n → q ^ n ≤ 256 → tadB q n = true := by decide +kernel
theorem tad_k {q n c w : Nat} (h2 : 2 ≤ q) (h4 : q ≤ 4) (h1 : 1 ≤ n) (h8 : n ≤ 8) (hq : q ^ n ≤ 256) (hc : c < q ^ n) (hw : w < n) : tad q n (tc n q c) w = tc n q (c + 1) w := by
  have := tadB_k q (by omega) h2 n (by omega) h1 hq
  unfold tadB at this
  rw [List.all_eq_true] at this
  have := this c (List.mem_range.mpr hc)
  rw [List.all_eq_true] at this
  exact of_decide_eq_true (by have := this w (List.mem_range.mpr hw); simpa using this)
theorem tc_lt {n q c w : Nat} (h2 : 2 ≤ q) : tc n q c w < q := Nat.mod_lt _ (by omega)
theorem tc_0 (n q w : Nat) : tc n q 0 w = 0 := by unfold tc; rw [Nat.zero_div]; exact Nat.zero_mod _
/-- the best of the numbers from c on, and which -/
def bet : Option Nat → Nat → Bool
  | none, _ => true
  | some x, v => decide (x < v)
def sbs (V : Nat → Nat) : Nat → Nat → Option Nat → Nat → Option Nat × Nat
  | 0, _, o, b => (o, b)
  | d + 1, c, o, b => if bet o (V c) then sbs V d (c + 1) (some (V c)) c else sbs V d (c + 1) o b
theorem sbs_lt {V : Nat → Nat} {N : Nat} : ∀ d c o b, c + d ≤ N → b < N → (sbs V d c o b).2 < N
  | 0, _, _, _, _, hb => hb
  | d + 1, c, o, b, h, hb => by
    rw [sbs]
    by_cases q : bet o (V c) = true
    · rw [if_pos q]; exact sbs_lt d (c + 1) _ c (by omega) (by omega)
    · rw [if_neg q]; exact sbs_lt d (c + 1) o b (by omega) hb
theorem sumo_le {m : Nat} {d : Nat → Nat} (hd : ∀ k, d k ≤ 3) : ∀ n, sumo m n d ≤ 3 * n
  | 0 => Nat.le_refl _
  | n + 1 => by
    have := sumo_le (m := m) hd n
    have := hd n
    show (if m.testBit n then sumo m n d + d n else sumo m n d) ≤ _
    split <;> omega
theorem sumo_s (m n : Nat) (d : Nat → Nat) : sumo m (n + 1) d = if m.testBit n then sumo m n d + d n else sumo m n d := rfl
theorem hat3 {a : AN} (W : WF a) (r w : Nat) : hat a r w ≤ 3 := by have := hat_lt W r w; have := W.2.2.2.1; omega
theorem nsd_lt {a : AN} (W : WF a) (r w : Nat) : nsd a r w < aq a := Nat.mod_lt _ (by have := W.2.2.1; omega)
/-- a mask with one bit of four for each -/
def mk4 (f : Nat → Nat) (n : Nat) : Nat := cum (fun w v => v ||| 2 ^ (4 * w + f w)) 0 n
theorem mk4_s (f : Nat → Nat) (n : Nat) : mk4 f (n + 1) = mk4 f n ||| 2 ^ (4 * n + f n) := rfl
theorem mk4_bit {f : Nat → Nat} (hf : ∀ w, f w < 4) {m i : Nat} (hi : i < 4) : ∀ n, (mk4 f n).testBit (4 * m + i) = (decide (m < n) && decide (f m = i))
  | 0 => by show Nat.testBit 0 _ = _; simp
  | n + 1 => by
    have h1 := hf n
    have h2 := hf m
    rw [mk4_s, Nat.testBit_or, mk4_bit hf hi n, Nat.testBit_two_pow]
    by_cases e : m = n
    · subst e
      by_cases e2 : f m = i
      · rw [e2]; simp
      · simp [e2]
    · have : ¬ 4 * n + f n = 4 * m + i := by omega
      have h3 : decide (m < n) = decide (m < n + 1) := decide_eq_decide.mpr (by omega)
      rw [h3]
      simp [this]
theorem mk4_lt {f : Nat → Nat} (hf : ∀ w, f w < 4) : ∀ n, mk4 f n < 2 ^ (4 * n)
  | 0 => by show 0 < 1; omega
  | n + 1 => by
    have h1 := mk4_lt hf n
    have h2 := hf n
    rw [mk4_s]
    have h3 : 2 ^ (4 * n) ≤ 2 ^ (4 * (n + 1)) := Nat.pow_le_pow_right (by decide) (by omega)
    exact Nat.or_lt_two_pow (by omega) (Nat.pow_lt_pow_right (by decide) (by omega))
theorem cnt4 (x y : Nat) (hx : x < 4) (hy : y < 4) : cnt (fun i => decide (x = i) && decide (y = i)) 4 = if x = y then 1 else 0 := by
  have : ∀ x, x < 4 → ∀ y, y < 4 → cnt (fun i => decide (x = i) && decide (y = i)) 4 = if x = y then 1 else 0 := by decide
  exact this x hx y hy
theorem pop_mk4 {f g : Nat → Nat} (hf : ∀ w, f w < 4) (hg : ∀ w, g w < 4) {n : Nat} (h8 : n ≤ 8) : pop32 (mk4 f n &&& mk4 g n) = cnt (fun w => decide (f w = g w)) n := by
  have key : ∀ m, m ≤ n → cnt (fun k => (mk4 f n &&& mk4 g n).testBit k) (4 * m) = cnt (fun w => decide (f w = g w)) m := by
    intro m
    induction m with
    | zero => intro _; rfl
    | succ m ih =>
      intro hm
      rw [show 4 * (m + 1) = 4 * m + 4 by omega, cnt_add, ih (by omega)]
      have e : cnt (fun i => (mk4 f n &&& mk4 g n).testBit (4 * m + i)) 4 = cnt (fun i => decide (f m = i) && decide (g m = i)) 4 := by
        refine cnt_cong (fun i hi => ?_)
        rw [Nat.testBit_and, mk4_bit hf hi, mk4_bit hg hi]
        have : decide (m < n) = true := by simp; omega
        rw [this]
        simp
      rw [e, cnt4 _ _ (hf m) (hg m), cnt_succ]
      by_cases q : f m = g m
      · rw [if_pos q, if_pos (by simp [q])]
      · rw [if_neg q, if_neg (by simp [q])]; rfl
  unfold pop32
  rw [← key n (Nat.le_refl _)]
  refine cnt_stop (fun k hk => ?_) (by omega)
  exact tb_out (Nat.lt_of_le_of_lt Nat.and_le_left (mk4_lt hf n)) hk
/-- the rows that count, in their order -/
def crl (a : AN) (h : Nat → Nat) : Nat → List Nat
  | 0 => []
  | m + 1 => if cts a h m then crl a h m ++ [m] else crl a h m
theorem crl_le (a : AN) (h : Nat → Nat) : ∀ m, (crl a h m).length ≤ m
  | 0 => Nat.le_refl _
  | m + 1 => by
    have := crl_le a h m
    unfold crl
    split
    · rw [List.length_append]; simp; exact this
    · omega
theorem crl_cnt (a : AN) (h : Nat → Nat) (p : Nat → Bool) : ∀ m, cnt (fun i => p ((crl a h m).getD i 0)) (crl a h m).length = cnt (fun r => cts a h r && p r) m
  | 0 => rfl
  | m + 1 => by
    have ih := crl_cnt a h p m
    rw [cnt_succ, ← ih, crl]
    by_cases c : cts a h m = true
    · rw [if_pos c, List.length_append, List.length_singleton, cnt_succ]
      have e1 : (crl a h m ++ [m]).getD (crl a h m).length 0 = m := by simp
      have e2 : cnt (fun i => p ((crl a h m ++ [m]).getD i 0)) (crl a h m).length = cnt (fun i => p ((crl a h m).getD i 0)) (crl a h m).length := cnt_cong (fun i hi => by
        rw [List.getD_eq_getElem?_getD, List.getD_eq_getElem?_getD, List.getElem?_append_left hi])
      rw [e1, e2, c, Bool.true_and]
    · rw [if_neg c, if_neg (by simp [c])]
theorem rgt_k : ∀ n, n < 9 → ∀ m, m < 9 → m ≤ n → nI (2 ^ n - 1) &&& (nI (2 ^ m - 1) ^^^ (-1)) = nI (2 ^ n - 2 ^ m) ∧ pop (2 ^ m - 1) = m ∧ decide (2 ^ n - 2 ^ m = 0) = decide (m = n) := by decide +kernel
theorem wrg_k : ∀ n, n < 9 → ∀ m, m < 2 ^ n → nI (2 ^ n - 1) &&& (nI m ^^^ (-1)) = nI (2 ^ n - 1 - m) ∧ decide (2 ^ n - 1 - m = 0) = decide (pop m = n) := by decide +kernel
theorem pop_msk (p : Nat → Bool) {n : Nat} (h8 : n ≤ 8) : pop (msk p n) = cnt p n := by
  rw [pop_n (msk_lt p n) h8]
  exact cnt_cong (fun k hk => by rw [msk_bit]; simp [hk])
/-- the sum of the digits of a view -/
def dsm (q : Nat) : Nat → Nat → Nat
  | 0, _ => 0
  | d + 1, v => v % q + dsm q d (v / q)
theorem dsm_0 (q : Nat) : ∀ d, dsm q d 0 = 0
  | 0 => rfl
  | d + 1 => by unfold dsm; rw [Nat.zero_mod, Nat.zero_div, dsm_0 q d]
theorem dsm_le {q : Nat} (h2 : 2 ≤ q) (h4 : q ≤ 4) : ∀ d v, dsm q d v ≤ 3 * d
  | 0, _ => Nat.le_refl _
  | d + 1, v => by
    have := dsm_le h2 h4 d (v / q)
    have := Nat.mod_lt v (show 0 < q by omega)
    unfold dsm
    omega
def sut (n q b w v : Nat) : Nat := fmod (nI (tc n q b w) - nI (dsm q 8 v)) q
theorem fm_k : ∀ q, q < 5 → 2 ≤ q → ∀ c, c < 4 → ∀ s, s < 25 → irm ((irm (nI c - nI s) (nI q)) + nI q) (nI q) = nI (fmod (nI c - nI s) q) := by decide +kernel
theorem sub_sub32 (a b c : Int32) : a - b - c = a - (b + c) := by
  apply Int32.toBitVec_inj.mp
  rw [Int32.toBitVec_sub, Int32.toBitVec_sub, Int32.toBitVec_sub, Int32.toBitVec_add]
  apply BitVec.eq_of_toInt_eq
  simp [BitVec.toInt_sub, BitVec.toInt_add]
  congr 1
  omega
