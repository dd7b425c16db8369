/-! the heap's ways for a row -/
def wyz (H h : Nat → Nat) : Nat → Int
  | 0 => 1
  | k + 1 => wyz H h k * ((H (h k) : Int) - (cnt (fun w => decide (h w = h k)) k : Int))
def okk (H h : Nat → Nat) (k : Nat) : Prop := ∀ c, cnt (fun w => decide (h w = c)) k ≤ H c
theorem cnt_h_succ (h : Nat → Nat) (c k : Nat) : cnt (fun w => decide (h w = c)) (k + 1) = if h k = c then cnt (fun w => decide (h w = c)) k + 1 else cnt (fun w => decide (h w = c)) k := by
  rw [cnt_succ]
  by_cases e : h k = c
  · rw [if_pos (by simp [e]), if_pos e]
  · rw [if_neg (by simp [e]), if_neg e]
theorem wyz_ok {H h : Nat → Nat} (hH : ∀ c, H c ≤ 9) : ∀ k, (okk H h k → 0 < wyz H h k ∧ wyz H h k ≤ 9 ^ k) ∧ (¬ okk H h k → wyz H h k = 0)
  | 0 => ⟨fun _ => by unfold wyz; omega, fun q => absurd (fun c => Nat.zero_le _) q⟩
  | k + 1 => by
    obtain ⟨i1, i2⟩ := wyz_ok hH k
    have step : okk H h (k + 1) ↔ okk H h k ∧ cnt (fun w => decide (h w = h k)) k < H (h k) := by
      constructor
      · intro q
        refine ⟨fun c => ?_, ?_⟩
        · have := q c; rw [cnt_h_succ] at this; split at this <;> omega
        · have := q (h k); rw [cnt_h_succ, if_pos rfl] at this; omega
      · intro q c
        rw [cnt_h_succ]
        by_cases e : h k = c
        · rw [if_pos e]; subst e; exact q.2
        · rw [if_neg e]; exact q.1 c
    unfold wyz
    by_cases o : okk H h k
    · obtain ⟨p1, p2⟩ := i1 o
      have f0 := o (h k)
      have h9 := hH (h k)
      refine ⟨fun q => ?_, fun q => ?_⟩
      · have f1 := (step.mp q).2
        refine ⟨Int.mul_pos p1 (by omega), ?_⟩
        rw [Int.pow_succ]
        exact Int.mul_le_mul p2 (by omega) (by omega) (by have : (0 : Int) ≤ 9 ^ k := Int.pow_nonneg (by omega); exact this)
      · have f1 : cnt (fun w => decide (h w = h k)) k = H (h k) := by
          by_cases e : cnt (fun w => decide (h w = h k)) k < H (h k)
          · exact absurd (step.mpr ⟨o, e⟩) q
          · omega
        rw [f1]; simp
    · rw [i2 o]
      refine ⟨fun q => absurd (step.mp q).1 o, fun _ => by simp⟩
theorem wyz_bd {H h : Nat → Nat} (hH : ∀ c, H c ≤ 9) {k : Nat} (hk : k ≤ 8) : 0 ≤ wyz H h k ∧ wyz H h k ≤ 43046721 := by
  obtain ⟨i1, i2⟩ := wyz_ok (h := h) hH k
  by_cases o : okk H h k
  · obtain ⟨p1, p2⟩ := i1 o
    have : (9 : Int) ^ k ≤ 9 ^ 8 := by
      rcases (show k = 0 ∨ k = 1 ∨ k = 2 ∨ k = 3 ∨ k = 4 ∨ k = 5 ∨ k = 6 ∨ k = 7 ∨ k = 8 by omega) with rfl | rfl | rfl | rfl | rfl | rfl | rfl | rfl | rfl <;> decide
    have e : (9 : Int) ^ 8 = 43046721 := by decide
    omega
  · rw [i2 o]; omega
theorem lcm_pos {z : Int} (h0 : 0 ≤ z) (h1 : z ≤ 43046721) : lg_cmp (Int64.ofInt z) 0 ≤ 0 ↔ z ≤ 0 := by
  have e : (Int64.ofInt z).toInt = z := Int64.toInt_ofInt_of_le (by omega) (by omega)
  have z0 : (0 : Int64).toInt = 0 := rfl
  unfold lg_cmp
  by_cases hz : z ≤ 0
  · have : z = 0 := by omega
    subst this
    simp
  · have h2 : (0 : Int64) < Int64.ofInt z := by rw [Int64.lt_iff_toInt_lt, e, z0]; omega
    have h3 : ¬ Int64.ofInt z < 0 := by rw [Int64.lt_iff_toInt_lt, e, z0]; omega
    have h4 : ¬ Int64.ofInt z = 0 := fun q => by rw [q, z0] at e; omega
    simp [h2, h3, h4]
    first | decide | (intro; omega) | omega
theorem nI_int (n : Nat) : nI n = Int32.ofInt (n : Int) := by
  apply Int32.toBitVec_inj.mp
  show BitVec.ofNat 32 n = BitVec.ofInt 32 (n : Int)
  rw [BitVec.ofInt_natCast]
theorem i64_of {z : Int} (h1 : -100 ≤ z) (h2 : z ≤ 100) : Int32.toInt64 (Int32.ofInt z) = Int64.ofInt z := by
  apply Int64.toInt_inj.mp
  rw [Int32.toInt_toInt64, Int32.toInt_ofInt_of_le (by omega) (by omega), Int64.toInt_ofInt_of_le (by omega) (by omega)]
theorem Jud_weigh_k {I : HI} {r n : Nat} {H h : Nat → Nat} (hH : ∀ c, c < 4 → I 24 c = nI (H c) ∧ H c ≤ 9) (hr : r + 1 ≠ 25) (hn : n ≤ 8) (hh : ∀ k, k < n → I (r + 1) k = nI (h k) ∧ h k < 4) {Q : Int64 → HI → Prop} (hQ : ∀ I', Fr (fun b _ => b = 25) I I' → Q (Int64.ofInt (wyz H h n)) I') : Jud_weigh I r (nI n) Q := by
  have key : ∀ d i J, i + d = n → Fr (fun b _ => b = 25) I J → (∀ c, c < 4 → J 25 c = Int32.ofInt ((H c : Int) - (cnt (fun w => decide (h w = c)) i : Int))) → Jud_weigh_l19 r (nI n) Q (d + 1) J (Int64.ofInt (wyz H h i)) (nI i) := by
    intro d
    induction d with
    | zero =>
      intro i J hi f hl
      have : i = n := by omega
      subst this
      rw [Jud_weigh_l19]
      exact it (nI_le (Nat.le_refl _) (by omega)) (hQ J f)
    | succ d ih =>
      intro i J hi f hl
      obtain ⟨e1, e2⟩ := hh i (by omega)
      have cl := cnt_le (fun w => decide (h w = h i)) i
      have h9 := (hH (h i) e2).2
      rw [Jud_weigh_l19, nx_nI (by omega), show J (r + 1) i = nI (h i) from (f _ _ hr).trans e1, nx_nI (by omega), hl _ e2, i64_of (by omega) (by omega), ← Int64.ofInt_mul, nI_1]
      refine ie (nI_ge (by omega) (by omega)) ⟨vin (by omega) (by omega), vin e2 (by omega), vin e2 (by omega), vin e2 (by omega), ih (i + 1) _ (by omega) (f.up rfl) (fun c hc => ?_)⟩
      rw [up2_get, cnt_h_succ]
      by_cases e : c = h i
      · subst e
        rw [if_pos ⟨rfl, rfl⟩, if_pos rfl, show (1 : Int32) = Int32.ofInt 1 from rfl, ← Int32.ofInt_sub]
        congr 1
        omega
      · rw [if_neg (by omega), if_neg (fun q => e q.symm)]; exact hl c hc
  refine ⟨n + 1, key n 0 _ (by omega) (fun b i hb => ?_) (fun c hc => ?_)⟩
  · unfold cp2; rw [if_neg hb]
  · unfold cp2 va_cpy
    rw [if_pos rfl, if_pos (by omega), show 0 + (c - 0) = c by omega, (hH c hc).1, nI_int]
    congr 1
    first | done | (show (H c : Int) = (H c : Int) - ((0 : Nat) : Int); omega)
/-- the row counts just if it has ways -/
theorem wyz_cts {a : AN} {H : Nat → Nat} {r : Nat} (W : WF a) (hH : ∀ c, c < 4 → H c ≤ 9) : (wyz (fun c => if c < 4 then H c else 9) (hat a r) (an a) ≤ 0 ↔ cts a H r = false) := by
  have q4 := W.2.2.2.1
  have n8 := W.2.1
  have hH2 : ∀ c, (fun c => if c < 4 then H c else 9) c ≤ 9 := fun c => by dsimp only; split; exact hH c (by assumption); omega
  obtain ⟨i1, i2⟩ := wyz_ok (h := hat a r) hH2 (an a)
  have ok : okk (fun c => if c < 4 then H c else 9) (hat a r) (an a) ↔ ∀ c, c < aq a → many a r c ≤ H c := by
    constructor
    · intro q c hc
      have := q c
      dsimp only at this
      rw [if_pos (by omega)] at this
      exact this
    · intro q c
      by_cases hc : c < aq a
      · dsimp only; rw [if_pos (by omega)]; exact q c hc
      · have z : cnt (fun w => decide (hat a r w = c)) (an a) = 0 := cnt_none (fun k _ => by have := hat_lt W r k; simp; omega)
        rw [z]; exact Nat.zero_le _
  unfold cts
  by_cases o : okk (fun c => if c < 4 then H c else 9) (hat a r) (an a)
  · have := (i1 o).1
    have o2 := ok.mp o
    refine ⟨fun q => by omega, fun q => ?_⟩
    simp at q
    obtain ⟨c, h1, h2⟩ := q
    have := o2 c h1
    omega
  · rw [i2 o]
    refine ⟨fun _ => ?_, fun _ => by omega⟩
    simp
    have o2 := fun q => o (ok.mpr q)
    simpa using o2
theorem wyz_eq {H : Nat → Nat} {h : Nat → Nat} : ∀ k, (∀ j, j < k → h j < 4) → wyz (fun c => if c < 4 then H c else 9) h k = wyz H h k
  | 0, _ => rfl
  | k + 1, hk => by unfold wyz; rw [wyz_eq k (fun j hj => hk j (by omega))]; rw [if_pos (hk k (by omega))]
/-- whether the row counts, asked of the class -/
theorem weigh_pos {I : HI} {a : AN} {H : Nat → Nat} {r row : Nat} (W : WF a) (hH : ∀ c, c < 4 → I 24 c = nI (H c) ∧ H c ≤ 9) (hr : r + 1 ≠ 25) (hh : ∀ k, k < an a → I (r + 1) k = nI (hat a row k)) {Q : Int64 → HI → Prop} (hQ : ∀ I' z, Fr (fun b _ => b = 25) I I' → (lg_cmp z 0 ≤ 0 ↔ cts a H row = false) → Q z I') : Jud_weigh I r (nI (an a)) Q := by
  have q4 := W.2.2.2.1
  have n8 := W.2.1
  refine Jud_weigh_k hH hr n8 (fun k hk => ⟨hh k hk, by have := hat_lt W row k; omega⟩) (fun I' f => hQ I' _ f ?_)
  have e := wyz_eq (H := H) (h := hat a row) (an a) (fun j _ => by have := hat_lt W row j; omega)
  have hH2 : ∀ c, (fun c => if c < 4 then H c else 9) c ≤ 9 := fun c => by dsimp only; split; exact (hH c (by assumption)).2; omega
  obtain ⟨b1, b2⟩ := wyz_bd (h := hat a row) hH2 n8
  rw [e] at b1 b2
  rw [lcm_pos b1 b2, ← e, wyz_cts W (fun c hc => (hH c hc).2)]
/-- only what lies about of a row is new -/
theorem InvB.scr {own h : Nat → Nat} {a : AN} {ro : Nat} {I I' : HI} {T F : HR} {L : HL} {IM IM' : HI} (B : InvB own h a ro I T F L IM) (f : Fr (fun b _ => b = 21 ∨ b = 22 ∨ b = 25 ∨ own b = 3) I I') (fm : Fr (fun b i => (17 ≤ b ∧ b ≤ 22) ∨ b = 0 ∧ (i = 0 ∨ i = 40)) IM IM') (hw : WorI a IM') : InvB own h a ro I' T F L IM' := by
  obtain ⟨b1, b2, b3, b4, b5, b6, b7⟩ := B
  have nz := nz_own b7.1
  have o56 := b7.1.1
  refine ⟨b1, b2.eq (fun b i hb => fm _ _ (by omega)), b3.eq (fun j i hj => f _ _ (by have := o56 (1 + j) (by omega); omega)), b4.fr (fun b i hb => f _ _ (by have := nz b; omega)) (fun _ _ => rfl) b1.2.1 Ext.rf, hw, b6.eq (fun b i hb => f _ _ (by have := o56 b (by omega); omega)), b7.fr (fun b i hb => ?_) (fun _ _ _ => rfl) Ext.rf (fun b i hb => fm _ _ (by unfold RM at hb; omega))⟩
  have := nz b
  have := o56 b
  unfold RC at hb
  exact f _ _ (by omega)
theorem H_needRow_y {I : HI} {n r : Nat} (e : I 1 2 = nI n) (hn : n < 2 ^ 31) (hr : r < n) {Q X : Prop} (h : Q) : H_needRow I (nI r) Q X := by
  unfold H_needRow
  rw [e]
  exact ie (nI_pos (by omega)) (it (nI_lt hr (by omega)) h)
theorem H_needRow_n {I : HI} {n : Nat} {x : Int32} (e : I 1 2 = nI n) (hx : x < 0 ∨ (¬ x < 0 ∧ nI n ≤ x)) {Q X : Prop} (h : X) : H_needRow I x Q X := by
  unfold H_needRow H_needRow_b15
  rcases hx with hx | ⟨h0, hx⟩
  · exact it hx h
  · refine ie h0 (ie (fun q => ?_) h)
    rw [e] at q
    exact nle_of_lt q hx
theorem M_isRow_y {I : HI} {n r : Nat} (e : I 0 3 = nI n) (h0 : I 0 0 = 0) (hn : n < 2 ^ 31) (hr : r < n) {Q : Int32 → HI → Prop} (h : Q 1 I) : M_isRow I (nI r) Q := by
  unfold M_isRow
  rw [e]
  exact ie (nI_pos (by omega)) (ie (nI_ge hr (by omega)) (M_right_y h0 ⟨zb_1, h⟩))
theorem M_isRow_n {I : HI} {n : Nat} {x : Int32} (e : I 0 3 = nI n) (h0 : I 0 0 = 0) (hx : x < 0 ∨ (¬ x < 0 ∧ nI n ≤ x)) {Q : Int32 → HI → Prop} (h : Q 0 (up2 I 0 0 1)) : M_isRow I x Q := by
  unfold M_isRow
  rw [e]
  rcases hx with hx | ⟨h0', hx⟩
  · exact it hx (M_right_n h0 ⟨zb_0, h⟩)
  · exact ie h0' (it hx (M_right_n h0 ⟨zb_0, h⟩))
