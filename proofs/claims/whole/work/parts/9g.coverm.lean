/-! cover: the reference's side (M_viewOf_m is printed from part 60) -/
theorem M_viewOf_m {I : HI} {a : AN} {h g : Nat → Nat} {w : Nat} (W : WF a) (N : MN I (an a) (aq a) (alk a) (ard a)) (m1 : ∀ k, k < an a → I 17 k = nI (h k)) (m2 : ∀ k, k < an a → ard a k < ard a w → I 18 k = nI (g k)) (hw : w < an a) {Q : Int32 → Prop} (hq : Q (nI (view a h g w))) : M_viewOf I (nI w) Q := by
  have n8 := W.2.1
  have h256 := p2le n8
  have hl := (W.2.2.2.2.2 w hw).1
  have hrl := hr_lt (an a) (ard a) w
  have key2 : ∀ s0 : Nat × Nat, Q (nI (dig (ahr a w) (aq a + 1) (an a) g s0).1) → ∀ d i, i + d = an a → M_viewOf_l68 I (nI (ahr a w)) Q (d + 1) (nI (dig (ahr a w) (aq a + 1) i g s0).1) (nI (dig (ahr a w) (aq a + 1) i g s0).2) (nI i) := by
    intro s0 hQ d
    induction d with
    | zero =>
      intro i hi
      have : i = an a := by omega
      subst this
      rw [M_viewOf_l68, N.1]
      exact it (nI_le (Nat.le_refl _) (by omega)) hQ
    | succ d ih =>
      intro i hi
      have ih := ih (i + 1) (by omega)
      rw [dig_succ] at ih
      rw [M_viewOf_l68, N.1]
      refine ie (nI_ge (by omega) (by omega)) (ic (fun hc => ?_) (fun hc => ?_))
      · rw [nBit0 (by unfold ahr; omega) (by omega)] at hc
        rw [if_neg (by rw [hc]; decide)] at ih
        rw [nI_1]; exact ih
      · rw [nBit0 (by unfold ahr; omega) (by omega)] at hc
        have hc : (ahr a w).testBit i = true := by cases e : (ahr a w).testBit i; exact absurd e hc; rfl
        rw [if_pos hc] at ih
        refine ⟨vin (by omega) (by omega), ?_⟩
        rw [nx_nI (by omega), m2 i (by omega) ((ahr_bit a w i).mp hc).2, N.2.1, nI_1, nI_1, nM, nI_add, nM, Nat.mul_comm _ (g i)]
        exact ih
  have key1 : ∀ d i, i + d = an a → M_viewOf_l7 I (nI w) Q (d + 1) (nI (dig (alk a w) (aq a) i h (0, 1)).1) (nI (dig (alk a w) (aq a) i h (0, 1)).2) (nI i) := by
    intro d
    induction d with
    | zero =>
      intro i hi
      have : i = an a := by omega
      subst this
      rw [M_viewOf_l7, N.1]
      exact it (nI_le (Nat.le_refl _) (by omega)) (M_hears_k N hw ⟨an a + 1, key2 _ hq (an a) 0 (by omega)⟩)
    | succ d ih =>
      intro i hi
      have ih := ih (i + 1) (by omega)
      rw [dig_succ] at ih
      rw [M_viewOf_l7, N.1, nx_nI (by omega), N.2.2.1 w hw]
      refine ie (nI_ge (by omega) (by omega)) ⟨vin (by omega) (by omega), ic (fun hc => ?_) (fun hc => ?_)⟩
      · rw [nBit0 (by omega) (by omega)] at hc
        rw [if_neg (by rw [hc]; decide)] at ih
        rw [nI_1]; exact ih
      · rw [nBit0 (by omega) (by omega)] at hc
        have hc : (alk a w).testBit i = true := by cases e : (alk a w).testBit i; exact absurd e hc; rfl
        rw [if_pos hc] at ih
        refine ⟨vin (by omega) (by omega), ?_⟩
        rw [nx_nI (by omega), m1 i (by omega), N.2.1, nI_1, nM, nI_add, nM, Nat.mul_comm _ (h i)]
        exact ih
  exact ⟨an a + 1, key1 (an a) 0 (by omega)⟩
theorem and2 (A B : Nat) : A &&& B = (A % 2 &&& B % 2) + 2 * (A / 2 &&& B / 2) := by
  have h1 := Nat.and_mod_two_pow (a := A) (b := B) (n := 1)
  have h2 := Nat.and_div_two_pow (a := A) (b := B) (n := 1)
  have h3 := Nat.mod_add_div (A &&& B) 2
  rw [show (2 : Nat) ^ 1 = 2 from rfl] at h1 h2
  rw [h1, h2] at h3
  exact h3.symm
theorem cnt_2 (j b k : Nat) (hb : b < 2) : cnt (fun i => (2 * j + b).testBit i) (k + 1) = b + cnt (fun i => j.testBit i) k := by
  rw [Nat.add_comm k 1, cnt_add]
  have e1 : cnt (fun i => (2 * j + b).testBit (1 + i)) k = cnt (fun i => j.testBit i) k := cnt_cong (fun i _ => by
    rw [Nat.add_comm 1 i, Nat.testBit_succ]
    congr 1; omega)
  rw [e1]
  congr 1
  show (if (2 * j + b).testBit 0 then 0 + 1 else 0) = b
  rw [Nat.testBit_zero]
  rcases (show b = 0 ∨ b = 1 by omega) with rfl | rfl
  · rw [if_neg (by simp)]
  · rw [if_pos (by simp)]
theorem pop_stepk : ∀ k m, m < 2 ^ k → m ≠ 0 → cnt (fun i => m.testBit i) k = cnt (fun i => (m &&& (m - 1)).testBit i) k + 1 ∧ m &&& (m - 1) < m
  | 0, m, h, h0 => by rw [Nat.pow_zero] at h; omega
  | k + 1, m, h, h0 => by
    rw [Nat.pow_succ] at h
    rcases Nat.mod_two_eq_zero_or_one m with e | e
    · have hj : m = 2 * (m / 2) + 0 := by omega
      obtain ⟨g1, g2⟩ := pop_stepk k (m / 2) (by omega) (by omega)
      have e2 : m &&& (m - 1) = 2 * (m / 2 &&& (m / 2 - 1)) + 0 := by
        rw [and2, e, show (m - 1) / 2 = m / 2 - 1 by omega, Nat.zero_and]; omega
      rw [e2, cnt_2 _ 0 k (by omega)]
      conv => lhs; lhs; rw [hj]
      rw [cnt_2 _ 0 k (by omega)]
      omega
    · have hj : m = 2 * (m / 2) + 1 := by omega
      have e2 : m &&& (m - 1) = 2 * (m / 2) + 0 := by
        rw [and2, e, show (m - 1) / 2 = m / 2 by omega, show (m - 1) % 2 = 0 by omega, Nat.and_zero, Nat.and_self]; omega
      rw [e2, cnt_2 _ 0 k (by omega)]
      conv => lhs; lhs; rw [hj]
      rw [cnt_2 _ 1 k (by omega)]
      omega
theorem bits32 {Q : Int32 → Prop} : ∀ m, m < 2 ^ 32 → ∀ v, Q (nI (v + pop32 m)) → ∃ nn, M_bits_l4 Q nn (nI v) (nI m) := by
  intro m
  induction m using Nat.strongRecOn with
  | _ m ih =>
    intro hm v hQ
    by_cases h0 : m = 0
    · subst h0
      refine ⟨1, ?_⟩
      rw [show pop32 0 = 0 from by decide] at hQ
      exact it rfl hQ
    · obtain ⟨h1, h2⟩ := pop_stepk 32 m hm h0
      have h1 : pop32 m = pop32 (m &&& (m - 1)) + 1 := h1
      have e : nI m &&& (nI m - 1) = nI (m &&& (m - 1)) := by rw [nlit1, nS (by omega), nAnd]
      obtain ⟨nn, h⟩ := ih _ h2 (by omega) (v + 1) (by rw [h1] at hQ; rw [show v + 1 + pop32 (m &&& (m - 1)) = v + (pop32 (m &&& (m - 1)) + 1) by omega]; exact hQ)
      refine ⟨nn + 1, ie (fun q => h0 ((nI_z hm).mp q)) ?_⟩
      rw [e, nI_1]
      exact h
theorem M_bits_32 {Q : Int32 → Prop} {m : Nat} (hm : m < 2 ^ 32) (h : Q (nI (pop32 m))) : M_bits (nI m) Q := bits32 m hm 0 (by rw [Nat.zero_add]; exact h)
theorem nBit32 {m k : Nat} (hm : m < 2 ^ 32) (hk : k < 32) : (nI m >>> (nI k &&& 31)) &&& 1 = nI (if m.testBit k then 1 else 0) := by
  apply Int32.toBitVec_inj.mp
  apply BitVec.eq_of_getLsbD_eq
  intro i hi
  rw [Int32.toBitVec_and, BitVec.getLsbD_and, Int32.toBitVec_shiftRight, BitVec.sshiftRight_eq', nSh k hk, BitVec.getLsbD_sshiftRight]
  have e0 : (nI m).toBitVec = BitVec.ofNat 32 m := rfl
  have e1 : (1 : Int32).toBitVec.getLsbD i = decide (i = 0) := by
    have : ∀ i, i < 32 → (1 : Int32).toBitVec.getLsbD i = decide (i = 0) := by decide
    exact this i hi
  rw [e1]
  by_cases h0 : i = 0
  · subst h0
    have e2 : (nI (if m.testBit k then 1 else 0)).toBitVec.getLsbD 0 = m.testBit k := by
      cases m.testBit k <;> rfl
    rw [e2, e0, if_pos (by omega), Nat.add_zero, BitVec.getLsbD_ofNat]
    simp [hk]
  · have e2 : (nI (if m.testBit k then 1 else 0)).toBitVec.getLsbD i = false := by
      have : ∀ i, i < 32 → ¬ i = 0 → (nI 1).toBitVec.getLsbD i = false ∧ (nI 0).toBitVec.getLsbD i = false := by decide
      cases m.testBit k
      · exact (this i hi h0).2
      · exact (this i hi h0).1
    rw [e2]
    simp [h0]
theorem nB32_1 {m k : Nat} (hm : m < 2 ^ 32) (hk : k < 32) : (nI m >>> (nI k &&& 31)) &&& 1 = 1 ↔ m.testBit k = true := by
  rw [nBit32 hm hk]
  by_cases h : m.testBit k = true
  · rw [if_pos h]; exact ⟨fun _ => h, fun _ => rfl⟩
  · rw [if_neg h]; exact ⟨fun q => absurd q (by decide), fun q => absurd q h⟩
theorem nB32_0 {m k : Nat} (hm : m < 2 ^ 32) (hk : k < 32) : (nI m >>> (nI k &&& 31)) &&& 1 = 0 ↔ m.testBit k = false := by
  rw [nBit32 hm hk]
  by_cases h : m.testBit k = true
  · rw [if_pos h]; exact ⟨fun q => absurd q (by decide), fun q => by rw [h] at q; cases q⟩
  · rw [if_neg h]; exact ⟨fun _ => by cases e : m.testBit k; rfl; exact absurd e h, fun _ => rfl⟩
def lsN (m : Nat) : Nat → Nat
  | 0 => 0
  | k + 1 => if m.testBit (k + 1) then k + 1 else lsN m k
def lsB (n : Nat) : Bool := (List.range (2 ^ n)).all (fun r => lsN (nrN n r) 31 == gnN n r && (nrN n r).testBit r)
theorem lsB_k : ∀ n, n < 6 → lsB n = true := by decide +kernel
theorem ls_k {n r : Nat} (h : n ≤ 5) (hr : r < 2 ^ n) : lsN (nrN n r) 31 = gnN n r ∧ (nrN n r).testBit r = true := by
  have := lsB_k n (by omega)
  unfold lsB at this
  rw [List.all_eq_true] at this
  have := this r (List.mem_range.mpr hr)
  rw [Bool.and_eq_true] at this
  exact ⟨eq_of_beq this.1, this.2⟩
theorem M_last_k {m r : Nat} (hm : m < 2 ^ 32) (hr : r < 32) (hb : m.testBit r = true) {Q : Int32 → Prop} (hQ : Q (nI (lsN m 31))) : M_last (nI m) Q := by
  have key : ∀ k, r ≤ k → k < 32 → Q (nI (lsN m k)) → M_last_l3 (nI m) Q (k + 1) (nI k) := by
    intro k
    induction k with
    | zero =>
      intro h1 h2 hQ
      have : r = 0 := by omega
      subst this
      rw [M_last_l3]
      exact ie (fun q => by rw [nB32_0 hm (by omega), hb] at q; cases q) hQ
    | succ k ih =>
      intro h1 h2 hQ
      rw [lsN] at hQ
      rw [M_last_l3]
      refine ic (fun hc => ?_) (fun hc => ?_)
      · rw [nB32_0 hm (by omega)] at hc
        rw [if_neg (by rw [hc]; decide)] at hQ
        have : r ≠ k + 1 := fun e => by rw [e, hc] at hb; cases hb
        rw [nDec (by omega), Nat.add_sub_cancel]
        exact ih (by omega) (by omega) hQ
      · rw [nB32_0 hm (by omega)] at hc
        have hc : m.testBit (k + 1) = true := by cases e : m.testBit (k + 1); exact absurd e hc; rfl
        rw [if_pos hc] at hQ
        exact hQ
  exact ⟨32, key 31 (by omega) (by omega) hQ⟩
def ballI (I : HI) (n : Nat) : Prop := ∀ r, r < 2 ^ n → I 32 r = nI (nrN n r) ∧ I 33 r = nI (gnN n r)
theorem balls_k {I0 : HI} {n : Nat} (h : n ≤ 5) (e1 : I0 0 1 = nI n) (e3 : I0 0 3 = nI (2 ^ n)) {Q : HI → Prop} (hQ : ∀ I, Fr (fun b _ => b = 32 ∨ b = 33) I0 I → ballI I n → Q I) : M_balls I0 Q := by
  have p := p25 h
  have outer : ∀ d r I, r + d = 2 ^ n → Fr (fun b _ => b = 32 ∨ b = 33) I0 I → (∀ r', r' < r → I 32 r' = nI (nrN n r') ∧ I 33 r' = nI (gnN n r')) → M_balls_l2 Q (d + 1) I (nI r) := by
    intro d
    induction d with
    | zero =>
      intro r I hr f hn
      rw [M_balls_l2, f _ _ (by omega), e3]
      exact it (nI_le (by omega) (by omega)) (hQ I f (fun r' hr' => hn r' (by omega)))
    | succ d ih =>
      intro r I hr f hn
      rw [M_balls_l2, f _ _ (by omega), e3, nShl1 r (by omega), nx_nI (by omega)]
      have v : vp_in (nI r) 32 := vin (by omega) (by omega)
      refine ie (nI_ge (by omega) (by omega)) ⟨v, n + 1, ?_⟩
      have inner : ∀ e w J, w + e = n → Fr (fun b i => b = 32 ∧ i = r) I J → J 32 r = nI (cum (fun w v => v ||| 2 ^ (r ^^^ 2 ^ w)) (2 ^ r) w) → M_balls_l21 (nI r) (fun I' x1' => M_balls_l2 Q (d + 1) I' x1') Q (e + 1) J (nI w) := by
        intro e
        induction e with
        | zero =>
          intro w J hw fJ h32
          have : w = n := by omega
          subst this
          obtain ⟨l1, l2⟩ := ls_k h (show r < 2 ^ w by omega)
          have h32 : J 32 r = nI (nrN w r) := h32
          rw [M_balls_l21, fJ _ _ (by omega), f _ _ (by omega), e1, nx_nI (by omega), h32]
          refine it (nI_le (Nat.le_refl _) (by omega)) ⟨v, M_last_k (nrN_lt h (by omega)) (by omega) l2 ⟨v, ?_⟩⟩
          rw [l1, nI_1]
          refine ih (r + 1) _ (by omega) ((f.tr (fJ.mono (fun b i hb => Or.inl hb.1))).up (Or.inr rfl)) (fun r' hr' => ?_)
          by_cases er : r' = r
          · rw [er, up2_get, if_neg (by omega), up2_same]; exact ⟨h32, rfl⟩
          · rw [up2_get, if_neg (by omega), up2_get, if_neg (by omega), fJ _ _ (by omega), fJ _ _ (by omega)]; exact hn r' (by omega)
        | succ e ihe =>
          intro w J hw fJ h32
          have x := xor_lt5 n (by omega) r (by omega) w (by omega)
          rw [M_balls_l21, fJ 0 _ (by omega), f _ _ (by omega), e1, nShl1 w (by omega), nXor, nShl1 _ (by omega), nx_nI (by omega), h32, nOr]
          simp only [nI_1]
          refine ie (nI_ge (by omega) (by omega)) ⟨v, v, ihe (w + 1) _ (by omega) (fJ.up ⟨rfl, rfl⟩) ?_⟩
          rw [up2_same]; rfl
      refine inner n 0 _ (by omega) (Fr.rf.up ⟨rfl, rfl⟩) ?_
      rw [up2_same]; rfl
  exact ⟨2 ^ n + 1, outer (2 ^ n) 0 I0 (by omega) Fr.rf (fun r' hr' => by omega)⟩
theorem latest_k {I : HI} {n m : Nat} (h : n ≤ 5) (e3 : I 0 3 = nI (2 ^ n)) (hn : ballI I n) (hm : m < 2 ^ 32) {Q : Int32 → Prop} (hQ : Q (nI (lstN n m 31))) : M_latest I (nI m) Q := by
  have p := p25 h
  have key : ∀ d r, r + d = 2 ^ n → M_latest_l5 I (nI m) Q (d + 1) (nI (cum (fun r v => if m.testBit r then (if gnN n r < v then gnN n r else v) else v) 31 r)) (nI r) := by
    intro d
    induction d with
    | zero =>
      intro r hr
      have : r = 2 ^ n := by omega
      rw [M_latest_l5, e3, this]
      exact it (nI_le (Nat.le_refl _) (by omega)) hQ
    | succ d ih =>
      intro r hr
      have ih := ih (r + 1) (by omega)
      rw [cum] at ih
      have g := gnN_lt h (show r < 2 ^ n by omega)
      have l := lst_le (n := n) (m := m) (l0 := 31) r
      rw [M_latest_l5, e3, nx_nI (by omega), (hn r (by omega)).2]
      simp only [nI_1]
      refine ie (nI_ge (by omega) (by omega)) (ic (fun hb => ⟨vin (by omega) (by omega), ?_⟩) (fun hb => ?_))
      · rw [nB32_1 hm (by omega)] at hb
        rw [if_pos hb] at ih
        refine ic (fun hc => ?_) (fun hc => ⟨vin (by omega) (by omega), ?_⟩)
        · rw [nI_leI (by omega) (by omega)] at hc; rw [if_neg (by omega)] at ih; exact ih
        · rw [nI_leI (by omega) (by omega)] at hc; rw [if_pos (by omega)] at ih; exact ih
      · rw [nB32_1 hm (by omega)] at hb
        rw [if_neg hb] at ih
        exact ih
  exact ⟨2 ^ n + 1, key (2 ^ n) 0 (by omega)⟩
theorem allN_bit : ∀ n, n < 6 → ∀ i, 2 ^ n ≤ i → i < 32 → (allN n).testBit i = false := by
  intro n hn i h1 h2
  unfold allN
  rw [Nat.testBit_two_pow_sub_one]
  simp; omega
theorem lst_ol {n m : Nat} (h5 : n ≤ 5) (ol : outN (allN n) m < 2 ^ 32) (o0 : outN (allN n) m ≠ 0) (h1 : 1 ≤ n) : lstN n (outN (allN n) m) 31 < 2 ^ n := by
  obtain ⟨i, hi⟩ := Nat.exists_testBit_of_ne_zero o0
  have hin : i < 2 ^ n := by
    by_cases q : i < 2 ^ n
    · exact q
    · exfalso
      have : (outN (allN n) m).testBit i = ((allN n).testBit i && (m ^^^ 4294967295).testBit i) := Nat.testBit_and _ _ _
      rw [this] at hi
      unfold allN at hi
      rw [Nat.testBit_two_pow_sub_one] at hi
      simp at hi
      omega
  have key : ∀ k, i < k → cum (fun r v => if (outN (allN n) m).testBit r then (if gnN n r < v then gnN n r else v) else v) 31 k ≤ gnN n i := by
    intro k
    induction k with
    | zero => intro h; omega
    | succ k ih =>
      intro h
      rw [cum]
      by_cases e : i = k
      · rw [← e, if_pos hi]
        split <;> omega
      · have := ih (by omega)
        split
        · split <;> omega
        · exact this
  have := key (2 ^ n) hin
  have := gnN_lt h5 hin
  unfold lstN
  omega
/-- the rows tried and what they cover, in the reference's cells -/
def stk3 (I : HI) : List (Nat × Nat) → Prop
  | [] => True
  | (h, c) :: sk => I 31 sk.length = stv h ∧ I 34 sk.length = nI c ∧ stk3 I sk
theorem stk3_fr {I I' : HI} : ∀ (sk : List (Nat × Nat)), (∀ i, i < sk.length → I' 31 i = I 31 i ∧ I' 34 i = I 34 i) → stk3 I sk → stk3 I' sk
  | [], _, _ => trivial
  | (h, c) :: sk, g, q => ⟨(g _ (by rw [List.length_cons]; omega)).1.trans q.1, (g _ (by rw [List.length_cons]; omega)).2.trans q.2.1, stk3_fr sk (fun i hi => g i (by rw [List.length_cons]; omega)) q.2.2⟩
theorem stk3_get {I : HI} : ∀ (sk : List (Nat × Nat)), stk3 I sk → (∀ p ∈ sk, 1 ≤ p.1) → ∀ i, i < sk.length → I 31 i = nI ((sk.map (fun p => p.1 - 1)).reverse.getD i 0)
  | [], _, _, i, hi => by simp at hi
  | (h, c) :: sk, q, g, i, hi => by
    rw [List.length_cons] at hi
    rw [List.map_cons, List.reverse_cons, List.getD_eq_getElem?_getD]
    have len : ((sk.map (fun p => p.1 - 1)).reverse).length = sk.length := by simp
    by_cases e : i = sk.length
    · rw [e, List.getElem?_append_right (by omega), len, Nat.sub_self, q.1]
      have := g (h, c) (List.mem_cons_self ..)
      dsimp only at this
      unfold stv
      rw [if_neg (by omega)]
      rfl
    · rw [List.getElem?_append_left (by omega), ← List.getD_eq_getElem?_getD]
      exact stk3_get sk q.2.2 (fun p hp => g p (List.mem_cons_of_mem _ hp)) i (by omega)
def zl : List (Nat × Nat) → Int32
  | [] => -1
  | _ :: sk => nI sk.length
theorem stv_1 (h : Nat) : stv h + 1 = nI h := by
  unfold stv
  by_cases e : h = 0
  · rw [if_pos e, e]; rfl
  · rw [if_neg e, nI_1]; congr 1; omega
theorem zl_pop (sk : List (Nat × Nat)) : nI sk.length + (-1) = zl sk := by
  cases sk with
  | nil => rfl
  | cons p sk => rw [List.length_cons, nDec (by omega), Nat.add_sub_cancel]; rfl
def crP : Nat → Nat → Prop := fun b i => b = 31 ∨ b = 34 ∨ b = 0 ∧ i = 54
theorem covers_38 {I0 : HI} {n k : Nat} (h1 : 1 ≤ n) (h5 : n ≤ 5) (hk : k ≤ 7) (e1 : I0 0 1 = nI n) (e3 : I0 0 3 = nI (2 ^ n)) (hn : ballI I0 n) {Q : Int32 → HI → Prop} {res : Option (List Nat)} (h0 : res = none → ∀ I, Fr crP I0 I → Q 0 I) (hs : ∀ l, res = some l → ∀ I, Fr crP I0 I → I 0 54 = nI l.length → (∀ i, i < l.length → I 31 i = nI (l.getD i 0)) → Q 1 I) : ∀ d stk I, rfN n k d stk = some res → (∀ p ∈ stk, p.1 ≤ 33 ∧ p.2 < 2 ^ 32) → (∀ p ∈ stk.tail, 1 ≤ p.1) → stk.length ≤ k + 1 → Fr crP I0 I → stk3 I stk → M_covers_l38 (nI k) (nI (allN n)) Q d I (zl stk) := by
  have p := p25 h5
  obtain ⟨a1, -, -⟩ := allN_k n (by omega) h1
  intro d
  induction d with
  | zero => intro stk I hr; unfold rfN at hr; cases hr
  | succ d ih =>
    intro stk I hr hv ht hl f S
    cases stk with
    | nil =>
      unfold rfN at hr
      cases hr
      show M_covers_l38 (nI k) (nI (allN n)) Q (d + 1) I (-1)
      rw [M_covers_l38]
      exact it (by decide) (h0 rfl I f)
    | cons q sk =>
      obtain ⟨h, c⟩ := q
      obtain ⟨s1, s2, s3⟩ := S
      have pv := hv (h, c) (List.mem_cons_self ..)
      dsimp only at pv
      rw [List.length_cons] at hl
      rw [List.tail_cons] at ht
      have ol := outN_lt (b := c) a1
      rw [rfN] at hr
      show M_covers_l38 (nI k) (nI (allN n)) Q (d + 1) I (nI sk.length)
      rw [M_covers_l38, nx_nI (by omega), s2, nAndn, s1, stv_1]
      have v33 : vp_in (nI sk.length) 33 := vin (by omega) (by omega)
      have eo : allN n &&& (c ^^^ (2 ^ 32 - 1)) = outN (allN n) c := rfl
      rw [eo]
      refine ie (nI_pos (by omega)) ⟨v33, ?_⟩
      by_cases o0 : outN (allN n) c = 0
      · rw [if_pos o0] at hr
        cases hr
        refine it ((nI_z ol).mpr o0) (hs _ rfl _ (f.up (by unfold crP; omega)) ?_ (fun i hi => ?_))
        · rw [up2_same, List.length_reverse, List.length_map]
        · rw [up2_get, if_neg (by omega)]
          rw [List.length_reverse, List.length_map] at hi
          exact stk3_get sk s3 ht i hi
      · rw [if_neg o0] at hr
        refine ie (fun q => o0 ((nI_z ol).mp q)) ⟨v33, v33, ?_⟩
        have ll : lstN n (outN (allN n) c) 31 ≤ 31 := lst_le _
        have pm := pop32_le (outN (allN n) c)
        generalize hJ : up2 I 31 sk.length (nI h) = J
        have fJ : Fr (fun b i => b = 31 ∧ i = sk.length) I J := by rw [← hJ]; exact Fr.rf.up ⟨rfl, rfl⟩
        have j31 : J 31 sk.length = nI h := by rw [← hJ]; exact up2_same _ _ _ _
        have gJ : Fr crP I0 J := f.tr (fJ.mono (fun b i hb => by unfold crP; omega))
        have no : ¬ (sk.length < k ∧ pop32 (outN (allN n) c) ≤ (k - sk.length) * (n + 1) ∧ h ≤ lstN n (outN (allN n) c) 31) → M_covers_b118 J (nI k) (nI (allN n)) (nI sk.length) (fun I' x3' => M_covers_l38 (nI k) (nI (allN n)) Q d I' x3') Q := by
          intro hc
          rw [if_neg hc] at hr
          unfold M_covers_b118 M_covers_b119
          rw [zl_pop]
          exact it rfl (ih sk J hr (fun p hp => hv p (List.mem_cons_of_mem _ hp)) (fun p hp => ht p (List.mem_of_mem_tail hp)) (by omega) gJ (stk3_fr sk (fun i hi => ⟨fJ _ _ (by omega), fJ _ _ (by omega)⟩) s3))
        refine ic (fun hc => ?_) (fun hc => ⟨v33, ?_⟩)
        · rw [nI_leI (by omega) (by omega)] at hc
          exact no (fun q => by omega)
        · rw [nI_leI (by omega) (by omega)] at hc
          refine latest_k h5 ((gJ _ _ (by unfold crP; omega)).trans e3) (fun r hr => ⟨(gJ _ _ (by unfold crP; omega)).trans (hn r hr).1, (gJ _ _ (by unfold crP; omega)).trans (hn r hr).2⟩) ol ?_
          rw [j31]
          refine ic (fun hc2 => ?_) (fun hc2 => ?_)
          · rw [nI_ltI (by omega) (by omega)] at hc2
            exact no (fun q => by omega)
          · rw [nI_ltI (by omega) (by omega)] at hc2
            refine M_bits_32 ol ?_
            have e5 : (nI k - nI sk.length) * (J 0 1 + 1) = nI ((k - sk.length) * (n + 1)) := by rw [nS (by omega), gJ _ _ (by unfold crP; omega), e1, nI_1, nM]
            rw [e5]
            have b1 : (k - sk.length) * (n + 1) ≤ 7 * 6 := Nat.mul_le_mul (by omega) (by omega)
            refine ic (fun hc3 => ?_) (fun hc3 => ?_)
            · rw [nI_ltI (by omega) (by omega)] at hc3
              exact no (fun q => by omega)
            · rw [nI_ltI (by omega) (by omega)] at hc3
              rw [if_pos ⟨by omega, by omega, by omega⟩] at hr
              unfold M_covers_b119
              rw [nI_1, nx_nI (show sk.length < 2 ^ 31 by omega), nx_nI (show sk.length + 1 < 2 ^ 31 by omega), j31, nx_nI (show h < 2 ^ 31 by omega)]
              have hlt : h < 2 ^ n := by
                -- every open row has its greatest near row under 2 ^ n
                by_cases q : h < 2 ^ n
                · exact q
                · exfalso
                  have : lstN n (outN (allN n) c) 31 < 2 ^ n := lst_ol h5 ol o0 h1
                  omega
              rw [(show J 32 h = nI (nrN n h) from (gJ _ _ (by unfold crP; omega)).trans (hn h hlt).1), (show J 34 sk.length = nI c from (fJ _ _ (by omega)).trans s2), nOr]
              generalize hK : up2 J 34 (sk.length + 1) (nI (c ||| nrN n h)) = K
              have fK : Fr (fun b i => b = 34 ∧ i = sk.length + 1) J K := by rw [← hK]; exact Fr.rf.up ⟨rfl, rfl⟩
              have k34 : K 34 (sk.length + 1) = nI (c ||| nrN n h) := by rw [← hK]; exact up2_same _ _ _ _
              rw [(show K 31 sk.length = nI h from (fK _ _ (by omega)).trans j31)]
              have v33' : vp_in (nI (sk.length + 1)) 33 := vin (by omega) (by omega)
              refine ie (by decide) ⟨v33, v33, vin (by omega) (by omega), v33', v33, v33', ?_⟩
              have fM : Fr (fun b i => b = 31 ∧ i = sk.length + 1) K (up2 K 31 (sk.length + 1) (nI h)) := Fr.rf.up ⟨rfl, rfl⟩
              have hst : nI h = stv (h + 1) := by unfold stv; rw [if_neg (by omega)]; rfl
              refine ih ((h + 1, c ||| nrN n h) :: (h + 1, c) :: sk) _ hr (fun p hp => ?_) (fun p hp => ?_) ?_ ((gJ.tr (fK.mono (fun b i hb => by unfold crP; omega))).tr (fM.mono (fun b i hb => by unfold crP; omega))) ⟨?_, ?_, ?_, ?_, ?_⟩
              · rcases List.mem_cons.mp hp with rfl | hp
                · exact ⟨by dsimp only; omega, Nat.or_lt_two_pow pv.2 (nrN_lt h5 hlt)⟩
                · rcases List.mem_cons.mp hp with rfl | hp
                  · exact ⟨by dsimp only; omega, pv.2⟩
                  · exact hv p (List.mem_cons_of_mem _ hp)
              · rw [List.tail_cons] at hp
                rcases List.mem_cons.mp hp with rfl | hp
                · dsimp only; omega
                · exact ht p hp
              · rw [List.length_cons, List.length_cons]; omega
              · rw [List.length_cons, ← hst]; exact up2_same _ _ _ _
              · rw [List.length_cons, fM _ _ (by omega)]; exact k34
              · rw [fM _ _ (by omega), fK _ _ (by omega), j31]; exact hst
              · rw [fM _ _ (by omega), fK _ _ (by omega), fJ _ _ (by omega)]; exact s2
              · exact stk3_fr sk (fun i hi => ⟨by rw [fM _ _ (by omega), fK _ _ (by omega), fJ _ _ (by omega)], by rw [fM _ _ (by omega), fK _ _ (by omega), fJ _ _ (by omega)]⟩) s3
