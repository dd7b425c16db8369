/-! cover: the class's side -/
theorem xor_lt5 : ∀ n, n < 6 → ∀ r, r < 2 ^ n → ∀ w, w < n → r ^^^ 2 ^ w < 2 ^ n := by decide +kernel
theorem nI_z {m : Nat} (h : m < 2 ^ 32) : nI m = 0 ↔ m = 0 := by
  constructor
  · intro e
    have : (nI m).toBitVec.toNat = (0 : Int32).toBitVec.toNat := by rw [e]
    have e1 : (nI m).toBitVec.toNat = m := by show (BitVec.ofNat 32 m).toNat = m; rw [BitVec.toNat_ofNat]; omega
    rw [e1] at this
    exact this
  · intro e; rw [e]; rfl
theorem p25 {n : Nat} (h : n ≤ 5) : 2 ^ n ≤ 32 := Nat.pow_le_pow_right (by decide) h
theorem nrN_lt {n r : Nat} (h : n ≤ 5) (hr : r < 2 ^ n) : nrN n r < 2 ^ 32 := by
  have p := p25 h
  have key : ∀ w, w ≤ n → cum (fun w v => v ||| 2 ^ (r ^^^ 2 ^ w)) (2 ^ r) w < 2 ^ 32 := by
    intro w
    induction w with
    | zero => intro _; exact Nat.pow_lt_pow_right (by decide) (by omega)
    | succ w ih =>
      intro hw
      rw [cum]
      refine Nat.or_lt_two_pow (ih (by omega)) (Nat.pow_lt_pow_right (by decide) ?_)
      have := xor_lt5 n (by omega) r hr w (by omega)
      omega
  exact key n (Nat.le_refl _)
theorem gnN_lt {n r : Nat} (h : n ≤ 5) (hr : r < 2 ^ n) : gnN n r < 2 ^ n := by
  have key : ∀ w, w ≤ n → cum (fun w v => if v < r ^^^ 2 ^ w then r ^^^ 2 ^ w else v) r w < 2 ^ n := by
    intro w
    induction w with
    | zero => intro _; exact hr
    | succ w ih =>
      intro hw
      rw [cum]
      split
      · exact xor_lt5 n (by omega) r hr w (by omega)
      · exact ih (by omega)
  exact key n (Nat.le_refl _)
def cvP : Nat → Nat → Prop := fun b i => b = 45 ∨ b = 46 ∨ b = 47 ∨ b = 44 ∧ (i = 0 ∨ i = 2)
def nearI (I : HI) (n : Nat) : Prop := ∀ r, r < 2 ^ n → I 46 r = nI (nrN n r) ∧ I 47 r = nI (gnN n r)
theorem noteNear_k {I0 : HI} {n : Nat} (h : n ≤ 5) (e2 : I0 44 2 = nI n) {Q : HI → Prop} (hQ : ∀ I, Fr (fun b _ => b = 46 ∨ b = 47) I0 I → nearI I n → Q I) : Cov_noteNear I0 Q := by
  have p := p25 h
  have outer : ∀ d r I, r + d = 2 ^ n → Fr (fun b _ => b = 46 ∨ b = 47) I0 I → (∀ r', r' < r → I 46 r' = nI (nrN n r') ∧ I 47 r' = nI (gnN n r')) → Cov_noteNear_l2 Q (d + 1) I (nI r) := by
    intro d
    induction d with
    | zero =>
      intro r I hr f hn
      rw [Cov_noteNear_l2, f _ _ (by omega), e2, nShl1 n (by omega)]
      exact it (nI_le (by omega) (by omega)) (hQ I f (fun r' hr' => hn r' (by omega)))
    | succ d ih =>
      intro r I hr f hn
      rw [Cov_noteNear_l2, f _ _ (by omega), e2, nShl1 n (by omega), nShl1 r (by omega), nx_nI (by omega)]
      have v : vp_in (nI r) 32 := vin (by omega) (by omega)
      refine ie (nI_ge (by omega) (by omega)) ⟨v, v, n + 1, ?_⟩
      have inner : ∀ e w J, w + e = n → Fr (fun b i => (b = 46 ∨ b = 47) ∧ i = r) I J → J 46 r = nI (cum (fun w v => v ||| 2 ^ (r ^^^ 2 ^ w)) (2 ^ r) w) → J 47 r = nI (cum (fun w v => if v < r ^^^ 2 ^ w then r ^^^ 2 ^ w else v) r w) → Cov_noteNear_l30 (nI r) (fun I' x1' => Cov_noteNear_l2 Q (d + 1) I' x1') Q (e + 1) J (nI w) := by
        intro e
        induction e with
        | zero =>
          intro w J hw fJ h46 h47
          have : w = n := by omega
          subst this
          rw [Cov_noteNear_l30, fJ _ _ (by omega), f _ _ (by omega), e2, nI_1]
          refine it (nI_le (Nat.le_refl _) (by omega)) (ih (r + 1) J (by omega) (f.tr (fJ.mono (fun b i hb => hb.1))) (fun r' hr' => ?_))
          by_cases er : r' = r
          · rw [er]; exact ⟨h46, h47⟩
          · rw [fJ _ _ (by omega), fJ _ _ (by omega)]; exact hn r' (by omega)
        | succ e ihe =>
          intro w J hw fJ h46 h47
          have x := xor_lt5 n (by omega) r (by omega) w (by omega)
          have g := gnN_lt h (show r < 2 ^ n by omega)
          have gl : cum (fun w v => if v < r ^^^ 2 ^ w then r ^^^ 2 ^ w else v) r w < 2 ^ n := by
            have key : ∀ w, w ≤ n → cum (fun w v => if v < r ^^^ 2 ^ w then r ^^^ 2 ^ w else v) r w < 2 ^ n := by
              intro w
              induction w with
              | zero => intro _; show r < 2 ^ n; omega
              | succ w ih =>
                intro hw
                rw [cum]
                split
                · exact xor_lt5 n (by omega) r (by omega) w (by omega)
                · exact ih (by omega)
            exact key w (by omega)
          rw [Cov_noteNear_l30, fJ 44 _ (by omega), f _ _ (by omega), e2, nShl1 w (by omega), nXor, nShl1 _ (by omega), nx_nI (by omega), h46, nOr]
          have e47 : ∀ v, (up2 J 46 r v) 47 r = nI (cum (fun w v => if v < r ^^^ 2 ^ w then r ^^^ 2 ^ w else v) r w) := fun v => by rw [up2_get, if_neg (by omega)]; exact h47
          rw [e47]
          simp only [nI_1]
          have go : ∀ y, y = nI (cum (fun w v => if v < r ^^^ 2 ^ w then r ^^^ 2 ^ w else v) r (w + 1)) → Cov_noteNear_l30 (nI r) (fun I' x1' => Cov_noteNear_l2 Q (d + 1) I' x1') Q (e + 1) (up2 (up2 J 46 r (nI (cum (fun w v => v ||| 2 ^ (r ^^^ 2 ^ w)) (2 ^ r) w ||| 2 ^ (r ^^^ 2 ^ w)))) 47 r y) (nI (w + 1)) := by
            intro y hy
            refine ihe (w + 1) _ (by omega) ((fJ.up (by omega)).up (by omega)) ?_ ?_
            · rw [up2_get, if_neg (by omega), up2_same]; rfl
            · rw [up2_same]; exact hy
          refine ie (nI_ge (by omega) (by omega)) ⟨v, v, v, ?_⟩
          unfold Jd_max
          refine ic (fun hc => ⟨v, go _ ?_⟩) (fun hc => ⟨v, go _ ?_⟩)
          · rw [nI_ltI (by omega) (by omega)] at hc
            rw [cum]; rw [if_pos hc]
          · rw [nI_ltI (by omega) (by omega)] at hc
            rw [cum]; rw [if_neg hc]
      refine inner n 0 _ (by omega) ((Fr.rf.up (by omega)).up (by omega)) ?_ ?_
      · rw [up2_get, if_neg (by omega), up2_same]; rfl
      · rw [up2_same]; rfl
  exact ⟨2 ^ n + 1, outer (2 ^ n) 0 I0 (by omega) Fr.rf (fun r' hr' => by omega)⟩
theorem iu_bit {m r : Nat} (hm : m < 2 ^ 32) (hr : r < 32) : (iu (nI m) (nI r)) &&& 1 = 1 ↔ m.testBit r = true := by
  rw [iuN hm hr, show (1 : Int32) = nI (2 ^ 1 - 1) from rfl, nAnd, Nat.and_two_pow_sub_one_eq_mod, Nat.testBit_eq_decide_div_mod_eq]
  have := Nat.mod_two_eq_zero_or_one (m / 2 ^ r)
  rw [show (2 : Nat) ^ 1 = 2 from rfl]
  rcases this with h | h <;> rw [h] <;> simp <;> decide
theorem lst_le {n m l0 : Nat} : ∀ k, cum (fun r v => if m.testBit r then (if gnN n r < v then gnN n r else v) else v) l0 k ≤ l0
  | 0 => Nat.le_refl _
  | k + 1 => by
    have := lst_le (n := n) (m := m) (l0 := l0) k
    rw [cum]
    split
    · split <;> omega
    · exact this
theorem lastU_k {I : HI} {n m : Nat} (h : n ≤ 5) (e2 : I 44 2 = nI n) (hn : nearI I n) (hm : m < 2 ^ 32) {Q : Int32 → Prop} (hQ : Q (nI (lstN n m (2 ^ n - 1)))) : Cov_lastUseful I (nI m) Q := by
  have p := p25 h
  have key : ∀ d r, r + d = 2 ^ n → Cov_lastUseful_l11 I (nI m) Q (d + 1) (nI (cum (fun r v => if m.testBit r then (if gnN n r < v then gnN n r else v) else v) (2 ^ n - 1) r)) (nI r) := by
    intro d
    induction d with
    | zero =>
      intro r hr
      have : r = 2 ^ n := by omega
      rw [Cov_lastUseful_l11, e2, nShl1 n (by omega)]
      rw [this]
      exact it (nI_le (Nat.le_refl _) (by omega)) hQ
    | succ d ih =>
      intro r hr
      have ih := ih (r + 1) (by omega)
      rw [cum] at ih
      have g := gnN_lt h (show r < 2 ^ n by omega)
      have l := lst_le (n := n) (m := m) (l0 := 2 ^ n - 1) r
      rw [Cov_lastUseful_l11, e2, nShl1 n (by omega), nx_nI (by omega), (hn r (by omega)).2]
      simp only [nI_1]
      refine ie (nI_ge (by omega) (by omega)) (ic (fun hb => ⟨vin (by omega) (by omega), ?_⟩) (fun hb => ?_))
      · rw [iu_bit hm (by omega)] at hb
        rw [if_pos hb] at ih
        unfold Jd_min
        refine ic (fun hc => ?_) (fun hc => ?_)
        · rw [nI_ltI (by omega) (by omega)] at hc; rw [if_pos hc] at ih; exact ih
        · rw [nI_ltI (by omega) (by omega)] at hc; rw [if_neg hc] at ih; exact ih
      · rw [iu_bit hm (by omega)] at hb
        rw [if_neg hb] at ih
        exact ih
  unfold Cov_lastUseful
  rw [e2, nShl1 n (by omega), show (nI (2 ^ n) - 1 : Int32) = nI (2 ^ n - 1) from by rw [nlit1, nS Nat.one_le_two_pow]]
  exact ⟨2 ^ n + 1, key (2 ^ n) 0 (by omega)⟩
theorem outN_lt {m b : Nat} (h : m < 2 ^ 32) : outN m b < 2 ^ 32 := Nat.lt_of_le_of_lt Nat.and_le_left h
theorem pop32_le (m : Nat) : pop32 m ≤ 32 := cnt_le _ _
def chQ (Q : Int32 → HI → Prop) (depth : Nat) (I' : HI) : Option (List Nat) → Prop
  | none => Q 0 I'
  | some l => (∀ i, i < l.length → I' 45 (depth + i) = nI (l.getD i 0)) → Q 1 I'
theorem choose_k {n many : Nat} (h : n ≤ 5) (hmy : many ≤ 7) : ∀ d depth prev m I, depth + d = 9 → 1 ≤ depth → depth ≤ many → I 44 0 = nI many → I 44 2 = nI n → nearI I n → I 45 (depth - 1) = nI prev → prev < 32 → m < 2 ^ 32 → ∀ {Q : Int32 → HI → Prop}, (∀ I', Fr (fun b i => b = 45 ∧ depth ≤ i) I I' → chQ Q depth I' (chN n many d depth prev m)) → Cov_choose d I (nI depth) (nI m) Q := by
  have p := p25 h
  intro d
  induction d with
  | zero => intro depth prev m I hd h1 h2; omega
  | succ d ih =>
    intro depth prev m I hd h1 h2 e0 e2 hn e45 hp hm Q hQ
    rw [Cov_choose]
    unfold Cov_choose_o
    rw [chN] at hQ
    by_cases m0 : m = 0
    · simp only [if_pos m0] at hQ
      exact it ((nI_z hm).mpr m0) (hQ I Fr.rf (fun i hi => by simp at hi))
    simp only [if_neg m0] at hQ
    refine ie (fun q => m0 ((nI_z hm).mp q)) ?_
    rw [e0, nS h2]
    by_cases hdm : many ≤ depth
    · simp only [if_pos hdm] at hQ
      exact it (by rw [show many - depth = 0 by omega]; decide) (hQ I Fr.rf)
    simp only [if_neg hdm] at hQ
    refine ie (fun q => by rw [show (0 : Int32) = nI 0 from rfl, nI_leI (by omega) (by omega)] at q; omega) (Jd_bit32 hm ?_)
    have pm := pop32_le m
    have e3 : nI (many - depth) * (I 44 2 + 1) = nI ((many - depth) * (n + 1)) := by rw [e2, nI_1, nM]
    rw [e3]
    have b1 : (many - depth) * (n + 1) ≤ 7 * 6 := Nat.mul_le_mul (by omega) (by omega)
    by_cases hpop : (many - depth) * (n + 1) < pop32 m
    · simp only [if_pos hpop] at hQ
      exact ie (nI_ge hpop (by omega)) (hQ I Fr.rf)
    simp only [if_neg hpop] at hQ
    refine it (nI_le (by omega) (by omega)) (lastU_k h e2 hn hm ?_)
    have ll : lstN n m (2 ^ n - 1) ≤ 2 ^ n - 1 := lst_le _
    have p1 : 1 ≤ 2 ^ n := Nat.one_le_two_pow
    rw [show (nI depth - 1 : Int32) = nI (depth - 1) from by rw [nlit1, nS h1], nx_nI (by omega), e45, nI_1]
    refine ⟨vin (by omega) (by omega), lstN n m (2 ^ n - 1) - prev + 1, ?_⟩
    generalize lstN n m (2 ^ n - 1) = last at *
    have loop : ∀ c row J, c = last + 1 - row → row ≤ 33 → Fr (fun b i => b = 45 ∧ depth ≤ i) I J → (∀ I', Fr (fun b i => b = 45 ∧ depth ≤ i) I I' → chQ Q depth I' ((List.range' row c).findSome? (fun row => (chN n many d (depth + 1) row (outN m (nrN n row))).map (fun l => row :: l)))) → Cov_choose_l53 (Cov_choose d) (nI depth) (nI m) (nI last) Q (c + 1) J (nI row) := by
      intro c
      induction c with
      | zero =>
        intro row J hc hr f hQ
        rw [Cov_choose_l53]
        exact it (nI_lt (by omega) (by omega)) (hQ J f)
      | succ c ihc =>
        intro row J hc hr f hQ
        have hrow : row < 2 ^ n := by omega
        rw [Cov_choose_l53, nx_nI (by omega), nx_nI (show row < 2 ^ 31 by omega)]
        have f2 : Fr (fun b i => b = 45 ∧ depth ≤ i) I (up2 J 45 depth (nI row)) := f.up ⟨rfl, Nat.le_refl _⟩
        have n2 : nearI (up2 J 45 depth (nI row)) n := fun r hr => ⟨(f2 _ _ (by omega)).trans (hn r hr).1, (f2 _ _ (by omega)).trans (hn r hr).2⟩
        rw [(n2 row hrow).1, nAndn]
        simp only [nI_1]
        refine ie (nI_nlt (by omega) (by omega)) ⟨vin (by omega) (by omega), vin (by omega) (by omega), ?_⟩
        refine ih (depth + 1) row (outN m (nrN n row)) (up2 J 45 depth (nI row)) (by omega) (by omega) (by omega) ((f2 _ _ (by omega)).trans e0) ((f2 _ _ (by omega)).trans e2) n2 (by rw [Nat.add_sub_cancel]; exact up2_same _ _ _ _) (by omega) (outN_lt hm) (fun I' f' => ?_)
        have fI' : Fr (fun b i => b = 45 ∧ depth ≤ i) I I' := f2.tr (f'.mono (fun b i hb => ⟨hb.1, by omega⟩))
        have d45 : I' 45 depth = nI row := (f' _ _ (by omega)).trans (up2_same _ _ _ _)
        rw [List.range'_succ, List.findSome?_cons] at hQ
        cases e : chN n many d (depth + 1) row (outN m (nrN n row)) with
        | none =>
          rw [e] at hQ
          show (if (0 : Int32) = 0 then Cov_choose_l53 (Cov_choose d) (nI depth) (nI m) (nI last) Q (c + 1) I' (nI (row + 1)) else Q 1 I')
          exact it rfl (ihc (row + 1) I' (by omega) (by omega) fI' hQ)
        | some l =>
          rw [e] at hQ
          intro hl
          show (if (1 : Int32) = 0 then Cov_choose_l53 (Cov_choose d) (nI depth) (nI m) (nI last) Q (c + 1) I' (nI (row + 1)) else Q 1 I')
          refine ie (by decide) (hQ I' fI' (fun i hi => ?_))
          cases i with
          | zero => exact d45
          | succ i =>
            have hi : i + 1 < l.length + 1 := hi
            have := hl i (by omega)
            rw [show depth + (i + 1) = depth + 1 + i by omega]
            exact this
    exact loop (last - prev) (prev + 1) I (by omega) (by omega) Fr.rf hQ
theorem allN_k : ∀ n, n < 6 → 1 ≤ n → allN n < 2 ^ 32 ∧ (nI (2 ^ n) = 32 → nI (allN n) = -1) ∧ (¬ nI (2 ^ n) = 32 → ((1 : Int32) <<< (nI (2 ^ n) &&& 31)) - 1 = nI (allN n)) := by decide +kernel
theorem cov_k : ∀ n, n < 6 → 1 ≤ n → 1 ≤ (cov n).length ∧ (cov n).length ≤ 7 ∧ (cov n).getD 0 0 = 0 ∧ (cov n).length = (cov n).tail.length + 1 ∧ ∀ i, i < 7 → (cov n).getD (i + 1) 0 = (cov n).tail.getD i 0 ∧ (cov n).getD i 0 < 32 := by decide +kernel
theorem chB_n {n m : Nat} (h1 : 1 ≤ n) (h5 : n ≤ 5) (hm : 1 ≤ m) (hl : m < (cov n).length) : chN n m 8 1 0 (outN (allN n) (nrN n 0)) = none := by
  have := chB_k n (by omega) h1
  unfold chB at this
  rw [Bool.and_eq_true, List.all_eq_true] at this
  have := this.1 (m - 1) (List.mem_range.mpr (by omega))
  rw [show m - 1 + 1 = m by omega] at this
  exact eq_of_beq this
theorem chB_y {n : Nat} (h1 : 1 ≤ n) (h5 : n ≤ 5) : chN n (cov n).length 8 1 0 (outN (allN n) (nrN n 0)) = some (cov n).tail := by
  have := chB_k n (by omega) h1
  unfold chB at this
  rw [Bool.and_eq_true] at this
  exact eq_of_beq this.2
def covC (I : HI) (n : Nat) : Prop := I 44 2 = nI n ∧ I 44 0 = nI (cov n).length ∧ ∀ i, i < (cov n).length → I 45 i = nI ((cov n).getD i 0)
theorem Cov_seek_k {I0 : HI} {n c : Nat} (h1 : 1 ≤ n) (h5 : n ≤ 5) (ec : I0 44 2 = nI c) (hc5 : c ≤ 5) (hc : c = n → covC I0 n) {Q : HI → Prop} (hQ : ∀ I, Fr cvP I0 I → covC I n → Q I) : Cov_seek I0 (nI n) Q := by
  have p := p25 h5
  obtain ⟨k1, k2, k3, k4, k5⟩ := cov_k n (by omega) h1
  unfold Cov_seek
  rw [ec]
  by_cases e : c = n
  · exact it (by rw [e]) (hQ I0 Fr.rf (hc e))
  · refine ie (fun q => e (by rw [nI_eq (by omega) (by omega)] at q; exact q)) (noteNear_k h5 (up2_same _ _ _ _) (fun I1 f1 hn => ?_))
    have g2 : I1 44 2 = nI n := (f1 _ _ (by omega)).trans (up2_same _ _ _ _)
    have fa : Fr cvP I0 I1 := (Fr.up (P := cvP) Fr.rf (by unfold cvP; omega)).tr (f1.mono (fun b i hb => by unfold cvP; omega))
    obtain ⟨a1, a2, a3⟩ := allN_k n (by omega) h1
    rw [g2, nShl1 n (by omega)]
    have b40 : Cov_seek_b40 I1 (nI (allN n)) Q := by
      unfold Cov_seek_b40
      have loop : ∀ d m I, m + d = (cov n).length → Fr cvP I0 I → nearI I n → I 44 2 = nI n → I 44 0 = nI m → (m < (cov n).length → Cov_seek_l49 (nI (allN n)) Q (d + 1) I 0) := by
        intro d
        induction d with
        | zero => intro m I hm f hn e2 e0 hl; omega
        | succ d ih =>
          intro m I hm f hn e2 e0 hl
          rw [Cov_seek_l49, e0, nI_1]
          refine it rfl (ie (nI_ge (b := 7) (by omega) (by omega)) ?_)
          generalize hJ : up2 (up2 I 44 0 (nI (m + 1))) 45 0 0 = J
          have fJ : Fr (fun b i => b = 44 ∧ i = 0 ∨ b = 45 ∧ i = 0) I J := by rw [← hJ]; exact (Fr.rf.up (by omega)).up (by omega)
          have j0 : J 44 0 = nI (m + 1) := by rw [← hJ, up2_get, if_neg (by omega), up2_same]
          have j45 : J 45 0 = nI 0 := by rw [← hJ, up2_same]; rfl
          have nJ : nearI J n := fun r hr => ⟨(fJ _ _ (by omega)).trans (hn r hr).1, (fJ _ _ (by omega)).trans (hn r hr).2⟩
          rw [(nJ 0 (Nat.pow_pos (by decide))).1, nAndn]
          refine choose_k (n := n) (many := m + 1) h5 (by omega) 8 1 0 (outN (allN n) (nrN n 0)) J (by omega) (by omega) (by omega) j0 ((fJ _ _ (by omega)).trans e2) nJ j45 (by omega) (outN_lt a1) (fun I' f' => ?_)
          have fI' : Fr cvP I0 I' := (f.tr (fJ.mono (fun b i hb => by unfold cvP; omega))).tr (f'.mono (fun b i hb => by unfold cvP; omega))
          by_cases hlast : m + 1 = (cov n).length
          · rw [hlast, chB_y h1 h5]
            intro hl2
            rw [show d = 0 by omega, Cov_seek_l49]
            refine ie (by decide) (hQ I' fI' ⟨by rw [f' _ _ (by omega), fJ _ _ (by omega)]; exact e2, by rw [f' _ _ (by omega), j0, hlast], fun i hi => ?_⟩)
            cases i with
            | zero => rw [k3, f' _ _ (by omega)]; exact j45
            | succ i =>
              have := hl2 i (by omega)
              rw [Nat.add_comm 1 i] at this
              rw [this, (k5 i (by omega)).1]
          · rw [chB_n h1 h5 (by omega) (by omega)]
            exact ih (m + 1) I' (by omega) fI' (fun r hr => ⟨(f' _ _ (by omega)).trans (nJ r hr).1, (f' _ _ (by omega)).trans (nJ r hr).2⟩) (by rw [f' _ _ (by omega), fJ _ _ (by omega)]; exact e2) (by rw [f' _ _ (by omega)]; exact j0) (by omega)
      have f0 : Fr (fun b i => b = 44 ∧ i = 0) I1 (up2 I1 44 0 0) := Fr.rf.up ⟨rfl, rfl⟩
      exact ⟨(cov n).length + 1, loop (cov n).length 0 (up2 I1 44 0 0) (by omega) (fa.tr (f0.mono (fun b i hb => by unfold cvP; omega))) (fun r hr => ⟨(f0 _ _ (by omega)).trans (hn r hr).1, (f0 _ _ (by omega)).trans (hn r hr).2⟩) ((f0 _ _ (by omega)).trans g2) (up2_same _ _ _ _) (by omega)⟩
    refine ic (fun q => ?_) (fun q => ?_)
    · rw [a2 q] at b40; exact b40
    · rw [a3 q]; exact b40
