/-! the reference's net: blank, anew, who is a wearer -/
def Fr (P : Nat → Nat → Prop) (I I' : HI) : Prop := ∀ a i, ¬ P a i → I' a i = I a i
theorem Fr.rf {P : Nat → Nat → Prop} {I : HI} : Fr P I I := fun _ _ _ => rfl
theorem Fr.tr {P : Nat → Nat → Prop} {I I1 I2 : HI} (h : Fr P I I1) (g : Fr P I1 I2) : Fr P I I2 := fun a i hn => (g a i hn).trans (h a i hn)
theorem Fr.mono {P P' : Nat → Nat → Prop} {I I' : HI} (h : Fr P I I') (hp : ∀ a i, P a i → P' a i) : Fr P' I I' := fun a i hn => h a i (fun q => hn (hp a i q))
theorem Fr.up {P : Nat → Nat → Prop} {I I' : HI} {a i : Nat} {v : Int32} (h : Fr P I I') (hp : P a i) : Fr P I (up2 I' a i v) := by
  intro b j hn
  rw [up2_get, if_neg (fun q => hn (by rw [q.1, q.2]; exact hp))]
  exact h b j hn
theorem nlit8 : (8 : Int32) = nI 8 := rfl
theorem nlit1024 : (1024 : Int32) = nI 1024 := rfl
theorem nneg (n : Nat) : ¬ nI n = -1 ∨ 2 ^ 31 ≤ n := by
  by_cases h : n < 2 ^ 31
  · left
    intro e
    have := nI_pos h
    rw [e] at this
    exact this (by decide)
  · right; omega
/-- all but w -/
def oth (n w : Nat) : Nat := msk (fun k => decide (k ≠ w)) n
theorem oth_k : ∀ n, n < 9 → ∀ w, w < 9 → nI (2 ^ n - 1) &&& (nI (2 ^ w) ^^^ (-1)) = nI (oth n w) := by decide +kernel
theorem oth_lt (n w : Nat) : oth n w < 2 ^ n := msk_lt _ _
/-- a number is a wearer, or it isn't -/
theorem wcase (x : Int32) (n : Nat) (hn : n < 2 ^ 31) : (∃ w, w < n ∧ x = nI w) ∨ (x < 0 ∨ (¬ x < 0 ∧ nI n ≤ x)) := by
  by_cases h : x < 0
  · exact Or.inr (Or.inl h)
  · obtain ⟨j, hj, rfl⟩ := nI_of h
    by_cases h2 : j < n
    · exact Or.inl ⟨j, h2, rfl⟩
    · exact Or.inr (Or.inr ⟨h, nI_le (by omega) hj⟩)
theorem up00 (I : HI) (v : Int32) : (up2 I 0 0 v) 0 0 = v := up2_same _ _ _ _
theorem up0x (I : HI) (v : Int32) {k : Nat} (h : k ≠ 0) : (up2 I 0 0 v) 0 k = I 0 k := up2_idx _ _ _ h
theorem M_right_y {I : HI} {Q : Int32 → HI → Prop} {v : Int32} (h0 : I 0 0 = 0) (h : Q 1 I) : M_right I 1 v Q := by
  unfold M_right M_right_b16
  exact it h0 (ie (by decide) (it h0 h))
theorem M_right_n {I : HI} {Q : Int32 → HI → Prop} (h0 : I 0 0 = 0) (h : Q 0 (up2 I 0 0 1)) : M_right I 0 1 Q := by
  unfold M_right M_right_b16
  exact it h0 (it rfl (ie (by rw [up00]; decide) h))
theorem M_isWearer_y {I : HI} {n w : Nat} (e : I 0 1 = nI n) (h8 : n ≤ 8) (hw : w < n) {Q : Int32 → HI → Prop} (h : Q 1 (up2 I 0 0 0)) : M_isWearer I (nI w) Q := by
  unfold M_isWearer
  refine ie (nI_pos (by omega)) (ie ?_ (M_right_y (up00 _ _) ⟨zb_1, h⟩))
  rw [up0x _ _ (by decide), e]
  exact nI_ge (by omega) (by omega)
theorem M_isWearer_n {I : HI} {n : Nat} {x : Int32} (e : I 0 1 = nI n) (hx : x < 0 ∨ (¬ x < 0 ∧ nI n ≤ x)) {Q : Int32 → HI → Prop} (h : Q 0 (up2 (up2 I 0 0 0) 0 0 1)) : M_isWearer I x Q := by
  unfold M_isWearer
  rcases hx with hx | ⟨h0, hx⟩
  · exact it hx (M_right_n (up00 _ _) ⟨zb_0, h⟩)
  · refine ie h0 (it ?_ (M_right_n (up00 _ _) ⟨zb_0, h⟩))
    rw [up0x _ _ (by decide), e]
    exact hx
theorem MN.fr {P : Nat → Nat → Prop} {I I' : HI} {n q : Nat} {lk rd : Nat → Nat} (N : MN I n q lk rd) (f : Fr P I I') (h1 : ¬ P 0 1) (h2 : ¬ P 0 2) (h3 : ∀ w, w < n → ¬ P 2 w) (h4 : ∀ w, w < n → ¬ P 3 w) : MN I' n q lk rd := by
  obtain ⟨e1, e2, e3, e4, r⟩ := N
  exact ⟨(f _ _ h1).trans e1, (f _ _ h2).trans e2, fun w hw => (f _ _ (h3 w hw)).trans (e3 w hw), fun w hw => (f _ _ (h4 w hw)).trans (e4 w hw), r⟩
def bP (w : Nat) : Nat → Nat → Prop := fun a i => a = 4 ∧ i = w ∨ a = 5 ∧ 1024 * w ≤ i ∧ i < 1024 * w + 1024
theorem M_blank_l {w : Nat} (hw : w < 8) {Q : HI → Prop} {I0 : HI} : ∀ d i I, i + d = 1024 → Fr (bP w) I0 I → (∀ k, k < i → I 5 (1024 * w + k) = 0) →
    (∀ I', Fr (bP w) I0 I' → (∀ k, k < 1024 → I' 5 (1024 * w + k) = 0) → I' 4 w = I 4 w → Q I') → M_blank_l24 (nI w) Q (d + 1) I (nI i) := by
  intro d
  induction d with
  | zero =>
    intro i I hi f hz h
    rw [M_blank_l24, nlit1024]
    exact it (nI_le (by omega) (by omega)) (h I f (fun k hk => hz k (by omega)) rfl)
  | succ d ih =>
    intro i I hi f hz h
    rw [M_blank_l24, nlit1024]
    refine ie (nI_ge (by omega) (by omega)) ?_
    rw [nM, nI_add]
    refine ⟨vin (by omega) (by omega), ?_⟩
    rw [nx_nI (by omega), nI_1]
    refine ih (i + 1) _ (by omega) (f.up (Or.inr ⟨rfl, by omega, by omega⟩)) (fun k hk => ?_) (fun I' f' hz' e => h I' f' hz' (by rw [e, up2_get, if_neg (by omega)]))
    rw [up2_get]
    by_cases hk2 : k = i
    · rw [if_pos ⟨rfl, by omega⟩]
    · rw [if_neg (by omega)]; exact hz k (by omega)
theorem M_blank_k {I : HI} {n q : Nat} {lk rd : Nat → Nat} (N : MN I n q lk rd) {w : Nat} (hw : w < n) {Q : HI → Prop}
    (h : ∀ I', Fr (bP w) I I' → (∀ k, k < 1024 → I' 5 (1024 * w + k) = 0) → I' 4 w = nI (if vw n q lk rd w ≤ 1024 then 0 else 2) → Q I') : M_blank I (nI w) Q := by
  have h8 := N.2.2.2.2.2.1
  unfold M_blank
  refine M_viewsOf_k N hw ?_
  unfold vwc
  by_cases hv : vw n q lk rd w ≤ 1024
  · rw [if_pos hv, nlit1024]
    refine it (nI_le hv (by omega)) ⟨vin (by omega) (by omega), 1025, ?_⟩
    rw [nx_nI (by omega)]
    refine M_blank_l (by omega) 1024 0 _ (by omega) (Fr.rf.up (Or.inl ⟨rfl, rfl⟩)) (fun k hk => by omega) (fun I' f hz e => h I' f hz ?_)
    rw [e, up2_same, if_pos hv]; rfl
  · rw [if_neg hv, nlit1024]
    refine ie (nI_ge (by omega) (by omega)) ⟨vin (by omega) (by omega), 1025, ?_⟩
    rw [nx_nI (by omega)]
    refine M_blank_l (by omega) 1024 0 _ (by omega) (Fr.rf.up (Or.inl ⟨rfl, rfl⟩)) (fun k hk => by omega) (fun I' f hz e => h I' f hz ?_)
    rw [e, up2_same, if_neg hv]; rfl
/-- what a new hall leaves in the reference -/
def aP (n : Nat) : Nat → Nat → Prop := fun a i => a = 0 ∧ (i = 1 ∨ i = 2 ∨ i = 3 ∨ i = 40) ∨ (a = 2 ∨ a = 3) ∧ i < 8 ∨ a = 4 ∧ i < n ∨ a = 5 ∧ i < 1024 * n
def anewed (I : HI) (n q : Nat) : Prop := MN I n q (oth n) (fun _ => 0) ∧ I 0 3 = nI (q ^ n) ∧ I 0 40 = 0 ∧ (∀ w, w < n → I 4 w = nI (if vw n q (oth n) (fun _ => 0) w ≤ 1024 then 0 else 2)) ∧ (∀ k, k < 1024 * n → I 5 k = 0)
theorem M_anew_l3 {n q : Nat} {Q : HI → Prop} {I0 : HI} : ∀ d i I, i + d = n → Fr (aP n) I0 I → MN I n q (oth n) (fun _ => 0) → I 0 3 = nI (q ^ n) → (∀ w, w < i → I 4 w = nI (if vw n q (oth n) (fun _ => 0) w ≤ 1024 then 0 else 2)) → (∀ k, k < 1024 * i → I 5 k = 0) →
    (∀ I', Fr (aP n) I0 I' → anewed I' n q → Q I') → M_anew_l95 Q (d + 1) I (nI i) := by
  intro d
  induction d with
  | zero =>
    intro i I hi f N e3 hk ht h
    have : i = n := by omega
    subst this
    have h8 := N.2.2.2.2.2.1
    rw [M_anew_l95, N.1]
    refine it (nI_le (Nat.le_refl _) (by omega)) (h _ (f.up (Or.inl ⟨rfl, by omega⟩)) ?_)
    have fr : Fr (fun a k => a = 0 ∧ k = 40) I (up2 I 0 40 0) := Fr.rf.up ⟨rfl, rfl⟩
    refine ⟨N.fr fr (by omega) (by omega) (fun _ _ => by omega) (fun _ _ => by omega), (fr _ _ (by omega)).trans e3, up2_same _ _ _ _, fun w hw => (fr _ _ (by omega)).trans (hk w hw), fun k hk => (fr _ _ (by omega)).trans (ht k hk)⟩
  | succ d ih =>
    intro i I hi f N e3 hk ht h
    have h8 := N.2.2.2.2.2.1
    rw [M_anew_l95, N.1]
    refine ie (nI_ge (by omega) (by omega)) (M_blank_k N (by omega) (fun I' f' hz e => ?_))
    rw [nI_1]
    refine ih (i + 1) I' (by omega) (f.tr (f'.mono (fun a k hp => ?_))) (N.fr f' ?_ ?_ (fun w hw => ?_) (fun w hw => ?_)) ((f' _ _ ?_).trans e3) (fun w hw => ?_) (fun k hk2 => ?_) h
    · unfold bP at hp; unfold aP; omega
    · unfold bP; omega
    · unfold bP; omega
    · unfold bP; omega
    · unfold bP; omega
    · unfold bP; omega
    · by_cases hwi : w = i
      · subst hwi; exact e
      · rw [f' _ _ (by unfold bP; omega)]; exact hk w (by omega)
    · by_cases hk3 : k < 1024 * i
      · rw [f' _ _ (by unfold bP; omega)]; exact ht k hk3
      · have := hz (k - 1024 * i) (by omega)
        rw [show 1024 * i + (k - 1024 * i) = k by omega] at this
        exact this
theorem M_anew_l2 {n q : Nat} {Q : HI → Prop} {I0 : HI} (hb : 1 ≤ n ∧ n ≤ 8 ∧ 2 ≤ q ∧ q ≤ 4) (h : ∀ I', Fr (aP n) I0 I' → anewed I' n q → Q I') : ∀ d i I, i + d = 8 → Fr (aP n) I0 I → I 0 1 = nI n → I 0 2 = nI q → I 0 3 = nI (q ^ n) → (∀ w, w < i → w < n → I 2 w = nI (oth n w)) → (∀ w, w < i → I 3 w = 0) → M_anew_l46 Q (d + 1) I (nI i) := by
  intro d
  induction d with
  | zero =>
    intro i I hi f e1 e2 e3 h2 h3
    rw [M_anew_l46, nlit8]
    refine it (nI_le (by omega) (by omega)) ⟨n + 1, ?_⟩
    refine M_anew_l3 n 0 I (by omega) f ⟨e1, e2, fun w hw => h2 w (by omega) hw, fun w hw => h3 w (by omega), hb.1, hb.2.1, hb.2.2.1, hb.2.2.2, fun w _ => oth_lt n w, fun _ _ => Nat.zero_le _⟩ e3 (fun w hw => by omega) (fun k hk => by omega) h
  | succ d ih =>
    intro i I hi f e1 e2 e3 h2 h3
    rw [M_anew_l46, nlit8]
    refine ie (nI_ge (by omega) (by omega)) ⟨vin (by omega) (by omega), ?_⟩
    have e1' : up2 I 3 i 0 0 1 = nI n := by rw [up2_get, if_neg (by omega)]; exact e1
    rw [nx_nI (by omega), e1', nI_1]
    have fr : ∀ v, Fr (fun a k => (a = 2 ∨ a = 3) ∧ k = i) I (up2 (up2 I 3 i 0) 2 i v) := fun v => (Fr.rf.up ⟨by omega, rfl⟩).up ⟨by omega, rfl⟩
    have key : ∀ v, (i < n → v = nI (oth n i)) → M_anew_l46 Q (d + 1) (up2 (up2 I 3 i 0) 2 i v) (nI (i + 1)) := by
      intro v hv
      refine ih (i + 1) _ (by omega) (f.tr ((fr v).mono (fun a k hp => by unfold aP; omega))) ((fr v _ _ (by omega)).trans e1) ((fr v _ _ (by omega)).trans e2) ((fr v _ _ (by omega)).trans e3) (fun w hw hwn => ?_) (fun w hw => ?_)
      · by_cases e : w = i
        · subst e; rw [up2_same]; exact hv hwn
        · rw [fr v _ _ (by omega)]; exact h2 w (by omega) hwn
      · by_cases e : w = i
        · subst e; rw [up2_get, if_neg (by omega), up2_same]
        · rw [fr v _ _ (by omega)]; exact h3 w (by omega)
    refine ic (fun hc => ?_) (fun hc => ?_)
    · rw [nI_leI (by omega) (by omega)] at hc
      exact ⟨vin (by omega) (by omega), key 0 (fun q => by omega)⟩
    · rw [nI_leI (by omega) (by omega)] at hc
      unfold M_all
      refine ⟨vin (by omega) (by omega), ?_⟩
      rw [e1', nShl1 n (by omega), nlit1, nS Nat.one_le_two_pow, ← nlit1, nShl1 i (by omega), oth_k n (by omega) i (by omega)]
      exact key _ (fun _ => rfl)
theorem M_anew_k {n q : Nat} {I : HI} {Q : HI → Prop} (hb : 1 ≤ n ∧ n ≤ 8 ∧ 2 ≤ q ∧ q ≤ 4) (h : ∀ I', Fr (aP n) I I' → anewed I' n q → Q I') : M_anew I (nI n) (nI q) Q := by
  have key : ∀ d i J, i + d = n → Fr (aP n) I J → J 0 1 = nI n → J 0 2 = nI q → J 0 3 = nI (q ^ i) → M_anew_l17 Q (d + 1) J (nI i) := by
    intro d
    induction d with
    | zero =>
      intro i J hi f e1 e2 e3
      have : i = n := by omega
      subst this
      rw [M_anew_l17, e1]
      exact it (nI_le (Nat.le_refl _) (by omega)) ⟨9, M_anew_l2 hb h 8 0 J (by omega) f e1 e2 e3 (fun w hw => by omega) (fun w hw => by omega)⟩
    | succ d ih =>
      intro i J hi f e1 e2 e3
      rw [M_anew_l17, e1]
      refine ie (nI_ge (by omega) (by omega)) ?_
      rw [e3, e2, nM, ← Nat.pow_succ, nI_1]
      refine ih (i + 1) _ (by omega) (f.up (Or.inl ⟨rfl, by omega⟩)) ?_ ?_ (up2_same _ _ _ _)
      · rw [up2_get, if_neg (by omega)]; exact e1
      · rw [up2_get, if_neg (by omega)]; exact e2
  refine ⟨n + 1, key n 0 _ (by omega) (((Fr.rf.up (Or.inl ⟨rfl, by omega⟩)).up (Or.inl ⟨rfl, by omega⟩)).up (Or.inl ⟨rfl, by omega⟩)) ?_ ?_ ?_⟩
  · rw [up2_get, if_neg (by omega), up2_get, if_neg (by omega), up2_same]
  · rw [up2_get, if_neg (by omega), up2_same]
  · rw [up2_same, Nat.pow_zero]; rfl
