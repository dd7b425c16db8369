/-! rules: the reference's token, whole -/
theorem nL_inj {a b : Nat} (ha : a < 2 ^ 40) (hb : b < 2 ^ 40) (h : nL a = nL b) : a = b := by
  have := congrArg Int64.toInt h
  rw [Int64.toInt_ofNat_of_lt (by omega), Int64.toInt_ofNat_of_lt (by omega)] at this
  omega
theorem known_l21 {I : HI} {J : HJ} {Q : Int32 → Prop} {x : List Nat} (hx : ∀ c ∈ x, isLt c = true) (hp : pkl x < 2 ^ 40) (hJ : J 0 26 = nL (pkl x)) : ∀ d k, k + d = 13 → Q (rfd x (rlist.drop k) k) → M_knownWord_l21 I J Q (d + 1) (nI k) := by
  intro d
  induction d with
  | zero =>
    intro k hk hQ
    have : k = 13 := by omega
    subst this
    unfold M_knownWord_l21
    exact it (by decide) hQ
  | succ d ih =>
    intro k hk hQ
    unfold M_knownWord_l21
    refine ie (nI_ge (show k < 13 by omega) (by decide)) (M_letters_k (by omega) ?_)
    have hr := rwd_ok k (by omega)
    have e : rlist.drop k = rwd k :: rlist.drop (k + 1) := by
      have : ∀ k, k < 13 → rlist.drop k = rwd k :: rlist.drop (k + 1) := by decide
      exact this k (by omega)
    rw [e] at hQ
    simp only [rfd] at hQ
    rw [hJ]
    refine ic (fun h => ?_) (fun h => ?_)
    · rw [lg_cmp_eq] at h
      rw [if_pos (pkl_inj hx hr.2 (nL_inj hr.1 hp h).symm)] at hQ
      exact hQ
    · rw [if_neg (fun e => h (by rw [lg_cmp_eq, e]))] at hQ
      rw [nI_1]
      exact ih (k + 1) (by omega) hQ
def skd (k : Nat) : Nat := if k = 128 then 0 else if 140 ≤ k then 1 else if k = 131 ∨ k = 132 then 2 else if k = 129 then 4 else 3
/-- the token that begins at s, in the reference's cells -/
def TkM (t : Nat → Nat) (m s : Nat) (I : HI) (J : HJ) : Prop :=
  I 0 20 = nI (tE t m s) ∧ I 0 22 = nI s ∧ I 0 21 = nI (skd (tK t m s)) ∧ I 0 23 = nI (tE t m s - s) ∧ (tK t m s = 131 → I 0 24 = nI (tV t m s)) ∧ (tK t m s < 128 → I 0 25 = nI (tK t m s)) ∧ (140 ≤ tK t m s → tE t m s - s ≤ 6 → J 0 26 = nL (pkw t s (tE t m s - s)))
theorem TkM.fr {t : Nat → Nat} {m s : Nat} {I I' : HI} {J : HJ} (h : TkM t m s I J) (f : ∀ i, 20 ≤ i → i ≤ 25 → I' 0 i = I 0 i) : TkM t m s I' J := by
  unfold TkM at h ⊢
  rw [f 20 (by omega) (by omega), f 21 (by omega) (by omega), f 22 (by omega) (by omega), f 23 (by omega) (by omega), f 24 (by omega) (by omega), f 25 (by omega) (by omega)]
  exact h
theorem wfd_ge {x : List Nat} : ∀ (ws : List (List Nat)) (k : Nat), 140 ≤ k → 140 ≤ wfd x ws k
  | [], k, _ => Nat.le_refl _
  | w :: r, k, h => by
    simp only [wfd]
    split
    · exact h
    · exact wfd_ge r (k + 1) (by omega)
theorem tK_cases (t : Nat → Nat) (m s : Nat) : (m ≤ s ∧ tK t m s = 128 ∧ tE t m s = s) ∨ (s < m ∧ isLt (t s) = true ∧ tE t m s = spn isLt t (m - s) s ∧ tK t m s = wfd (ltr t (tE t m s - s) s) wlist 141 ∧ 140 ≤ tK t m s) ∨ (s < m ∧ isLt (t s) = false ∧ isDg (t s) = true ∧ tE t m s = spn isDg t (m - s) s ∧ tK t m s = (if tE t m s - s ≤ 3 then 131 else 132)) ∨ (s < m ∧ isLt (t s) = false ∧ isDg (t s) = false ∧ tE t m s = s + 1 ∧ ((isSg (t s) = true ∧ tK t m s = t s ∧ t s < 62 ∧ 40 ≤ t s) ∨ (isSg (t s) = false ∧ tK t m s = 129))) := by
  by_cases h : m ≤ s
  · left
    exact ⟨h, by unfold tK; rw [if_pos h], by unfold tE; rw [if_pos h]⟩
  · right
    by_cases h1 : isLt (t s) = true
    · left
      have e : tK t m s = wfd (ltr t (tE t m s - s) s) wlist 141 := by unfold tK; rw [if_neg h, if_pos h1]
      exact ⟨by omega, h1, by unfold tE; rw [if_neg h, if_pos h1], e, by rw [e]; exact wfd_ge _ _ (by decide)⟩
    · right
      have h1' := Bool.eq_false_iff.mpr h1
      by_cases h2 : isDg (t s) = true
      · left
        exact ⟨by omega, h1', h2, by unfold tE; rw [if_neg h, if_neg h1, if_pos h2], by unfold tK; rw [if_neg h, if_neg h1, if_pos h2]⟩
      · right
        refine ⟨by omega, h1', Bool.eq_false_iff.mpr h2, by unfold tE; rw [if_neg h, if_neg h1, if_neg h2], ?_⟩
        by_cases h3 : isSg (t s) = true
        · left
          refine ⟨h3, by unfold tK; rw [if_neg h, if_neg h1, if_neg h2, if_pos h3], ?_, ?_⟩ <;> (unfold isSg at h3; simp at h3; omega)
        · right
          exact ⟨Bool.eq_false_iff.mpr h3, by unfold tK; rw [if_neg h, if_neg h1, if_neg h2, if_neg h3]⟩
theorem M_known_k {t : Nat → Nat} {m s : Nat} {I : HI} {J : HJ} {Q : Int32 → Prop} (hm : m ≤ 500) (hs : s ≤ m) (h : TkM t m s I J) (hQ : Q (kmap (tK t m s))) : M_knownWord I J Q := by
  obtain ⟨-, -, h21, h23, -, -, hJ⟩ := h
  have hle := tE_le t hs
  unfold M_knownWord
  rw [h21, h23]
  have no : ¬ 140 ≤ tK t m s → (if nI (skd (tK t m s)) = 1 then (if nI (tE t m s - s) ≤ 6 then (∃ nn, M_knownWord_l21 I J Q nn 0) else (Q (-1) )) else (Q (-1) )) := by
    intro h9
    have hk : skd (tK t m s) ≠ 1 := by
      unfold skd; rw [if_neg h9]
      repeat' split
      all_goals omega
    have hk2 : skd (tK t m s) ≤ 4 := by
      unfold skd
      repeat' split
      all_goals omega
    have hk3 : kmap (tK t m s) = -1 := by unfold kmap; rw [if_neg (by omega), if_neg (by omega), if_neg (by omega), if_neg (by omega), if_neg (by omega), if_neg (by omega), if_neg (by omega)]
    rw [hk3] at hQ
    exact ie (fun e => hk ((nI_eq (by omega) (by decide)).mp (show nI _ = nI 1 from e))) hQ
  rcases tK_cases t m s with ⟨-, e, -⟩ | ⟨h1, h2, h3, h4, h5⟩ | ⟨-, -, -, -, e⟩ | ⟨-, -, -, -, h6⟩
  · exact no (by omega)
  · have hk : skd (tK t m s) = 1 := by unfold skd; rw [if_neg (by omega), if_pos h5]
    rw [hk]
    refine it rfl ?_
    rw [h4, kw_map] at hQ
    refine ic (fun h => ?_) (fun h => ?_)
    · have h6 : tE t m s - s ≤ 6 := (nI_leI (by omega) (by decide)).mp (show nI _ ≤ nI 6 from h)
      have hx : ∀ c ∈ ltr t (tE t m s - s) s, isLt c = true := fun c hc => by
        obtain ⟨j, h7, h8⟩ := ltr_mem hc
        rw [h8]
        exact spn_in isLt t (m - s) s (s + j) (by omega) (by omega)
      have e9 : pkl (ltr t (tE t m s - s) s) = pkw t s (tE t m s - s) := by have := pkl_ltr t s (tE t m s - s) 0; rw [Nat.zero_add] at this; exact this
      have hlt : pkw t s (tE t m s - s) < 2 ^ 40 := by
        have : ∀ j, j ≤ tE t m s - s → pkw t s j < 32 ^ j := by
          intro j
          induction j with
          | zero => intro _; simp [pkw]
          | succ j ih =>
            intro hj
            have h1 := ih (by omega)
            have h2 : 97 ≤ t (s + j) ∧ t (s + j) ≤ 122 := by
              have := spn_in isLt t (m - s) s (s + j) (by omega) (by omega)
              unfold isLt at this; simpa using this
            simp only [pkw]
            rw [Nat.pow_succ]
            omega
        have h7 := this _ (Nat.le_refl _)
        have h32 : 32 ^ (tE t m s - s) ≤ 32 ^ 6 := Nat.pow_le_pow_right (by decide) h6
        omega
      exact ⟨13 + 1, known_l21 hx (by rw [e9]; exact hlt) (by rw [e9]; exact hJ h5 h6) 13 0 rfl hQ⟩
    · rw [rfd_long (by rw [ltr_len]; rcases Nat.lt_or_ge 6 (tE t m s - s) with h7 | h7; exact h7; exact absurd (nI_le h7 (by decide)) h)] at hQ
      exact hQ
  · exact no (by rw [e]; split <;> omega)
  · exact no (by rcases h6 with ⟨-, e, h7, -⟩ | ⟨-, e⟩ <;> omega)
theorem M_goes_k {t : Nat → Nat} {m p : Nat} {I : HI} {J : HJ} {Q : HI → HJ → Prop} (hT : TxtM t m I) (hp : I 0 20 = nI p) (hpm : p ≤ m) (hQ : ∀ I' J', FrG I I' → TkM t m (tS t m p) I' J' → Q I' J') : M_goes I J Q := by
  have h5 := hT.2.1
  unfold M_goes
  refine ⟨m - p + 1, goes_l0 (m - p) p I (by omega) hT hp (fun I1 f1 e6 => ?_)⟩
  have hsm := tS_le t hpm
  change I1 0 20 = nI (tS t m p) at e6
  generalize hs : tS t m p = s at *
  have hT1 := hT.fr f1
  unfold M_goes_b50
  have f2 : FrG I1 (up2 (up2 I1 0 22 (I1 0 20)) 0 24 0) := (FrG.rfl.up _ (by omega) (by omega)).up _ (by omega) (by omega)
  have g20 : (up2 (up2 I1 0 22 (I1 0 20)) 0 24 0) 0 20 = nI s := by rw [up2_idx _ _ _ (by decide), up2_idx _ _ _ (by decide), e6]
  have g22 : (up2 (up2 I1 0 22 (I1 0 20)) 0 24 0) 0 22 = nI s := by rw [up2_idx _ _ _ (by decide), up2_same, e6]
  have g24 : (up2 (up2 I1 0 22 (I1 0 20)) 0 24 0) 0 24 = nI 0 := by rw [up2_same]; rfl
  generalize up2 (up2 I1 0 22 (I1 0 20)) 0 24 0 = I2 at f2 g20 g22 g24 ⊢
  have hT2 := hT1.fr f2
  refine M_byte_k hT2 g20 hsm ?_
  generalize hr : nI (if s < m then t s else 0) = r1
  have f3 : FrG I2 (up2 I2 0 25 r1) := FrG.rfl.up _ (by omega) (by omega)
  have k20 : (up2 I2 0 25 r1) 0 20 = nI s := by rw [up2_idx _ _ _ (by decide), g20]
  have k22 : (up2 I2 0 25 r1) 0 22 = nI s := by rw [up2_idx _ _ _ (by decide), g22]
  have k24 : (up2 I2 0 25 r1) 0 24 = nI 0 := by rw [up2_idx _ _ _ (by decide), g24]
  have k25 : (up2 I2 0 25 r1) 0 25 = r1 := up2_same _ _ _ _
  generalize up2 I2 0 25 r1 = I3 at f3 k20 k22 k24 k25 ⊢
  have hT3 := hT2.fr f3
  have f4 := (f1.trans f2).trans f3
  rcases tK_cases t m s with ⟨h1, e1, e2⟩ | ⟨h1, h2, e2, e1, h6⟩ | ⟨h1, h2, h3, e2, e1⟩ | ⟨h1, h2, h3, e2, h6⟩
  · refine ie (by rw [k20, hT3.1]; exact nI_nlt h1 (by omega)) ?_
    unfold M_goes_b331
    refine hQ _ _ ((f4.up _ (by omega) (by omega)).up _ (by omega) (by omega)) ?_
    unfold TkM
    rw [e1, e2]
    refine ⟨?_, ?_, ?_, ?_, fun h => by omega, fun h => by omega, fun h => by omega⟩
    · rw [up2_idx _ _ _ (by decide), up2_idx _ _ _ (by decide), k20]
    · rw [up2_idx _ _ _ (by decide), up2_idx _ _ _ (by decide), k22]
    · rw [up2_idx _ _ _ (by decide), up2_same]; rfl
    · rw [up2_same, up2_idx _ _ _ (by decide), up2_idx _ _ _ (by decide), k20, k22, nS (by omega)]
  · rw [if_pos h1] at hr
    have hb := hT3.2.2 s h1
    refine it (by rw [k20, hT3.1]; exact nI_lt h1 (by omega)) ?_
    rw [← hr]
    refine mLet hb.2 ?_
    rw [if_pos h2]
    refine ie (by decide) ⟨m - s + 1, word_l108 (t := t) (m := m) (s := s) hsm (m - s) 0 I3 _ (by omega) hT3 k20 k22 (fun j hj => by omega) (fun _ => up2_same _ _ _ _) (fun I' J' g i20 i22 i21 i23 iJ => ?_)⟩
    rw [Nat.add_zero, ← e2] at i20 i23 iJ
    refine hQ _ _ (f4.trans g) ⟨i20, i22, ?_, i23, fun h => by omega, fun h => by omega, fun _ => iJ⟩
    rw [i21]; unfold skd; rw [if_neg (by omega), if_pos h6]; rfl
  · rw [if_pos h1] at hr
    have hb := hT3.2.2 s h1
    refine it (by rw [k20, hT3.1]; exact nI_lt h1 (by omega)) ?_
    rw [← hr]
    refine mLet hb.2 ?_
    rw [h2]
    refine it (by decide) (mDig hb.2 ?_)
    rw [if_pos h3]
    refine ie (by decide) ⟨m - s + 1, num_l187 (t := t) (m := m) (s := s) hsm (m - s) 0 0 I3 (by omega) hT3 k20 k22 k24 (fun _ => rfl) (fun I' g i20 i22 i21 i23 i24 => ?_)⟩
    rw [Nat.add_zero, ← e2] at i20 i23 i24
    have hk : tK t m s = 131 ∨ tK t m s = 132 := by rw [e1]; split; exact Or.inl rfl; exact Or.inr rfl
    refine hQ _ _ (f4.trans g) ⟨i20, i22, ?_, i23, fun h => i24 ?_, fun h => by omega, fun h => by omega⟩
    · rw [i21]; unfold skd; rw [if_neg (by omega), if_neg (by omega), if_pos hk]; rfl
    · rw [e1] at h
      by_cases h9 : tE t m s - s ≤ 3
      · exact h9
      · rw [if_neg h9] at h; omega
  · rw [if_pos h1] at hr
    have hb := hT3.2.2 s h1
    refine it (by rw [k20, hT3.1]; exact nI_lt h1 (by omega)) ?_
    rw [← hr]
    refine mLet hb.2 ?_
    rw [h2]
    refine it (by decide) (mDig hb.2 ?_)
    rw [h3]
    refine it (by decide) ?_
    rw [hr]
    have fin : ∀ z : Nat, z = skd (tK t m s) → M_goes_b328 (up2 I3 0 20 (I3 0 20 + 1)) (up2 J 0 26 (0 : Int64)) (nI z) Q := by
      intro z hz
      unfold M_goes_b328 M_goes_b331
      refine hQ _ _ (((f4.up _ (by omega) (by omega)).up _ (by omega) (by omega)).up _ (by omega) (by omega)) ⟨?_, ?_, ?_, ?_, fun h => ?_, fun h => ?_, fun h => ?_⟩
      · rw [up2_idx _ _ _ (by decide), up2_idx _ _ _ (by decide), up2_same, k20, nI_1, e2]
      · rw [up2_idx _ _ _ (by decide), up2_idx _ _ _ (by decide), up2_idx _ _ _ (by decide), k22]
      · rw [up2_idx _ _ _ (by decide), up2_same, hz]
      · rw [up2_same, up2_idx _ _ _ (show 20 ≠ 21 by decide), up2_same, up2_idx _ _ _ (show 22 ≠ 21 by decide), up2_idx _ _ _ (show 22 ≠ 20 by decide), k20, k22, nI_1, nS (by omega), e2]
      · rcases h6 with ⟨-, e, h7, -⟩ | ⟨-, e⟩ <;> omega
      · rcases h6 with ⟨-, e, h7, -⟩ | ⟨-, e⟩
        · rw [up2_idx _ _ _ (by decide), up2_idx _ _ _ (by decide), up2_idx _ _ _ (by decide), k25, ← hr, e]
        · omega
      · rcases h6 with ⟨-, e, h7, -⟩ | ⟨-, e⟩ <;> omega
    have hz : ∀ c : Nat, c < 256 → isSg c = true → nI c = r1 → M_goes_b328 (up2 I3 0 20 (I3 0 20 + 1)) (up2 J 0 26 (0 : Int64)) 3 Q := by
      intro c hc hsg e
      have hcs : c = t s := (nI_eq (by omega) (by omega)).mp (e.trans hr.symm)
      rw [hcs] at hsg
      refine fin 3 ?_
      rcases h6 with ⟨-, e, h7, h8⟩ | ⟨e, -⟩
      · unfold skd; rw [if_neg (by omega), if_neg (by omega), if_neg (by omega), if_neg (by omega)]
      · rw [hsg] at e; exact absurd e (by decide)
    refine ic (fun h => hz 59 (by decide) (by decide) h.symm) (fun n1 => ?_)
    refine ic (fun h => hz 40 (by decide) (by decide) h.symm) (fun n2 => ?_)
    refine ic (fun h => hz 41 (by decide) (by decide) h.symm) (fun n3 => ?_)
    refine ic (fun h => hz 43 (by decide) (by decide) h.symm) (fun n4 => ?_)
    refine ic (fun h => hz 45 (by decide) (by decide) h.symm) (fun n5 => ?_)
    refine ic (fun h => hz 42 (by decide) (by decide) h.symm) (fun n6 => ?_)
    refine ic (fun h => hz 47 (by decide) (by decide) h.symm) (fun n7 => ?_)
    refine ic (fun h => hz 60 (by decide) (by decide) h.symm) (fun n8 => ?_)
    refine ic (fun h => hz 61 (by decide) (by decide) h.symm) (fun n9 => ?_)
    refine fin 4 ?_
    have no : ∀ c : Nat, nI c ≠ r1 → t s ≠ c := fun c h e => h (by rw [← e]; exact hr)
    have m1 := no 59 (fun e => n1 e.symm)
    have m2 := no 40 (fun e => n2 e.symm)
    have m3 := no 41 (fun e => n3 e.symm)
    have m4 := no 43 (fun e => n4 e.symm)
    have m5 := no 45 (fun e => n5 e.symm)
    have m6 := no 42 (fun e => n6 e.symm)
    have m7 := no 47 (fun e => n7 e.symm)
    have m8 := no 60 (fun e => n8 e.symm)
    have m9 := no 61 (fun e => n9 e.symm)
    rcases h6 with ⟨h7, -, -, -⟩ | ⟨-, e⟩
    · unfold isSg at h7
      simp at h7
      omega
    · rw [e]; rfl
