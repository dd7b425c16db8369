/-! rules: the tokens of the text, the class's words -/
def ltr (t : Nat → Nat) : Nat → Nat → List Nat
  | 0, _ => []
  | d + 1, s => t s :: ltr t d (s + 1)
def wlist : List (List Nat) := [[119, 101, 97, 114, 101, 114], [112, 97, 115, 115], [103, 117, 101, 115, 115], [109, 101], [110], [113], [115, 101, 101, 115], [104, 101, 97, 114, 115], [115, 101, 101, 110], [104, 101, 97, 114, 100], [110, 111, 116], [97, 110, 100], [111, 114]]
def okl : List Nat → Nat → Bool
  | [], o => wch o == 32
  | c :: r, o => decide (c < 256) && (c != 32) && (wch o == nI c) && okl r (o + 1)
def okw : List (List Nat) → Nat → Bool
  | [], o => o == 58
  | w :: r, o => okl w o && okw r (o + w.length + 1)
theorem okw_all : okw wlist 0 = true := by decide +kernel
def ful : List (List Nat) → Nat
  | [] => 1
  | w :: r => w.length + 1 + ful r
/-- the kind of a word: the first in the list that is like it -/
def wfd (x : List Nat) : List (List Nat) → Nat → Nat
  | [], _ => 140
  | w :: r, k => if x = w then k else wfd x r (k + 1)
theorem okl_le {w : List Nat} : ∀ {o : Nat}, okl w o = true → ∀ r, okw r (o + w.length + 1) = true → o + w.length < 58 := by
  intro o _ r
  induction r generalizing o w with
  | nil => intro h; simp only [okw, beq_iff_eq] at h; omega
  | cons w2 r ih =>
    intro h
    simp only [okw, Bool.and_eq_true] at h
    have := ih (w := w2) (o := o + w.length + 1) h.1 h.2
    omega
theorem kwl_no {I : HI} {Q : Int32 → Prop} {n s e srt o2 : Nat} (hs : I 28 7 = nI s) (he : I 28 6 = nI e) (hse : s ≤ e) (hem : e ≤ 500) (K : Rd_kindOfWord_l8 I Q n (nI (srt + 1)) 0 (nI o2)) : ∀ (w : List Nat) (o : Nat), o + w.length + 1 = o2 → o2 ≤ 58 → okl w o = true → Rd_kindOfWord_l8 I Q (w.length + 1 + n) (nI srt) (-1) (nI o) := by
  intro w
  induction w with
  | nil =>
    intro o h1 h2 h3
    simp only [okl, beq_iff_eq] at h3
    rw [show ([] : List Nat).length + 1 + n = n + 1 by simp only [List.length_nil]; omega]
    simp only [List.length_nil] at h1
    unfold Rd_kindOfWord_l8
    refine ie (fun h => ?_) ⟨vin (by omega) (by decide), ?_⟩
    · rw [show (58 : Int32) = nI 58 from rfl, nI_leI (by decide) (by omega)] at h; omega
    · rw [nx_nI (by omega)]
      rw [if_pos h3]
      have hne : ¬ I 28 7 + (-1) = I 28 6 := by
        intro h
        rw [hs, he] at h
        have h8 := congrArg Int32.toInt h
        rw [Int32.toInt_add, nI_toInt (by omega), nI_toInt (by omega), show (-1 : Int32).toInt = -1 from rfl, Int.bmod_eq_of_le (by omega) (by omega)] at h8
        omega
      rw [if_neg hne]
      rw [nI_1, nI_1, show o + 1 = o2 by omega]
      exact K
  | cons c r ih =>
    intro o h1 h2 h3
    simp only [okl, Bool.and_eq_true, beq_iff_eq, bne_iff_ne, decide_eq_true_eq] at h3
    obtain ⟨⟨⟨hc, hc2⟩, hc3⟩, hc4⟩ := h3
    simp only [List.length_cons] at h1
    rw [show (c :: r).length + 1 + n = (r.length + 1 + n) + 1 by simp only [List.length_cons]; omega]
    unfold Rd_kindOfWord_l8
    refine ie (fun h => ?_) ⟨vin (by omega) (by decide), ?_⟩
    · rw [show (58 : Int32) = nI 58 from rfl, nI_leI (by decide) (by omega)] at h; omega
    · rw [nx_nI (by omega)]
      refine ie (fun h => ?_) (it (by decide) ?_)
      · rw [hc3, show (32 : Int32) = nI 32 from rfl] at h
        exact hc2 ((nI_eq (by omega) (by decide)).mp h)
      · show Rd_kindOfWord_b69 _ _ _ _ _ _
        unfold Rd_kindOfWord_b69 Rd_kindOfWord_b70
        refine it rfl ?_
        rw [nI_1]
        exact ih (o + 1) (by omega) h2 hc4
theorem kwl_go {I : HI} {Q : Int32 → Prop} {t : Nat → Nat} {n s e srt o2 : Nat} (hs : I 28 7 = nI s) (he : I 28 6 = nI e) (hem : e ≤ 500) (ht : ∀ k, k < e → I 34 k = nI (t k) ∧ t k < 256) (h2 : o2 ≤ 58) : ∀ (w : List Nat) (o k d : Nat), s + k + d = e → o + w.length + 1 = o2 → okl w o = true → (ltr t d (s + k) = w → Q (nI srt)) → (ltr t d (s + k) ≠ w → Rd_kindOfWord_l8 I Q n (nI (srt + 1)) 0 (nI o2)) → Rd_kindOfWord_l8 I Q (w.length + 1 + n) (nI srt) (nI k) (nI o) := by
  intro w
  induction w with
  | nil =>
    intro o k d hd h1 h3 K1 K2
    simp only [okl, beq_iff_eq] at h3
    rw [show ([] : List Nat).length + 1 + n = n + 1 by simp only [List.length_nil]; omega]
    simp only [List.length_nil] at h1
    unfold Rd_kindOfWord_l8
    refine ie (fun h => ?_) ⟨vin (by omega) (by decide), ?_⟩
    · rw [show (58 : Int32) = nI 58 from rfl, nI_leI (by decide) (by omega)] at h; omega
    · rw [nx_nI (by omega), if_pos h3, hs, he, nI_add]
      refine ic (fun h => ?_) (fun h => ?_)
      · rw [nI_eq (by omega) (by omega)] at h
        have hd0 : d = 0 := by omega
        subst hd0
        exact K1 rfl
      · have hd0 : d ≠ 0 := fun h0 => h (by rw [show s + k = e by omega])
        obtain ⟨d', rfl⟩ := Nat.exists_eq_succ_of_ne_zero hd0
        have := K2 (by simp [ltr])
        rw [nI_1, nI_1, show o + 1 = o2 by omega]
        exact this
  | cons c r ih =>
    intro o k d hd h1 h3 K1 K2
    simp only [okl, Bool.and_eq_true, beq_iff_eq, bne_iff_ne, decide_eq_true_eq] at h3
    obtain ⟨⟨⟨hc, hc2⟩, hc3⟩, hc4⟩ := h3
    simp only [List.length_cons] at h1
    rw [show (c :: r).length + 1 + n = (r.length + 1 + n) + 1 by simp only [List.length_cons]; omega]
    unfold Rd_kindOfWord_l8
    refine ie (fun h => ?_) ⟨vin (by omega) (by decide), ?_⟩
    · rw [show (58 : Int32) = nI 58 from rfl, nI_leI (by decide) (by omega)] at h; omega
    · rw [nx_nI (by omega)]
      refine ie (fun h => ?_) (ie (nI_pos (by omega)) ?_)
      · rw [hc3, show (32 : Int32) = nI 32 from rfl] at h
        exact hc2 ((nI_eq (by omega) (by decide)).mp h)
      · rw [hs, he, nI_add]
        cases d with
        | zero =>
          refine it (nI_le (by omega) (by omega)) ?_
          unfold Rd_kindOfWord_b69 Rd_kindOfWord_b70
          refine it rfl ?_
          rw [nI_1]
          exact kwl_no hs he (by omega) hem (K2 (by simp [ltr])) r (o + 1) (by omega) h2 hc4
        | succ d =>
          refine ie (nI_ge (by omega) (by omega)) ⟨vin (by omega) (by decide), ?_⟩
          rw [nx_nI (by omega), (ht (s + k) (by omega)).1, hc3]
          refine ic (fun h => ?_) (fun h => ?_)
          · have h9 := (nI_eq (by have := (ht (s + k) (by omega)).2; omega) (by omega)).mp h
            unfold Rd_kindOfWord_b70
            refine ie (by decide) ?_
            rw [nI_1, nI_1]
            exact ih (o + 1) (k + 1) d (by omega) (by omega) hc4 (fun h7 => K1 (by simp only [ltr]; rw [h9, show s + k + 1 = s + (k + 1) by omega, h7])) (fun h7 => K2 (fun h6 => h7 (by simp only [ltr, List.cons.injEq] at h6; exact h6.2)))
          · unfold Rd_kindOfWord_b69 Rd_kindOfWord_b70
            refine it rfl ?_
            rw [nI_1]
            exact kwl_no hs he (by omega) hem (K2 (fun h6 => h (by simp only [ltr, List.cons.injEq] at h6; rw [h6.1]))) r (o + 1) (by omega) h2 hc4
theorem kwl_all {I : HI} {Q : Int32 → Prop} {t : Nat → Nat} {s e : Nat} (hs : I 28 7 = nI s) (he : I 28 6 = nI e) (hse : s ≤ e) (hem : e ≤ 500) (ht : ∀ k, k < e → I 34 k = nI (t k) ∧ t k < 256) : ∀ (ws : List (List Nat)) (o srt : Nat), okw ws o = true → Q (nI (wfd (ltr t (e - s) s) ws srt)) → Rd_kindOfWord_l8 I Q (ful ws) (nI srt) 0 (nI o) := by
  intro ws
  induction ws with
  | nil =>
    intro o srt h hq
    simp only [okw, beq_iff_eq] at h
    subst h
    show Rd_kindOfWord_l8 I Q (0 + 1) _ _ _
    unfold Rd_kindOfWord_l8
    exact it (by decide) hq
  | cons w r ih =>
    intro o srt h hq
    simp only [okw, Bool.and_eq_true] at h
    have hl := okl_le h.1 r h.2
    refine kwl_go (t := t) hs he hem ht (o2 := o + w.length + 1) (by omega) w o 0 (e - s) (by omega) rfl h.1 (fun h7 => ?_) (fun h7 => ?_)
    · rw [Nat.add_zero] at h7; simp only [wfd] at hq; rw [if_pos h7] at hq; exact hq
    · rw [Nat.add_zero] at h7; simp only [wfd] at hq; rw [if_neg h7] at hq
      exact ih _ _ h.2 hq
theorem Rd_kind_k {I : HI} {Q : Int32 → Prop} {t : Nat → Nat} {s e : Nat} (hs : I 28 7 = nI s) (he : I 28 6 = nI e) (hse : s ≤ e) (hem : e ≤ 500) (ht : ∀ k, k < e → I 34 k = nI (t k) ∧ t k < 256) (hq : Q (nI (wfd (ltr t (e - s) s) wlist 141))) : Rd_kindOfWord I Q :=
  ⟨_, kwl_all hs he hse hem ht wlist 0 141 okw_all hq⟩
