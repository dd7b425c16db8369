/-! line: the reference's side -/
def gtm (n w : Nat) : Nat := msk (fun k => decide (w < k)) n
theorem gtm_lt (n w : Nat) : gtm n w < 2 ^ n := msk_lt _ _
theorem gtm_bit (n w : Nat) : (gtm n w).testBit w = false := by unfold gtm; rw [msk_bit]; simp
theorem gtm_m : ∀ n, n < 9 → ∀ w, w < 9 → nI (2 ^ n - 1) &&& ((((1 : Int32) <<< (nI (w + 1) &&& 31)) - 1) ^^^ (-1)) = nI (gtm n w) := by decide +kernel
theorem gtm_c : ∀ n, n < 9 → ∀ w, w < n → (nI (oth n w) >>> (nI w &&& 31)) <<< (nI w &&& 31) = nI (gtm n w) := by decide +kernel
theorem mco_in {C C' : Nat → Int32} : ∀ (c : AC) (p : Nat), (∀ k, p ≤ k → k < p + mcl c → C' k = C k) → mco C c p → mco C' c p
  | [], p, h, hc => by
    exact (h p (Nat.le_refl _) (by unfold mcl; omega)).trans hc
  | (o, x) :: r, p, h, hc => by
    have h1 : 1 ≤ mcl r := by
      cases r with
      | nil => exact Nat.le_refl _
      | cons x y => unfold mcl; split <;> omega
    unfold mco at hc ⊢
    unfold mcl at h
    refine ⟨(h p (Nat.le_refl _) (by split <;> omega)).trans hc.1, ?_⟩
    have hc := hc.2
    by_cases ho : o ≤ 2
    · rw [if_pos ho] at hc h ⊢
      exact ⟨(h (p + 1) (by omega) (by omega)).trans hc.1, mco_in r _ (fun k h2 h3 => h k (by omega) (by omega)) hc.2⟩
    · rw [if_neg ho] at hc h ⊢
      exact mco_in r _ (fun k h2 h3 => h k (by omega) (by omega)) hc
theorem M_says_k {I : HI} {i c : Nat} {x2 x3 x4 : Int32} (hi : i < 8) (hc : c + 1 < 1000) (e : x2 = nI c) {Q : HI → Prop} (h : Q (up2 (up2 I 6 (1000 * i + c) x3) 6 (1000 * i + (c + 1)) x4)) : M_says I (nI i) x2 x3 x4 Q := by
  unfold M_says
  rw [e, show (1000 : Int32) = nI 1000 from rfl, nM, nI_add, nI_1, nx_nI (by omega), nx_nI (by omega)]
  exact ⟨vin (by omega) (by omega), vin (by omega) (by omega), h⟩
theorem lcl (w : Nat) : mcl (lc w).2 ≤ 12 := by unfold lc; dsimp only; split <;> decide
def lnD (n : Nat) (I : HI) (w : Nat) : Prop := I 2 w = nI (gtm n w) ∧ I 3 w = nI w ∧ I 4 w = 1 ∧ I 7 w = -1 ∧ I 8 w = 0 ∧ mco (I 6) (lc w).2 (1000 * w)
def lnP : Nat → Nat → Prop := fun b _ => b = 2 ∨ b = 3 ∨ b = 4 ∨ b = 6 ∨ b = 7 ∨ b = 8
theorem line_step {n : Nat} {I : HI} {i d : Nat} (n8 : n ≤ 8) (hi : i < n) (e1 : I 0 1 = nI n) : ∃ I', Fr (fun b k => (b = 2 ∨ b = 3 ∨ b = 4 ∨ b = 7 ∨ b = 8) ∧ k = i ∨ b = 6 ∧ 1000 * i ≤ k ∧ k < 1000 * i + 1000) I I' ∧ lnD n I' i ∧ ∀ Q, M_line_l7 Q d I' (nI (i + 1)) → M_line_l7 Q (d + 1) I (nI i) := by
  obtain ⟨J, hJ⟩ : ∃ J, J = (up2 (up2 (up2 (up2 (up2 I 2 i (nI (gtm n i))) 3 i (nI i)) 4 i 1) 7 i (-1)) 8 i 0) := ⟨_, rfl⟩
  have fJ : Fr (fun b k => (b = 2 ∨ b = 3 ∨ b = 4 ∨ b = 7 ∨ b = 8) ∧ k = i) I J := by
    rw [hJ]; exact ((((Fr.rf.up (by omega)).up (by omega)).up (by omega)).up (by omega)).up (by omega)
  have vJ : J 2 i = nI (gtm n i) ∧ J 3 i = nI i ∧ J 4 i = 1 ∧ J 7 i = -1 ∧ J 8 i = 0 := by rw [hJ]; simp [up2_get]
  have v8 : vp_in (nI i) 8 := vin (by omega) (by omega)
  by_cases h0 : i = 0
  · subst h0
    obtain ⟨I', hI'⟩ : ∃ I', I' = up2 (up2 (up2 J 6 (1000 * 0 + 0) 2) 6 (1000 * 0 + (0 + 1)) 11) 6 2 0 := ⟨_, rfl⟩
    have f6 : ∀ b k, b ≠ 6 → I' b k = J b k := fun b k hb => by rw [hI', up2_ne _ _ _ hb, up2_ne _ _ _ hb, up2_ne _ _ _ hb]
    refine ⟨I', fun b k hn => ?_, ⟨?_, ?_, ?_, ?_, ?_, ?_⟩, fun Q hQ => ?_⟩
    · rw [hI', up2_get, if_neg (by omega), up2_get, if_neg (by omega), up2_get, if_neg (by omega)]; exact fJ _ _ (by omega)
    · rw [f6 _ _ (by omega)]; exact vJ.1
    · rw [f6 _ _ (by omega)]; exact vJ.2.1
    · rw [f6 _ _ (by omega)]; exact vJ.2.2.1
    · rw [f6 _ _ (by omega)]; exact vJ.2.2.2.1
    · rw [f6 _ _ (by omega)]; exact vJ.2.2.2.2
    · rw [hI']
      simp [lc, mco, up2_get]
      decide
    · rw [M_line_l7, e1]
      unfold M_all
      rw [e1, nShl1 n (by omega), nlit1, nS Nat.one_le_two_pow, ← nlit1, nI_1, nx_nI (by omega)]
      have g := gtm_m n (by omega) 0 (by omega)
      refine ie (nI_ge (by omega) (by omega)) ⟨v8, v8, v8, v8, v8, it rfl ?_⟩
      rw [g, ← hJ]
      refine M_says_k (i := 0) (c := 0) (by omega) (by omega) rfl ?_
      rw [hI'] at hQ
      exact hQ
  · obtain ⟨I', hI'⟩ : ∃ I', I' = (up2 (up2 (up2 (up2 (up2 (up2 (up2 (up2 (up2 (up2 (up2 (up2 J 6 (1000 * i + 0) 2) 6 (1000 * i + (0 + 1)) 10) 6 (1000 * i + 2) 2) 6 (1000 * i + (2 + 1)) 11) 6 (1000 * i + 4) 9) 6 (1000 * i + 5) 2) 6 (1000 * i + (5 + 1)) 12) 6 (1000 * i + 7) 2) 6 (1000 * i + (7 + 1)) 10) 6 (1000 * i + 9) 9) 6 (1000 * i + 10) 9) 6 (1000 * i + 11) 0) := ⟨_, rfl⟩
    have f6 : ∀ b k, b ≠ 6 → I' b k = J b k := fun b k hb => by rw [hI', up2_ne _ _ _ hb, up2_ne _ _ _ hb, up2_ne _ _ _ hb, up2_ne _ _ _ hb, up2_ne _ _ _ hb, up2_ne _ _ _ hb, up2_ne _ _ _ hb, up2_ne _ _ _ hb, up2_ne _ _ _ hb, up2_ne _ _ _ hb, up2_ne _ _ _ hb, up2_ne _ _ _ hb]
    refine ⟨I', fun b k hn => ?_, ⟨?_, ?_, ?_, ?_, ?_, ?_⟩, fun Q hQ => ?_⟩
    · rw [hI', up2_get, if_neg (by omega), up2_get, if_neg (by omega), up2_get, if_neg (by omega), up2_get, if_neg (by omega), up2_get, if_neg (by omega), up2_get, if_neg (by omega), up2_get, if_neg (by omega), up2_get, if_neg (by omega), up2_get, if_neg (by omega), up2_get, if_neg (by omega), up2_get, if_neg (by omega), up2_get, if_neg (by omega)]; exact fJ _ _ (by omega)
    · rw [f6 _ _ (by omega)]; exact vJ.1
    · rw [f6 _ _ (by omega)]; exact vJ.2.1
    · rw [f6 _ _ (by omega)]; exact vJ.2.2.1
    · rw [f6 _ _ (by omega)]; exact vJ.2.2.2.1
    · rw [f6 _ _ (by omega)]; exact vJ.2.2.2.2
    · rw [hI']
      simp [lc, mco, up2_get, h0]
      decide
    · rw [M_line_l7, e1]
      unfold M_all
      rw [e1, nShl1 n (by omega), nlit1, nS Nat.one_le_two_pow, ← nlit1, nI_1, nx_nI (show i < 2 ^ 31 by omega)]
      have g := gtm_m n (by omega) i (by omega)
      refine ie (nI_ge (by omega) (by omega)) ⟨v8, v8, v8, v8, v8, ie (nI_ne0 (by omega) (by omega)) ?_⟩
      rw [g, ← hJ]
      have lit : ∀ c : Nat, c < 100 → nx (1000 * nI i + nI c) = 1000 * i + c ∧ vp_in (1000 * nI i + nI c) 8000 := fun c hc => by
        rw [show (1000 : Int32) = nI 1000 from rfl, nM, nI_add, nx_nI (by omega)]
        exact ⟨rfl, vin (by omega) (by omega)⟩
      refine M_says_k (c := 0) (by omega) (by omega) rfl (M_says_k (c := 2) (by omega) (by omega) rfl ⟨(lit 4 (by omega)).2, ?_⟩)
      rw [show nx ((1000 * nI i) + 4) = 1000 * i + 4 from (lit 4 (by omega)).1]
      refine M_says_k (c := 5) (by omega) (by omega) rfl (M_says_k (c := 7) (by omega) (by omega) rfl ⟨(lit 9 (by omega)).2, (lit 10 (by omega)).2, (lit 11 (by omega)).2, ?_⟩)
      rw [show nx ((1000 * nI i) + 9) = 1000 * i + 9 from (lit 9 (by omega)).1, show nx ((1000 * nI i) + 10) = 1000 * i + 10 from (lit 10 (by omega)).1, show nx ((1000 * nI i) + 11) = 1000 * i + 11 from (lit 11 (by omega)).1]
      rw [hI'] at hQ
      exact hQ
def lnCont (I : HI) (Q : Int32 → HI → Prop) : Prop := M_worstRow (up2 I 0 40 0) (fun r1 I2 => if r1 = (-1) then (Q (-1) I2) else (vp_in r1 6561 ∧ M_bits (I2 21 (nx r1)) (fun r4 => Q r4 I2)))
theorem line_ex {n : Nat} {I0 : HI} (n8 : n ≤ 8) (e1 : I0 0 1 = nI n) : ∀ d i I, i + d = n → Fr lnP I0 I → (∀ w, w < i → lnD n I w) → ∃ I', Fr lnP I0 I' ∧ (∀ w, w < n → lnD n I' w) ∧ ∀ Q, lnCont I' Q → M_line_l7 Q (d + 1) I (nI i) := by
  intro d
  induction d with
  | zero =>
    intro i I hi f h
    have : i = n := by omega
    subst this
    refine ⟨I, f, h, fun Q hQ => ?_⟩
    rw [M_line_l7, f _ _ (by unfold lnP; omega), e1]
    exact it (nI_le (Nat.le_refl _) (by omega)) hQ
  | succ d ih =>
    intro i I hi f h
    obtain ⟨I1, f1, d1, q1⟩ := line_step (d := d + 1) n8 (show i < n by omega) ((f _ _ (by unfold lnP; omega)).trans e1)
    obtain ⟨I2, f2, d2, q2⟩ := ih (i + 1) I1 (by omega) (f.tr (f1.mono (fun b k hb => by unfold lnP; omega))) (fun w hw => by
      by_cases e : w = i
      · rw [e]; exact d1
      · obtain ⟨g1, g2, g3, g4, g5, g6⟩ := h w (by omega)
        have hl := lcl w
        exact ⟨(f1 _ _ (by omega)).trans g1, (f1 _ _ (by omega)).trans g2, (f1 _ _ (by omega)).trans g3, (f1 _ _ (by omega)).trans g4, (f1 _ _ (by omega)).trans g5, mco_in _ _ (fun k h1 h2 => f1 _ _ (by omega)) g6⟩)
    exact ⟨I2, f2, d2, fun Q hQ => q1 Q (q2 Q hQ)⟩
/-- the net of a line -/
def LNet (c : AN) (n i : Nat) : Prop := ∀ w, w < i → alk c w = gtm n w ∧ ard c w = w ∧ akd c w = 1 ∧ acd c w = lc w
theorem M_line_ex {IM : HI} {a : AN} (W : WF a) (R : RepM IM a) : ∃ I', Fr (fun b i => lnP b i ∨ b = 0 ∧ (i = 0 ∨ i = 40)) IM I' ∧ I' 0 0 = 0 ∧ I' 0 40 = 0 ∧ (∀ c, an c = an a → aq c = aq a → LNet c (an a) (an a) → RepM I' c) ∧ ∀ Q, M_worstRow I' (fun r1 I2 => if r1 = (-1) then (Q (-1) I2) else (vp_in r1 6561 ∧ M_bits (I2 21 (nx r1)) (fun r4 => Q r4 I2))) → M_line IM Q := by
  have n8 := W.2.1
  have k0 := Fr0 IM 0
  obtain ⟨I1, f1, d1, q1⟩ := line_ex (I0 := up2 IM 0 0 0) n8 ((k0 _ _ (by omega)).trans R.1.1) (an a) 0 _ (by omega) Fr.rf (fun w hw => by omega)
  have g : ∀ b i, ¬ lnP b i → ¬ (b = 0 ∧ (i = 0 ∨ i = 40)) → (up2 I1 0 40 0) b i = IM b i := fun b i h1 h2 => by rw [up2_get, if_neg (by omega), f1 _ _ h1]; exact k0 _ _ (by omega)
  have g' : ∀ b i, b ≠ 0 → (up2 I1 0 40 0) b i = I1 b i := fun b i h1 => by rw [up2_get, if_neg (by omega)]
  refine ⟨up2 I1 0 40 0, fun b i hn => g b i (fun q => hn (Or.inl q)) (fun q => hn (Or.inr q)), ?_, up2_same _ _ _ _, fun c hn hq hl => ?_, fun Q hQ => ⟨an a + 1, q1 Q hQ⟩⟩
  · rw [up2_get, if_neg (by omega), f1 _ _ (by unfold lnP; omega)]; exact up00 _ _
  · refine ⟨⟨?_, ?_, fun w hw => ?_, fun w hw => ?_, ?_, ?_, ?_, ?_, fun w hw => ?_, fun w hw => ?_⟩, ?_, fun w hw => ?_⟩
    · rw [hn, g _ _ (by unfold lnP; omega) (by omega)]; exact R.1.1
    · rw [hq, g _ _ (by unfold lnP; omega) (by omega)]; exact R.1.2.1
    · have hw : w < an a := by rw [← hn]; exact hw
      rw [(hl w hw).1, g' _ _ (by omega)]; exact (d1 w hw).1
    · have hw : w < an a := by rw [← hn]; exact hw
      rw [(hl w hw).2.1, g' _ _ (by omega)]; exact (d1 w hw).2.1
    · rw [hn]; exact W.1
    · rw [hn]; exact n8
    · rw [hq]; exact W.2.2.1
    · rw [hq]; exact W.2.2.2.1
    · have hw : w < an a := by rw [← hn]; exact hw
      rw [(hl w hw).1, hn]; exact gtm_lt _ _
    · have hw : w < an a := by rw [← hn]; exact hw
      rw [(hl w hw).2.1]; omega
    · rw [hn, hq, g _ _ (by unfold lnP; omega) (by omega)]; exact R.2.1
    · have hw : w < an a := by rw [← hn]; exact hw
      obtain ⟨h1, h2, h3, h4⟩ := hl w hw
      obtain ⟨g1, g2, g3, g4, g5, g6⟩ := d1 w hw
      rw [h3, h4]
      refine ⟨by rw [g' _ _ (by omega)]; exact g3, fun q => by omega, fun _ => ⟨0, by rw [g' _ _ (by omega)]; exact g5, ?_, ?_, ?_⟩⟩
      · exact mco_eq (fun k => g' _ _ (by omega)) _ _ g6
      · have := lcl w; omega
      · show (up2 I1 0 40 0) 7 w = -1
        rw [g' _ _ (by omega)]; exact g4
