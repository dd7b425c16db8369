/-! the class's net: the order of rounds, whom one hears -/
theorem cnt_upd {p p' : Nat → Bool} {j n : Nat} (hj : j < n) (h0 : p j = false) (h1 : p' j = true) (he : ∀ k, k ≠ j → p' k = p k) : cnt p' n = cnt p n + 1 := by
  induction n with
  | zero => omega
  | succ n ih =>
    rw [cnt_succ, cnt_succ]
    by_cases e : j = n
    · subst e
      have : cnt p' j = cnt p j := cnt_cong (fun k hk => he k (by omega))
      rw [this, if_pos h1, if_neg (by rw [h0]; decide)]
    · have ih := ih (by omega)
      rw [he n (by omega)]
      split <;> omega
theorem cnt_all {p : Nat → Bool} {n : Nat} (h : ∀ k, k < n → p k = true) : cnt p n = n := by
  induction n with
  | zero => rfl
  | succ n ih => rw [cnt_succ, if_pos (h n (by omega)), ih (fun k hk => h k (by omega))]
theorem cnt_none {p : Nat → Bool} {n : Nat} (h : ∀ k, k < n → p k = false) : cnt p n = 0 := by
  induction n with
  | zero => rfl
  | succ n ih => rw [cnt_succ, if_neg (by rw [h n (by omega)]; decide), ih (fun k hk => h k (by omega))]
theorem cnt_lt {p : Nat → Bool} {j n : Nat} (hj : j < n) (h : p j = false) : cnt p n < n := by
  have h2 := cnt_upd (p := p) (p' := fun k => if k = j then true else p k) hj h (by simp) (fun k hk => by simp [hk])
  have := cnt_le (fun k => if k = j then true else p k) n
  omega
/-- a list of the wearers in which those of lesser rounds stand first -/
def Ordd (n : Nat) (rd o : Nat → Nat) : Prop := (∀ i, i < n → o i < n) ∧ (∀ i j, i < j → j < n → rd (o i) ≤ rd (o j)) ∧ ∀ w, w < n → ∃ i, i < n ∧ o i = w
def opd (rd : Nat → Nat) (ρ j : Nat) : Nat → Bool := fun w => decide (rd w < ρ ∨ rd w = ρ ∧ w < j)
/-- the part of the list that stands -/
def Opart (n : Nat) (rd : Nat → Nat) (ρ j : Nat) (o : Nat → Nat) (m : Nat) : Prop := m = cnt (opd rd ρ j) n ∧ (∀ i, i < m → o i < n ∧ opd rd ρ j (o i) = true) ∧ (∀ a b, a < b → b < m → rd (o a) ≤ rd (o b)) ∧ ∀ w, w < n → opd rd ρ j w = true → ∃ i, i < m ∧ o i = w
theorem Opart.skip {n ρ j m : Nat} {rd o : Nat → Nat} (h : Opart n rd ρ j o m) (hn : rd j ≠ ρ) : Opart n rd ρ (j + 1) o m := by
  have e : ∀ w, opd rd ρ (j + 1) w = opd rd ρ j w := fun w => by
    unfold opd
    refine decide_eq_decide.mpr ?_
    by_cases hw : w = j
    · subst hw; omega
    · omega
  obtain ⟨h1, h2, h3, h4⟩ := h
  exact ⟨by rw [h1]; exact cnt_cong (fun k _ => (e k).symm), fun i hi => by rw [e]; exact h2 i hi, h3, fun w hw hp => h4 w hw (by rw [← e]; exact hp)⟩
theorem Opart.next {n ρ j m : Nat} {rd o : Nat → Nat} (h : Opart n rd ρ j o m) (hj : j < n) (hn : rd j = ρ) : m < n ∧ Opart n rd ρ (j + 1) (fun i => if i = m then j else o i) (m + 1) := by
  obtain ⟨h1, h2, h3, h4⟩ := h
  have f0 : opd rd ρ j j = false := by unfold opd; simp; omega
  have hm : m < n := by rw [h1]; exact cnt_lt hj f0
  have f1 : opd rd ρ (j + 1) j = true := by unfold opd; simp; omega
  have e : ∀ w, w ≠ j → opd rd ρ (j + 1) w = opd rd ρ j w := fun w hw => by unfold opd; exact decide_eq_decide.mpr (by omega)
  refine ⟨hm, by rw [cnt_upd hj f0 f1 e, h1], fun i hi => ?_, fun a b hab hb => ?_, fun w hw hp => ?_⟩
  · by_cases e1 : i = m
    · simp only [e1, if_true]; exact ⟨hj, f1⟩
    · simp only [e1, if_false]
      have h9 := h2 i (by omega)
      refine ⟨h9.1, ?_⟩
      rw [e _ (fun q => by rw [q, f0] at h9; exact absurd h9.2 (by decide))]
      exact h9.2
  · by_cases e1 : b = m
    · simp only [e1, if_true, show ¬ a = m by omega, if_false]
      have h9 := (h2 a (by omega)).2
      unfold opd at h9
      simp at h9
      omega
    · simp only [e1, if_false, show ¬ a = m by omega]
      exact h3 a b hab (by omega)
  · by_cases e1 : w = j
    · exact ⟨m, by omega, by simp [e1]⟩
    · obtain ⟨i, hi, hw2⟩ := h4 w hw (by rw [← e w e1]; exact hp)
      exact ⟨i, by omega, by simp only [show ¬ i = m by omega, if_false]; exact hw2⟩
theorem Opart.round {n ρ m : Nat} {rd o : Nat → Nat} (h : Opart n rd ρ n o m) : Opart n rd (ρ + 1) 0 o m := by
  have e : ∀ w, w < n → opd rd (ρ + 1) 0 w = opd rd ρ n w := fun w hw => by unfold opd; exact decide_eq_decide.mpr (by omega)
  obtain ⟨h1, h2, h3, h4⟩ := h
  exact ⟨by rw [h1]; exact cnt_cong (fun k hk => (e k hk).symm), fun i hi => ⟨(h2 i hi).1, by rw [e _ (h2 i hi).1]; exact (h2 i hi).2⟩, h3, fun w hw hp => h4 w hw (by rw [← e w hw]; exact hp)⟩
theorem Opart.all {n m : Nat} {rd o : Nat → Nat} (h : Opart n rd 8 0 o m) (h7 : ∀ w, w < n → rd w ≤ 7) : m = n ∧ Ordd n rd o := by
  have e : ∀ w, w < n → opd rd 8 0 w = true := fun w hw => by have := h7 w hw; unfold opd; simp; omega
  obtain ⟨h1, h2, h3, h4⟩ := h
  rw [cnt_all e] at h1
  subst h1
  exact ⟨rfl, fun i hi => (h2 i hi).1, h3, fun w hw => h4 w hw (e w hw)⟩
theorem Opart.start {n : Nat} {rd o : Nat → Nat} : Opart n rd 0 0 o 0 := by
  have e : ∀ w, opd rd 0 0 w = false := fun w => by unfold opd; simp
  refine ⟨(cnt_none (fun k _ => e k)).symm, fun i hi => by omega, fun a b _ hb => by omega, fun w _ hp => by rw [e] at hp; cases hp⟩
def orP (r : Nat) : Nat → Nat → Prop := fun a i => a = r + 5 ∧ i < 8
theorem Net_order_l {r n : Nat} {rd : Nat → Nat} (h8 : n ≤ 8) (h7 : ∀ w, w < n → rd w ≤ 7) {I0 : HI} (e0 : I0 r 0 = nI n) (er : ∀ w, w < n → I0 (r + 2) w = nI (rd w)) {ρ : Nat} (hρ : ρ ≤ 7) {K : HI → Int32 → Int32 → Prop} {Q : HI → Prop}
    (hK : ∀ I o m, Fr (orP r) I0 I → (∀ i, i < m → I (r + 5) i = nI (o i)) → Opart n rd (ρ + 1) 0 o m → K I (nI m) (nI (ρ + 1))) :
    ∀ d j I o m, j + d = n → Fr (orP r) I0 I → (∀ i, i < m → I (r + 5) i = nI (o i)) → Opart n rd ρ j o m → Net_orderByRounds_l12 r (nI ρ) K Q (d + 1) I (nI m) (nI j) := by
  intro d
  induction d with
  | zero =>
    intro j I o m hj f ho hp
    have : j = n := by omega
    subst this
    rw [Net_orderByRounds_l12, (f _ _ (by unfold orP; omega)).trans e0, nI_1]
    exact it (nI_le (Nat.le_refl _) (by omega)) (hK I o m f ho hp.round)
  | succ d ih =>
    intro j I o m hj f ho hp
    rw [Net_orderByRounds_l12, (f _ _ (by unfold orP; omega)).trans e0]
    refine ie (nI_ge (by omega) (by omega)) ⟨vin (by omega) (by omega), ?_⟩
    rw [nx_nI (by omega), (f _ _ (by unfold orP; omega)).trans (er j (by omega))]
    simp only [nI_1]
    have := h7 j (by omega)
    refine ic (fun hc => ?_) (fun hc => ?_)
    · rw [nI_eq (by omega) (by omega)] at hc
      obtain ⟨hm, hp2⟩ := hp.next (by omega) hc
      refine ⟨vin (by omega) (by omega), ?_⟩
      rw [nx_nI (by omega)]
      refine ih (j + 1) _ _ (m + 1) (by omega) (f.up ⟨rfl, by omega⟩) (fun i hi => ?_) hp2
      rw [up2_get]
      by_cases e : i = m
      · rw [if_pos ⟨rfl, e⟩]; simp [e]
      · rw [if_neg (by omega)]; simp only [e, if_false]; exact ho i (by omega)
    · rw [nI_eq (by omega) (by omega)] at hc
      exact ih (j + 1) I o m (by omega) f ho (hp.skip hc)
theorem Net_order_k {r n : Nat} {rd : Nat → Nat} (h8 : n ≤ 8) (h7 : ∀ w, w < n → rd w ≤ 7) {I0 : HI} (e0 : I0 r 0 = nI n) (er : ∀ w, w < n → I0 (r + 2) w = nI (rd w)) {Q : HI → Prop} (h : ∀ I o, Fr (orP r) I0 I → (∀ i, i < n → I (r + 5) i = nI (o i)) → Ordd n rd o → Q I) : Net_orderByRounds I0 r Q := by
  have key : ∀ d ρ I o m, ρ + d = 8 → Fr (orP r) I0 I → (∀ i, i < m → I (r + 5) i = nI (o i)) → Opart n rd ρ 0 o m → Net_orderByRounds_l4 r Q (d + 1) I (nI m) (nI ρ) := by
    intro d
    induction d with
    | zero =>
      intro ρ I o m hρ f ho hp
      have : ρ = 8 := by omega
      subst this
      obtain ⟨rfl, hO⟩ := hp.all h7
      rw [Net_orderByRounds_l4]
      exact it (by decide) (h I o f ho hO)
    | succ d ih =>
      intro ρ I o m hρ f ho hp
      rw [Net_orderByRounds_l4, show (7 : Int32) = nI 7 from rfl]
      refine ie (nI_nlt (by omega) (by omega)) ⟨n + 1, ?_⟩
      exact Net_order_l h8 h7 e0 er (by omega) (fun I' o' m' f' ho' hp' => ih (ρ + 1) I' o' m' (by omega) f' ho' hp') n 0 I o m (by omega) f ho hp
  exact ⟨9, key 8 0 I0 id 0 (by omega) Fr.rf (fun i hi => by omega) Opart.start⟩
theorem Net_earlier_k {I : HI} {r n : Nat} {rd : Nat → Nat} (h8 : n ≤ 8) (e0 : I r 0 = nI n) (er : ∀ w, w < n → I (r + 2) w = nI (rd w)) (h7 : ∀ w, w < n → rd w ≤ 7) {w : Nat} (hw : w < n) {Q : Int32 → Prop} (h : Q (nI (hr n rd w))) : Net_earlierThan I r (nI (rd w)) Q := by
  have key : ∀ d i, i + d = n → Net_earlierThan_l4 I r (nI (rd w)) Q (d + 1) (nI (msk (fun k => decide (rd k < rd w)) i)) (nI i) := by
    intro d
    induction d with
    | zero =>
      intro i hi
      have : i = n := by omega
      subst this
      rw [Net_earlierThan_l4, e0]
      exact it (nI_le (Nat.le_refl _) (by omega)) h
    | succ d ih =>
      intro i hi
      have ih := ih (i + 1) (by omega)
      rw [Net_earlierThan_l4, e0]
      refine ie (nI_ge (by omega) (by omega)) ⟨vin (by omega) (by omega), ?_⟩
      rw [nx_nI (by omega), er i (by omega), nI_1]
      have := h7 i (by omega)
      have := h7 w hw
      rw [msk_succ] at ih
      refine ic (fun hc => ?_) (fun hc => ?_)
      · rw [nI_leI (by omega) (by omega)] at hc
        rw [if_neg (by simp; omega)] at ih
        exact ih
      · rw [nI_leI (by omega) (by omega)] at hc
        rw [if_pos (by simp; omega)] at ih
        rw [nShl1 i (by omega), nOr]
        exact ih
  exact ⟨n + 1, key n 0 (by omega)⟩
