/-! rules: the class's next -/
def FrT (I I' : HI) : Prop := ∀ a i, ¬ (a = 28 ∧ 6 ≤ i ∧ i ≤ 9) → I' a i = I a i
theorem FrT.rfl {I : HI} : FrT I I := fun _ _ _ => Eq.refl _
theorem FrT.trans {I I1 I2 : HI} (h : FrT I I1) (h2 : FrT I1 I2) : FrT I I2 := fun a i n => (h2 a i n).trans (h a i n)
theorem FrT.up {I I' : HI} (h : FrT I I') {i : Nat} (v : Int32) (h1 : 6 ≤ i) (h2 : i ≤ 9) : FrT I (up2 I' 28 i v) := fun a j n => by
  rw [up2_get, if_neg (fun e => n ⟨e.1, by omega, by omega⟩)]
  exact h a j n
theorem Txt.fr {t : Nat → Nat} {m : Nat} {I I' : HI} (h : Txt t m I) (f : FrT I I') : Txt t m I' := ⟨(f 28 4 (by omega)).trans h.1, h.2.1, fun k hk => ⟨(f 34 k (by omega)).trans (h.2.2 k hk).1, (h.2.2 k hk).2⟩⟩
theorem next_l11 {t : Nat → Nat} {m : Nat} {Q : HI → Prop} : ∀ (d p : Nat) (I : HI), p + d = m → Txt t m I → I 28 6 = nI p → (∀ I', FrT I I' → I' 28 6 = nI (spn isB t d p) → Rd_next_b63 I' Q) → Rd_next_l11 Q (d + 1) I := by
  intro d
  induction d with
  | zero =>
    intro p I hd hT hp K
    unfold Rd_next_l11
    have := hT.2.1
    rw [hT.1, hp]
    exact it (nI_le (by omega) (by omega)) (K I FrT.rfl hp)
  | succ d ih =>
    intro p I hd hT hp K
    have h5 := hT.2.1
    unfold Rd_next_l11
    have e1 : nx (I 28 6) = p := by rw [hp]; exact nx_nI (by omega)
    have hb := hT.2.2 p (by omega)
    rw [e1, hb.1]
    refine ie (by rw [hT.1, hp]; exact nI_ge (by omega) (by omega)) ⟨by rw [hp]; exact vin (by omega) (by decide), ?_⟩
    have go : isB (t p) = true → Rd_next_b50 I (fun I' => Rd_next_l11 Q (d + 1) I') Q := fun h => by
      unfold Rd_next_b50
      refine ih (p + 1) _ (by omega) (hT.fr (FrT.rfl.up _ (by omega) (by omega))) (by rw [up2_same, hp, nI_1]) (fun I' f h7 => K I' ((FrT.rfl.up _ (by omega) (by omega)).trans f) ?_)
      simp only [spn, h, if_true]
      exact h7
    refine ic (fun h => go ?_) (fun h => ⟨by rw [hp]; exact vin (by omega) (by decide), ic (fun h2 => go ?_) (fun h2 => K I FrT.rfl ?_)⟩)
    · have := (nI_eq (by omega) (by decide)).mp (show nI (t p) = nI 32 from h)
      rw [this]; rfl
    · have := (nI_eq (by omega) (by decide)).mp (show nI (t p) = nI 10 from h2)
      rw [this]; rfl
    · have n1 : t p ≠ 32 := fun e => h (by rw [e]; rfl)
      have n2 : t p ≠ 10 := fun e => h2 (by rw [e]; rfl)
      have : isB (t p) = false := by unfold isB; simp [n1, n2]
      simp only [spn, this]
      exact hp
theorem word_l0 {t : Nat → Nat} {m : Nat} {Q : HI → Prop} : ∀ (d p : Nat) (I : HI), p + d = m → Txt t m I → I 28 6 = nI p → (∀ I', FrT I I' → I' 28 7 = I 28 7 → I' 28 6 = nI (spn isLt t d p) → Rd_kindOfWord I' (fun a => Q (up2 I' 28 8 a))) → Rd_scanWord_l0 Q (d + 1) I := by
  intro d
  induction d with
  | zero =>
    intro p I hd hT hp K
    unfold Rd_scanWord_l0
    have := hT.2.1
    refine it (by rw [hT.1, hp]; exact nI_le (by omega) (by omega)) (K I FrT.rfl rfl hp)
  | succ d ih =>
    intro p I hd hT hp K
    have h5 := hT.2.1
    unfold Rd_scanWord_l0
    have e1 : nx (I 28 6) = p := by rw [hp]; exact nx_nI (by omega)
    have hb := hT.2.2 p (by omega)
    rw [e1, hb.1]
    refine ie (by rw [hT.1, hp]; exact nI_ge (by omega) (by omega)) ⟨by rw [hp]; exact vin (by omega) (by decide), cLet hb.2 ?_⟩
    by_cases h : isLt (t p) = true
    · rw [if_pos h]
      refine ie (by decide) ?_
      refine ih (p + 1) _ (by omega) (hT.fr (FrT.rfl.up _ (by omega) (by omega))) (by rw [up2_same, hp, nI_1]) (fun I' f h6 h7 => K I' ((FrT.rfl.up _ (by omega) (by omega)).trans f) (h6.trans (up2_idx _ _ _ (by decide))) ?_)
      simp only [spn, h, if_true]
      exact h7
    · rw [if_neg h]
      refine it (by decide) (K I FrT.rfl rfl ?_)
      simp only [spn, h]
      exact hp
theorem num_l5 {t : Nat → Nat} {m s : Nat} {Q : HI → Prop} : ∀ (d k v : Nat) (I : HI), s + k + d = m → Txt t m I → I 28 6 = nI (s + k) → I 28 7 = nI s → I 28 9 = nI v → v < 10000 → (k ≤ 3 → v = dv t s k ∧ v < 10 ^ k) → (∀ I', FrT I I' → I' 28 6 = nI (spn isDg t d (s + k)) → I' 28 7 = nI s → I' 28 8 = nI (if spn isDg t d (s + k) - s ≤ 3 then 131 else 132) → (spn isDg t d (s + k) - s ≤ 3 → I' 28 9 = nI (dv t s (spn isDg t d (s + k) - s))) → Q I') → Rd_scanNumber_l5 Q (d + 1) I := by
  intro d
  have fin : ∀ (k v : Nat) (I : HI), s + k ≤ m → Txt t m I → I 28 6 = nI (s + k) → I 28 7 = nI s → I 28 9 = nI v → (k ≤ 3 → v = dv t s k ∧ v < 10 ^ k) → (∀ I', FrT I I' → I' 28 6 = nI (s + k) → I' 28 7 = nI s → I' 28 8 = nI (if (s + k) - s ≤ 3 then 131 else 132) → ((s + k) - s ≤ 3 → I' 28 9 = nI (dv t s ((s + k) - s))) → Q I') → Rd_scanNumber_b85 I Q := by
    intro k v I hm hT h6 h7 h9 hv K
    have h5 := hT.2.1
    unfold Rd_scanNumber_b85
    rw [show s + k - s = k by omega] at K
    have e : I 28 6 - I 28 7 = nI k := by rw [h6, h7, nS (by omega)]; congr 1; omega
    rw [e]
    refine ic (fun h => ?_) (fun h => ?_)
    · have hk : k ≤ 3 := (nI_leI (by omega) (by decide)).mp (show nI k ≤ nI 3 from h)
      refine K _ (FrT.rfl.up _ (by omega) (by omega)) ((up2_idx _ _ _ (by decide)).trans h6) ((up2_idx _ _ _ (by decide)).trans h7) ?_ (fun _ => ((up2_idx _ _ _ (by decide)).trans h9).trans (by rw [(hv hk).1]))
      rw [up2_same, if_pos hk]; rfl
    · have hk : ¬ k ≤ 3 := fun h8 => h (nI_le h8 (by decide))
      refine K _ (FrT.rfl.up _ (by omega) (by omega)) ((up2_idx _ _ _ (by decide)).trans h6) ((up2_idx _ _ _ (by decide)).trans h7) ?_ (fun h8 => absurd h8 hk)
      rw [up2_same, if_neg hk]; rfl
  induction d with
  | zero =>
    intro k v I hd hT h6 h7 h9 hv0 hv K
    unfold Rd_scanNumber_l5
    have := hT.2.1
    exact it (by rw [hT.1, h6]; exact nI_le (by omega) (by omega)) (fin k v I (by omega) hT h6 h7 h9 hv K)
  | succ d ih =>
    intro k v I hd hT h6 h7 h9 hv0 hv K
    have h5 := hT.2.1
    unfold Rd_scanNumber_l5
    have e1 : nx (I 28 6) = s + k := by rw [h6]; exact nx_nI (by omega)
    have hb := hT.2.2 (s + k) (by omega)
    rw [e1, hb.1, h9]
    refine ie (by rw [hT.1, h6]; exact nI_ge (by omega) (by omega)) ⟨by rw [h6]; exact vin (by omega) (by decide), cDig hb.2 ?_⟩
    by_cases h : isDg (t (s + k)) = true
    · rw [if_pos h]
      have hdg : 48 ≤ t (s + k) ∧ t (s + k) ≤ 57 := by unfold isDg at h; simpa using h
      have es : spn isDg t (d + 1) (s + k) = spn isDg t d (s + (k + 1)) := by simp only [spn, h, if_true]; rfl
      rw [es] at K
      have go : ∀ v', v' < 10000 → (k + 1 ≤ 3 → v' = dv t s (k + 1) ∧ v' < 10 ^ (k + 1)) → Rd_scanNumber_b69 I (nI v') (fun I' => Rd_scanNumber_l5 Q (d + 1) I') Q := fun v' hv0' hv' => by
        unfold Rd_scanNumber_b69
        have f : FrT I (up2 (up2 I 28 9 (nI v')) 28 6 (((up2 I 28 9 (nI v')) 28 6) + 1)) := (FrT.rfl.up _ (by omega) (by omega)).up _ (by omega) (by omega)
        refine ih (k + 1) v' _ (by omega) (hT.fr f) ?_ ?_ ?_ hv0' hv' (fun I' g => K I' (f.trans g))
        · rw [up2_same, up2_idx _ _ _ (by decide), h6, nI_1]; rfl
        · rw [up2_idx _ _ _ (by decide), up2_idx _ _ _ (by decide), h7]
        · rw [up2_idx _ _ _ (by decide), up2_same]
      refine ie (by decide) (ic (fun h1 => go v hv0 (fun hk => ?_)) (fun h1 => ⟨by rw [h6]; exact vin (by omega) (by decide), ?_⟩))
      · have h3 : 1000 ≤ v := (nI_leI (by decide) (by omega)).mp (show nI 1000 ≤ nI v from h1)
        have h4 := (hv (by omega)).2
        have : 10 ^ k ≤ 10 ^ 2 := Nat.pow_le_pow_right (by decide) (by omega)
        omega
      · have h3 : v < 1000 := by
          rcases Nat.lt_or_ge v 1000 with h3 | h3
          · exact h3
          · exact absurd (nI_le h3 (by omega)) h1
        rw [show (10 : Int32) = nI 10 from rfl, show (48 : Int32) = nI 48 from rfl, nM, nI_add, nS (by omega)]
        refine go _ (by omega) (fun hk => ?_)
        have h4 := hv (by omega)
        refine ⟨?_, ?_⟩
        · show _ = 10 * dv t s k + (t (s + k) - 48)
          rw [← h4.1]; omega
        · rw [Nat.pow_succ]
          have := h4.2
          omega
    · rw [if_neg h]
      have es : spn isDg t (d + 1) (s + k) = s + k := by simp only [spn, h]; rfl
      rw [es] at K
      exact it (by decide) (fin k v I (by omega) hT h6 h7 h9 hv K)
