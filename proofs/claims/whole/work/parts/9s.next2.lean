/-! rules: the class's next, whole -/
theorem tS_ge (t : Nat → Nat) (m p : Nat) : p ≤ tS t m p := spn_ge _ _ _ _
theorem tS_le (t : Nat → Nat) {m p : Nat} (h : p ≤ m) : tS t m p ≤ m := by
  have := spn_le isB t (m - p) p
  unfold tS; omega
theorem tE_ge (t : Nat → Nat) (m s : Nat) : s ≤ tE t m s := by
  unfold tE
  split
  · exact Nat.le_refl s
  · split
    · exact spn_ge _ _ _ _
    · split
      · exact spn_ge _ _ _ _
      · omega
theorem tE_le (t : Nat → Nat) {m s : Nat} (h : s ≤ m) : tE t m s ≤ m := by
  unfold tE
  split
  · exact h
  · split
    · have := spn_le isLt t (m - s) s; omega
    · split
      · have := spn_le isDg t (m - s) s; omega
      · omega
theorem spn_gt {f : Nat → Bool} {t : Nat → Nat} {d p : Nat} (hd : 0 < d) (h : f (t p) = true) : p < spn f t d p := by
  obtain ⟨d', rfl⟩ := Nat.exists_eq_succ_of_ne_zero (Nat.pos_iff_ne_zero.mp hd)
  simp only [spn, h, if_true]
  have := spn_ge f t d' (p + 1)
  omega
theorem tE_gt (t : Nat → Nat) {m s : Nat} (h : s < m) : s < tE t m s := by
  unfold tE
  rw [if_neg (by omega)]
  split
  · rename_i h1; exact spn_gt (by omega) h1
  · split
    · rename_i h1; exact spn_gt (by omega) h1
    · omega
theorem Rd_next_k {t : Nat → Nat} {m p : Nat} {I : HI} {Q : HI → Prop} (hT : Txt t m I) (hp : I 28 6 = nI p) (hpm : p ≤ m) (hk : I 28 8 ≠ 130) (hQ : ∀ I', FrT I I' → I' 28 6 = nI (tE t m (tS t m p)) → I' 28 7 = nI (tS t m p) → I' 28 8 = nI (tK t m (tS t m p)) → (tK t m (tS t m p) = 131 → I' 28 9 = nI (tV t m (tS t m p))) → Q I') : Rd_next I Q := by
  have h5 := hT.2.1
  unfold Rd_next
  refine ie hk ⟨m - p + 1, next_l11 (m - p) p I (by omega) hT hp (fun I1 f1 e6 => ?_)⟩
  have hsm := tS_le t hpm
  change I1 28 6 = nI (tS t m p) at e6
  generalize hs : tS t m p = s at *
  have hT1 := hT.fr f1
  unfold Rd_next_b63
  have f2 : FrT I1 (up2 I1 28 7 (I1 28 6)) := FrT.rfl.up _ (by omega) (by omega)
  have g6 : (up2 I1 28 7 (I1 28 6)) 28 6 = nI s := (up2_idx _ _ _ (by decide)).trans e6
  have g7 : (up2 I1 28 7 (I1 28 6)) 28 7 = nI s := (up2_same _ _ _ _).trans e6
  generalize up2 I1 28 7 (I1 28 6) = I2 at f2 g6 g7 ⊢
  have hT2 := hT1.fr f2
  have f3 := f1.trans f2
  have e1 : nx (I2 28 6) = s := by rw [g6]; exact nx_nI (by omega)
  rw [e1]
  by_cases hlt : s < m
  · have hb := hT2.2.2 s hlt
    have hv : vp_in (I2 28 6) 500 := by rw [g6]; exact vin (by omega) (by decide)
    refine it (by rw [g6, hT2.1]; exact nI_lt hlt (by omega)) ⟨hv, ?_⟩
    rw [hb.1]
    refine cLet hb.2 ?_
    by_cases hL : isLt (t s) = true
    · rw [if_pos hL]
      refine ie (by decide) ⟨m - s + 1, word_l0 (m - s) s I2 (by omega) hT2 g6 (fun I3 f4 i7 i6 => ?_)⟩
      have eE : tE t m s = spn isLt t (m - s) s := by unfold tE; rw [if_neg (by omega), if_pos hL]
      rw [← eE] at i6
      have hle := tE_le t (show s ≤ m by omega)
      have hT3 := hT2.fr f4
      refine Rd_kind_k (t := t) (i7.trans g7) i6 (tE_ge t m s) (by omega) (fun k hk => hT3.2.2 k (by omega)) ?_
      have eK : tK t m s = wfd (ltr t (tE t m s - s) s) wlist 141 := by unfold tK; rw [if_neg (by omega), if_pos hL]
      have hK : ∀ (ws : List (List Nat)) k x, 132 ≤ k → wfd x ws k ≠ 131 := by
        intro ws
        induction ws with
        | nil => intro k x h; simp [wfd]
        | cons w r ih => intro k x h; simp only [wfd]; split; omega; exact ih _ _ (by omega)
      refine hQ _ ((f3.trans f4).up _ (by omega) (by omega)) ((up2_idx _ _ _ (by decide)).trans i6) ((up2_idx _ _ _ (by decide)).trans (i7.trans g7)) ?_ (fun h => ?_)
      · rw [up2_same, eK]
      · rw [eK] at h
        exact absurd h (hK _ _ _ (by decide))
    · rw [if_neg hL]
      refine it (by decide) ⟨hv, cDig hb.2 ?_⟩
      by_cases hD : isDg (t s) = true
      · rw [if_pos hD]
        have eE : tE t m s = spn isDg t (m - s) s := by unfold tE; rw [if_neg (by omega), if_neg hL, if_pos hD]
        have eK : tK t m s = if tE t m s - s ≤ 3 then 131 else 132 := by unfold tK; rw [if_neg (by omega), if_neg hL, if_pos hD]
        refine ie (by decide) ⟨m - s + 1, num_l5 (t := t) (m := m) (s := s) (m - s) 0 0 _ (by omega) (hT2.fr (FrT.rfl.up _ (by omega) (by omega))) ((up2_idx _ _ _ (by decide)).trans g6) ((up2_idx _ _ _ (by decide)).trans g7) (up2_same _ _ _ _) (by decide) (fun _ => ⟨rfl, by decide⟩) (fun I3 f4 i6 i7 i8 i9 => ?_)⟩
        rw [Nat.add_zero, ← eE] at i6 i8 i9
        refine hQ _ ((f3.up _ (by omega) (by omega)).trans f4) i6 i7 (by rw [i8, eK]) (fun h => ?_)
        rw [eK] at h
        refine i9 ?_
        by_cases h3 : tE t m s - s ≤ 3
        · exact h3
        · rw [if_neg h3] at h; exact absurd h (by decide)
      · rw [if_neg hD]
        have eE : tE t m s = s + 1 := by unfold tE; rw [if_neg (by omega), if_neg hL, if_neg hD]
        refine it (by decide) ⟨hv, cSig hb.2 ?_⟩
        by_cases hS : isSg (t s) = true
        · rw [if_pos hS]
          have eK : tK t m s = t s := by unfold tK; rw [if_neg (by omega), if_neg hL, if_neg hD, if_pos hS]
          refine ie (by decide) ⟨hv, ?_⟩
          unfold Rd_next_b167
          refine hQ _ ((f3.up _ (by omega) (by omega)).up _ (by omega) (by omega)) ?_ ?_ ?_ (fun h => ?_)
          · rw [up2_same, up2_idx _ _ _ (by decide), g6, nI_1, eE]
          · rw [up2_idx _ _ _ (by decide), up2_idx _ _ _ (by decide), g7]
          · rw [up2_idx _ _ _ (by decide), up2_same, eK]
          · rw [eK] at h
            rw [h] at hS
            exact absurd hS (by decide)
        · rw [if_neg hS]
          have eK : tK t m s = 129 := by unfold tK; rw [if_neg (by omega), if_neg hL, if_neg hD, if_neg hS]
          refine it (by decide) ?_
          unfold Rd_next_b167
          refine hQ _ ((f3.up _ (by omega) (by omega)).up _ (by omega) (by omega)) ?_ ?_ ?_ (fun h => ?_)
          · rw [up2_same, up2_idx _ _ _ (by decide), g6, nI_1, eE]
          · rw [up2_idx _ _ _ (by decide), up2_idx _ _ _ (by decide), g7]
          · rw [up2_idx _ _ _ (by decide), up2_same, eK]; rfl
          · rw [eK] at h; exact absurd h (by decide)
  · have eE : tE t m s = s := by unfold tE; rw [if_pos (by omega)]
    have eK : tK t m s = 128 := by unfold tK; rw [if_pos (by omega)]
    refine ie (by rw [g6, hT2.1]; exact nI_nlt (by omega) (by omega)) (hQ _ (f3.up _ (by omega) (by omega)) ?_ ?_ ?_ (fun h => ?_))
    · rw [up2_idx _ _ _ (by decide), g6, eE]
    · rw [up2_idx _ _ _ (by decide), g7]
    · rw [up2_same, eK]; rfl
    · rw [eK] at h; exact absurd h (by decide)
