/-! rules: both sides' whole calls -/
def FrX (I I' : HI) : Prop := ∀ b i, ¬ (b = 0 ∧ (i = 0 ∨ 16 ≤ i ∧ i ≤ 30)) → ¬ (11 ≤ b ∧ b ≤ 16) → I' b i = I b i
def MRQ (IM : HI) (a : AN) (Q : Int32 → HI → HJ → Prop) (r : Except (Nat × Nat) (List RuT)) : Prop := match r with
  | .error e => ∀ I' J', FrX IM I' → I' 0 0 = 0 → I' 0 16 = 0 → I' 0 18 = nI e.2 → Q (nI e.1) I' J'
  | .ok l => ∀ I' J', (∀ b i, ¬ (b = 0 ∧ (i = 0 ∨ i = 40 ∨ 16 ≤ i ∧ i ≤ 30)) → ¬ (11 ≤ b ∧ b ≤ 16) → ¬ (b = 4 ∨ b = 6 ∨ b = 7 ∨ b = 8) → I' b i = IM b i) → I' 0 0 = 0 → I' 0 16 = 0 → I' 0 18 = -1 → I' 0 40 = 0 → RepM I' (aFol a (mdf (fun _ => none) l)) → Q 0 I' J'
theorem m_rules {t : Nat → Nat} {m tt : Nat} {IM : HI} {JM : HJ} {a : AN} {Q : Int32 → HI → HJ → Prop} (W : WF a) (R : RepM IM a) (h16 : IM 0 16 = nI tt) (hmt : m ≤ tt) (ht5 : tt ≤ 500) (ht : ∀ k, k < m → IM 10 k = nI (t k) ∧ t k < 256) (K : MRQ IM a Q (spRules t m (an a) 16 (tS t m 0))) : M_rules IM JM (nI m) Q := by
  have n8 := W.2.1
  have n1 := W.1
  unfold M_rules
  refine ie (nI_pos (by omega)) (ie (by rw [up2_idx _ _ _ (by decide), h16]; exact nI_nlt hmt (by omega)) ?_)
  unfold M_rules_b23
  refine M_right_y (up2_same _ _ _ _) (ie (by decide) ?_)
  obtain ⟨I1, hI1⟩ : ∃ x, x = (up2 (up2 (up2 (up2 (up2 (up2 (up2 (up2 IM 0 0 0) 0 16 0) 0 18 (-1)) 0 17 0) 0 19 (nI m)) 0 20 0) 0 28 0) 0 27 0) := ⟨_, rfl⟩
  rw [← hI1]
  have v : I1 0 0 = 0 ∧ I1 0 16 = 0 ∧ I1 0 18 = -1 ∧ I1 0 17 = 0 ∧ I1 0 19 = nI m ∧ I1 0 20 = 0 ∧ I1 0 28 = 0 ∧ I1 0 27 = 0 := by
    rw [hI1]
    simp [up2_get]
  have g : ∀ b i, ¬ (b = 0 ∧ (i = 0 ∨ 16 ≤ i ∧ i ≤ 28)) → I1 b i = IM b i := fun b i h => by
    rw [hI1, up2_get, if_neg (by omega), up2_get, if_neg (by omega), up2_get, if_neg (by omega), up2_get, if_neg (by omega), up2_get, if_neg (by omega), up2_get, if_neg (by omega), up2_get, if_neg (by omega), up2_get, if_neg (by omega)]
  obtain ⟨v0, v16, v18, v17, v19, v20, v28, v27⟩ := v
  have hT : TxtM t m I1 := ⟨v19, by omega, fun k hk => ⟨(g 10 k (by omega)).trans (ht k hk).1, (ht k hk).2⟩⟩
  refine M_goes_k (p := 0) hT v20 (Nat.zero_le _) (fun I2 J2 f k => ⟨18, m_l71 (t := t) (m := m) (n := an a) (I0 := I2) n1 16 0 (tS t m 0) 0 [] I2 J2 rfl rfl ⟨hT.fr f, tS_le t (Nat.zero_le _), k, (f 0 17 (by omega)).trans v17, ?_, n8⟩ ((f 0 27 (by omega)).trans v27) ((f 0 28 (by omega)).trans v28) (Nat.zero_le _) trivial (fun _ _ _ _ => rfl) rfl ?_⟩)
  · rw [f 0 1 (by omega), g 0 1 (by omega)]
    exact R.1.1
  · have g2 : FrX IM I2 := fun b i h1 h2 => by
      rw [f b i (by omega)]
      exact g b i (by omega)
    cases hq : spRules t m (an a) 16 (tS t m 0) with
    | error e =>
      rw [hq] at K
      intro I3 J3 f3 e17 e18
      refine K I3 J3 (fun b i h1 h2 => (f3 b i (by omega) h2).trans (g2 b i h1 h2)) ?_ ?_ e18
      · rw [f3 0 0 (by omega) (by omega), f 0 0 (by omega)]; exact v0
      · rw [f3 0 16 (by omega) (by omega), f 0 16 (by omega)]; exact v16
    | ok l =>
      rw [hq] at K
      intro I3 J3 p' f3 e17 e18 e27 hlen hp' hL
      rw [List.nil_append] at e27 hlen hL
      have hok := spRules_ok W.1 hT.2.1 16 _ l (tS_le t (Nat.zero_le _)) hq
      have g3 : FrX IM I3 := fun b i h1 h2 => (f3 b i (by omega) h2).trans (g2 b i h1 h2)
      refine ⟨_, m_l106 (a := a) (I0 := I3) n8 hp' hlen l 0 I3 (fun _ => none) (Nat.zero_add _) e27 hL hok ?_ (fun _ _ _ => rfl) (fun I4 f4 R4 => K _ J3 (fun b i h1 h2 h3 => ?_) ?_ ?_ ?_ (up2_same _ _ _ _) ?_)⟩
      · rw [aFol_none]
        exact R.eq (fun b i hb => g3 b i (by omega) (by omega))
      · rw [up2_get, if_neg (by omega), f4 b i h3]
        exact g3 b i (by omega) h2
      · rw [up2_idx _ _ _ (by decide), f4 0 0 (by omega), f3 0 0 (by omega) (by omega), f 0 0 (by omega)]; exact v0
      · rw [up2_idx _ _ _ (by decide), f4 0 16 (by omega), f3 0 16 (by omega) (by omega), f 0 16 (by omega)]; exact v16
      · rw [up2_idx _ _ _ (by decide), f4 0 18 (by omega), e18, f 0 18 (by omega)]; exact v18
      · exact R4.eq (fun b i hb => by rw [up2_get, if_neg (by omega)])
theorem fc28 : ∀ q ∈ FC0, ¬ (q.1 = 28 ∧ q.2.1 = 3) := by decide
theorem geo28 {F : HR} {L : HL} (h : Geo F L) : Geo (up2 F 28 3 (some 34)) L := ⟨h.1, fun q hq => by rw [up2_get, if_neg (fc28 q hq)]; exact h.2 q hq⟩
theorem c_read {t : Nat → Nat} {m n : Nat} {own : Nat → Nat} {ro : Nat} {I : HI} {T F : HR} {L : HL} {x2 x3 : Int32} {Q : HI → HR → HR → HL → Prop} (h1n : 1 ≤ n) (hn8 : n ≤ 8) (O : Own own ro L) (G : Geo F L) (hm : m ≤ 500) (ht : ∀ k, k < m → I 34 k = nI (t k) ∧ t k < 256) (hx2 : x2 = nI m) (hx3 : x3 = nI n) (K : LpQ own ro I T (up2 F 28 3 (some 34)) L (fun _ => none) Q (spRules t m n 16 (tS t m 0))) : Rd_read I T F L x2 x3 2080 Q := by
  subst hx2
  subst hx3
  have G' := geo28 G
  unfold Rd_read
  obtain ⟨I1, hI1⟩ : ∃ x, x = (up2 (up2 (up2 (up2 (up2 (up2 I 28 4 (nI m)) 28 5 (nI n)) 28 0 0) 28 1 (-1)) 28 6 0) 28 8 128) := ⟨_, rfl⟩
  rw [← hI1]
  have v : I1 28 4 = nI m ∧ I1 28 5 = nI n ∧ I1 28 0 = 0 ∧ I1 28 1 = -1 ∧ I1 28 6 = 0 ∧ I1 28 8 = 128 := by
    rw [hI1]
    simp [up2_get]
  have g : ∀ b i, b ≠ 28 → I1 b i = I b i := fun b i h => by
    rw [hI1, up2_ne _ _ _ h, up2_ne _ _ _ h, up2_ne _ _ _ h, up2_ne _ _ _ h, up2_ne _ _ _ h, up2_ne _ _ _ h]
  obtain ⟨v4, v5, v0, v1, v6, v8⟩ := v
  have hT : Txt t m I1 := ⟨v4, hm, fun k hk => ⟨(g 34 k (by decide)).trans (ht k hk).1, (ht k hk).2⟩⟩
  refine ⟨G', 9, c_l40 (T0 := T) (fun T' hT1 hT2 => ?_) 8 0 T rfl (fun _ _ _ => rfl) (fun i hi => by omega)⟩
  refine Rd_next_k (p := 0) hT v6 (Nat.zero_le _) (by rw [v8]; decide) (fun I2 f e6 e7 e8 e9 => ⟨18, c_l68 (own0 := own) (ro := ro) (I0 := I) (T0 := T) (F0 := up2 F 28 3 (some 34)) (L0 := L) h1n 16 0 (tS t m 0) own I2 T' _ L (fun _ => none) 0 rfl (Nat.zero_le _) ⟨⟨hT.fr f, tS_le t (Nat.zero_le _), e6, e7, e8, e9, (f 28 5 (by omega)).trans v5, hn8⟩, ⟨O, G', fun _ _ => rfl, Ext.rf, fun b i _ h2 _ _ _ => (f b i (by omega)).trans (g b i h2), hT1⟩, ?_, (f 28 0 (by omega)).trans v0, (f 28 1 (by omega)).trans v1, fun w hw => Or.inl ⟨rfl, hT2 w hw⟩⟩ K⟩)
  exact up2_same _ _ _ _
