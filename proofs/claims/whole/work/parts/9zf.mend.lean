/-! rules: the reference's loop, how it ends -/
theorem MR.fr30 {t : Nat → Nat} {m n s dep dep2 : Nat} {I I' : HI} {J : HJ} (h : MR t m n I J s dep) (f : ∀ i, i ≠ 28 → i ≠ 29 → i ≠ 30 → I' 0 i = I 0 i) (f2 : ∀ k, I' 10 k = I 10 k) (h3 : I' 0 30 = nI dep2) (h4 : dep2 ≤ 6) : MR t m n I' J s dep2 := by
  obtain ⟨a1, a2, a3, a4, a5, a6, a7⟩ := h
  exact ⟨⟨(f 19 (by omega) (by omega) (by omega)).trans a1.1, a1.2.1, fun k hk => ⟨(f2 k).trans (a1.2.2 k hk).1, (a1.2.2 k hk).2⟩⟩, a2, a3.fr (fun i h1 h2 => f i (by omega) (by omega) (by omega)), (f 17 (by omega) (by omega) (by omega)).trans a4, (f 1 (by omega) (by omega) (by omega)).trans a5, a6, h3, h4⟩
theorem mClose {t : Nat → Nat} {m n s p d k : Nat} {I : HI} {J : HJ} {x1 : Int32} {Q : Int32 → HI → HJ → Prop} {E : AC} {P S : List Nat} (hS : MS t m n I J s p E (P ++ 12 :: S) (d + 1)) (hk : tK t m s = 41) (hd : 1 ≤ d) (hP : ∀ o ∈ P, o ≠ 12) (K : ∀ I' J', MS t m n I' J' (nxt t m s) p (E ++ its P) S d → FrP p (d + 1) I I' → M_expression_l35 x1 Q k I' J' 1) : M_expression_l35 x1 Q (k + 1) I J 1 := by
  have hb := hS.dr
  obtain ⟨hR, hM, -, -⟩ := hS
  have a3 := hR.2.2.1
  have a7 := hR.2.2.2.2.2.2
  have hn := nxt_ge t m s
  rw [List.length_cons] at hb
  refine l35_sig hR (by omega) (ie (by omega) ?_)
  unfold M_expression_b188
  refine mSign (c := 43) a3 (by decide) ?_
  rw [if_neg (show ¬ tK t m s = 43 by omega)]
  refine it rfl (mSign (c := 45) a3 (by decide) ?_)
  rw [if_neg (show ¬ tK t m s = 45 by omega)]
  refine it rfl (mSign (c := 42) a3 (by decide) ?_)
  rw [if_neg (show ¬ tK t m s = 42 by omega)]
  refine it rfl (mSign (c := 47) a3 (by decide) ?_)
  rw [if_neg (show ¬ tK t m s = 47 by omega)]
  refine it rfl (mSign (c := 41) a3 (by decide) ?_)
  rw [if_pos hk]
  refine ie (by decide) (ie (by rw [a7.1]; exact nI_ge (a := 1) (by omega) (by omega)) (mDrops (x := 0) (P := P) (S := 12 :: S) (by decide) (Or.inl rfl) hM (fun o ho => ⟨hP o ho, Nat.zero_le _⟩) (fun I1 f1 hM1 => ?_)))
  have hR1 := hR.frS f1
  have e30 := hR1.2.2.2.2.2.2.1
  obtain ⟨c1, c2, c3, c4, c5, c6, c7⟩ := hM1
  rw [List.length_cons] at c3 c5 c6
  rw [up2_idx _ _ _ (by decide), c3, e30, nI_pred, nI_pred]
  have hR2 : MR t m n (up2 (up2 I1 0 29 (nI S.length)) 0 30 (nI d)) J s d := hR1.fr30 (fun i _ h2 h3 => by rw [up2_idx _ _ _ h3, up2_idx _ _ _ h2]) (fun k => by rw [up2_ne _ _ _ (by decide), up2_ne _ _ _ (by decide)]) (up2_same _ _ _ _) (by omega)
  have hM2 : MM (up2 (up2 I1 0 29 (nI S.length)) 0 30 (nI d)) p (E ++ its P) S := ⟨by rw [up2_idx _ _ _ (by decide), up2_idx _ _ _ (by decide), c1], c2.fr (fun k _ => by rw [up2_ne _ _ _ (by decide), up2_ne _ _ _ (by decide)]), by rw [up2_idx _ _ _ (by decide), up2_same], c4.2.fr (fun k _ => by rw [up2_ne _ _ _ (by decide), up2_ne _ _ _ (by decide)]), by omega, by omega, fun o ho => c7 o (List.mem_cons_of_mem _ ho)⟩
  refine hR2.go (fun I3 J3 f3 hR3 => K I3 J3 ⟨hR3, hM2.fr f3, by omega, by omega⟩ (f1.frP.trans (FrP.trans (e2 := d + 1) (fun a i n1 n2 n3 n4 => ?_) f3.frP (Nat.le_refl _)) (Nat.le_refl _)))
  rw [up2_get, if_neg (by omega), up2_get, if_neg (by omega)]
theorem kmap_34 {k : Nat} (h1 : k ≠ 152) (h2 : k ≠ 153) : kmap k ≠ 3 ∧ kmap k ≠ 4 := by
  unfold kmap
  split
  · decide
  split
  · decide
  split
  · decide
  split
  · decide
  split
  · rename_i h
    exact ⟨fun e => by have := (nI_eq (by omega) (by decide)).mp (show nI (k - 138) = nI 3 from e); omega, fun e => by have := (nI_eq (by omega) (by decide)).mp (show nI (k - 138) = nI 4 from e); omega⟩
  · decide
theorem mLeave {t : Nat → Nat} {m n s dep k : Nat} {I : HI} {J : HJ} {x1 : Int32} {Q : Int32 → HI → HJ → Prop} (hR : MR t m n I J s dep) (hP : opP (tK t m s) = 0) (hS : opS (tK t m s) = 0) (hA : opA (tK t m s) = 0) (hO : opO (tK t m s) = 0) (hT : opT (tK t m s) = 0 ∨ I 16 dep = 1) (h41 : tK t m s = 41 → dep ≤ 1) (K : M_expression_b353 I J x1 Q) : M_expression_l35 x1 Q (k + 2) I J 1 := by
  have hl : M_expression_l35 x1 Q (k + 1) I J 0 := by
    unfold M_expression_l35
    exact it rfl K
  have hR' := hR
  obtain ⟨a1, a2, a3, a4, a5, a6, a7, a8⟩ := hR
  have h42 : tK t m s ≠ 42 ∧ tK t m s ≠ 47 := by unfold opP at hP; split at hP; omega; split at hP; omega; omega
  have h43 : tK t m s ≠ 43 ∧ tK t m s ≠ 45 := by unfold opS at hS; split at hS; omega; split at hS; omega; omega
  have h152 : tK t m s ≠ 152 := by unfold opA at hA; split at hA; omega; omega
  have h153 : tK t m s ≠ 153 := by unfold opO at hO; split at hO; omega; omega
  have h188 : M_expression_b188 I J x1 1 (fun I' J' x2' => M_expression_l35 x1 Q (k + 1) I' J' x2') Q := by
    unfold M_expression_b188
    refine mSign (c := 43) a3 (by decide) ?_
    rw [if_neg h43.1]
    refine it rfl (mSign (c := 45) a3 (by decide) ?_)
    rw [if_neg h43.2]
    refine it rfl (mSign (c := 42) a3 (by decide) ?_)
    rw [if_neg h42.1]
    refine it rfl (mSign (c := 47) a3 (by decide) ?_)
    rw [if_neg h42.2]
    refine it rfl (mSign (c := 41) a3 (by decide) ?_)
    by_cases h : tK t m s = 41
    · rw [if_pos h]
      refine ie (by decide) (it ?_ hl)
      rw [a7]
      exact nI_le (h41 h) (by decide)
    · rw [if_neg h]
      exact it rfl hl
  by_cases hk : tK t m s < 140
  · refine l35_sig hR' hk ?_
    by_cases h6 : tK t m s = 60 ∨ tK t m s = 61
    · refine it h6 ?_
      unfold M_expression_b129
      rw [a7, nx_nI (by omega)]
      refine ⟨vin (by omega) (by decide), ie ?_ h188⟩
      rcases hT with e | e
      · exfalso
        unfold opT at e
        split at e
        · omega
        · split at e <;> omega
      · rw [e]; decide
    · exact ie h6 h188
  · unfold M_expression_l35
    refine ie (by decide) (mGood a4 (ie (by decide) (M_known_k a1.2.1 a2 a3 ?_)))
    have h3 := kmap_34 h152 h153
    refine ie h3.1 (ie h3.2 (mSign (c := 60) a3 (by decide) ?_))
    rw [if_neg (show ¬ tK t m s = 60 by omega)]
    refine it rfl (mSign (c := 61) a3 (by decide) ?_)
    rw [if_neg (show ¬ tK t m s = 61 by omega)]
    exact it rfl h188
/-- an end within another: misplaced -/
theorem mEnd2 {t : Nat → Nat} {m n s p dep : Nat} {I : HI} {J : HJ} {x1 : Int32} {Q : Int32 → HI → HJ → Prop} {E : AC} {S : List Nat} (hS : MS t m n I J s p E S dep) (hd : 2 ≤ dep) (K : ∀ I', FrF p I I' → I' 0 17 = nI 1 → I' 0 18 = nI s → Q x1 I' J) : M_expression_b353 I J x1 Q := by
  obtain ⟨hR, hM, -, -⟩ := hS
  obtain ⟨a1, a2, a3, a4, a5, a6, a7, a8⟩ := hR
  unfold M_expression_b353
  refine mGood a4 (ie (by decide) (ie (by rw [a7]; exact nI_ge (a := 1) (by omega) (by omega)) (mWrong (f := 1) a4 a3.2.1 (fun I1 f1 e1 e2 => ?_))))
  have g1 : Fr1 I I1 := f1
  exact mTail (hM.fr1 g1) (fun I2 f2 e3 e4 => K I2 (g1.frF.trans f2) (e3.trans e1) (e4.trans e2))
/-- an end of the whole -/
theorem mEnd1 {t : Nat → Nat} {m n s p dep : Nat} {I : HI} {J : HJ} {x1 : Int32} {Q : Int32 → HI → HJ → Prop} {E : AC} {P : List Nat} (hS : MS t m n I J s p E P dep) (hd : dep ≤ 1) (hP : ∀ o ∈ P, o ≠ 12) (K : ∀ I', FrS p I I' → I' 0 28 = nI (p + mlE (E ++ its P) + 1) → OU I' p (E ++ its P) → I' 14 (p + mlE (E ++ its P)) = 0 → Q x1 I' J) : M_expression_b353 I J x1 Q := by
  obtain ⟨hR, hM, -, -⟩ := hS
  obtain ⟨a1, a2, a3, a4, a5, a6, a7, a8⟩ := hR
  unfold M_expression_b353
  refine mGood a4 (ie (by decide) (it (by rw [a7]; exact nI_le hd (by decide)) ?_))
  unfold M_expression_b373
  refine mDrops (x := 0) (P := P) (S := []) (by decide) trivial (by rw [List.append_nil]; exact hM) (fun o ho => ⟨hP o ho, Nat.zero_le _⟩) (fun I1 f1 hM1 => ?_)
  obtain ⟨c1, c2, c3, c4, c5, c6, c7⟩ := hM1
  unfold M_puts
  rw [c1, nx_nI (by omega), up2_ne _ _ _ (by decide), c1, nI_1]
  refine ⟨vin (by omega) (by decide), K _ (fun a i n1 n2 n3 => ?_) ?_ ?_ ?_⟩
  · rw [up2_get, if_neg (by omega), up2_get, if_neg (by omega)]
    exact f1 a i n1 n2 n3
  · rw [up2_same]
  · exact c2.fr (fun k hk => by rw [up2_ne _ _ _ (by decide), up2_idx _ _ _ (by omega)])
  · rw [up2_ne _ _ _ (by decide), up2_same]
