/-! rules: the reference's loop, a step at a time -/
theorem narB0 : vp_nar .boolean 0 = 0 := by decide
theorem narB1 : vp_nar .boolean 1 = 1 := by decide
theorem mBegins {t : Nat → Nat} {m n s dep : Nat} {I : HI} {J : HJ} {Q : HI → Prop} (h : MR t m n I J s dep)
    (K1 : dep < 6 → ∀ I', (∀ a i, ¬ (a = 0 ∧ i = 30) → ¬ (a = 16 ∧ i = dep + 1) → I' a i = I a i) → I' 0 30 = nI (dep + 1) → I' 16 (dep + 1) = 0 → Q I')
    (K2 : dep = 6 → ∀ I', Fr1 I I' → I' 0 17 ≠ 0 → I' 0 17 = nI (if tK t m s = 131 ∨ tK t m s = 132 ∨ 140 ≤ tK t m s ∨ tK t m s = 40 then 2 else 1) → I' 0 18 = nI s → Q I') : M_begins I Q := by
  obtain ⟨a1, a2, a3, a4, a5, a6, a7, a8⟩ := h
  unfold M_begins
  rw [a7]
  by_cases h6 : dep = 6
  · have K2 := K2 h6
    refine it (by rw [h6]; decide) ?_
    by_cases h1 : tK t m s = 131 ∨ tK t m s = 132
    · rw [if_pos (by omega)] at K2
      exact it ((sk2 a3).mpr h1) (mWrong (f := 2) a4 a3.2.1 (fun I' f e1 e2 => K2 I' f (wne e1 (by decide) (by decide)) e1 e2))
    · refine ie (fun e => h1 ((sk2 a3).mp e)) ?_
      by_cases h2 : 140 ≤ tK t m s
      · rw [if_pos (by omega)] at K2
        exact it ((sk1 a3).mpr h2) (mWrong (f := 2) a4 a3.2.1 (fun I' f e1 e2 => K2 I' f (wne e1 (by decide) (by decide)) e1 e2))
      · refine ie (fun e => h2 ((sk1 a3).mp e)) (mSign (c := 40) a3 (by decide) ?_)
        by_cases h3 : tK t m s = 40
        · rw [if_pos (show tK t m s = 131 ∨ tK t m s = 132 ∨ 140 ≤ tK t m s ∨ tK t m s = 40 by omega)] at K2
          rw [if_pos h3]
          exact ie (by decide) (mWrong (f := 2) a4 a3.2.1 (fun I' f e1 e2 => K2 I' f (wne e1 (by decide) (by decide)) e1 e2))
        · rw [if_neg (show ¬ (tK t m s = 131 ∨ tK t m s = 132 ∨ 140 ≤ tK t m s ∨ tK t m s = 40) by omega)] at K2
          rw [if_neg h3]
          exact it rfl (mWrong (f := 1) a4 a3.2.1 (fun I' f e1 e2 => K2 I' f (wne e1 (by decide) (by decide)) e1 e2))
  · refine ie (show ¬ nI 6 ≤ nI dep from nI_ge (by omega) (by decide)) ?_
    rw [nI_1, up2_same, nx_nI (by omega), narB0]
    refine ⟨vin (by omega) (by decide), K1 (by omega) _ (fun a i n1 n2 => ?_) ?_ ?_⟩
    · rw [up2_get, if_neg n2, up2_get, if_neg n1]
    · rw [up2_ne _ _ _ (by decide), up2_same]
    · rw [up2_same]
theorem ml_its : ∀ (P : List Nat), (∀ o ∈ P, 3 ≤ o) → mlE (its P) = P.length
  | [], _ => rfl
  | o :: r, h => by
    have h1 := ml_its r (fun x hx => h x (List.mem_cons_of_mem _ hx))
    have h2 := h o List.mem_cons_self
    have e : its (o :: r) = [(o, 0)] ++ its r := rfl
    rw [e, ml_app, ml1 (by omega), h1, List.length_cons]
    omega
theorem MS.dr {t : Nat → Nat} {m n s p dep : Nat} {I : HI} {J : HJ} {E : AC} {P S : List Nat} (h : MS t m n I J s p E (P ++ S) dep) : p + mlE (E ++ its P) + S.length ≤ 2 * s ∧ S.length ≤ s := by
  obtain ⟨-, hM, h1, h2⟩ := h
  have := ml_its P (fun o ho => (hM.2.2.2.2.2.2 o (List.mem_append_left _ ho)).1)
  rw [List.length_append] at h1 h2
  rw [ml_app, this]
  omega
theorem mPush {t : Nat → Nat} {m n s p dep e o : Nat} {I : HI} {J : HJ} {E : AC} {S : List Nat} {Q : HI → HJ → Prop} (hR : MR t m n I J s dep) (hM : MM I p E S) (hB : p + mlE E + S.length ≤ 2 * s) (hC : S.length ≤ s) (hk : tK t m s ≠ 128) (h3 : 3 ≤ o) (h12 : o ≤ 12) (K : ∀ I' J', MS t m n I' J' (nxt t m s) p E (o :: S) dep → FrP p e I I' → Q I' J') : M_waitsFor I (nI o) (fun I1 => M_goes I1 J Q) := by
  have hn := nxt_gt t (kd_lt hk)
  have hs := hR.2.1
  have hm := hR.1.2.1
  refine mWaits hM (by omega) (by omega) h3 h12 (fun I1 f1 hM1 => (hR.frS f1).go (fun I2 J2 f2 hR2 => K I2 J2 ⟨hR2, hM1.fr f2, ?_, ?_⟩ (f1.frP.trans f2.frP (Nat.le_refl _))))
  · rw [List.length_cons]; omega
  · rw [List.length_cons]; omega
theorem mPushT {t : Nat → Nat} {m n s p dep o : Nat} {I : HI} {J : HJ} {E : AC} {S : List Nat} {v : Int32} {Q : HI → HJ → Prop} (hR : MR t m n I J s dep) (hM : MM I p E S) (hB : p + mlE E + S.length ≤ 2 * s) (hC : S.length ≤ s) (hk : tK t m s ≠ 128) (h3 : 3 ≤ o) (h12 : o ≤ 12) (K : ∀ I' J', MS t m n I' J' (nxt t m s) p E (o :: S) dep → FrP p dep I I' → I' 16 dep = v → Q I' J') : M_waitsFor I (nI o) (fun I1 => vp_in (I1 0 30) 9 ∧ M_goes (up2 I1 16 (nx (I1 0 30)) v) J Q) := by
  have hn := nxt_gt t (kd_lt hk)
  have hs := hR.2.1
  have hm := hR.1.2.1
  refine mWaits hM (by omega) (by omega) h3 h12 (fun I1 f1 hM1 => ?_)
  have hR1 := hR.frS f1
  have h7 := hR1.2.2.2.2.2.2
  rw [h7.1, nx_nI (by omega)]
  have hR2 : MR t m n (up2 I1 16 dep v) J s dep := hR1.fr (fun i _ _ => by rw [up2_ne _ _ _ (by decide)]) (fun k => by rw [up2_ne _ _ _ (by decide)])
  have hM2 : MM (up2 I1 16 dep v) p E (o :: S) := hM1.frW (fun a i _ h => by rw [up2_ne _ _ _ h])
  refine ⟨vin (by omega) (by decide), hR2.go (fun I2 J2 f2 hR3 => K I2 J2 ⟨hR3, hM2.fr f2, ?_, ?_⟩ (f1.frP.trans (FrP.trans (e2 := dep) (fun a i n1 n2 n3 n4 => ?_) f2.frP (Nat.le_refl _)) (Nat.le_refl _)) ?_)⟩
  · rw [List.length_cons]; omega
  · rw [List.length_cons]; omega
  · rw [up2_get, if_neg (fun x => n4 ⟨x.1, by omega⟩)]
  · rw [f2 16 dep (by omega), up2_same]
theorem l35_sig {t : Nat → Nat} {m n s dep k : Nat} {I : HI} {J : HJ} {x1 : Int32} {Q : Int32 → HI → HJ → Prop} (h : MR t m n I J s dep) (hk : tK t m s < 140) (K : if tK t m s = 60 ∨ tK t m s = 61 then M_expression_b129 I J x1 1 (fun I' J' x2' => M_expression_l35 x1 Q k I' J' x2') Q else M_expression_b188 I J x1 1 (fun I' J' x2' => M_expression_l35 x1 Q k I' J' x2') Q) : M_expression_l35 x1 Q (k + 1) I J 1 := by
  obtain ⟨a1, a2, a3, a4, a5, a6, a7, a8⟩ := h
  unfold M_expression_l35
  refine ie (by decide) (mGood a4 (ie (by decide) (M_known_k a1.2.1 a2 a3 ?_)))
  rw [kmap_s hk]
  refine ie (by decide) (ie (by decide) (mSign (c := 60) a3 (by decide) ?_))
  by_cases h1 : tK t m s = 60
  · rw [if_pos h1]
    rw [if_pos (Or.inl h1)] at K
    exact ie (by decide) K
  · rw [if_neg h1]
    refine it rfl (mSign (c := 61) a3 (by decide) ?_)
    by_cases h2 : tK t m s = 61
    · rw [if_pos h2]
      rw [if_pos (Or.inr h2)] at K
      exact ie (by decide) K
    · rw [if_neg h2]
      rw [if_neg (by omega)] at K
      exact it rfl K
theorem stepP {t : Nat → Nat} {m n s p dep k : Nat} {I : HI} {J : HJ} {x1 : Int32} {Q : Int32 → HI → HJ → Prop} {E : AC} {P S : List Nat} (hS : MS t m n I J s p E (P ++ S) dep) (ho : opP (tK t m s) ≠ 0) (hP : ∀ o ∈ P, o ≠ 12 ∧ 6 ≤ stg o) (hL : Lowr 6 S) (K : ∀ I' J', MS t m n I' J' (nxt t m s) p (E ++ its P) (opP (tK t m s) :: S) dep → FrP p (dep + 1) I I' → M_operand I' J' 0 (fun I J => M_expression_l35 x1 Q k I J 1)) : M_expression_l35 x1 Q (k + 1) I J 1 := by
  have hb := hS.dr
  obtain ⟨hR, hM, -, -⟩ := hS
  have a3 := hR.2.2.1
  have hc : tK t m s = 42 ∨ tK t m s = 47 := by unfold opP at ho; split at ho; omega; split at ho; omega; omega
  have hb : M_expression_b261 I J x1 1 (fun I' J' x2' => M_expression_l35 x1 Q k I' J' x2') Q := by
    unfold M_expression_b261
    refine mDrops (x := 6) (by decide) hL hM hP (fun I1 f1 hM1 => mSign (c := 42) ((hR.frS f1).2.2.1) (by decide) ?_)
    have hx : M_expression_b284 I1 J x1 1 (nI (opP (tK t m s))) (fun I' J' x2' => M_expression_l35 x1 Q k I' J' x2') Q := by
      unfold M_expression_b284
      have := opP_ok (tK t m s)
      exact mPush (e := dep + 1) (hR.frS f1) hM1 hb.1 hb.2 (by omega) (by omega) (by omega) (fun I2 J2 hS2 f2 => K I2 J2 hS2 (f1.frP.trans f2 (Nat.le_refl _)))
    rcases hc with h | h
    · rw [if_pos h]
      rw [h] at hx
      exact ie (by decide) hx
    · rw [if_neg (show ¬ tK t m s = 42 by omega)]
      rw [h] at hx
      exact it rfl hx
  refine l35_sig hR (by omega) (ie (by omega) ?_)
  unfold M_expression_b188
  refine mSign (c := 43) a3 (by decide) ?_
  rw [if_neg (show ¬ tK t m s = 43 by omega)]
  refine it rfl (mSign (c := 45) a3 (by decide) ?_)
  rw [if_neg (show ¬ tK t m s = 45 by omega)]
  refine it rfl (mSign (c := 42) a3 (by decide) ?_)
  rcases hc with h | h
  · rw [if_pos h]
    exact ie (by decide) hb
  · rw [if_neg (show ¬ tK t m s = 42 by omega)]
    refine it rfl (mSign (c := 47) a3 (by decide) ?_)
    rw [if_pos h]
    exact ie (by decide) hb
theorem stepS {t : Nat → Nat} {m n s p dep k : Nat} {I : HI} {J : HJ} {x1 : Int32} {Q : Int32 → HI → HJ → Prop} {E : AC} {P S : List Nat} (hS : MS t m n I J s p E (P ++ S) dep) (ho : opS (tK t m s) ≠ 0) (hP : ∀ o ∈ P, o ≠ 12 ∧ 5 ≤ stg o) (hL : Lowr 5 S) (K : ∀ I' J', MS t m n I' J' (nxt t m s) p (E ++ its P) (opS (tK t m s) :: S) dep → FrP p (dep + 1) I I' → M_operand I' J' 0 (fun I J => M_expression_l35 x1 Q k I J 1)) : M_expression_l35 x1 Q (k + 1) I J 1 := by
  have hb := hS.dr
  obtain ⟨hR, hM, -, -⟩ := hS
  have a3 := hR.2.2.1
  have hc : tK t m s = 43 ∨ tK t m s = 45 := by unfold opS at ho; split at ho; omega; split at ho; omega; omega
  have hb : M_expression_b206 I J x1 1 (fun I' J' x2' => M_expression_l35 x1 Q k I' J' x2') Q := by
    unfold M_expression_b206
    refine mDrops (x := 5) (by decide) hL hM hP (fun I1 f1 hM1 => mSign (c := 43) ((hR.frS f1).2.2.1) (by decide) ?_)
    have hx : M_expression_b228 I1 J x1 1 (nI (opS (tK t m s))) (fun I' J' x2' => M_expression_l35 x1 Q k I' J' x2') Q := by
      unfold M_expression_b228
      have := opS_ok (tK t m s)
      exact mPush (e := dep + 1) (hR.frS f1) hM1 hb.1 hb.2 (by omega) (by omega) (by omega) (fun I2 J2 hS2 f2 => K I2 J2 hS2 (f1.frP.trans f2 (Nat.le_refl _)))
    rcases hc with h | h
    · rw [if_pos h]
      rw [h] at hx
      exact ie (by decide) hx
    · rw [if_neg (show ¬ tK t m s = 43 by omega)]
      rw [h] at hx
      exact it rfl hx
  refine l35_sig hR (by omega) (ie (by omega) ?_)
  unfold M_expression_b188
  refine mSign (c := 43) a3 (by decide) ?_
  rcases hc with h | h
  · rw [if_pos h]
    exact ie (by decide) hb
  · rw [if_neg (show ¬ tK t m s = 43 by omega)]
    refine it rfl (mSign (c := 45) a3 (by decide) ?_)
    rw [if_pos h]
    exact ie (by decide) hb
theorem stepT {t : Nat → Nat} {m n s p dep k : Nat} {I : HI} {J : HJ} {x1 : Int32} {Q : Int32 → HI → HJ → Prop} {E : AC} {P S : List Nat} (hS : MS t m n I J s p E (P ++ S) dep) (ho : opT (tK t m s) ≠ 0) (hz : I 16 dep = 0) (hP : ∀ o ∈ P, o ≠ 12 ∧ 4 ≤ stg o) (hL : Lowr 4 S) (K : ∀ I' J', MS t m n I' J' (nxt t m s) p (E ++ its P) (opT (tK t m s) :: S) dep → FrP p dep I I' → I' 16 dep = 1 → M_operand I' J' 0 (fun I J => M_expression_l35 x1 Q k I J 1)) : M_expression_l35 x1 Q (k + 1) I J 1 := by
  have hb := hS.dr
  obtain ⟨hR, hM, -, -⟩ := hS
  have a3 := hR.2.2.1
  have a7 := hR.2.2.2.2.2.2
  have hc : tK t m s = 60 ∨ tK t m s = 61 := by unfold opT at ho; split at ho; omega; split at ho; omega; omega
  refine l35_sig hR (by omega) (it hc ?_)
  unfold M_expression_b129
  rw [a7.1, nx_nI (by omega)]
  refine ⟨vin (by omega) (by decide), it hz (mDrops (x := 4) (by decide) hL hM hP (fun I1 f1 hM1 => mSign (c := 60) ((hR.frS f1).2.2.1) (by decide) ?_))⟩
  have hx : M_expression_b163 I1 J x1 1 (nI (opT (tK t m s))) (fun I' J' x2' => M_expression_l35 x1 Q k I' J' x2') Q := by
    unfold M_expression_b163
    have := opT_ok (tK t m s)
    rw [narB1]
    exact mPushT (hR.frS f1) hM1 hb.1 hb.2 (by omega) (by omega) (by omega) (fun I2 J2 hS2 f2 h2 => K I2 J2 hS2 (f1.frP.trans f2 (Nat.le_refl _)) h2)
  rcases hc with h | h
  · rw [if_pos h]
    rw [h] at hx
    exact ie (by decide) hx
  · rw [if_neg (show ¬ tK t m s = 60 by omega)]
    rw [h] at hx
    exact it rfl hx
theorem stepA {t : Nat → Nat} {m n s p dep k : Nat} {I : HI} {J : HJ} {x1 : Int32} {Q : Int32 → HI → HJ → Prop} {E : AC} {P S : List Nat} (hS : MS t m n I J s p E (P ++ S) dep) (ho : opA (tK t m s) ≠ 0) (hP : ∀ o ∈ P, o ≠ 12 ∧ 2 ≤ stg o) (hL : Lowr 2 S) (K : ∀ I' J', MS t m n I' J' (nxt t m s) p (E ++ its P) (opA (tK t m s) :: S) dep → FrP p dep I I' → I' 16 dep = 0 → M_operand I' J' 1 (fun I J => M_expression_l35 x1 Q k I J 1)) : M_expression_l35 x1 Q (k + 1) I J 1 := by
  have hb := hS.dr
  obtain ⟨hR, hM, -, -⟩ := hS
  have hR' := hR
  obtain ⟨a1, a2, a3, a4, a5, a6, a7, a8⟩ := hR
  have hc : tK t m s = 152 := by unfold opA at ho; split at ho; omega; omega
  unfold M_expression_l35
  refine ie (by decide) (mGood a4 (ie (by decide) (M_known_k a1.2.1 a2 a3 ?_)))
  rw [hc] at K ⊢
  refine it (by decide) ?_
  unfold M_expression_b61
  refine it (by decide) ?_
  unfold M_expression_b72
  refine mDrops (x := 2) (by decide) hL hM hP (fun I1 f1 hM1 => it (by decide) ?_)
  unfold M_expression_b86
  rw [narB0]
  exact mPushT (o := 4) (hR'.frS f1) hM1 hb.1 hb.2 (by omega) (by omega) (by omega) (fun I2 J2 hS2 f2 h2 => K I2 J2 hS2 (f1.frP.trans f2 (Nat.le_refl _)) h2)
theorem stepO {t : Nat → Nat} {m n s p dep k : Nat} {I : HI} {J : HJ} {x1 : Int32} {Q : Int32 → HI → HJ → Prop} {E : AC} {P S : List Nat} (hS : MS t m n I J s p E (P ++ S) dep) (ho : opO (tK t m s) ≠ 0) (hP : ∀ o ∈ P, o ≠ 12 ∧ 1 ≤ stg o) (hL : Lowr 1 S) (K : ∀ I' J', MS t m n I' J' (nxt t m s) p (E ++ its P) (opO (tK t m s) :: S) dep → FrP p dep I I' → I' 16 dep = 0 → M_operand I' J' 1 (fun I J => M_expression_l35 x1 Q k I J 1)) : M_expression_l35 x1 Q (k + 1) I J 1 := by
  have hb := hS.dr
  obtain ⟨hR, hM, -, -⟩ := hS
  have hR' := hR
  obtain ⟨a1, a2, a3, a4, a5, a6, a7, a8⟩ := hR
  have hc : tK t m s = 153 := by unfold opO at ho; split at ho; omega; omega
  unfold M_expression_l35
  refine ie (by decide) (mGood a4 (ie (by decide) (M_known_k a1.2.1 a2 a3 ?_)))
  rw [hc] at K ⊢
  refine ie (by decide) (it (by decide) ?_)
  unfold M_expression_b61
  refine ie (by decide) ?_
  unfold M_expression_b72
  refine mDrops (x := 1) (by decide) hL hM hP (fun I1 f1 hM1 => ie (by decide) ?_)
  unfold M_expression_b86
  rw [narB0]
  exact mPushT (o := 5) (hR'.frS f1) hM1 hb.1 hb.2 (by omega) (by omega) (by omega) (fun I2 J2 hS2 f2 h2 => K I2 J2 hS2 (f1.frP.trans f2 (Nat.le_refl _)) h2)
