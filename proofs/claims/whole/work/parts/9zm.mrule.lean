/-! rules: the reference reads a rule -/
def WQ0 (t : Nat → Nat) (m n : Nat) (I : HI) (J : HJ) (Q : Int32 → HI → HJ → Prop) (r : Except (Nat × Nat) (Nat × Nat)) : Prop := match r with
  | .error e => ∀ x I', Fr1 I I' → I' 0 17 ≠ 0 → I' 0 17 = nI e.1 → I' 0 18 = nI e.2 → Q x I' J
  | .ok r => ∀ I' J', FrG I I' → MR0 t m n I' J' r.1 → Q (nI r.2) I' J'
theorem mWearer0 {t : Nat → Nat} {m n s : Nat} {I : HI} {J : HJ} {Q : Int32 → HI → HJ → Prop} (h : MR0 t m n I J s) (K : WQ0 t m n I J Q (spWear t m n s)) : M_wearer I J Q := by
  have hh := h
  obtain ⟨a1, a2, a3, a4, a5, a6⟩ := h
  have hE := tE_le t a2
  have hm := a1.2.1
  unfold M_wearer
  refine mGood a4 (ie (by decide) ?_)
  by_cases h1 : tK t m s = 131
  · have h3 := tK_131 h1
    have h24 := a3.2.2.2.2.1 h1
    have hv := tV_le h1
    refine it ((sk2 a3).mpr (Or.inl h1)) (it ?_ ?_)
    · rw [a3.2.2.2.1, show (3 : Int32) = nI 3 from rfl]; exact nI_le h3 (by decide)
    · by_cases h2 : tV t m s < n
      · unfold spWear at K
        rw [if_pos h1, if_pos h2] at K
        refine it (by rw [h24, a5]; exact nI_lt h2 (by omega)) ?_
        unfold M_wearer_b57
        refine mGood a4 (ie (by decide) (hh.go (fun I' J' f hr => ?_)))
        rw [h24]
        exact K I' J' f hr
      · unfold spWear at K
        rw [if_pos h1, if_neg h2] at K
        refine ie (by rw [h24, a5]; exact nI_nlt (by omega) (by omega)) (mWrong (f := 4) a4 a3.2.1 (fun I' f e1 e2 => ?_))
        unfold M_wearer_b57
        have ne := wne e1 (by decide) (by decide)
        exact mBad ne (it rfl (K _ I' f ne e1 e2))
  · unfold spWear at K
    rw [if_neg h1] at K
    by_cases h2 : tK t m s = 132
    · rw [if_pos h2] at K
      have h3 := tK_132 h2
      refine it ((sk2 a3).mpr (Or.inr h2)) (ie ?_ (mWrong (f := 2) a4 a3.2.1 (fun I' f e1 e2 => ?_)))
      · rw [a3.2.2.2.1, show (3 : Int32) = nI 3 from rfl]; exact nI_ge h3 (by omega)
      · unfold M_wearer_b57
        have ne := wne e1 (by decide) (by decide)
        exact mBad ne (it rfl (K _ I' f ne e1 e2))
    · rw [if_neg h2] at K
      refine ie (fun e => ((sk2 a3).mp e).elim h1 h2) (mWrong (f := 1) a4 a3.2.1 (fun I' f e1 e2 => ?_))
      unfold M_wearer_b57
      have ne := wne e1 (by decide) (by decide)
      exact mBad ne (it rfl (K _ I' f ne e1 e2))
theorem mcl_mlE (E : AC) : mcl E = mlE E + 1 := by
  have := mcl_pos E
  unfold mlE
  omega
theorem OU.mco {I : HI} {p : Nat} {E : AC} (h : OU I p E) (h0 : I 14 (p + mlE E) = 0) : mco (I 14) E p := by
  have := h (I 14) (fun _ _ _ => rfl) [] h0
  rw [List.append_nil] at this
  exact this
theorem kmap_is {k : Nat} (hk : k < 256) : (kmap k = 0 ↔ k = 141) ∧ (kmap k = 1 ↔ k = 142) ∧ (kmap k = 2 ↔ k = 143) := by
  have : ∀ k, k < 256 → (kmap k = 0 ↔ k = 141) ∧ (kmap k = 1 ↔ k = 142) ∧ (kmap k = 2 ↔ k = 143) := by decide +kernel
  exact this k hk
def FrU (p k : Nat) (I I' : HI) : Prop := ∀ a i, ¬ (a = 0 ∧ 20 ≤ i ∧ i ≤ 30) → ¬ (a = 14 ∧ p ≤ i) → a ≠ 15 → a ≠ 16 → ¬ ((a = 11 ∨ a = 12 ∨ a = 13) ∧ i = k) → I' a i = I a i
def GMQ (t : Nat → Nat) (m n p k : Nat) (x1 x2 : Int32) (I : HI) (Q : HI → HJ → Prop) (r : Except (Nat × Nat) (Nat × RuT)) : Prop := match r with
  | .error e => ∀ I' J', FrF p I I' → I' 0 17 = nI e.1 → I' 0 18 = nI e.2 → Q I' J'
  | .ok r => ∀ I' J', FrU p k I I' → MR0 t m n I' J' r.1 → I' 0 27 = nI (k + 1) → I' 0 28 = nI (p + mcl r.2.2.2) → p + mcl r.2.2.2 ≤ 2 * r.1 → I' 11 k = x1 → I' 12 k = x2 → I' 13 k = nI p → mco (I' 14) r.2.2.2 p → Q I' J'
theorem mb89_bad {I : HI} {J : HJ} {x1 x2 : Int32} {Q : HI → HJ → Prop} (h : I 0 17 ≠ 0) (K : Q I J) : M_rule_b89 I J x1 x2 Q := by
  unfold M_rule_b89
  exact mBad h (it rfl K)
theorem mb69_bad {I : HI} {J : HJ} {x1 x2 : Int32} {Q : HI → HJ → Prop} (h : I 0 17 ≠ 0) (K : Q I J) : M_rule_b69 I J x1 x2 Q := by
  unfold M_rule_b69
  exact mBad h (it rfl (mb89_bad h K))
theorem mb127_bad {I : HI} {J : HJ} {x1 x2 x3 : Int32} {Q : HI → HJ → Prop} (h : I 0 17 ≠ 0) (K : Q I J) : M_rule_b127 I J x1 x2 x3 Q := by
  unfold M_rule_b127
  exact mBad h (it rfl K)
theorem mGuess {t : Nat → Nat} {m n s p k w : Nat} {P : Option AC} {I : HI} {J : HJ} {x1 x2 : Int32} {Q : HI → HJ → Prop} (h1n : 1 ≤ n) (hR : MR0 t m n I J s) (hp : I 0 28 = nI p) (hp2 : p ≤ 2 * s + 1) (h27 : I 0 27 = nI k) (hk : k < 16) (K : GMQ t m n p k x1 x2 I Q (spGuess t m n s P w)) : M_rule_b69 I J x1 x2 Q := by
  have hR' := hR
  obtain ⟨a1, a2, a3, a4, a5, a6⟩ := hR
  have hkk := kmap_is (tK_ne t m s).2
  unfold M_rule_b69
  refine mGood a4 (ie (by decide) (M_known_k a1.2.1 a2 a3 ?_))
  by_cases e : tK t m s = 143
  · refine it (hkk.2.2.mpr e) ?_
    have hn := nxt_gt t (kd_lt (show tK t m s ≠ 128 by omega))
    have hn2 := nxt_le t a2
    unfold M_rule_b89
    refine mGood a4 (ie (by decide) (hR'.go (fun I1 J1 f1 hR1 => mExpr h1n hR1 ((f1 0 28 (by omega)).trans hp) (by omega) ?_)))
    cases hq : spOr t m n 6 (nxt t m s) with
    | error e1 =>
      have es : spGuess t m n s P w = .error e1 := by unfold spGuess; rw [if_pos e, hq]
      rw [es] at K
      intro I2 J2 f2 g1 g2
      have he := erf_or 6 _ _ hq
      have ne := wne g1 he.1 he.2
      exact mBad ne (it rfl (mb127_bad ne (K I2 J2 ((FrG.frP (p := p) (e := 0) f1).fF.trans f2) g1 g2)))
    | ok r =>
      intro I2 J2 f2 hR2 e28 hO e14 hb
      have a42 := hR2.2.2.2.1
      have hpm := SP_or h1n 6 _ hn2 r hq
      have hm := a1.2.1
      refine mGood a42 (ie (by decide) (mSign (c := 59) hR2.2.2.1 (by decide) ?_))
      by_cases e3 : tK t m r.1 = 59
      · have es : spGuess t m n s P w = .ok (nxt t m r.1, w, P, r.2) := by unfold spGuess; rw [if_pos e, hq]; simp only; rw [if_pos e3]
        rw [es] at K
        rw [if_pos e3]
        have hn3 := nxt_gt t (kd_lt (show tK t m r.1 ≠ 128 by omega))
        refine ie (by decide) ?_
        unfold M_rule_b127
        refine mGood a42 (ie (by decide) (hR2.go (fun I3 J3 f3 hR3 => ?_)))
        have e27 : I3 0 27 = nI k := by rw [f3 0 27 (by omega), f2 0 27 (by omega) (by omega) (by omega) (by omega), f1 0 27 (by omega)]; exact h27
        have hmc := mcl_mlE r.2
        rw [e27, nx_nI (show k < 2 ^ 31 by omega), up2_ne _ _ _ (show (0 : Nat) ≠ 11 by decide), e27, nx_nI (show k < 2 ^ 31 by omega), up2_ne _ _ _ (show (0 : Nat) ≠ 12 by decide), up2_ne _ _ _ (show (0 : Nat) ≠ 11 by decide), e27, nx_nI (show k < 2 ^ 31 by omega), up2_ne _ _ _ (show (0 : Nat) ≠ 13 by decide), up2_ne _ _ _ (show (0 : Nat) ≠ 12 by decide), up2_ne _ _ _ (show (0 : Nat) ≠ 11 by decide), e27, nI_1]
        have g0 : ∀ a i, ¬ (a = 0 ∧ i = 27) → ¬ ((a = 11 ∨ a = 12 ∨ a = 13) ∧ i = k) → (up2 (up2 (up2 (up2 I3 11 k x1) 12 k x2) 13 k (nI p)) 0 27 (nI (k + 1))) a i = I3 a i := fun a i h1 h2 => by
          rw [up2_get, if_neg h1, up2_get, if_neg (by omega), up2_get, if_neg (by omega), up2_get, if_neg (by omega)]
        refine ⟨vin (by omega) (by decide), vin (by omega) (by decide), vin (by omega) (by decide), K _ J3 (fun a i h1 h2 h3 h4 h5 => ?_) ?_ (up2_same _ _ _ _) ?_ ?_ ?_ ?_ ?_ ?_⟩
        · rw [g0 a i (by omega) h5, f3 a i (by omega), f2 a i (by omega) h2 h3 (by omega), f1 a i (by omega)]
        · obtain ⟨b1, b2, b3, b4, b5, b6⟩ := hR3
          exact ⟨⟨(g0 0 19 (by omega) (by omega)).trans b1.1, b1.2.1, fun j hj => ⟨(g0 10 j (by omega) (by omega)).trans (b1.2.2 j hj).1, (b1.2.2 j hj).2⟩⟩, b2, b3.fr (fun i h1 h2 => g0 0 i (by omega) (by omega)), (g0 0 17 (by omega) (by omega)).trans b4, (g0 0 1 (by omega) (by omega)).trans b5, b6⟩
        · dsimp only
          rw [g0 0 28 (by omega) (by omega), f3 0 28 (by omega), e28, hmc]
          rfl
        · dsimp only; omega
        · rw [up2_ne _ _ _ (by decide), up2_ne _ _ _ (by decide), up2_ne _ _ _ (by decide), up2_same]
        · rw [up2_ne _ _ _ (by decide), up2_ne _ _ _ (by decide), up2_same]
        · rw [up2_ne _ _ _ (by decide), up2_same]
        · exact mco_eq (fun j => by rw [g0 14 j (by omega) (by omega), f3 14 j (by omega)]) _ _ (hO.mco e14)
      · have es : spGuess t m n s P w = .error (1, r.1) := by unfold spGuess; rw [if_pos e, hq]; simp only; rw [if_neg e3]
        rw [es] at K
        rw [if_neg e3]
        refine it rfl (mWrong (f := 1) a42 hR2.2.2.1.2.1 (fun I3 f3 g1 g2 => ?_))
        have gg : Fr1 I2 I3 := f3
        exact mb127_bad (wne g1 (by decide) (by decide)) (K I3 J2 ((FrG.frP (p := p) (e := 0) f1).fF.trans (f2.fF.trans gg.frF)) g1 g2)
  · have es : spGuess t m n s P w = .error (1, s) := by unfold spGuess; rw [if_neg e]
    rw [es] at K
    refine ie (fun h => e (hkk.2.2.mp h)) (mWrong (f := 1) a4 a3.2.1 (fun I3 f3 g1 g2 => ?_))
    have gg : Fr1 I I3 := f3
    exact mb89_bad (wne g1 (by decide) (by decide)) (K I3 J gg.frF g1 g2)
/-- one rule in the reference's lists -/
def RL1 (I : HI) (p i : Nat) (r : RuT) : Prop := I 11 i = nI r.1 ∧ (match r.2.1 with
  | none => I 12 i = -1
  | some P => ∃ q, I 12 i = nI q ∧ q + mcl P ≤ p ∧ mco (I 14) P q) ∧ ∃ q, I 13 i = nI q ∧ q + mcl r.2.2 ≤ p ∧ mco (I 14) r.2.2 q
def RMQ (t : Nat → Nat) (m n p k : Nat) (I : HI) (Q : HI → HJ → Prop) (r : Except (Nat × Nat) (Nat × RuT)) : Prop := match r with
  | .error e => ∀ I' J', FrF p I I' → I' 0 17 = nI e.1 → I' 0 18 = nI e.2 → Q I' J'
  | .ok r => ∀ I' J' p', FrU p k I I' → MR0 t m n I' J' r.1 → I' 0 27 = nI (k + 1) → I' 0 28 = nI p' → p ≤ p' → p' ≤ 2 * r.1 → RL1 I' p' k r.2 → Q I' J'
theorem mRule {t : Nat → Nat} {m n s p k : Nat} {I : HI} {J : HJ} {Q : HI → HJ → Prop} (h1n : 1 ≤ n) (hs : s < m) (hR : MR0 t m n I J s) (hp : I 0 28 = nI p) (hp2 : p ≤ 2 * s) (h27 : I 0 27 = nI k) (hk : k < 16) (K : RMQ t m n p k I Q (spRule t m n s)) : M_rule_b26 I J Q := by
  have hR' := hR
  obtain ⟨a1, a2, a3, a4, a5, a6⟩ := hR
  have hn := nxt_gt t hs
  have hn2 := nxt_le t a2
  unfold M_rule_b26
  unfold spRule at K
  refine mGood a4 (ie (by decide) (hR'.go (fun I1 J1 f1 hR1 => mWearer0 hR1 ?_)))
  cases hq : spWear t m n (nxt t m s) with
  | error e =>
    rw [hq] at K
    intro x I2 g2 ne e1 e2
    exact mBad ne (it rfl (mb69_bad ne (K I2 J1 ((FrG.frP (p := p) (e := 0) f1).fF.trans g2.frF) e1 e2)))
  | ok q0 =>
    rw [hq] at K
    simp only at K
    intro I2 J2 f2 hR2
    have hge := spWear_ge hq
    have b4 := hR2.2.2.2.1
    have hkk := kmap_is (tK_ne t m q0.1).2
    have f02 : FrG I I2 := f1.trans f2
    refine mGood b4 (ie (by decide) (M_known_k hR2.1.2.1 hR2.2.1 hR2.2.2.1 ?_))
    by_cases e : tK t m q0.1 = 142
    · rw [if_pos e] at K
      have hn3 := nxt_gt t (kd_lt (show tK t m q0.1 ≠ 128 by omega))
      have hn4 := nxt_le t hR2.2.1
      refine it (hkk.2.1.mpr e) (hR2.go (fun I3 J3 f3 hR3 => mExpr h1n hR3 ((f02.trans f3) 0 28 (by omega) |>.trans hp) (by omega) ?_))
      have f03 : FrG I I3 := f02.trans f3
      cases hq2 : spOr t m n 6 (nxt t m q0.1) with
      | error e1 =>
        rw [hq2] at K
        intro I4 J4 f4 g1 g2
        have he := erf_or 6 _ _ hq2
        have ne := wne g1 he.1 he.2
        exact mb69_bad ne (K I4 J4 ((FrG.frP (p := p) (e := 0) f03).fF.trans f4) g1 g2)
      | ok r =>
        rw [hq2] at K
        simp only at K
        intro I4 J4 f4 hR4 e28 hO e14 hb
        have hmc := mcl_mlE r.2
        have f04 : FrP p 0 I I4 := (FrG.frP (p := p) (e := 0) f03).trans f4 (Nat.le_refl _)
        refine mGuess (P := some r.2) (w := q0.2) (k := k) h1n hR4 e28 (by omega) ((f04 0 27 (by omega) (by omega) (by omega) (by omega)).trans h27) hk ?_
        cases hg : spGuess t m n r.1 (some r.2) q0.2 with
        | error e1 =>
          rw [hg] at K
          intro I5 J5 f5 g1 g2
          exact K I5 J5 (fun a i n1 n2 n3 n4 => (f5 a i n1 (fun x => n2 ⟨x.1, by omega⟩) n3 n4).trans (f04 a i (fun x => n1 ⟨x.1, by omega⟩) n2 n3 (fun x => n4 x.1))) g1 g2
        | ok r2 =>
          have hok := spGuess_ok h1n hR4.2.1 hg
          rw [hg] at K
          intro I5 J5 f5 hR5 e27 e28' hb5 h11 h12 h13 hm5
          refine K I5 J5 _ (fun a i n1 n2 n3 n4 n5 => ?_) hR5 e27 e28' (by omega) hb5 ⟨?_, ?_, _, h13, Nat.le_refl _, hm5⟩
          · rw [f5 a i n1 (fun x => n2 ⟨x.1, by omega⟩) n3 n4 n5, f04 a i (by omega) n2 n3 (by omega)]
          · rw [hok.1]; exact h11
          · rw [hok.2.1]
            exact ⟨p, h12, by omega, mco_in _ _ (fun j h1 h2 => f5 14 j (by omega) (by omega) (by omega) (by omega) (by omega)) (hO.mco e14)⟩
    · rw [if_neg e] at K
      refine ie (fun h => e (hkk.2.1.mp h)) ?_
      refine mGuess (P := none) (w := q0.2) (k := k) (p := p) h1n hR2 ((f02 0 28 (by omega)).trans hp) (by omega) ((f02 0 27 (by omega)).trans h27) hk ?_
      have f04 : FrP p 0 I I2 := FrG.frP (p := p) (e := 0) f02
      cases hg : spGuess t m n q0.1 none q0.2 with
      | error e1 =>
        rw [hg] at K
        intro I5 J5 f5 g1 g2
        exact K I5 J5 (f04.fF.trans f5) g1 g2
      | ok r2 =>
        have hok := spGuess_ok h1n hR2.2.1 hg
        rw [hg] at K
        intro I5 J5 f5 hR5 e27 e28' hb5 h11 h12 h13 hm5
        refine K I5 J5 _ (fun a i n1 n2 n3 n4 n5 => ?_) hR5 e27 e28' (by omega) hb5 ⟨?_, ?_, _, h13, Nat.le_refl _, hm5⟩
        · rw [f5 a i n1 n2 n3 n4 n5, f04 a i (by omega) n2 n3 (by omega)]
        · rw [hok.1]; exact h11
        · rw [hok.2.1]; exact h12
