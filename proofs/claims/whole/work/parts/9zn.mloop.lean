/-! rules: the reference reads all rules, and copies them -/
def RLs (I : HI) (p : Nat) : Nat → List RuT → Prop
  | _, [] => True
  | i, r :: l => RL1 I p i r ∧ RLs I p (i + 1) l
theorem RL1.fr {I I' : HI} {p p' i : Nat} {r : RuT} (h : RL1 I p i r) (f : ∀ a, 11 ≤ a → a ≤ 13 → I' a i = I a i) (f2 : ∀ j, j < p → I' 14 j = I 14 j) (hp : p ≤ p') : RL1 I' p' i r := by
  obtain ⟨h1, h2, q, h3, h4, h5⟩ := h
  refine ⟨(f 11 (by omega) (by omega)).trans h1, ?_, q, (f 13 (by omega) (by omega)).trans h3, by omega, mco_in _ _ (fun k a b => f2 k (by omega)) h5⟩
  cases hc : r.2.1 with
  | none =>
    rw [hc] at h2
    exact (f 12 (by omega) (by omega)).trans h2
  | some P =>
    rw [hc] at h2
    obtain ⟨q2, g1, g2, g3⟩ := h2
    exact ⟨q2, (f 12 (by omega) (by omega)).trans g1, by omega, mco_in _ _ (fun k a b => f2 k (by omega)) g3⟩
theorem RLs.fr {I I' : HI} {p p' : Nat} : ∀ {l : List RuT} {i : Nat}, RLs I p i l → (∀ a j, 11 ≤ a → a ≤ 13 → i ≤ j → j < i + l.length → I' a j = I a j) → (∀ j, j < p → I' 14 j = I 14 j) → p ≤ p' → RLs I' p' i l
  | [], _, _, _, _, _ => trivial
  | r :: l, i, h, f, f2, hp => ⟨h.1.fr (fun a h1 h2 => f a i h1 h2 (Nat.le_refl _) (by simp)) f2 hp, h.2.fr (fun a j h1 h2 h3 h4 => f a j h1 h2 (by omega) (by simp only [List.length_cons]; omega)) f2 hp⟩
theorem RLs.snoc {I : HI} {p : Nat} {r : RuT} : ∀ {l : List RuT} {i : Nat}, RLs I p i l → RL1 I p (i + l.length) r → RLs I p i (l ++ [r])
  | [], i, _, h => ⟨h, trivial⟩
  | x :: l, i, h, h2 => ⟨h.1, h.2.snoc (by rw [show i + 1 + l.length = i + (x :: l).length by simp only [List.length_cons]; omega]; exact h2)⟩
def FrV (I I' : HI) : Prop := ∀ a i, ¬ (a = 0 ∧ 17 ≤ i ∧ i ≤ 30) → ¬ (11 ≤ a ∧ a ≤ 16) → I' a i = I a i
def LMQ (I0 : HI) (rs : List RuT) (Q : Int32 → HI → HJ → Prop) (r : Except (Nat × Nat) (List RuT)) : Prop := match r with
  | .error e => ∀ I' J', FrV I0 I' → I' 0 17 = nI e.1 → I' 0 18 = nI e.2 → Q (nI e.1) I' J'
  | .ok l => ∀ I' J' p', FrV I0 I' → I' 0 17 = 0 → I' 0 18 = I0 0 18 → I' 0 27 = nI (rs ++ l).length → (rs ++ l).length ≤ 16 → p' ≤ 1000 → RLs I' p' 0 (rs ++ l) → ∃ nn, M_rules_l106 J' Q nn I' 0
theorem mb12_bad {I : HI} {J : HJ} {Q : HI → HJ → Prop} (h : I 0 17 ≠ 0) (K : Q I J) : M_rule_b12 I J Q := by
  have hb : M_rule_b26 I J Q := by
    unfold M_rule_b26
    exact mBad h (it rfl K)
  unfold M_rule_b12
  refine ic (fun _ => ?_) (fun _ => hb)
  unfold M_wrong
  exact ie h hb
theorem sk0 {t : Nat → Nat} {m s : Nat} {I : HI} {J : HJ} (h : TkM t m s I J) : I 0 21 = 0 ↔ tK t m s = 128 := by
  have := skd_le (tK t m s)
  rw [h.2.2.1, show (0 : Int32) = nI 0 from rfl, nI_eq (by omega) (by decide)]
  unfold skd
  repeat' split
  all_goals omega
theorem l71_bad {Q : Int32 → HI → HJ → Prop} {I : HI} {J : HJ} {d : Nat} (h : I 0 17 ≠ 0) (K : Q (I 0 17) I J) : M_rules_l71 Q (d + 1) I J := by
  unfold M_rules_l71
  refine mBad h (it rfl ?_)
  unfold M_rules_b92
  exact mBad h (it rfl K)
theorem m_l71 {t : Nat → Nat} {m n : Nat} {I0 : HI} {Q : Int32 → HI → HJ → Prop} (h1n : 1 ≤ n) : ∀ d k s p rs I J, k + d = 16 → rs.length = k → MR0 t m n I J s → I 0 27 = nI k → I 0 28 = nI p → p ≤ 2 * s → RLs I p 0 rs → FrV I0 I → I 0 18 = I0 0 18 → LMQ I0 rs Q (spRules t m n d s) → M_rules_l71 Q (d + 2) I J := by
  have hend : ∀ d k s p rs I J, k ≤ 16 → rs.length = k → MR0 t m n I J s → I 0 27 = nI k → p ≤ 2 * s → RLs I p 0 rs → FrV I0 I → I 0 18 = I0 0 18 → tK t m s = 128 → LMQ I0 rs Q (.ok []) → M_rules_l71 Q (d + 1) I J := by
    intro d k s p rs I J hk hl hR h27 hp2 hL hf h18 e K
    obtain ⟨a1, a2, a3, a4, a5, a6⟩ := hR
    have hm := a1.2.1
    unfold M_rules_l71
    refine mGood a4 (ie (by decide) (it ((sk0 a3).mpr e) ?_))
    unfold M_rules_b92
    refine mGood a4 (ie (by decide) (K I J p hf a4 h18 ?_ ?_ (by omega) ?_))
    · rw [List.append_nil, hl]; exact h27
    · rw [List.append_nil, hl]; exact hk
    · rw [List.append_nil]; exact hL
  have hfr : ∀ p I I', FrV I0 I → FrF p I I' → FrV I0 I' := fun p I I' h g a i n1 n2 => (g a i (by omega) (by omega) (by omega) (by omega)).trans (h a i n1 n2)
  intro d
  induction d with
  | zero =>
    intro k s p rs I J hk hl hR h27 h28 hp2 hL hf h18 K
    unfold spRules at K
    by_cases e : tK t m s = 128
    · rw [if_pos e] at K
      exact hend 1 k s p rs I J (by omega) hl hR h27 hp2 hL hf h18 e K
    · rw [if_neg e] at K
      obtain ⟨a1, a2, a3, a4, a5, a6⟩ := hR
      have hkk := kmap_is (tK_ne t m s).2
      unfold M_rules_l71
      refine mGood a4 (ie (by decide) (ie (fun h => e ((sk0 a3).mp h)) ?_))
      unfold M_rule
      refine M_known_k a1.2.1 a2 a3 ?_
      by_cases e2 : tK t m s = 141
      · rw [if_pos e2] at K
        refine it (hkk.1.mpr e2) ?_
        unfold M_rule_b12
        refine it (by rw [h27, show k = 16 by omega]; rfl) (mWrong (f := 2) a4 a3.2.1 (fun I1 f1 e1 e3 => ?_))
        have g1 : Fr1 I I1 := f1
        have ne := wne e1 (by decide) (by decide)
        unfold M_rule_b26
        refine mBad ne (it rfl (l71_bad ne ?_))
        rw [e1]
        exact K I1 J (hfr 0 I I1 hf g1.frF) e1 e3
      · rw [if_neg e2] at K
        refine ie (fun h => e2 (hkk.1.mp h)) (mWrong (f := 1) a4 a3.2.1 (fun I1 f1 e1 e3 => ?_))
        have g1 : Fr1 I I1 := f1
        have ne := wne e1 (by decide) (by decide)
        refine mb12_bad ne (l71_bad ne ?_)
        rw [e1]
        exact K I1 J (hfr 0 I I1 hf g1.frF) e1 e3
  | succ d ih =>
    intro k s p rs I J hk hl hR h27 h28 hp2 hL hf h18 K
    unfold spRules at K
    by_cases e : tK t m s = 128
    · rw [if_pos e] at K
      exact hend (d + 2) k s p rs I J (by omega) hl hR h27 hp2 hL hf h18 e K
    · rw [if_neg e] at K
      have hR' := hR
      obtain ⟨a1, a2, a3, a4, a5, a6⟩ := hR
      have hkk := kmap_is (tK_ne t m s).2
      have hsm := kd_lt e
      show M_rules_l71 Q (d + 2 + 1) I J
      unfold M_rules_l71
      refine mGood a4 (ie (by decide) (ie (fun h => e ((sk0 a3).mp h)) ?_))
      unfold M_rule
      refine M_known_k a1.2.1 a2 a3 ?_
      by_cases e2 : tK t m s = 141
      · rw [if_pos e2] at K
        refine it (hkk.1.mpr e2) ?_
        unfold M_rule_b12
        refine ie (fun h => ?_) (mRule h1n hsm hR' h28 hp2 h27 (by omega) ?_)
        · rw [h27] at h
          have := (nI_eq (by omega) (by decide)).mp (show nI k = nI 16 from h)
          omega
        · cases hq : spRule t m n s with
          | error e1 =>
            rw [hq] at K
            intro I1 J1 f1 g1 g2
            have he := erf_rule hq
            have ne := wne g1 he.1 he.2
            refine l71_bad ne ?_
            rw [g1]
            exact K I1 J1 (hfr p I I1 hf f1) g1 g2
          | ok r =>
            rw [hq] at K
            simp only at K
            intro I1 J1 p' f1 hR1 e27 e28 hpp hp3 h1
            refine ih (k + 1) r.1 p' (rs ++ [r.2]) I1 J1 (by omega) (by rw [List.length_append, hl]; rfl) hR1 e27 e28 hp3 ?_ (fun a i n1 n2 => (f1 a i (by omega) (by omega) (by omega) (by omega) (by omega)).trans (hf a i n1 n2)) ((f1 0 18 (by omega) (by omega) (by omega) (by omega) (by omega)).trans h18) ?_
            · refine (hL.fr (fun a j h1 h2 h3 h4 => f1 a j (by omega) (by omega) (by omega) (by omega) (by omega)) (fun j hj => f1 14 j (by omega) (by omega) (by omega) (by omega) (by omega)) hpp).snoc ?_
              rw [hl, Nat.zero_add]
              exact h1
            · cases hq2 : spRules t m n d r.1 with
              | error e1 => rw [hq2] at K; exact K
              | ok l =>
                rw [hq2] at K
                intro I2 J2 p2 g1 g2 g3 g4 g5 g6 g7
                rw [List.append_assoc, List.singleton_append] at g4 g5 g7
                exact K I2 J2 p2 g1 g2 g3 g4 g5 g6 g7
      · rw [if_neg e2] at K
        refine ie (fun h => e2 (hkk.1.mp h)) (mWrong (f := 1) a4 a3.2.1 (fun I1 f1 e1 e3 => ?_))
        have g1 : Fr1 I I1 := f1
        have ne := wne e1 (by decide) (by decide)
        refine mb12_bad ne (l71_bad ne ?_)
        rw [e1]
        exact K I1 J (hfr 0 I I1 hf g1.frF) e1 e3
def COK (E : AC) : Prop := ∀ y ∈ E, 1 ≤ y.1 ∧ y.1 ≤ 11
theorem cok_COK {n : Nat} : ∀ (E : AC) (d : Nat), cok n E d → COK E
  | [], _, _ => fun y h => absurd h List.not_mem_nil
  | (o, x) :: r, d, h => by
    unfold cok at h
    intro y hy
    rcases List.mem_cons.mp hy with e | e
    · subst e
      dsimp only
      omega
    · rcases h with ⟨_, h⟩ | ⟨_, _, h⟩ | ⟨_, _, _, h⟩
      · exact cok_COK r _ h y e
      · exact cok_COK r _ h y e
      · exact cok_COK r _ h y e
theorem copies_k {w : Nat} {Q : Int32 → HI → Prop} (hw : w < 8) : ∀ (E : AC) (q to : Nat) (I : HI), mco (I 14) E q → q + mcl E ≤ 1600 → to + mcl E ≤ 1000 → COK E → (∀ I', (∀ a i, ¬ (a = 6 ∧ 1000 * w + to ≤ i ∧ i < 1000 * w + to + mcl E) → I' a i = I a i) → mco (I' 6) E (1000 * w + to) → Q (nI (to + mcl E)) I') → M_copies_l6 (nI w) Q (E.length + 1) I (nI q) (nI to) := by
  intro E
  induction E with
  | nil =>
    intro q to I h h1 h2 hc K
    have h0 : I 14 q = 0 := h
    simp only [mcl] at h1 h2 K
    unfold M_copies_l6
    rw [nx_nI (by omega), h0, show (1000 : Int32) = nI 1000 from rfl, nM, nI_add, nx_nI (by omega), nI_1]
    refine ⟨vin (by omega) (by decide), it rfl ⟨vin (by omega) (by decide), K _ (fun a i n1 => ?_) ?_⟩⟩
    · rw [up2_get, if_neg (by omega)]
    · show (up2 I 6 (1000 * w + to) 0) 6 (1000 * w + to) = 0
      exact up2_same _ _ _ _
  | cons y r ih =>
    obtain ⟨o, x⟩ := y
    intro q to I h h1 h2 hc K
    have ho := hc (o, x) List.mem_cons_self
    have hc2 : COK r := fun y hy => hc y (List.mem_cons_of_mem _ hy)
    have hpos := mcl_pos r
    simp only at ho
    unfold mco at h
    have h0 := h.1
    have hr := h.2
    simp only [mcl] at h1 h2 K
    show M_copies_l6 (nI w) Q (r.length + 1 + 1) I (nI q) (nI to)
    unfold M_copies_l6
    rw [nx_nI (show q < 2 ^ 31 by split at h1 <;> omega), h0, show (1000 : Int32) = nI 1000 from rfl, nM, nI_add, nx_nI (show 1000 * w + to < 2 ^ 31 by split at h2 <;> omega), up2_ne _ _ _ (show (14 : Nat) ≠ 6 by decide), h0]
    have v1 : vp_in (nI q) 1600 := vin (by split at h1 <;> omega) (by decide)
    have v2 : vp_in (nI (1000 * w + to)) 8000 := vin (by split at h2 <;> omega) (by decide)
    refine ⟨v1, ie (nI_ne0 (by omega) (by omega)) ⟨v1, v2, v1, ?_⟩⟩
    by_cases h12 : o ≤ 2
    · rw [if_pos h12] at h1 h2 hr K
      have hb : M_copies_b63 (up2 I 6 (1000 * w + to) (nI o)) (nI w) (nI q) (nI to) 1 (fun I' x4' x5' => M_copies_l6 (nI w) Q (r.length + 1) I' x4' x5') Q := by
        unfold M_copies_b63
        refine ie (by decide) ?_
        rw [nI_1, nI_1, nI_1, nI_1, show (1000 : Int32) = nI 1000 from rfl, nM, nI_add, nx_nI (by omega), nx_nI (by omega), up2_ne _ _ _ (show (14 : Nat) ≠ 6 by decide), hr.1]
        refine ⟨vin (by omega) (by decide), vin (by omega) (by decide), ?_⟩
        refine ih (q + 1 + 1) (to + 1 + 1) _ ?_ (by omega) (by omega) hc2 (fun I' f hm => ?_)
        · exact mco_eq (fun k => by rw [up2_ne _ _ _ (by decide), up2_ne _ _ _ (by decide)]) _ _ hr.2
        · rw [show to + 1 + 1 + mcl r = to + (2 + mcl r) by omega]
          refine K I' (fun a i n1 => ?_) ?_
          · rw [f a i (by omega), up2_get, if_neg (by omega), up2_get, if_neg (by omega)]
          · unfold mco
            rw [if_pos h12, f 6 _ (by omega), f 6 _ (by omega), show 1000 * w + to + 1 = 1000 * w + (to + 1) by omega]
            refine ⟨?_, up2_same _ _ _ _, hm⟩
            rw [up2_idx _ _ _ (by omega), up2_same]
      by_cases e1 : o = 1
      · exact it (by rw [e1]; rfl) hb
      · refine ie (fun e => e1 ((nI_eq (by omega) (by decide)).mp (show nI o = nI 1 from e))) ⟨v1, it (by rw [show o = 2 by omega]; rfl) hb⟩
    · rw [if_neg h12] at h1 h2 hr K
      refine ie (fun e => h12 (by have := (nI_eq (by omega) (by decide)).mp (show nI o = nI 1 from e); omega)) ⟨v1, ie (fun e => h12 (by have := (nI_eq (by omega) (by decide)).mp (show nI o = nI 2 from e); omega)) ?_⟩
      unfold M_copies_b63
      refine it rfl ?_
      rw [nI_1, nI_1]
      refine ih (q + 1) (to + 1) _ ?_ (by omega) (by omega) hc2 (fun I' f hm => ?_)
      · exact mco_eq (fun k => by rw [up2_ne _ _ _ (by decide)]) _ _ hr
      · rw [show to + 1 + mcl r = to + (1 + mcl r) by omega]
        refine K I' (fun a i n1 => ?_) ?_
        · rw [f a i (by omega), up2_get, if_neg (by omega)]
        · unfold mco
          rw [if_neg h12, f 6 _ (by omega)]
          exact ⟨up2_same _ _ _ _, hm⟩
