/-! rules: the reference's parts -/
theorem nI_any (y : Int32) : ∃ x, y = nI x := ⟨y.toBitVec.toNat, by
  apply Int32.toBitVec_inj.mp
  show y.toBitVec = BitVec.ofNat 32 y.toBitVec.toNat
  simp⟩
theorem nxt_ge (t : Nat → Nat) (m s : Nat) : s ≤ nxt t m s := Nat.le_trans (tE_ge t m s) (tS_ge t m _)
theorem ml2 {o x : Nat} (ho : o ≤ 2) : mlE [(o, x)] = 2 := by unfold mlE mcl; rw [if_pos ho]; rfl
theorem ml1 {o x : Nat} (ho : ¬ o ≤ 2) : mlE [(o, x)] = 1 := by unfold mlE mcl; rw [if_neg ho]; rfl
theorem tK_131 {t : Nat → Nat} {m s : Nat} (h : tK t m s = 131) : tE t m s - s ≤ 3 := by
  rcases tK_cases t m s with ⟨-, e, -⟩ | ⟨-, -, -, -, e⟩ | ⟨h1, h2, h3, e2, e1⟩ | ⟨-, -, -, -, h6⟩
  · omega
  · omega
  · by_cases h9 : tE t m s - s ≤ 3
    · exact h9
    · rw [e1, if_neg h9] at h; omega
  · rcases h6 with ⟨-, e, h7, -⟩ | ⟨-, e⟩ <;> omega
theorem tK_132 {t : Nat → Nat} {m s : Nat} (h : tK t m s = 132) : 3 < tE t m s - s := by
  rcases tK_cases t m s with ⟨-, e, -⟩ | ⟨-, -, -, -, e⟩ | ⟨h1, h2, h3, e2, e1⟩ | ⟨-, -, -, -, h6⟩
  · omega
  · omega
  · by_cases h9 : tE t m s - s ≤ 3
    · rw [e1, if_pos h9] at h; omega
    · omega
  · rcases h6 with ⟨-, e, h7, -⟩ | ⟨-, e⟩ <;> omega
theorem skd_le (k : Nat) : skd k ≤ 4 := by
  unfold skd
  repeat' split
  all_goals omega
theorem skd2 (k : Nat) : skd k = 2 ↔ (k = 131 ∨ k = 132) := by
  unfold skd
  repeat' split
  all_goals omega
theorem skd1 (k : Nat) : skd k = 1 ↔ 140 ≤ k := by
  unfold skd
  repeat' split
  all_goals omega
theorem sk2 {t : Nat → Nat} {m s : Nat} {I : HI} {J : HJ} (h : TkM t m s I J) : I 0 21 = 2 ↔ (tK t m s = 131 ∨ tK t m s = 132) := by
  have := skd_le (tK t m s)
  rw [h.2.2.1, show (2 : Int32) = nI 2 from rfl, nI_eq (by omega) (by decide), skd2]
theorem sk1 {t : Nat → Nat} {m s : Nat} {I : HI} {J : HJ} (h : TkM t m s I J) : I 0 21 = 1 ↔ 140 ≤ tK t m s := by
  have := skd_le (tK t m s)
  rw [h.2.2.1, show (1 : Int32) = nI 1 from rfl, nI_eq (by omega) (by decide), skd1]
theorem kmap_v {k : Nat} (h1 : 144 ≤ k) (h2 : k ≤ 150) : kmap k = nI (k - 138) := by
  unfold kmap
  rw [if_neg (by omega), if_neg (by omega), if_neg (by omega), if_neg (by omega), if_neg (by omega), if_neg (by omega), if_pos ⟨h1, h2⟩]
theorem kmap_lo {k : Nat} (h : k < 144 ∨ 150 < k) : ¬ (6 : Int32) ≤ kmap k := by
  unfold kmap
  split
  · decide
  split
  · decide
  split
  · decide
  split
  · decide
  split
  · decide
  split
  · decide
  split
  · omega
  · decide
theorem kmap_s {k : Nat} (h : k < 140) : kmap k = -1 := by
  unfold kmap
  rw [if_neg (by omega), if_neg (by omega), if_neg (by omega), if_neg (by omega), if_neg (by omega), if_neg (by omega), if_neg (by omega)]
theorem six_le {z : Nat} (h : 6 ≤ z) (h2 : z < 2 ^ 31) : (6 : Int32) ≤ nI z := nI_le (a := 6) h h2
def Fr1 (I I' : HI) : Prop := ∀ a i, ¬ (a = 0 ∧ (i = 17 ∨ i = 18)) → I' a i = I a i
def WQ (t : Nat → Nat) (m n dep : Nat) (I : HI) (J : HJ) (Q : Int32 → HI → HJ → Prop) (r : Except (Nat × Nat) (Nat × Nat)) : Prop := match r with
  | .error e => ∀ x I', Fr1 I I' → I' 0 17 ≠ 0 → I' 0 17 = nI e.1 → I' 0 18 = nI e.2 → Q x I' J
  | .ok r => ∀ I' J', FrG I I' → MR t m n I' J' r.1 dep → Q (nI r.2) I' J'
theorem wne {I : HI} {f : Nat} (h : I 0 17 = nI f) (h1 : 1 ≤ f) (h2 : f ≤ 4) : I 0 17 ≠ 0 := by
  rw [h]
  exact nI_ne0 (by omega) (by omega)
theorem mWearer {t : Nat → Nat} {m n s dep : Nat} {I : HI} {J : HJ} {Q : Int32 → HI → HJ → Prop} (h : MR t m n I J s dep) (K : WQ t m n dep I J Q (spWear t m n s)) : M_wearer I J Q := by
  have hh := h
  obtain ⟨a1, a2, a3, a4, a5, a6, a7⟩ := h
  have hE := tE_le t a2
  have hm := a1.2.1
  unfold M_wearer
  refine mGood a4 (ie (by decide) ?_)
  by_cases h1 : tK t m s = 131
  · have h3 := tK_131 h1
    have h24 := a3.2.2.2.2.1 h1
    have hv := tV_le h1
    refine it ((sk2 a3).mpr (Or.inl h1)) (it ?_ ?_)
    · rw [a3.2.2.2.1, show (3 : Int32) = nI 3 from rfl]; exact nI_le h3 (by decide)
    · by_cases h2 : tV t m s < n
      · unfold spWear at K
        rw [if_pos h1, if_pos h2] at K
        refine it (by rw [h24, a5]; exact nI_lt h2 (by omega)) ?_
        unfold M_wearer_b57
        refine mGood a4 (ie (by decide) (hh.go (fun I' J' f hr => ?_)))
        rw [h24]
        exact K I' J' f hr
      · unfold spWear at K
        rw [if_pos h1, if_neg h2] at K
        refine ie (by rw [h24, a5]; exact nI_nlt (by omega) (by omega)) (mWrong (f := 4) a4 a3.2.1 (fun I' f e1 e2 => ?_))
        unfold M_wearer_b57
        have ne := wne e1 (by decide) (by decide)
        exact mBad ne (it rfl (K _ I' f ne e1 e2))
  · unfold spWear at K
    rw [if_neg h1] at K
    by_cases h2 : tK t m s = 132
    · rw [if_pos h2] at K
      have h3 := tK_132 h2
      refine it ((sk2 a3).mpr (Or.inr h2)) (ie ?_ (mWrong (f := 2) a4 a3.2.1 (fun I' f e1 e2 => ?_)))
      · rw [a3.2.2.2.1, show (3 : Int32) = nI 3 from rfl]; exact nI_ge h3 (by omega)
      · unfold M_wearer_b57
        have ne := wne e1 (by decide) (by decide)
        exact mBad ne (it rfl (K _ I' f ne e1 e2))
    · rw [if_neg h2] at K
      refine ie (fun e => ((sk2 a3).mp e).elim h1 h2) (mWrong (f := 1) a4 a3.2.1 (fun I' f e1 e2 => ?_))
      unfold M_wearer_b57
      have ne := wne e1 (by decide) (by decide)
      exact mBad ne (it rfl (K _ I' f ne e1 e2))
def PtQ (t : Nat → Nat) (m n p dep : Nat) (I : HI) (E : AC) (S : List Nat) (Q : HI → HJ → Prop) (r : Rs) : Prop := match r with
  | .error e => ∀ I' J' E', FrF p I I' → I' 0 17 ≠ 0 → I' 0 17 = nI e.1 → I' 0 18 = nI e.2 → MM I' p E' S → Q I' J'
  | .ok r => ∀ I' J', MS t m n I' J' r.1 p (E ++ r.2) S dep → FrP p (dep + 1) I I' → Q I' J'
theorem Fr1.frF {p : Nat} {I I' : HI} (h : Fr1 I I') : FrF p I I' := fun a i n1 _ _ _ => h a i (fun x => n1 ⟨x.1, by omega⟩)
theorem FrP.fF {p e : Nat} {I I' : HI} (h : FrP p e I I') : FrF p I I' := fun a i n1 n2 n3 n4 => h a i (fun x => n1 ⟨x.1, by omega⟩) n2 n3 (fun x => n4 x.1)
theorem FrF.trans {p : Nat} {I I1 I2 : HI} (h : FrF p I I1) (h2 : FrF p I1 I2) : FrF p I I2 := fun a i n1 n2 n3 n4 => (h2 a i n1 n2 n3 n4).trans (h a i n1 n2 n3 n4)
theorem MM.fr1 {I I' : HI} {p : Nat} {E : AC} {S : List Nat} (h : MM I p E S) (f : Fr1 I I') : MM I' p E S := h.frW (fun a i n _ => f a i (by omega))
theorem spWear_ge {t : Nat → Nat} {m n s : Nat} {r : Nat × Nat} (h : spWear t m n s = .ok r) : s ≤ r.1 := by
  unfold spWear at h
  split at h
  · split at h
    · simp only [Except.ok.injEq] at h
      subst h
      exact nxt_ge t m s
    · exact absurd h (by simp)
  · exact absurd h (by simp)
theorem mPart {t : Nat → Nat} {m n s p dep : Nat} {E : AC} {S : List Nat} {I : HI} {J : HJ} {Q : HI → HJ → Prop} {ro : Nat → Rs} (h : MS t m n I J s p E S dep) (hk : tK t m s ≠ 40) (K : PtQ t m n p dep I E S Q (spPart t m n ro s)) : M_part I J Q := by
  obtain ⟨hR, hM, hB, hC⟩ := h
  have hh := hR
  obtain ⟨a1, a2, a3, a4, a5, a6, a7⟩ := hR
  have hE := tE_le t a2
  have hm := a1.2.1
  unfold spPart at K
  rw [if_neg hk] at K
  unfold M_part
  refine mGood a4 (ie (by decide) ?_)
  by_cases h1 : tK t m s = 131
  · rw [if_pos h1] at K
    have h3 := tK_131 h1
    have h24 := a3.2.2.2.2.1 h1
    have hn := nxt_gt t (kd_lt (show tK t m s ≠ 128 by omega))
    refine it ((sk2 a3).mpr (Or.inl h1)) (it ?_ ?_)
    · rw [a3.2.2.2.1, show (3 : Int32) = nI 3 from rfl]; exact nI_le h3 (by decide)
    · unfold M_part_b29
      refine mPuts2 (o := 1) (x := tV t m s) (y := fun I => I 0 24) hM (by omega) (by decide) (fun I' f => (f 0 24 (by omega) (by omega) (by omega)).trans h24) (fun I1 f1 hM1 => ?_)
      refine mGood ((f1 0 17 (by omega) (by omega) (by omega)).trans a4) (ie (by decide) ((hh.frS f1).go (fun I2 J2 f2 hR2 => K I2 J2 ⟨hR2, hM1.fr f2, ?_, ?_⟩ (f1.frP.trans f2.frP (Nat.le_refl _)))))
      · rw [ml_app, ml2 (by decide)]; simp only; omega
      · simp only; omega
  · rw [if_neg h1] at K
    by_cases h2 : tK t m s = 132
    · rw [if_pos h2] at K
      have h3 := tK_132 h2
      refine it ((sk2 a3).mpr (Or.inr h2)) (ie ?_ (mWrong (f := 2) a4 a3.2.1 (fun I1 f1 e1 e2 => ?_)))
      · rw [a3.2.2.2.1, show (3 : Int32) = nI 3 from rfl]; exact nI_ge h3 (by omega)
      · unfold M_part_b29
        obtain ⟨x, hx⟩ := nI_any (I1 0 24)
        have g1 : Fr1 I I1 := f1
        refine mPuts2 (o := 1) (x := x) (y := fun I => I 0 24) (hM.fr1 g1) (by omega) (by decide) (fun I' f => (f 0 24 (by omega) (by omega) (by omega)).trans hx) (fun I2 f2 hM2 => ?_)
        have e3 := (f2 0 17 (by omega) (by omega) (by omega)).trans e1
        have e4 := (f2 0 18 (by omega) (by omega) (by omega)).trans e2
        have ne := wne e3 (by decide) (by decide)
        exact mBad ne (it rfl (K I2 J _ (g1.frF.trans (FrS.frP (e := 0) f2).fF) ne e3 e4 hM2))
    · rw [if_neg h2] at K
      refine ie (fun e => ((sk2 a3).mp e).elim h1 h2) (M_known_k hm a2 a3 ?_)
      by_cases h3 : 140 ≤ tK t m s
      · refine it ((sk1 a3).mpr h3) ?_
        by_cases h4 : tK t m s < 144 ∨ 150 < tK t m s
        · rw [if_pos h4, if_pos h3] at K
          refine ie (kmap_lo h4) (mWrong (f := 3) a4 a3.2.1 (fun I1 f1 e1 e2 => ?_))
          unfold M_part_b86
          have g1 : Fr1 I I1 := f1
          have ne := wne e1 (by decide) (by decide)
          exact mBad ne (it rfl (K I1 J _ g1.frF ne e1 e2 (hM.fr1 g1)))
        · rw [if_neg h4] at K
          rw [kmap_v (by omega) (by omega)]
          generalize hz : tK t m s - 138 = z at K ⊢
          have hn := nxt_gt t (kd_lt (show tK t m s ≠ 128 by omega))
          refine it (six_le (by omega) (by omega)) ?_
          unfold M_part_b86
          refine mGood a4 (ie (by decide) (hh.go (fun I1 J1 f1 hR1 => ?_)))
          by_cases h5 : tK t m s = 147 ∨ tK t m s = 148
          · rw [if_pos h5] at K
            have hw : M_wearer I1 J1 (fun r I2 J2 => M_part_b118 I2 J2 (nI z) r Q) := by
              refine mWearer hR1 ?_
              cases hq : spWear t m n (nxt t m s) with
              | error e =>
                rw [hq] at K
                intro x I2 g2 ne e1 e2
                obtain ⟨y, hy⟩ := nI_any (16 * x + nI z)
                refine mPuts2 (o := 2) (x := y) (y := fun _ => 16 * x + nI z) ((hM.fr f1).fr1 g2) (by omega) (by decide) (fun I' f => hy) (fun I3 f3 hM3 => ?_)
                have e3 := (f3 0 17 (by omega) (by omega) (by omega)).trans e1
                have e4 := (f3 0 18 (by omega) (by omega) (by omega)).trans e2
                exact K I3 J1 _ ((FrG.frP (p := p) (e := 0) f1).fF.trans (g2.frF.trans (FrS.frP (e := 0) f3).fF)) (by rw [f3 0 17 (by omega) (by omega) (by omega)]; exact ne) e3 e4 hM3
              | ok r =>
                rw [hq] at K
                intro I2 J2 f2 hR2
                have hge := spWear_ge hq
                refine mPuts2 (o := 2) (x := 16 * r.2 + z) (y := fun _ => 16 * nI r.2 + nI z) ((hM.fr f1).fr f2) (by omega) (by decide) (fun I' f => by rw [show (16 : Int32) = nI 16 from rfl, nM, nI_add]) (fun I3 f3 hM3 => K I3 J2 ⟨hR2.frS f3, hM3, ?_, ?_⟩ (f1.frP.trans (f2.frP.trans f3.frP (Nat.le_refl _)) (Nat.le_refl _)))
                · rw [ml_app, ml2 (by decide)]; simp only; omega
                · simp only; omega
            refine ic (fun _ => hw) (fun h9 => it ?_ hw)
            rcases h5 with h5 | h5
            · exact absurd (show nI z = 9 by rw [show z = 9 by omega]; rfl) h9
            · rw [show z = 10 by omega]; rfl
          · rw [if_neg h5] at K
            refine ie (fun e => h5 (Or.inl ?_)) (ie (fun e => h5 (Or.inr ?_)) ?_)
            · have := (nI_eq (by omega) (by decide)).mp (show nI z = nI 9 from e); omega
            · have := (nI_eq (by omega) (by decide)).mp (show nI z = nI 10 from e); omega
            · refine mPuts2 (o := 2) (x := z) (y := fun _ => 16 * 0 + nI z) (hM.fr f1) (by omega) (by decide) (fun I' f => by rw [show (16 * 0 : Int32) = nI 0 from rfl, nI_add, Nat.zero_add]) (fun I3 f3 hM3 => K I3 J1 ⟨hR1.frS f3, hM3, ?_, ?_⟩ (f1.frP.trans f3.frP (Nat.le_refl _)))
              · rw [ml_app, ml2 (by decide)]; simp only; omega
              · simp only; omega
      · refine ie (fun e => h3 ((sk1 a3).mp e)) (mWrong (f := 1) a4 a3.2.1 (fun I1 f1 e1 e2 => ?_))
        rw [if_pos (show tK t m s < 144 ∨ 150 < tK t m s by omega), if_neg h3] at K
        unfold M_part_b86
        have g1 : Fr1 I I1 := f1
        have ne := wne e1 (by decide) (by decide)
        exact mBad ne (it rfl (K I1 J _ g1.frF ne e1 e2 (hM.fr1 g1)))
