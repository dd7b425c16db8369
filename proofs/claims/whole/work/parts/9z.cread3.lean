/-! rules: the class's tests, nots, parts, expressions -/
theorem cTest {t : Nat → Nat} {m n : Nat} {RO : HI → Int32 → (Int32 → HI → Prop) → Prop} {x1 : Int32} {sub : Nat → Rs} (hX : CX t m n (fun I Q => Rd_readSum RO I x1 Q) sub) (hS : SP m n sub) : CX t m n (fun I Q => Rd_readTest RO I x1 Q) (spTest t m sub) := by
  intro s I c Q hC K
  show Rd_readTest RO I x1 Q
  unfold Rd_readTest
  refine hX s I c _ hC ?_
  unfold spTest at K
  cases hq : sub s with
  | error e =>
    rw [hq] at K
    intro x I' g e8 e0 e1
    refine ie (by rw [e8]; decide) (ie (by rw [e8]; decide) (K _ I' g e8 e0 e1))
  | ok p =>
    rw [hq] at K
    obtain ⟨a1, a2, a3, a4⟩ := hS _ hC.2.1 p hq
    intro I2 f2 hC2 hE2
    have hk := tK_ne t m p.1
    have e8 := hC2.2.2.2.2.1
    simp only at K
    rcases oT (tK t m p.1) with h0 | ⟨h1, h2, h3, h4, h5⟩
    · rw [if_pos h0] at K
      have n1 : tK t m p.1 ≠ 60 := fun h => by rw [h] at h0; exact absurd h0 (by decide)
      have n2 : tK t m p.1 ≠ 61 := fun h => by rw [h] at h0; exact absurd h0 (by decide)
      exact ie (fun h => n1 ((nk hk.2 e8 (by decide)).mp h)) (ie (fun h => n2 ((nk hk.2 e8 (by decide)).mp h)) (K I2 f2 hC2 hE2))
    · rw [if_neg (by omega)] at K
      have hsm := kd_lt h3
      have hn := nxt_gt t hsm
      have hn2 := nxt_le t a2
      have hcs := hC2.2.2.2.2.2.2.2.2.2
      have hb : Rd_readTest_b24 RO I2 x1 (nI (c + p.2.length - 1)) Q := by
        unfold Rd_readTest_b24
        refine cNext hC2 (fun I3 f3 hC3 => hX _ I3 _ _ hC3 ?_)
        cases hq2 : sub (nxt t m p.1) with
        | error e =>
          rw [hq2] at K
          intro x I' g e8' e0 e1
          exact zAdd e8' (K _ I' ((f2.trans f3 (by omega)).frR g) e8' e0 e1)
        | ok p2 =>
          rw [hq2] at K
          obtain ⟨b1, b2, b3, b4⟩ := hS _ hn2 p2 hq2
          intro I4 f4 hC4 hE4
          refine cAdd hC4 (by omega) (fun I5 f5 hC5 i1 i2 i3 => ?_)
          have f6 : FrK (c + p.2.length) I2 I5 := (f3.trans f4 (by omega)).trans f5 (by omega)
          have eL : (p.2 ++ p2.2 ++ [(opT (tK t m p.1), 0)]).length = p.2.length + p2.2.length + 1 := by simp only [List.length_append, List.length_cons, List.length_nil]
          have := K I5 (f2.trans f6 (by omega)) (by simp only [eL]; rw [show c + (p.2.length + p2.2.length + 1) = c + p.2.length + p2.2.length + 1 by omega]; exact hC5) (CE.two a3 (hE2.fr f6 (by omega)) (hE4.fr f5 (by omega)) h1 (by rw [i1, h5, e8]) i2 i3)
          simp only [eL] at this
          rw [show c + (p.2.length + p2.2.length + 1) - 1 = c + p.2.length + p2.2.length by omega] at this
          exact this
      refine ic (fun _ => hb) (fun q1 => ic (fun _ => hb) (fun q2 => absurd ?_ (show ¬ opT (tK t m p.1) = 0 by omega)))
      unfold opT
      rw [if_neg (fun h => q1 ((nk hk.2 e8 (by decide)).mpr h)), if_neg (fun h => q2 ((nk hk.2 e8 (by decide)).mpr h))]
theorem zTest {RO : HI → Int32 → (Int32 → HI → Prop) → Prop} {x1 : Int32} (hX : CZ (fun I Q => Rd_readSum RO I x1 Q)) : CZ (fun I Q => Rd_readTest RO I x1 Q) := by
  intro I Q h K
  show Rd_readTest RO I x1 Q
  unfold Rd_readTest
  exact hX I _ h (fun x => ie (by rw [h]; decide) (ie (by rw [h]; decide) (K x)))
def nots : Nat → AC
  | 0 => []
  | j + 1 => nots j ++ [(3, 0)]
theorem nots_len : ∀ j, (nots j).length = j
  | 0 => rfl
  | j + 1 => by simp only [nots, List.length_append, List.length_cons, List.length_nil, nots_len j]
/-- the nots are put behind what they stand before -/
theorem not_l57 {t : Nat → Nat} {m n : Nat} {RO : HI → Int32 → (Int32 → HI → Prop) → Prop} {Q : Int32 → HI → Prop} {s c : Nat} {I0 : HI} (N : Nat) (hN : N ≤ 6) : ∀ (d j : Nat) (E : AC) (I : HI), j + d = N → FrK c I0 I → CS t m n I s (c + E.length) → CE I E c → 1 ≤ E.length → c + E.length + d ≤ s → (∀ I', FrK c I0 I' → CS t m n I' s (c + (E ++ nots d).length) → CE I' (E ++ nots d) c → Q (nI (c + (E ++ nots d).length - 1)) I') → Rd_readNot_l57 RO (nI N) Q (d + 1) I (nI (c + E.length - 1)) (nI j) := by
  intro d
  induction d with
  | zero =>
    intro j E I hj f hC hE hE1 hs K
    unfold Rd_readNot_l57
    simp only [nots, List.append_nil] at K
    exact it (nI_le (by omega) (by omega)) (K I f hC hE)
  | succ d ih =>
    intro j E I hj f hC hE hE1 hs K
    unfold Rd_readNot_l57
    refine ie (nI_ge (by omega) (by omega)) (cAdd hC (by omega) (fun I1 f1 hC1 i1 i2 i3 => ?_))
    have eL : (E ++ [((3 : Nat), (0 : Nat))]).length = E.length + 1 := by simp only [List.length_append, List.length_cons, List.length_nil]
    have ea : (E ++ [((3 : Nat), (0 : Nat))]) ++ nots d = E ++ nots (d + 1) := by
      have : ∀ d, [((3 : Nat), (0 : Nat))] ++ nots d = nots (d + 1) := by
        intro d
        induction d with
        | zero => rfl
        | succ d ih => rw [nots, ← List.append_assoc, ih]; rfl
      rw [List.append_assoc, this]
    have := ih (j + 1) (E ++ [(3, 0)]) I1 (by omega) (f.trans f1 (by omega)) (by rw [eL]; exact hC1) (CE.no hE1 (hE.fr f1 (by omega)) i1 i2 i3) (by omega) (by omega) (by rw [ea]; exact K)
    rw [eL, show c + (E.length + 1) - 1 = c + E.length by omega] at this
    rw [nI_1]
    exact this
theorem z_l57 {RO : HI → Int32 → (Int32 → HI → Prop) → Prop} {Q : Int32 → HI → Prop} {I : HI} (h : I 28 8 = 130) (K : ∀ x, Q x I) (N : Nat) (hN : N ≤ 6) : ∀ d j x, j + d = N → Rd_readNot_l57 RO (nI N) Q (d + 1) I x (nI j) := by
  intro d
  induction d with
  | zero => intro j x hj; unfold Rd_readNot_l57; exact it (nI_le (by omega) (by omega)) (K x)
  | succ d ih =>
    intro j x hj
    unfold Rd_readNot_l57
    refine ie (nI_ge (by omega) (by omega)) (zAdd h ?_)
    rw [nI_1]
    exact ih (j + 1) _ (by omega)
theorem nots_s (d : Nat) (E : AC) : (E ++ nots d) ++ [((3 : Nat), (0 : Nat))] = E ++ nots (d + 1) := by rw [List.append_assoc]; rfl
/-- what is read behind j nots -/
def spN (t : Nat → Nat) (m : Nat) (sub : Nat → Rs) (b j s : Nat) : Rs := match spNot t m sub b s with
  | .error e => .error e
  | .ok p => .ok (p.1, p.2 ++ nots j)
theorem spN_s {t : Nat → Nat} {m : Nat} {sub : Nat → Rs} {b j s : Nat} (h : tK t m s = 151) : spN t m sub (b + 1) j s = spN t m sub b (j + 1) (nxt t m s) := by
  unfold spN
  rw [spNot, if_pos h]
  cases spNot t m sub b (nxt t m s) with
  | error e => rfl
  | ok p =>
    simp only
    have : ∀ d, [((3 : Nat), (0 : Nat))] ++ nots d = nots (d + 1) := by
      intro d
      induction d with
      | zero => rfl
      | succ d ih => rw [nots, ← List.append_assoc, ih]; rfl
    rw [List.append_assoc, this]
theorem not_b48 {t : Nat → Nat} {m n : Nat} {RO : HI → Int32 → (Int32 → HI → Prop) → Prop} {x1 : Int32} {sub : Nat → Rs} (hX : CX t m n (fun I Q => Rd_readTest RO I x1 Q) sub) (hS : SP m n sub) {Q : Int32 → HI → Prop} {s c j : Nat} {I I0 : HI} (hj : j ≤ 6) (hC : CS t m n I s c) (hcj : c + j ≤ s) (f : FrK c I0 I) (K : match sub s with
    | .error e => ∀ x I', FrR I0 I' → I' 28 8 = 130 → I' 28 0 = nI e.1 → I' 28 1 = nI e.2 → Q x I'
    | .ok p => ∀ I', FrK c I0 I' → CS t m n I' p.1 (c + (p.2 ++ nots j).length) → CE I' (p.2 ++ nots j) c → Q (nI (c + (p.2 ++ nots j).length - 1)) I') : Rd_readNot_b48 RO I x1 (nI j) Q := by
  unfold Rd_readNot_b48
  refine hX s I c _ hC ?_
  cases hq : sub s with
  | error e =>
    rw [hq] at K
    intro x I' g e8 e0 e1
    exact ⟨j + 1, z_l57 e8 (fun x => K x I' (f.frR g) e8 e0 e1) j hj j 0 x (by omega)⟩
  | ok p =>
    rw [hq] at K
    obtain ⟨a1, a2, a3, a4⟩ := hS _ hC.2.1 p hq
    intro I2 f2 hC2 hE2
    exact ⟨j + 1, not_l57 (I0 := I0) j hj j 0 p.2 I2 (by omega) (f.trans f2 (by omega)) hC2 hE2 a3 (by omega) K⟩
theorem not_l4 {t : Nat → Nat} {m n : Nat} {RO : HI → Int32 → (Int32 → HI → Prop) → Prop} {x1 : Int32} {sub : Nat → Rs} (hX : CX t m n (fun I Q => Rd_readTest RO I x1 Q) sub) (hZ : CZ (fun I Q => Rd_readTest RO I x1 Q)) (hS : SP m n sub) {Q : Int32 → HI → Prop} {c : Nat} {I0 : HI} : ∀ (b j s : Nat) (I : HI), j + b = 6 → CS t m n I s c → c + j ≤ s → FrK c I0 I → CP t m n (spN t m sub b j s) I0 c Q → Rd_readNot_l4 RO x1 Q (b + 1) I (nI j) (nI j) := by
  intro b
  induction b with
  | zero =>
    intro j s I hj hC hcj f K
    have : j = 6 := by omega
    subst this
    unfold Rd_readNot_l4
    refine it (by decide) ?_
    unfold Rd_readNot_b33
    unfold spN at K
    rw [spNot] at K
    have hk := tK_ne t m s
    by_cases h : tK t m s = 151
    · rw [if_pos h] at K
      refine it (hC.2.2.2.2.1.trans (by rw [h]; rfl)) (cStop (f := 2) hC (fun I' g e8 e0 e1 => ?_))
      unfold Rd_readNot_b48
      exact hZ I' _ e8 (fun x => ⟨7, z_l57 e8 (fun x => K x I' (f.frR g) e8 e0 e1) 6 (by omega) 6 0 x (by omega)⟩)
    · rw [if_neg h] at K
      refine ie (fun e => h ((nk hk.2 hC.2.2.2.2.1 (by decide)).mp e)) (not_b48 hX hS (by omega) hC hcj f ?_)
      cases hq : sub s with
      | error e => rw [hq] at K; exact K
      | ok p => rw [hq] at K; exact K
  | succ b ih =>
    intro j s I hj hC hcj f K
    have hk := tK_ne t m s
    unfold Rd_readNot_l4
    refine ie (nI_ge (show j < 6 by omega) (by decide)) ?_
    by_cases h : tK t m s = 151
    · rw [spN_s h] at K
      have hn := nxt_gt t (kd_lt (show tK t m s ≠ 128 by omega))
      refine it (hC.2.2.2.2.1.trans (by rw [h]; rfl)) (cNext hC (fun I1 f1 hC1 => ?_))
      rw [nI_1]
      exact ih (j + 1) _ I1 (by omega) hC1 (by omega) (f.trans f1 (by omega)) K
    · refine ie (fun e => h ((nk hk.2 hC.2.2.2.2.1 (by decide)).mp e)) ?_
      unfold Rd_readNot_b33
      unfold spN at K
      rw [spNot, if_neg h] at K
      refine ie (fun e => h ((nk hk.2 hC.2.2.2.2.1 (by decide)).mp e)) (not_b48 hX hS (by omega) hC hcj f ?_)
      cases hq : sub s with
      | error e => rw [hq] at K; exact K
      | ok p => rw [hq] at K; exact K
theorem cNot {t : Nat → Nat} {m n : Nat} {RO : HI → Int32 → (Int32 → HI → Prop) → Prop} {x1 : Int32} {sub : Nat → Rs} (hX : CX t m n (fun I Q => Rd_readTest RO I x1 Q) sub) (hZ : CZ (fun I Q => Rd_readTest RO I x1 Q)) (hS : SP m n sub) : CX t m n (fun I Q => Rd_readNot RO I x1 Q) (spNot t m sub 6) := by
  intro s I c Q hC K
  refine ⟨7, not_l4 hX hZ hS (I0 := I) 6 0 s I rfl hC hC.2.2.2.2.2.2.2.2.2 FrK.rfl ?_⟩
  unfold spN
  cases hq : spNot t m sub 6 s with
  | error e => rw [hq] at K; exact K
  | ok p =>
    rw [hq] at K
    simp only [nots, List.append_nil]
    exact K
theorem zNot {RO : HI → Int32 → (Int32 → HI → Prop) → Prop} {x1 : Int32} (hX : CZ (fun I Q => Rd_readTest RO I x1 Q)) : CZ (fun I Q => Rd_readNot RO I x1 Q) := by
  intro I Q h K
  refine ⟨1, ?_⟩
  show Rd_readNot_l4 RO x1 Q 1 I 0 0
  unfold Rd_readNot_l4
  refine ie (by decide) (ie (by rw [h]; decide) ?_)
  unfold Rd_readNot_b33
  refine ie (by rw [h]; decide) ?_
  unfold Rd_readNot_b48
  exact hX I _ h (fun x => ⟨1, z_l57 h K 0 (by omega) 0 0 x rfl⟩)
