/-! rules: the class's levels -/
def LoopOK (op : Nat → Nat) (X : HI → (Int32 → HI → Prop) → Prop) (Lp : (Int32 → HI → Prop) → Nat → HI → Int32 → Int32 → Prop) : Prop := ∀ Q : Int32 → HI → Prop, (∀ n I x2 x3 k, k < 256 → I 28 8 = nI k → op k = 0 → Q x2 I → Lp Q (n + 1) I x2 x3) ∧ (∀ n I x2 x3 k, k < 256 → I 28 8 = nI k → op k ≠ 0 → ¬ I 28 4 ≤ x3 → Rd_next I (fun I4 => X I4 (fun a6 I7 => Rd_add I7 (nI k) x2 a6 (fun a9 I10 => Lp Q n I10 a9 (x3 + 1)))) → Lp Q (n + 1) I x2 x3)
def OpOK (op : Nat → Nat) : Prop := ∀ k, op k = 0 ∨ (4 ≤ op k ∧ op k ≤ 11 ∧ k ≠ 128 ∧ k ≠ 130 ∧ ckd (op k) 0 = k)
theorem OpOK.w {op : Nat → Nat} (h : OpOK op) (k : Nat) : op k = 0 ∨ (4 ≤ op k ∧ op k ≤ 11 ∧ k ≠ 128) := (h k).imp id (fun e => ⟨e.1, e.2.1, e.2.2.1⟩)
theorem cLoop {t : Nat → Nat} {m n : Nat} {X : HI → (Int32 → HI → Prop) → Prop} {sub : Nat → Rs} {op : Nat → Nat} {Lp : (Int32 → HI → Prop) → Nat → HI → Int32 → Int32 → Prop} {Q : Int32 → HI → Prop} (hX : CX t m n X sub) (hS : SP m n sub) (ho : OpOK op) (hL : LoopOK op X Lp) {I0 : HI} {c : Nat} : ∀ (d s : Nat) (E : AC) (I : HI) (i : Nat), m ≤ s + d → i ≤ s → FrK c I0 I → CS t m n I s (c + E.length) → CE I E c → 1 ≤ E.length → CP t m n (spLoop t m sub op d s E) I0 c Q → Lp Q (d + 1) I (nI (c + E.length - 1)) (nI i) := by
  intro d
  induction d with
  | zero =>
    intro s E I i hd hi f hC hE hE1 K
    have e1 : tK t m s = 128 := by unfold tK; rw [if_pos (by omega)]
    refine (hL Q).1 0 I _ _ 128 (by decide) ((hC.2.2.2.2.1).trans (by rw [e1])) ?_ (K I f hC hE)
    rcases ho 128 with h | h
    · exact h
    · omega
  | succ d ih =>
    intro s E I i hd hi f hC hE hE1 K
    have hk := tK_ne t m s
    simp only [spLoop] at K
    rcases ho (tK t m s) with h0 | ⟨h1, h2, h3, h4, h5⟩
    · rw [if_pos h0] at K
      exact (hL Q).1 _ I _ _ _ hk.2 hC.2.2.2.2.1 h0 (K I f hC hE)
    · rw [if_neg (by omega)] at K
      have hsm := kd_lt h3
      have hm := hC.1.2.1
      have hn := nxt_gt t hsm
      have hn2 := nxt_le t hC.2.1
      have hcs := hC.2.2.2.2.2.2.2.2.2
      refine (hL Q).2 _ I _ _ _ hk.2 hC.2.2.2.2.1 (by omega) (by rw [hC.1.1]; exact nI_ge (by omega) (by omega)) (cNext hC (fun I1 f1 hC1 => hX _ I1 _ _ hC1 ?_))
      cases hq : sub (nxt t m s) with
      | error e =>
        rw [hq] at K
        intro x I' g e8 e0 e1
        refine zAdd e8 ((hL Q).1 _ I' _ _ 130 (by decide) e8 ?_ (K _ I' ((f.trans f1 (by omega)).frR g) e8 e0 e1))
        rcases ho 130 with h | h
        · exact h
        · omega
      | ok p =>
        rw [hq] at K
        obtain ⟨a1, a2, a3, a4⟩ := hS _ hn2 p hq
        intro I2 f2 hC2 hE2
        refine cAdd hC2 (by omega) (fun I3 f3 hC3 i1 i2 i3 => ?_)
        have f4 : FrK (c + E.length) I I3 := (f1.trans f2 (by omega)).trans f3 (by omega)
        have eL : (E ++ p.2 ++ [(op (tK t m s), 0)]).length = E.length + p.2.length + 1 := by simp only [List.length_append, List.length_cons, List.length_nil]
        have := ih p.1 (E ++ p.2 ++ [(op (tK t m s), 0)]) I3 (i + 1) (by omega) (by omega) (f.trans f4 (by omega)) (by rw [eL, show c + (E.length + p.2.length + 1) = c + E.length + p.2.length + 1 by omega]; exact hC3) (CE.two hE1 (hE.fr f4 (by omega)) (hE2.fr f3 (by omega)) h1 (by rw [i1, h5]) i2 i3) (by rw [eL]; omega) K
        rw [eL, show c + (E.length + p.2.length + 1) - 1 = c + E.length + p.2.length by omega] at this
        rw [nI_1]
        exact this
theorem cBin {t : Nat → Nat} {m n : Nat} {X : HI → (Int32 → HI → Prop) → Prop} {sub : Nat → Rs} {op : Nat → Nat} {Lp : (Int32 → HI → Prop) → Nat → HI → Int32 → Int32 → Prop} (hX : CX t m n X sub) (hS : SP m n sub) (ho : OpOK op) (hL : LoopOK op X Lp) : CX t m n (fun I Q => X I (fun a I2 => ∃ nn, Lp Q nn I2 a 0)) (spBin t m sub op) := by
  intro s I c Q hC K
  refine hX s I c _ hC ?_
  unfold spBin at K
  cases hq : sub s with
  | error e =>
    rw [hq] at K
    intro x I' g e8 e0 e1
    refine ⟨1, (hL Q).1 0 I' _ _ 130 (by decide) e8 ?_ (K _ I' g e8 e0 e1)⟩
    rcases ho 130 with h | h
    · exact h
    · omega
  | ok p =>
    rw [hq] at K
    obtain ⟨a1, a2, a3, a4⟩ := hS _ hC.2.1 p hq
    intro I2 f2 hC2 hE2
    exact ⟨_, cLoop hX hS ho hL (m - p.1) p.1 p.2 I2 0 (by omega) (by omega) f2 hC2 hE2 a3 K⟩
theorem zBin {X : HI → (Int32 → HI → Prop) → Prop} {op : Nat → Nat} {Lp : (Int32 → HI → Prop) → Nat → HI → Int32 → Int32 → Prop} (hX : CZ X) (ho : OpOK op) (hL : LoopOK op X Lp) : CZ (fun I Q => X I (fun a I2 => ∃ nn, Lp Q nn I2 a 0)) := by
  intro I Q h K
  refine hX I _ h (fun x => ⟨1, (hL Q).1 0 I _ _ 130 (by decide) h ?_ (K x)⟩)
  rcases ho 130 with h | h
  · exact h
  · omega
theorem oP : OpOK opP := fun k => by
  by_cases h : k = 42
  · subst h; decide
  · by_cases h2 : k = 47
    · subst h2; decide
    · left; unfold opP; rw [if_neg h, if_neg h2]
theorem oS : OpOK opS := fun k => by
  by_cases h : k = 43
  · subst h; decide
  · by_cases h2 : k = 45
    · subst h2; decide
    · left; unfold opS; rw [if_neg h, if_neg h2]
theorem oT : OpOK opT := fun k => by
  by_cases h : k = 60
  · subst h; decide
  · by_cases h2 : k = 61
    · subst h2; decide
    · left; unfold opT; rw [if_neg h, if_neg h2]
theorem oA : OpOK opA := fun k => by
  by_cases h : k = 152
  · subst h; decide
  · left; unfold opA; rw [if_neg h]
theorem oO : OpOK opO := fun k => by
  by_cases h : k = 153
  · subst h; decide
  · left; unfold opO; rw [if_neg h]
theorem nk {k c : Nat} {x : Int32} (hk : k < 256) (h : x = nI k) (hc : c < 2 ^ 31) : x = nI c ↔ k = c := by rw [h]; exact nI_eq (by omega) hc
theorem lP (RO : HI → Int32 → (Int32 → HI → Prop) → Prop) (x1 : Int32) : LoopOK opP (fun I Q => Rd_readPart RO I x1 Q) (fun Q => Rd_readProduct_l8 RO x1 Q) := by
  intro Q
  refine ⟨fun n I x2 x3 k hk e h0 hQ => ?_, fun n I x2 x3 k hk e h0 hl hQ => ?_⟩
  · show Rd_readProduct_l8 RO x1 Q (n + 1) I x2 x3
    unfold Rd_readProduct_l8
    have n1 : k ≠ 42 := fun h => by subst h; exact absurd h0 (by decide)
    have n2 : k ≠ 47 := fun h => by subst h; exact absurd h0 (by decide)
    exact ic (fun _ => hQ) (fun _ => ie (fun h => n1 ((nk hk e (by decide)).mp h)) (ie (fun h => n2 ((nk hk e (by decide)).mp h)) hQ))
  · show Rd_readProduct_l8 RO x1 Q (n + 1) I x2 x3
    unfold Rd_readProduct_l8
    have hb : Rd_readProduct_b34 RO I x1 x2 x3 (fun I' x2' x3' => Rd_readProduct_l8 RO x1 Q n I' x2' x3') Q := by
      unfold Rd_readProduct_b34
      rw [e]
      exact hQ
    refine ie hl (ic (fun _ => hb) (fun h1 => ic (fun _ => hb) (fun h2 => absurd ?_ h0)))
    unfold opP
    rw [if_neg (fun h => h1 ((nk hk e (by decide)).mpr h)), if_neg (fun h => h2 ((nk hk e (by decide)).mpr h))]
theorem lS (RO : HI → Int32 → (Int32 → HI → Prop) → Prop) (x1 : Int32) : LoopOK opS (fun I Q => Rd_readProduct RO I x1 Q) (fun Q => Rd_readSum_l8 RO x1 Q) := by
  intro Q
  refine ⟨fun n I x2 x3 k hk e h0 hQ => ?_, fun n I x2 x3 k hk e h0 hl hQ => ?_⟩
  · show Rd_readSum_l8 RO x1 Q (n + 1) I x2 x3
    unfold Rd_readSum_l8
    have n1 : k ≠ 43 := fun h => by subst h; exact absurd h0 (by decide)
    have n2 : k ≠ 45 := fun h => by subst h; exact absurd h0 (by decide)
    exact ic (fun _ => hQ) (fun _ => ie (fun h => n1 ((nk hk e (by decide)).mp h)) (ie (fun h => n2 ((nk hk e (by decide)).mp h)) hQ))
  · show Rd_readSum_l8 RO x1 Q (n + 1) I x2 x3
    unfold Rd_readSum_l8
    have hb : Rd_readSum_b34 RO I x1 x2 x3 (fun I' x2' x3' => Rd_readSum_l8 RO x1 Q n I' x2' x3') Q := by
      unfold Rd_readSum_b34
      rw [e]
      exact hQ
    refine ie hl (ic (fun _ => hb) (fun h1 => ic (fun _ => hb) (fun h2 => absurd ?_ h0)))
    unfold opS
    rw [if_neg (fun h => h1 ((nk hk e (by decide)).mpr h)), if_neg (fun h => h2 ((nk hk e (by decide)).mpr h))]
theorem lA (RO : HI → Int32 → (Int32 → HI → Prop) → Prop) (x1 : Int32) : LoopOK opA (fun I Q => Rd_readNot RO I x1 Q) (fun Q => Rd_readAnd_l8 RO x1 Q) := by
  intro Q
  refine ⟨fun n I x2 x3 k hk e h0 hQ => ?_, fun n I x2 x3 k hk e h0 hl hQ => ?_⟩
  · show Rd_readAnd_l8 RO x1 Q (n + 1) I x2 x3
    unfold Rd_readAnd_l8
    have n1 : k ≠ 152 := fun h => by subst h; exact absurd h0 (by decide)
    exact ic (fun _ => hQ) (fun _ => ie (fun h => n1 ((nk hk e (by decide)).mp h)) hQ)
  · show Rd_readAnd_l8 RO x1 Q (n + 1) I x2 x3
    unfold Rd_readAnd_l8
    have hk2 : k = 152 := by
      by_cases h : k = 152
      · exact h
      · exact absurd (by unfold opA; rw [if_neg h]) h0
    subst hk2
    exact ie hl (it e hQ)
theorem lO (RO : HI → Int32 → (Int32 → HI → Prop) → Prop) (x1 : Int32) : LoopOK opO (fun I Q => Rd_readAnd RO I x1 Q) (fun Q => Rd_readOr_l43 RO x1 Q) := by
  intro Q
  refine ⟨fun n I x2 x3 k hk e h0 hQ => ?_, fun n I x2 x3 k hk e h0 hl hQ => ?_⟩
  · show Rd_readOr_l43 RO x1 Q (n + 1) I x2 x3
    unfold Rd_readOr_l43
    have n1 : k ≠ 153 := fun h => by subst h; exact absurd h0 (by decide)
    exact ic (fun _ => hQ) (fun _ => ie (fun h => n1 ((nk hk e (by decide)).mp h)) hQ)
  · show Rd_readOr_l43 RO x1 Q (n + 1) I x2 x3
    unfold Rd_readOr_l43
    have hk2 : k = 153 := by
      by_cases h : k = 153
      · exact h
      · exact absurd (by unfold opO; rw [if_neg h]) h0
    subst hk2
    exact ie hl (it e hQ)
